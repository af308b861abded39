/-! THE CLASS: a blank row, a draft that is kept; the table of types -/
section CBl
variable {o b : Nat} {K : Nat → Option (Nat × Nat)} {I J : Nat → Nat → Int32} {P : Nat → Nat → Option Nat} {N : Nat} {T : List TyD} {n g : Nat} {R : Nat → Option RowD} {F : List FuD} {Q : List (Int32 × Int32)} {U : List UnD} {k a : Nat} {d : RowD}
theorem ause_0 {β : Type} {x : Option (β × cS × Nat × Nat)} : ause 0 0 x = x := by
  cases x with
  | none => rfl
  | some y => obtain ⟨u, z, p, q⟩ := y; show some (u, z, 0 + p, 0 + q) = _; rw [Nat.zero_add, Nat.zero_add]
theorem e_init {a N : Nat} (h : K a = some (2, 0)) (hN : a ≠ N) : fX2_init a (K, I, P, N) = some ((), ((fun q => if q = N then some (8, 180) else K q), (fun q => if q = N then fun _ => 0 else I q), cuR (fun q => if q = N then fun _ => none else P q) a 0 (some N), N + 1), 1, 180) := by
  unfold fX2_init
  have h1 : cna (K, I, P, N) 8 180 = some (cnw (K, I, P, N) 8 180) := if_neg (by decide)
  rw [h1, Option.bind_some]
  have h2 : cpR (cnw (K, I, P, N) 8 180) a 2 0 (some N) = some ((fun q => if q = N then some (8, 180) else K q), (fun q => if q = N then fun _ => 0 else I q), cuR (fun q => if q = N then fun _ => none else P q) a 0 (some N), N + 1) := e_pR (n := 0) (by show (if a = N then _ else K a) = _; rw [if_neg hN, h])
  show ause 1 180 (Option.bind (cpR (cnw (K, I, P, N) 8 180) a 2 0 (some N)) _) = _
  rw [h2]
  rfl
theorem blank_no {s arr cap cnt rb : Nat} (h : Shf b K I P s arr cap cnt rb) {x : Int32} (hx : x < nI cnt ∨ x < 0 ∨ ¬ x < nI cap) : fX3_blank s x (K, I, P, N) = some (none, (K, I, P, N), 0, 0) := by
  obtain ⟨h1, h2, h3, h4, h5, h6, -⟩ := h
  unfold fX3_blank
  rw [e_gI h1, Option.bind_some, h4]
  by_cases c1 : x < nI cnt
  · rw [if_pos c1]; rfl
  · rw [if_neg c1]
    by_cases c2 : x < 0
    · rw [if_pos c2]; rfl
    · rw [if_neg c2, e_gR h1, Option.bind_some, h2, Option.bind_some, e_len h3, Option.bind_some]
      rcases hx with hx | hx | hx
      · exact absurd hx c1
      · exact absurd hx c2
      · rw [if_neg hx]; rfl
set_option maxHeartbeats 1000000 in
theorem blank_ok (h : CR o b K I P N T n g R F Q U) {s arr cap cnt rb : Nat} (hs : Shf b K I P s arr cap cnt rb) (harr : arr = b + 4 ∨ arr = b + 6) (hk : cnt ≤ k) (hc : k < cap) : ∃ a K2 I2 P2 N2 ka kb, fX3_blank s (nI k) (K, I, P, N) = some (some a, (K2, I2, P2, N2), ka, kb) ∧ ka ≤ 2 ∧ kb ≤ 184 ∧ ptr b P2 (rb + k) = some a ∧ CR o b K2 I2 P2 N2 T n g (aup R (rb + k) (some ([], 0, 0))) F Q U ∧ (∀ j c, ptr b P j = some c → ptr b P2 j = some c) := by
  obtain ⟨h1, h2, h3, h4, h5, h6, h7, h8, h9⟩ := hs
  have hlt : ∀ q x, K q = some x → q < N := fun q x hx => h.fr q (by rw [hx]; exact fun e => by cases e)
  have start : ∀ rest, fX3_blank s (nI k) (K, I, P, N) = rest ↔ (if P arr k = none then ause 1 4 ((fun z34 : cS => abind (fX2_init N z34) fun v38 z38 => (fun v41 : Option Nat => Option.bind (cgR z38 s 3 0) fun x43 => Option.bind x43 fun q48 => Option.bind (cstR z38 q48 12 (nI k) v41) fun z48 => fX3_blank_b49 s v41 z48) ((some N))) (cnw (K, I, P, N) 2 0)) else fX3_blank_b49 s (P arr k) (K, I, P, N)) = rest := by
    intro rest
    unfold fX3_blank
    rw [e_gI h1, Option.bind_some, h4, if_neg (nI_nlt hk (by omega)), if_neg (nI_pos (by omega)), e_gR h1, Option.bind_some, h2, Option.bind_some, e_len h3, Option.bind_some, if_pos (nI_lt hc (by omega)), Option.bind_some, Option.bind_some, e_ldR h3 hc (by omega), Option.bind_some]
  cases hx : P arr k with
  | some a =>
    have hp : ptr b P (rb + k) = some a := by rw [h8 k hc, hx]
    have hok := h.rowOK (by omega) hp
    refine ⟨a, K, _, P, N, 0, 0, (start _).mpr ?_, by omega, by omega, hp, h.upRow (by omega) hp clear_o clear_is, fun j c hj => hj⟩
    rw [hx, if_neg (fun e => by cases e)]
    unfold fX3_blank_b49
    rw [e_rc hok.1, Option.bind_some, clear_r hok, Option.bind_some]
  | none =>
    have hsN := hlt _ _ h1
    have haN := hlt _ _ h3
    have hpn : ptr b P (rb + k) = none := by rw [h8 k hc, hx]
    have e1 : cnw (K, I, P, N) 2 0 = ((fun q => if q = N then some (2, 0) else K q), (fun q => if q = N then fun _ => 0 else I q), (fun q => if q = N then fun _ => none else P q), N + 1) := rfl
    have e2 := e_init (K := fun q => if q = N then some (2, 0) else K q) (I := fun q => if q = N then fun _ => 0 else I q) (P := fun q => if q = N then fun _ => none else P q) (a := N) (N := N + 1) (if_pos rfl) (by omega)
    generalize hK2 : (fun q => if q = N + 1 then some (8, 180) else (fun q => if q = N then some (2, 0) else K q) q) = K2 at e2
    generalize hI2 : (fun q => if q = N + 1 then fun _ => 0 else (fun q => if q = N then fun _ => (0 : Int32) else I q) q) = I2 at e2
    generalize hP1 : cuR (fun q => if q = N + 1 then fun _ => none else (fun q => if q = N then fun _ => (none : Option Nat) else P q) q) N 0 (some (N + 1)) = P1 at e2
    have kO : ∀ q, q < N → K2 q = K q := fun q hq => by rw [← hK2]; show (if q = N + 1 then _ else if q = N then _ else K q) = _; rw [if_neg (by omega), if_neg (by omega)]
    have k0 : K2 N = some (2, 0) := by rw [← hK2]; show (if N = N + 1 then _ else if N = N then _ else K N) = _; rw [if_neg (by omega), if_pos rfl]
    have k1 : K2 (N + 1) = some (8, 180) := by rw [← hK2]; show (if N + 1 = N + 1 then _ else _) = _; rw [if_pos rfl]
    have k2 : ∀ q, N + 2 ≤ q → K2 q = none := fun q hq => by
      rw [← hK2]; show (if q = N + 1 then _ else if q = N then _ else K q) = _; rw [if_neg (by omega), if_neg (by omega)]
      exact Classical.byContradiction (fun h9 => by have := h.fr q h9; omega)
    have iO : ∀ q, q < N → I2 q = I q := fun q hq => by rw [← hI2]; show (if q = N + 1 then _ else if q = N then _ else I q) = _; rw [if_neg (by omega), if_neg (by omega)]
    have pO : ∀ q, q < N → P1 q = P q := fun q hq => by rw [← hP1, cuR_q (by omega)]; show (if q = N + 1 then _ else if q = N then _ else P q) = _; rw [if_neg (by omega), if_neg (by omega)]
    have p0 : P1 N 0 = some (N + 1) := by rw [← hP1, cuR_s]
    have s1 : K2 s = some (3, 0) := by rw [kO s hsN, h1]
    have s2 : P1 s 0 = some arr := by rw [pO s hsN, h2]
    have s3 : K2 arr = some (12, cap) := by rw [kO arr haN, h3]
    have hA : CR o b K2 I2 (cuR P1 arr k (some N)) (N + 2) T n g R F Q U := by
      obtain ⟨⟨t1, t2, t3, t4, t5, t6, t7, t8, t9, t10, t11⟩, -⟩ := h.sf
      refine h.alloc (k := rb + k) h3 (by omega) kO k0 k1 k2 iO (fun q hq hqa => by rw [cuR_q hqa, pO q hq]) (by rw [cuR_q (by omega), p0]) (h9 _ k (some N) hc (fun q hq => ?_)) hpn
      have hqN : q < N := by rcases hq with rfl | rfl | rfl | rfl | rfl; exact hlt _ _ t6; exact hlt _ _ t8; exact hlt _ _ t9; exact hlt _ _ t10; exact hlt _ _ t11
      by_cases hqa : q = arr
      · subst hqa
        unfold cuR
        rw [if_pos rfl, if_pos rfl, pO q hqN]
      · rw [cuR_q hqa, cuR_q hqa, pO q hqN]
    have hpt : ∀ j, ptr b (cuR P1 arr k (some N)) j = if j = rb + k then some N else ptr b P j := by
      obtain ⟨⟨t1, t2, t3, t4, t5, t6, t7, t8, t9, t10, t11⟩, -⟩ := h.sf
      refine h9 _ k (some N) hc (fun q hq => ?_)
      have hqN : q < N := by rcases hq with rfl | rfl | rfl | rfl | rfl; exact hlt _ _ t6; exact hlt _ _ t8; exact hlt _ _ t9; exact hlt _ _ t10; exact hlt _ _ t11
      by_cases hqa : q = arr
      · subst hqa
        unfold cuR
        rw [if_pos rfl, if_pos rfl, pO q hqN]
      · rw [cuR_q hqa, cuR_q hqa, pO q hqN]
    have hp : ptr b (cuR P1 arr k (some N)) (rb + k) = some N := by rw [hpt, if_pos rfl]
    have hok := hA.rowOK (by omega) hp
    refine ⟨N, K2, _, cuR P1 arr k (some N), N + 2, 2, 184, (start _).mpr ?_, by omega, by omega, hp, hA.upRow (by omega) hp clear_o clear_is, fun j c hj => by rw [hpt, if_neg (fun e => by rw [e, hpn] at hj; cases hj)]; exact hj⟩
    rw [hx, if_pos rfl, e1]
    show ause 1 4 (abind (fX2_init N _) _) = _
    rw [e2]
    show ause 1 4 (ause 1 180 (Option.bind (cgR (K2, I2, P1, N + 1 + 1) s 3 0) _)) = _
    rw [e_gR s1, Option.bind_some, s2, Option.bind_some, e_stR (w := N) (m := 0) s3 k0 hc (by omega), Option.bind_some]
    unfold fX3_blank_b49
    rw [e_rc k0, Option.bind_some, clear_r hok, Option.bind_some]
    rfl
/-- a draft becomes a row of the shelf -/
theorem keep_no {s arr cap cnt rb : Nat} (hs : Shf b K I P s arr cap cnt rb) (hf : cnt = cap) {x : Option Nat} : fX3_keep s x (K, I, P, N) = some (-1, (K, I, P, N), 0, 0) := by
  have h0 := hs
  obtain ⟨h1, h2, h3, h4, h5, h6, h7, h8, h9⟩ := hs
  unfold fX3_keep
  rw [e_gI h1, Option.bind_some, e_rc h1, Option.bind_some, h4, blank_no h0 (Or.inr (Or.inr (by rw [hf]; exact nI_nlt (Nat.le_refl _) (by omega))))]
  rfl
set_option maxHeartbeats 1000000 in
theorem keep_S (h : CR o b K I P N T n g R F Q U) {dr c w p : Nat} {L : List En} (hc : n < 30) (hd : R dr = some (L, w, p)) (hp : ptr b P dr = some c) (hdr : 0 + 30 ≤ dr) : ∃ K2 I2 P2 N2 ka kb, fX3_keep (b + 3) (some c) (K, I, P, N) = some (nI n, (K2, I2, P2, N2), ka, kb) ∧ ka ≤ 2 ∧ kb ≤ 184 ∧ CR o b K2 I2 P2 N2 T (n + 1) g (aup (aup R (0 + n) (some (L, w, p))) dr (some ([], 0, 0))) F Q U := by
  have hs := h.shS
  obtain ⟨a, K2, I2, P2, N2, ka, kb, e1, e2, e3, e4, e5, e6⟩ := blank_ok h hs (by omega) (Nat.le_refl n) hc
  have hdk := (h.rw dr _ hd).1
  have hne : dr ≠ 0 + n := by omega
  obtain ⟨c2, g1, g2, g3, g4⟩ := e5.row (k := dr) (d := (L, w, p)) (by rw [aup_n hne]; exact hd)
  have hcc : c2 = c := by rw [e6 _ _ hp] at g2; cases g2; rfl
  subst hcc
  have hok := e5.rowOK (by omega) e4
  have hac : a ≠ c2 := fun e => hne (e5.sd.2.1 _ _ c2 g2 (by rw [← e]; exact e4))
  obtain ⟨a2, -, q1, -, q2⟩ := e5.row (k := 0 + n) (d := ([], 0, 0)) aup_s
  have haa : a2 = a := by rw [e4] at q1; cases q1; rfl
  subst haa
  have h30 := g4.1.2.1
  obtain ⟨J, j1, j2, j3, j4, j5⟩ := addAll_r (N := N2) hok g3 hac g4.1 q2.1 (by simp; exact h30)
  rw [List.nil_append] at j2
  have hJ : RowIs J a2 (L, w, p) := ⟨j2, by rw [j4, q2.2.1, g4.2.1, nI_add, Nat.zero_add], by rw [j5, q2.2.2, g4.2.2, nI_add, Nat.zero_add]⟩
  have hC1 := e5.upRow (by omega) e4 j3 hJ
  have hC2 := hC1.upRow hdk g2 clear_o clear_is
  rw [aup_aup] at hC2
  have hC3 := hC2.upN (n2 := n + 1) (by omega)
  have hcn := hC2.shS
  refine ⟨K2, _, P2, N2, ka, kb, ?_, e2, e3, hC3⟩
  have h0 := hs.1
  unfold fX3_keep
  rw [e_gI h0, Option.bind_some, e_rc h0, Option.bind_some, hs.2.2.2.1, e1]
  show ause ka kb (if some a2 = none then _ else _) = _
  rw [if_neg (fun e => by cases e), e_rc hok.1, Option.bind_some, j1, Option.bind_some, e_rc g3.1, Option.bind_some, clear_r g3, Option.bind_some, e_gI hcn.1, Option.bind_some, hcn.2.2.2.1, nI_1, e_pI hcn.1, Option.bind_some, e_gI hcn.1, Option.bind_some, cup_s, nI_pred]
  rfl
set_option maxHeartbeats 1000000 in
theorem keep_G (h : CR o b K I P N T n g R F Q U) {dr c w p : Nat} {L : List En} (hc : g < 20) (hd : R dr = some (L, w, p)) (hp : ptr b P dr = some c) (hdr : 200 + 20 ≤ dr) : ∃ K2 I2 P2 N2 ka kb, fX3_keep (b + 5) (some c) (K, I, P, N) = some (nI g, (K2, I2, P2, N2), ka, kb) ∧ ka ≤ 2 ∧ kb ≤ 184 ∧ CR o b K2 I2 P2 N2 T n (g + 1) (aup (aup R (200 + g) (some (L, w, p))) dr (some ([], 0, 0))) F Q U := by
  have hs := h.shG
  obtain ⟨a, K2, I2, P2, N2, ka, kb, e1, e2, e3, e4, e5, e6⟩ := blank_ok h hs (by omega) (Nat.le_refl g) hc
  have hdk := (h.rw dr _ hd).1
  have hne : dr ≠ 200 + g := by omega
  obtain ⟨c2, g1, g2, g3, g4⟩ := e5.row (k := dr) (d := (L, w, p)) (by rw [aup_n hne]; exact hd)
  have hcc : c2 = c := by rw [e6 _ _ hp] at g2; cases g2; rfl
  subst hcc
  have hok := e5.rowOK (by omega) e4
  have hac : a ≠ c2 := fun e => hne (e5.sd.2.1 _ _ c2 g2 (by rw [← e]; exact e4))
  obtain ⟨a2, -, q1, -, q2⟩ := e5.row (k := 200 + g) (d := ([], 0, 0)) aup_s
  have haa : a2 = a := by rw [e4] at q1; cases q1; rfl
  subst haa
  have h30 := g4.1.2.1
  obtain ⟨J, j1, j2, j3, j4, j5⟩ := addAll_r (N := N2) hok g3 hac g4.1 q2.1 (by simp; exact h30)
  rw [List.nil_append] at j2
  have hJ : RowIs J a2 (L, w, p) := ⟨j2, by rw [j4, q2.2.1, g4.2.1, nI_add, Nat.zero_add], by rw [j5, q2.2.2, g4.2.2, nI_add, Nat.zero_add]⟩
  have hC1 := e5.upRow (by omega) e4 j3 hJ
  have hC2 := hC1.upRow hdk g2 clear_o clear_is
  rw [aup_aup] at hC2
  have hC3 := hC2.upG (g2 := g + 1) (by omega)
  have hcn := hC2.shG
  refine ⟨K2, _, P2, N2, ka, kb, ?_, e2, e3, hC3⟩
  have h0 := hs.1
  unfold fX3_keep
  rw [e_gI h0, Option.bind_some, e_rc h0, Option.bind_some, hs.2.2.2.1, e1]
  show ause ka kb (if some a2 = none then _ else _) = _
  rw [if_neg (fun e => by cases e), e_rc hok.1, Option.bind_some, j1, Option.bind_some, e_rc g3.1, Option.bind_some, clear_r g3, Option.bind_some, e_gI hcn.1, Option.bind_some, hcn.2.2.2.1, nI_1, e_pI hcn.1, Option.bind_some, e_gI hcn.1, Option.bind_some, cup_s, nI_pred]
  rfl
/-! the table of types -/
def fArr (T : List TyD) (x y : Int32) : Option Nat := T.findIdx? (fun e => decide (e = some (x, y)))
theorem CR.K0 (h : CR o b K I P N T n g R F Q U) : K b = some (4, 0) := h.sf.1.2.1
theorem CR.Ko (h : CR o b K I P N T n g R F Q U) : K o = some (6, 0) := h.sf.1.1
theorem has_t (h : CR o b K I P N T n g R F Q U) {t : Nat} (ht : t < T.length) : fX4_has b (nI t) (K, I, P, N) = some (1, K, I, P, N) := by
  have h2 := h.ty.2.1
  unfold fX4_has
  rw [if_neg (nI_pos (by omega)), e_gI h.K0, Option.bind_some, h.ty.1, if_neg (nI_ge ht (by omega))]
  exact cbo_1
theorem has_f (h : CR o b K I P N T n g R F Q U) {x : Int32} (hx : x < 0 ∨ nI T.length ≤ x) : fX4_has b x (K, I, P, N) = some (0, K, I, P, N) := by
  unfold fX4_has
  by_cases h0 : x < 0
  · rw [if_pos h0]; exact cbo_0
  · rw [if_neg h0, e_gI h.K0, Option.bind_some, h.ty.1, if_pos (hx.resolve_left h0)]
    exact cbo_0
theorem fromOf_t (h : CR o b K I P N T n g R F Q U) {t : Nat} {x : TyD} (ht : T[t]? = some x) : fX4_fromOf b (nI t) (K, I, P, N) = some (tdF x, K, I, P, N) := by
  have hl := (List.getElem?_eq_some_iff.mp ht).1
  have h2 := h.ty.2.1
  obtain ⟨⟨s1, s2, s3, s4, -⟩, t1, t2, t3, t4, t5, t6, t7, t8, t9, t10, t11, -⟩ := h.sf
  unfold fX4_fromOf
  rw [e_rc h.K0, Option.bind_some, has_t h hl, Option.bind_some, if_neg (show ¬ (1 : Int32) = 0 by decide), e_gR h.K0, Option.bind_some, t10, e_read s3 (by omega) (by omega), Option.bind_some, (h.ty.2.2 t x ht).1]
  rfl
theorem toOf_t (h : CR o b K I P N T n g R F Q U) {t : Nat} {x : TyD} (ht : T[t]? = some x) : fX4_toOf b (nI t) (K, I, P, N) = some (tdT x, K, I, P, N) := by
  have hl := (List.getElem?_eq_some_iff.mp ht).1
  have h2 := h.ty.2.1
  obtain ⟨⟨s1, s2, s3, s4, -⟩, t1, t2, t3, t4, t5, t6, t7, t8, t9, t10, t11, -⟩ := h.sf
  unfold fX4_toOf
  rw [e_rc h.K0, Option.bind_some, has_t h hl, Option.bind_some, if_neg (show ¬ (1 : Int32) = 0 by decide), e_gR h.K0, Option.bind_some, t11, e_read s4 (by omega) (by omega), Option.bind_some, (h.ty.2.2 t x ht).2]
  rfl
theorem fromOf_f (h : CR o b K I P N T n g R F Q U) {x : Int32} (hx : x < 0 ∨ nI T.length ≤ x) : fX4_fromOf b x (K, I, P, N) = some (-1, K, I, P, N) := by
  unfold fX4_fromOf
  rw [e_rc h.K0, Option.bind_some, has_f h hx, Option.bind_some, if_pos rfl]
  rfl
theorem toOf_f (h : CR o b K I P N T n g R F Q U) {x : Int32} (hx : x < 0 ∨ nI T.length ≤ x) : fX4_toOf b x (K, I, P, N) = some (-1, K, I, P, N) := by
  unfold fX4_toOf
  rw [e_rc h.K0, Option.bind_some, has_f h hx, Option.bind_some, if_pos rfl]
  rfl
/-- what an int is as a type -/
def tyd (T : List TyD) (x : Int32) : TyD := if x < 0 ∨ nI T.length ≤ x then none else (T[x.toNatClampNeg]?).join
theorem tyd_t {t : Nat} {x : TyD} (h31 : T.length < 2 ^ 31) (ht : T[t]? = some x) : tyd T (nI t) = x := by
  have hl := (List.getElem?_eq_some_iff.mp ht).1
  unfold tyd
  rw [if_neg (fun hh => hh.elim (nI_pos (by omega)) (nI_ge hl h31)), nI_clamp (by omega), ht]
  rfl
theorem tyd_f {x : Int32} (hx : x < 0 ∨ nI T.length ≤ x) : tyd T x = none := if_pos hx
theorem fromOf_a (h : CR o b K I P N T n g R F Q U) (x : Int32) : fX4_fromOf b x (K, I, P, N) = some (tdF (tyd T x), K, I, P, N) := by
  have h2 := h.ty.2.1
  rcases pk_ix x (n := T.length) (by omega) with h0 | h0 | ⟨j, hj, rfl⟩
  · rw [tyd_f (Or.inl h0)]; exact fromOf_f h (Or.inl h0)
  · rw [tyd_f (Or.inr h0)]; exact fromOf_f h (Or.inr h0)
  · have := List.getElem?_eq_getElem hj
    rw [tyd_t (by omega) this]; exact fromOf_t h this
theorem toOf_a (h : CR o b K I P N T n g R F Q U) (x : Int32) : fX4_toOf b x (K, I, P, N) = some (tdT (tyd T x), K, I, P, N) := by
  have h2 := h.ty.2.1
  rcases pk_ix x (n := T.length) (by omega) with h0 | h0 | ⟨j, hj, rfl⟩
  · rw [tyd_f (Or.inl h0)]; exact toOf_f h (Or.inl h0)
  · rw [tyd_f (Or.inr h0)]; exact toOf_f h (Or.inr h0)
  · have := List.getElem?_eq_getElem hj
    rw [tyd_t (by omega) this]; exact toOf_t h this
/-- arrows go from types to types -/
def TyW (T : List TyD) : Prop := 2 ≤ T.length ∧ T[0]? = some none ∧ T[1]? = some none ∧ (∀ (t : Nat) (x y : Int32), T[t]? = some (some (x, y)) → ∃ i j, i < T.length ∧ j < T.length ∧ x = nI i ∧ y = nI j) ∧ ∀ (s t : Nat) (x : Int32 × Int32), T[s]? = some (some x) → T[t]? = some (some x) → s = t
theorem TyW.nm1 (h : TyW T) (h31 : T.length < 2 ^ 31) {t : Nat} {x y : Int32} (ht : T[t]? = some (some (x, y))) : x ≠ -1 ∧ y ≠ -1 := by
  obtain ⟨i, j, h1, h2, rfl, rfl⟩ := h.2.2.2.1 t x y ht
  exact ⟨nI_nm1 (by omega), nI_nm1 (by omega)⟩
theorem isArrow_a (h : CR o b K I P N T n g R F Q U) (hw : TyW T) (x : Int32) : fX4_isArrow b x (K, I, P, N) = some (if tyd T x = none then 0 else 1, K, I, P, N) := by
  have h2 := h.ty.2.1
  obtain ⟨⟨s1, s2, s3, s4, -⟩, t1, t2, t3, t4, t5, t6, t7, t8, t9, t10, t11, -⟩ := h.sf
  have out : ∀ y : Int32, (y < 0 ∨ nI T.length ≤ y) → fX4_isArrow b y (K, I, P, N) = some (if tyd T y = none then 0 else 1, K, I, P, N) := by
    intro y hy
    unfold fX4_isArrow
    rw [tyd_f hy, if_pos (rfl : (none : TyD) = none), e_rc h.K0, Option.bind_some, has_f h hy, Option.bind_some, if_pos (show (0 : Int32) = 0 from rfl)]
    exact cbo_0
  rcases pk_ix x (n := T.length) (by omega) with h0 | h0 | ⟨j, hj, rfl⟩
  · exact out x (Or.inl h0)
  · exact out x (Or.inr h0)
  · obtain ⟨y, hy⟩ : ∃ y, T[j]? = some y := ⟨_, List.getElem?_eq_getElem hj⟩
    unfold fX4_isArrow
    rw [tyd_t (by omega) hy, e_rc h.K0, Option.bind_some, has_t h hj, Option.bind_some, if_neg (show ¬ (1 : Int32) = 0 by decide), e_gR h.K0, Option.bind_some, t10, e_read s3 (by omega) (by omega), Option.bind_some, (h.ty.2.2 j y hy).1]
    cases y with
    | none => show (if (-1 : Int32) = -1 then _ else _) = _; rw [if_pos rfl, if_pos rfl]; exact cbo_0
    | some y =>
      have : y.1 ≠ -1 := (hw.nm1 (x := y.1) (y := y.2) (by omega) hy).1
      show (if y.1 = -1 then _ else _) = _
      rw [if_neg this, if_neg (fun e => by cases e)]
      exact cbo_1
theorem append_ok (h : CR o b K I P N T n g R F Q U) (hl : T.length < 200) (x : TyD) : ∃ J, fX4_append b (tdF x) (tdT x) (K, I, P, N) = some (nI T.length, K, J, P, N) ∧ CR o b K J P N (T ++ [x]) n g R F Q U := by
  obtain ⟨⟨s1, s2, s3, s4, -⟩, t1, t2, t3, t4, t5, t6, t7, t8, t9, t10, t11, -⟩ := h.sf
  refine ⟨cup (cup (cup I (b + 1) T.length (tdF x)) (b + 2) T.length (tdT x)) b 2 (nI (T.length + 1)), ?_, h.upTy (fun q h1 h2 h3 => by rw [cup_q h1, cup_q h3, cup_q h2]) ⟨by rw [cup_s, List.length_append]; rfl, by rw [List.length_append]; exact hl, fun t y hy => ?_⟩⟩
  · unfold fX4_append
    rw [e_gI s2, Option.bind_some, h.ty.1, show (200 : Int32) = nI 200 from rfl, if_pos (nI_lt hl (by omega)), e_gR s2, Option.bind_some, t10, Option.bind_some, e_write s3 (by omega) (by omega), Option.bind_some, e_gR s2, Option.bind_some, t11, e_gI s2, Option.bind_some, cup_q (by omega), h.ty.1, e_write s4 (by omega) (by omega), Option.bind_some, e_gI s2, Option.bind_some, cup_q (by omega), cup_q (by omega), h.ty.1, nI_1, e_pI s2, Option.bind_some, e_gI s2, Option.bind_some, cup_s, nI_pred]
  · rw [cup_q (show b + 1 ≠ b by omega), cup_q (show b + 2 ≠ b by omega), cup_q (show b + 1 ≠ b + 2 by omega)]
    by_cases ht : t < T.length
    · rw [List.getElem?_append_left ht] at hy
      rw [cup_j (show t ≠ T.length by omega), cup_j (show t ≠ T.length by omega), cup_q (show b + 2 ≠ b + 1 by omega)]
      exact h.ty.2.2 t y hy
    · have hl2 := (List.getElem?_eq_some_iff.mp hy).1
      have ht2 : t = T.length := by simp at hl2; omega
      subst ht2
      rw [List.getElem?_append_right (Nat.le_refl _), Nat.sub_self] at hy
      cases hy
      rw [cup_s, cup_s]
      exact ⟨rfl, rfl⟩
theorem append_no (h : CR o b K I P N T n g R F Q U) (hl : 200 ≤ T.length) (x y : Int32) : fX4_append b x y (K, I, P, N) = some (-1, K, I, P, N) := by
  have h2 := h.ty.2.1
  unfold fX4_append
  rw [e_gI h.K0, Option.bind_some, h.ty.1, show (200 : Int32) = nI 200 from rfl, if_neg (nI_nlt hl (by omega))]
theorem newOne_ok (h : CR o b K I P N T n g R F Q U) (hl : T.length < 200) : ∃ J, fX4_newOne b (K, I, P, N) = some (nI T.length, K, J, P, N) ∧ CR o b K J P N (T ++ [none]) n g R F Q U := by
  obtain ⟨J, h1, h2⟩ := append_ok h hl none
  refine ⟨J, ?_, h2⟩
  unfold fX4_newOne
  rw [e_rc h.K0, Option.bind_some]
  rw [show fX4_append b (-1) (-1) (K, I, P, N) = some (nI T.length, K, J, P, N) from h1]
  rfl
theorem newOne_no (h : CR o b K I P N T n g R F Q U) (hl : 200 ≤ T.length) : fX4_newOne b (K, I, P, N) = some (-1, K, I, P, N) := by
  unfold fX4_newOne
  rw [e_rc h.K0, Option.bind_some, append_no h hl]
  rfl
theorem arrowOf_loop (h : CR o b K I P N T n g R F Q U) (hw : TyW T) {x y : Int32} (hx : x ≠ -1) : ∀ m f t, t + m = T.length → m < f → fX4_arrowOf_b20 b f x y (nI t) (K, I, P, N) = match (T.drop t).findIdx? (fun e => decide (e = some (x, y))) with
    | some i => some (nI (t + i), K, I, P, N)
    | none => Option.bind (fX4_append b x y (K, I, P, N)) fun q => some (q.1, q.2) := by
  have h200 := h.ty.2.1
  intro m
  induction m with
  | zero =>
    intro f t ht hf
    cases f with
    | zero => omega
    | succ f =>
      show fX4_arrowOf_b20_body b _ x y (nI t) (K, I, P, N) = _
      unfold fX4_arrowOf_b20_body
      rw [e_gI h.K0, Option.bind_some, h.ty.1, if_pos (nI_le (by omega) (by omega)), e_rc h.K0, Option.bind_some, List.drop_eq_nil_of_le (by omega)]
      rfl
  | succ m ih =>
    intro f t ht hf
    cases f with
    | zero => omega
    | succ f =>
      have htl : t < T.length := by omega
      have hg := List.getElem?_eq_getElem htl
      have hn : fX4_arrowOf_b48 b (fX4_arrowOf_b20 b f) x y (nI t) (K, I, P, N) = match ((T.drop (t + 1)).findIdx? (fun e => decide (e = some (x, y)))).map (· + 1) with
          | some i => some (nI (t + i), K, I, P, N)
          | none => Option.bind (fX4_append b x y (K, I, P, N)) fun q => some (q.1, q.2) := by
        unfold fX4_arrowOf_b48
        rw [nI_1, ih f (t + 1) (by omega) (by omega)]
        cases (T.drop (t + 1)).findIdx? (fun e => decide (e = some (x, y))) with
        | none => rfl
        | some i => show some (nI (t + 1 + i), _) = some (nI (t + (i + 1)), _); rw [show t + 1 + i = t + (i + 1) by omega]
      show fX4_arrowOf_b20_body b _ x y (nI t) (K, I, P, N) = _
      unfold fX4_arrowOf_b20_body
      rw [e_gI h.K0, Option.bind_some, h.ty.1, if_neg (nI_ge htl (by omega)), e_rc h.K0, Option.bind_some, fromOf_t h hg, Option.bind_some]
      rw [List.drop_eq_getElem_cons htl, List.findIdx?_cons]
      show (if tdF T[t] = x then _ else _) = _
      by_cases c1 : tdF T[t] = x
      · rw [if_pos c1]
        show Option.bind (crc (K, I, P, N) (some b) 4) _ = _
        rw [e_rc h.K0, Option.bind_some, toOf_t h hg, Option.bind_some]
        show (if tdT T[t] = y then _ else _) = _
        by_cases c2 : tdT T[t] = y
        · have c3 : T[t] = some (x, y) := by
            cases hq : T[t] with
            | none => rw [hq] at c1; exact absurd c1.symm hx
            | some q => rw [hq] at c1 c2; obtain ⟨q1, q2⟩ := q; rw [← c1, ← c2]; rfl
          rw [if_pos c2, if_pos (decide_eq_true c3)]
          rfl
        · rw [if_neg c2, if_neg (fun c3 => c2 (by rw [of_decide_eq_true c3]; rfl))]
          exact hn
      · rw [if_neg c1, if_neg (fun c3 => c1 (by rw [of_decide_eq_true c3]; rfl))]
        exact hn
/-- the arrow of two types -/
def arT (T : List TyD) (x y : Int32) : List TyD := match fArr T x y with
  | some _ => T
  | none => T ++ [some (x, y)]
def arN (T : List TyD) (x y : Int32) : Nat := match fArr T x y with
  | some t => t
  | none => T.length
theorem arrowOf_ok (h : CR o b K I P N T n g R F Q U) (hw : TyW T) {i j : Nat} (hi : i < T.length) (hj : j < T.length) (hl : (arT T (nI i) (nI j)).length ≤ 200) : ∃ J, fX4_arrowOf b (nI i) (nI j) (K, I, P, N) = some (nI (arN T (nI i) (nI j)), K, J, P, N) ∧ CR o b K J P N (arT T (nI i) (nI j)) n g R F Q U := by
  have h200 := h.ty.2.1
  have hlp := arrowOf_loop h hw (y := nI j) (nI_nm1 (n := i) (by omega)) T.length rFuel 0 (by omega) (by show T.length < 100000; omega)
  rw [List.drop_zero] at hlp
  have st : fX4_arrowOf b (nI i) (nI j) (K, I, P, N) = fX4_arrowOf_b20 b rFuel (nI i) (nI j) (nI 0) (K, I, P, N) := by
    unfold fX4_arrowOf
    rw [e_rc h.K0, Option.bind_some, has_t h hi, Option.bind_some, if_neg (show ¬ (1 : Int32) = 0 by decide)]
    show Option.bind (crc (K, I, P, N) (some b) 4) _ = _
    rw [e_rc h.K0, Option.bind_some, has_t h hj, Option.bind_some, if_neg (show ¬ (1 : Int32) = 0 by decide)]
    rfl
  rw [st, hlp]
  unfold arT arN fArr at *
  cases hf : T.findIdx? (fun e => decide (e = some (nI i, nI j))) with
  | some t => exact ⟨I, by simp only [Nat.zero_add], h⟩
  | none =>
    rw [hf] at hl
    obtain ⟨J, a1, a2⟩ := append_ok h (by simp at hl; omega) (some (nI i, nI j))
    refine ⟨J, ?_, a2⟩
    show Option.bind (fX4_append b (nI i) (nI j) (K, I, P, N)) _ = _
    rw [show fX4_append b (nI i) (nI j) (K, I, P, N) = some (nI T.length, K, J, P, N) from a1]
    rfl
theorem arrowOf_no (h : CR o b K I P N T n g R F Q U) (hw : TyW T) {i j : Nat} (hi : i < T.length) (hj : j < T.length) (hl : 200 < (arT T (nI i) (nI j)).length) : fX4_arrowOf b (nI i) (nI j) (K, I, P, N) = some (-1, K, I, P, N) := by
  have h200 := h.ty.2.1
  have hlp := arrowOf_loop h hw (y := nI j) (nI_nm1 (n := i) (by omega)) T.length rFuel 0 (by omega) (by show T.length < 100000; omega)
  rw [List.drop_zero] at hlp
  have st : fX4_arrowOf b (nI i) (nI j) (K, I, P, N) = fX4_arrowOf_b20 b rFuel (nI i) (nI j) (nI 0) (K, I, P, N) := by
    unfold fX4_arrowOf
    rw [e_rc h.K0, Option.bind_some, has_t h hi, Option.bind_some, if_neg (show ¬ (1 : Int32) = 0 by decide)]
    show Option.bind (crc (K, I, P, N) (some b) 4) _ = _
    rw [e_rc h.K0, Option.bind_some, has_t h hj, Option.bind_some, if_neg (show ¬ (1 : Int32) = 0 by decide)]
    rfl
  rw [st, hlp]
  unfold arT fArr at *
  cases hf : T.findIdx? (fun e => decide (e = some (nI i, nI j))) with
  | some t => rw [hf] at hl; exact absurd hl (by simp; exact h200)
  | none =>
    rw [hf] at hl
    show Option.bind (fX4_append b (nI i) (nI j) (K, I, P, N)) _ = _
    rw [append_no h (by simp at hl; omega)]
    rfl
end CBl
