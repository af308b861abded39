/-! APPLYING: what a body gives, and the class's way to it -/
def cutI (x : Int32) : Int32 := if x ≤ 10000 then (if (-10000) ≤ x then x else -10000) else 10000
def glX (X : List En) (e : En) : Option En := match plc X e.1 e.2.2.2.2.2 with
  | none => none
  | some p => X[p]?
def glI (X : List En) (e : En) : Int32 := match glX X e with
  | none => -1
  | some x => x.2.2.1
def glM (X : List En) (e : En) : Int32 := if e.2.2.2.2.2 = -1 then 0 else match glX X e with
  | none => 0
  | some x => x.2.2.2.2.1
def glT (X L : List En) (e : En) (T : List TyD) : Nat × List TyD :=
  if e.1 = 0 then (if e.2.2.2.2.2 = -1 then (T.length, T ++ [none]) else (iN (glI X e), T))
  else if e.2.2.2.1 = -100 then (iN (tyO L e.2.2.1), T)
  else (arN T (tyO L e.2.2.1) (tyO L e.2.2.2.1), arT T (tyO L e.2.2.1) (tyO L e.2.2.2.1))
def glE (X L : List En) (e : En) (T : List TyD) : En := (e.1, e.2.1, nI (glT X L e T).1, -100, if e.1 = 1 then cutI (e.2.2.2.2.1 + glM X e) else 0, -1)
def glL (X : List En) : List En → List En → List TyD → List En × List TyD
  | [], L, T => (L, T)
  | e :: Y, L, T => glL X Y (L ++ [glE X L e T]) (glT X L e T).2
def glOK (B X : List En) (m n : Nat) : Prop := WfB m B ∧ WfS m n X ∧ ∀ (p : Nat) (e : En), B[p]? = some e → e.2.2.2.2.2 ≠ -1 → plc X e.1 e.2.2.2.2.2 ≠ none
def glW (B L : List En) (n q : Nat) (T : List TyD) : Prop := L.length = q ∧ (∀ (r : Nat) (e y : En), L[r]? = some e → B[r]? = some y → e.1 = y.1 ∧ e.2.1 = y.2.1) ∧ WfS T.length n L
def glP (X L : List En) (m : Nat) (T : List TyD) (e : En) : Prop := isNm e.2.1 ∧ plc L e.1 e.2.1 = none ∧ (e.2.2.2.2.2 ≠ -1 → ∃ p x, plc X e.1 e.2.2.2.2.2 = some p ∧ X[p]? = some x) ∧ ((e.1 = 0 ∧ e.2.2.2.2.1 = 0 ∧ (e.2.2.2.2.2 ≠ -1 → ∃ i, i < m ∧ glI X e = nI i ∧ tyO X (-1 - e.2.2.2.2.2) = nI i)) ∨ (e.1 = 1 ∧ ∃ j, j < T.length ∧ tyO L e.2.2.1 = nI j ∧ mnt L e.2.2.1 = nI j ∧ (e.2.2.2.1 = -100 ∨ (e.2.2.2.1 ≠ -100 ∧ ∃ l, l < T.length ∧ tyO L e.2.2.2.1 = nI l ∧ mnt L e.2.2.2.1 = nI l))))
section Fill
variable {o b n g m wB pB wX pX : Nat} {K : Nat → Option (Nat × Nat)} {I J : Nat → Nat → Int32} {P : Nat → Nat → Option Nat} {N a c d wh kb s q : Nat} {T : List TyD} {R R1 R2 : Nat → Option RowD} {F : List FuD} {Q : List (Int32 × Int32)} {U : List UnD} {X Y B L : List En} {e : En}
theorem told_okB {m k m2 q : Nat} (hX : WfS m k X) (hm : m < 2 ^ 31) (hm2 : m2 < 2 ^ 31) (hY : WfB m2 Y) (ht : tells X Y q) {x : Int32} (hx : tOK m2 Y q x) : ∃ j, j < 2 ^ 31 ∧ tyO X x = nI j ∧ mnt X x = nI j ∧ x ≠ -100 ∧ (j < m ∨ (j < m2 ∧ x = nI j)) := by
  rcases hx with ⟨j, hj, rfl⟩ | ⟨r, e, h1, h2, h3, rfl⟩
  · exact ⟨j, by omega, tyO_nI (by omega), if_neg (nI_pos (by omega)), nI_n100 (by omega), Or.inr ⟨hj, rfl⟩⟩
  · have hn := (hY.2 r e h2).1
    cases hp : plc X 0 e.2.1 with
    | none => exact absurd hp (ht r e h1 h2 h3)
    | some p =>
      obtain ⟨y, j, -, -, -, hj, -, h5, h6⟩ := tyO_nm hX hm hn hp
      exact ⟨j, by omega, h5, h6, nm_100 hn, Or.inl hj⟩
theorem gl_E (h : glOK B X m n) (hm : m ≤ T.length) (hT : T.length < 2 ^ 30) (hL : glW B L n q T) (he : B[q]? = some e) : glP X L m T e := by
  obtain ⟨hB, hX, hF⟩ := h
  obtain ⟨l1, l2, l3⟩ := hL
  have hq := (List.getElem?_eq_some_iff.mp he).1
  obtain ⟨b1, b2, b3⟩ := hB.2 q e he
  have hno : plc L e.1 e.2.1 = none := by
    cases hp : plc L e.1 e.2.1 with
    | none => rfl
    | some p =>
      obtain ⟨x, x1, x2, x3⟩ := plc_some hp
      have hpl := (List.getElem?_eq_some_iff.mp x1).1
      obtain ⟨y, hy⟩ : ∃ y, B[p]? = some y := ⟨_, List.getElem?_eq_getElem (by omega)⟩
      obtain ⟨y1, y2⟩ := l2 p x y x1 hy
      have := hB.1 p q y e hy he (by rw [← y1, x2]) (by rw [← y2, x3])
      omega
  have ht : tells L B q := fun r y hr hy h0 => by
    obtain ⟨x, hx⟩ : ∃ x, L[r]? = some x := ⟨_, List.getElem?_eq_getElem (by omega)⟩
    obtain ⟨y1, y2⟩ := l2 r x y hx hy
    intro hp
    exact plc_none hp x (List.mem_of_getElem? hx) ⟨by rw [y1, h0], y2⟩
  have told : ∀ x, tOK m B q x → x ≠ -100 ∧ ∃ j, j < T.length ∧ tyO L x = nI j ∧ mnt L x = nI j := fun x hx => by
    obtain ⟨j, j1, j2, j3, j4, j5⟩ := told_okB l3 (by omega) (by omega) hB ht hx
    exact ⟨j4, j, by rcases j5 with h | h <;> omega, j2, j3⟩
  have fr : e.2.2.2.2.2 ≠ -1 → ∃ p x, plc X e.1 e.2.2.2.2.2 = some p ∧ X[p]? = some x := fun h => by
    cases hp : plc X e.1 e.2.2.2.2.2 with
    | none => exact absurd hp (hF q e he h)
    | some p =>
      obtain ⟨x, hx, -⟩ := plc_some hp
      exact ⟨p, x, rfl, hx⟩
  refine ⟨b1, hno, fr, ?_⟩
  rcases b3 with ⟨k0, k1, k2, k3⟩ | ⟨k0, k1, k2⟩
  · refine Or.inl ⟨k0, k3, fun h => ?_⟩
    obtain ⟨p, x, hp, hx⟩ := fr h
    have hp0 := hp
    rw [k0] at hp0
    obtain ⟨y, i, y1, y2, y3, i1, i2, i3, i4⟩ := tyO_nm hX (by omega) (b2.resolve_left h) hp0
    rw [hx] at y1
    cases y1
    refine ⟨i, i1, ?_, i3⟩
    unfold glI glX
    rw [hp]
    show (match X[p]? with
      | none => (-1 : Int32)
      | some x => x.2.2.1) = nI i
    rw [hx]
    exact i2
  · obtain ⟨t1, j, t2, t3, t4⟩ := told _ k1
    exact Or.inr ⟨k0, j, t2, t3, t4, k2.imp id (fun h => told _ h)⟩
theorem gl_step (hw : TyW T) (h : glOK B X m n) (hm : m ≤ T.length) (hT : T.length < 2 ^ 29) (hL : glW B L n q T) (he : B[q]? = some e) : TyW (glT X L e T).2 ∧ T <+: (glT X L e T).2 ∧ (glT X L e T).2.length ≤ T.length + 1 ∧ (glT X L e T).1 < (glT X L e T).2.length ∧ glW B (L ++ [glE X L e T]) n (q + 1) (glT X L e T).2 := by
  obtain ⟨p1, p2, p3, p4⟩ := gl_E h hm (by omega) hL he
  have key : TyW (glT X L e T).2 ∧ T <+: (glT X L e T).2 ∧ (glT X L e T).2.length ≤ T.length + 1 ∧ (glT X L e T).1 < (glT X L e T).2.length := by
    unfold glT
    rcases p4 with ⟨k0, k1, k2⟩ | ⟨k0, j, j1, j2, -, k3⟩
    · rw [if_pos k0]
      by_cases hf : e.2.2.2.2.2 = -1
      · rw [if_pos hf]
        exact ⟨hw.addNone, List.prefix_append _ _, by simp, by simp⟩
      · rw [if_neg hf]
        obtain ⟨i, i1, i2, -⟩ := k2 hf
        refine ⟨hw, List.prefix_refl _, Nat.le_succ _, ?_⟩
        show iN (glI X e) < T.length
        rw [i2, iN_nI (by omega)]
        omega
    · rw [if_neg (by rw [k0]; decide)]
      rcases k3 with k3 | ⟨k3, l, l1, l2, -⟩
      · rw [if_pos k3]
        refine ⟨hw, List.prefix_refl _, Nat.le_succ _, ?_⟩
        show iN (tyO L e.2.2.1) < T.length
        rw [j2, iN_nI (by omega)]
        exact j1
      · rw [if_neg k3, j2, l2]
        exact ⟨hw.ar j1 l1, arT_pre, arT_le1, arN_lt2⟩
  obtain ⟨q1, q2, q3, q4⟩ := key
  refine ⟨q1, q2, q3, q4, by simp [hL.1], fun r y z hy hz => ?_, (hL.2.2.mono q2.length_le (Nat.le_refl _)).add ⟨?_, p1, fun h2 => ?_, fun _ => ⟨_, q4, rfl⟩, rfl, fun h1 => if_neg h1, rfl⟩ p2⟩
  · rcases app_get hy with ⟨r1, r2⟩ | ⟨r1, r2⟩
    · exact hL.2.1 r y z r2 hz
    · rw [r1, hL.1, he] at hz
      cases hz
      rw [r2]
      exact ⟨rfl, rfl⟩
  · show e.1 = 0 ∨ e.1 = 1 ∨ e.1 = 2
    rcases p4 with ⟨k0, -⟩ | ⟨k0, -⟩
    · exact Or.inl k0
    · exact Or.inr (Or.inl k0)
  · have h3 : e.1 = 2 := h2
    rcases p4 with ⟨k0, -⟩ | ⟨k0, -⟩ <;> rw [k0] at h3 <;> exact absurd h3 (by decide)
theorem gl_ok (h : glOK B X m n) : ∀ cnt q L T, q + cnt = B.length → TyW T → m ≤ T.length → T.length + cnt < 2 ^ 29 → glW B L n q T → TyW (glL X (B.drop q) L T).2 ∧ T <+: (glL X (B.drop q) L T).2 ∧ (glL X (B.drop q) L T).2.length ≤ T.length + cnt ∧ WfS (glL X (B.drop q) L T).2.length n (glL X (B.drop q) L T).1 := by
  intro cnt
  induction cnt with
  | zero =>
    intro q L T hq hw hm hT hL
    rw [List.drop_eq_nil_of_le (by omega)]
    exact ⟨hw, List.prefix_refl _, by show T.length ≤ _; omega, hL.2.2⟩
  | succ cnt ih =>
    intro q L T hq hw hm hT hL
    have hql : q < B.length := by omega
    obtain ⟨s1, s2, s3, s4, s5⟩ := gl_step hw h hm (by omega) hL (List.getElem?_eq_getElem hql)
    have := s2.length_le
    obtain ⟨t1, t2, t3, t4⟩ := ih (q + 1) _ _ (by omega) s1 (by omega) (by omega) s5
    rw [List.drop_eq_getElem_cons hql]
    exact ⟨t1, s2.trans t2, by show (glL X (B.drop (q + 1)) _ _).2.length ≤ _; omega, t4⟩
theorem cut_c (x : Int32) : (if ((-10000)) < (if x < 10000 then x else 10000) then (if x < 10000 then x else 10000) else ((-10000)) : Int32) = cutI x := by
  unfold cutI
  have a1 : (10000 : Int32).toInt = 10000 := by decide
  have a2 : (-10000 : Int32).toInt = -10000 := by decide
  by_cases h1 : x < 10000
  · have h2 : x ≤ 10000 := by rw [Int32.lt_iff_toInt_lt] at h1; rw [Int32.le_iff_toInt_le]; omega
    rw [if_pos h1, if_pos h2]
    by_cases h3 : -10000 < x
    · have h4 : -10000 ≤ x := by rw [Int32.lt_iff_toInt_lt] at h3; rw [Int32.le_iff_toInt_le]; omega
      rw [if_pos h3, if_pos h4]
    · rw [if_neg h3]
      by_cases h4 : -10000 ≤ x
      · rw [if_pos h4]
        apply Int32.toInt_inj.mp
        rw [Int32.lt_iff_toInt_lt] at h3
        rw [Int32.le_iff_toInt_le] at h4
        omega
      · rw [if_neg h4]
  · rw [if_neg h1, if_pos (by decide)]
    by_cases h2 : x ≤ 10000
    · have h3 : x = 10000 := by
        apply Int32.toInt_inj.mp
        rw [Int32.lt_iff_toInt_lt] at h1
        rw [Int32.le_iff_toInt_le] at h2
        omega
      rw [if_pos h2, h3]
      decide
    · rw [if_neg h2]
theorem fill_c (hok : glOK B X m n) (hB : R kb = some (B, wB, pB)) (hX : R s = some (X, wX, pX)) (hkb : kb ≠ wh) (hsw : s ≠ wh) : ∀ cnt fu q L T I R1, q + cnt = B.length → cnt < fu → TyW T → m ≤ T.length → glW B L n q T → CR o b K I P N T n g R1 F Q U → (∀ j, j ≠ wh → R1 j = R j) → R1 wh = some (L, 0, 0) → ptr b P s = some d → ptr b P kb = some c → ptr b P wh = some a → ∃ I2, ((glL X (B.drop q) L T).2.length ≤ 200 ∧ fX6_fill_b3 o fu (some a) (some c) (some d) (nI q) (K, I, P, N) = some (1, K, I2, P, N) ∧ ∃ R2, CR o b K I2 P N (glL X (B.drop q) L T).2 n g R2 F Q U ∧ (∀ j, j ≠ wh → R2 j = R j) ∧ R2 wh = some ((glL X (B.drop q) L T).1, 0, 0)) ∨ (200 < (glL X (B.drop q) L T).2.length ∧ fX6_fill_b3 o fu (some a) (some c) (some d) (nI q) (K, I, P, N) = some (0, K, I2, P, N) ∧ ∃ T2 R2, CR o b K I2 P N T2 n g R2 F Q U ∧ T <+: T2 ∧ ∀ j, j ≠ wh → R2 j = R j) := by
  have hB20 := hok.1.len
  intro cnt
  induction cnt with
  | zero =>
    intro fu q L T I R1 hq hfu hw hm hL hC hag hRw pd pc pa
    cases fu with
    | zero => omega
    | succ fu =>
      obtain ⟨c1, c2, -⟩ := hC.rowAt ((hag kb hkb).trans hB) pc
      rw [List.drop_eq_nil_of_le (show B.length ≤ q by omega)]
      refine ⟨I, Or.inl ⟨hC.ty.2.1, ?_, R1, hC, hag, hRw⟩⟩
      show fX6_fill_b3_body o _ (some a) (some c) (some d) (nI q) (K, I, P, N) = _
      unfold fX6_fill_b3_body
      rw [Option.bind_some, e_gI c1.1, Option.bind_some, c2.1.1, if_pos (nI_le (show B.length ≤ q by omega) (by omega))]
      exact cbo_1
  | succ cnt ih =>
    intro fu q L T I R1 hq hfu hw hm hL hC hag hRw pd pc pa
    cases fu with
    | zero => omega
    | succ fu =>
      have hql : q < B.length := by omega
      have hg := List.getElem?_eq_getElem hql
      have h200 := hC.ty.2.1
      obtain ⟨s1, s2, s3, s4, s5⟩ := gl_step hw hok hm (by omega) hL hg
      obtain ⟨p1, p2, p3, p4⟩ := gl_E hok hm (by omega) hL hg
      have hpre := s2.length_le
      obtain ⟨z1, z2, z3, z4⟩ := gl_ok hok cnt (q + 1) _ _ (by omega) s1 (by omega) (by omega) s5
      have hpre2 := z2.length_le
      rw [List.drop_eq_getElem_cons hql]
      show ∃ I2, ((glL X (B.drop (q + 1)) (L ++ [glE X L B[q] T]) (glT X L B[q] T).2).2.length ≤ 200 ∧ _ ∧ ∃ R2, CR o b K I2 P N (glL X (B.drop (q + 1)) (L ++ [glE X L B[q] T]) (glT X L B[q] T).2).2 n g R2 F Q U ∧ _ ∧ R2 wh = some ((glL X (B.drop (q + 1)) (L ++ [glE X L B[q] T]) (glT X L B[q] T).2).1, 0, 0)) ∨ (200 < (glL X (B.drop (q + 1)) (L ++ [glE X L B[q] T]) (glT X L B[q] T).2).2.length ∧ _)
      obtain ⟨c1, c2, -⟩ := hC.rowAt ((hag kb hkb).trans hB) pc
      obtain ⟨d1, d2, -⟩ := hC.rowAt ((hag s hsw).trans hX) pd
      have hq30 : L.length < 30 := by have := hL.1; omega
      -- what is left, once type and number are known
      have fin : ∀ (J : Nat → Nat → Int32) (num : Int32), (B[q].1 = 1 → num = B[q].2.2.2.2.1 + glM X B[q]) → (B[q].1 = 0 → num = 0) → CR o b K J P N (glT X L B[q] T).2 n g R1 F Q U → ∃ I2, ((glL X (B.drop (q + 1)) (L ++ [glE X L B[q] T]) (glT X L B[q] T).2).2.length ≤ 200 ∧ fX6_fill_b122 o (fX6_fill_b3 o fu) (some a) (some c) (some d) (nI q) B[q].1 num (nI (glT X L B[q] T).1) (K, J, P, N) = some (1, K, I2, P, N) ∧ ∃ R2, CR o b K I2 P N (glL X (B.drop (q + 1)) (L ++ [glE X L B[q] T]) (glT X L B[q] T).2).2 n g R2 F Q U ∧ (∀ j, j ≠ wh → R2 j = R j) ∧ R2 wh = some ((glL X (B.drop (q + 1)) (L ++ [glE X L B[q] T]) (glT X L B[q] T).2).1, 0, 0)) ∨ (200 < (glL X (B.drop (q + 1)) (L ++ [glE X L B[q] T]) (glT X L B[q] T).2).2.length ∧ fX6_fill_b122 o (fX6_fill_b3 o fu) (some a) (some c) (some d) (nI q) B[q].1 num (nI (glT X L B[q] T).1) (K, J, P, N) = some (0, K, I2, P, N) ∧ ∃ T2 R2, CR o b K I2 P N T2 n g R2 F Q U ∧ T <+: T2 ∧ ∀ j, j ≠ wh → R2 j = R j) := by
        intro J num hn1 hn0 hC2
        obtain ⟨c3, c4, -⟩ := hC2.rowAt ((hag kb hkb).trans hB) pc
        obtain ⟨w2, w3, w4⟩ := hC2.rowAt hRw pa
        obtain ⟨J2, j1, j2, j3, j4, j5⟩ := add_r (N := N) w2 w3.1 hq30 B[q].1 B[q].2.1 (nI (glT X L B[q] T).1) (-100) (cutI num) (-1)
        have hent : (B[q].1, B[q].2.1, nI (glT X L B[q] T).1, -100, cutI num, -1) = glE X L B[q] T := by
          unfold glE
          rcases p4 with ⟨k0, -⟩ | ⟨k0, -⟩
          · rw [if_neg (by rw [k0]; decide), hn0 k0]; rfl
          · rw [if_pos k0, hn1 k0]
        rw [hent] at j2
        have hC3 := hC2.upRow (d := (L ++ [glE X L B[q] T], 0, 0)) w4 pa j3 ⟨j2, by rw [j4]; exact w3.2.1, by rw [j5]; exact w3.2.2⟩
        have hst : fX6_fill_b122 o (fX6_fill_b3 o fu) (some a) (some c) (some d) (nI q) B[q].1 num (nI (glT X L B[q] T).1) (K, J, P, N) = fX6_fill_b3 o fu (some a) (some c) (some d) (nI (q + 1)) (K, J2, P, N) := by
          unfold fX6_fill_b122
          rw [if_pos (show (0 : Int32) ≤ nI (glT X L B[q] T).1 from nI_pos' (by omega)), e_rc c3.1, Option.bind_some, get_r1 c3 c4.1 hg, Option.bind_some]
          unfold fX6_cut
          rw [Option.bind_some]
          show Option.bind (crc (K, J, P, N) (some a) 2) _ = _
          rw [e_rc w2.1, Option.bind_some]
          show Option.bind (fX2_add a B[q].1 B[q].2.1 (nI (glT X L B[q] T).1) (-100) (if ((-10000)) < (if num < 10000 then num else 10000) then (if num < 10000 then num else 10000) else ((-10000))) (-1) (K, J, P, N)) _ = _
          rw [cut_c, j1, Option.bind_some, nI_1]
        rw [hst]
        obtain ⟨I2, h⟩ := ih fu (q + 1) (L ++ [glE X L B[q] T]) (glT X L B[q] T).2 J2 _ (by omega) (by omega) s1 (by omega) s5 hC3 (fun j hj => by rw [aup_n hj]; exact hag j hj) aup_s pd pc pa
        refine ⟨I2, h.imp id (fun h => ⟨h.1, h.2.1, ?_⟩)⟩
        obtain ⟨T2, R2, h3, h4, h5⟩ := h.2.2
        exact ⟨T2, R2, h3, s2.trans h4, h5⟩
      have bad : ∀ (num : Int32) (z : cS), fX6_fill_b122 o (fX6_fill_b3 o fu) (some a) (some c) (some d) (nI q) B[q].1 num (-1) z = some (0, z) := fun num z => by
        unfold fX6_fill_b122
        rw [if_neg (by decide)]
        exact cbo_0
      have no : ∀ (res : Option (Int32 × cS)), 200 < (glT X L B[q] T).2.length → res = some (0, K, I, P, N) → ∃ I2, ((glL X (B.drop (q + 1)) (L ++ [glE X L B[q] T]) (glT X L B[q] T).2).2.length ≤ 200 ∧ res = some (1, K, I2, P, N) ∧ ∃ R2, CR o b K I2 P N (glL X (B.drop (q + 1)) (L ++ [glE X L B[q] T]) (glT X L B[q] T).2).2 n g R2 F Q U ∧ (∀ j, j ≠ wh → R2 j = R j) ∧ R2 wh = some ((glL X (B.drop (q + 1)) (L ++ [glE X L B[q] T]) (glT X L B[q] T).2).1, 0, 0)) ∨ (200 < (glL X (B.drop (q + 1)) (L ++ [glE X L B[q] T]) (glT X L B[q] T).2).2.length ∧ res = some (0, K, I2, P, N) ∧ ∃ T2 R2, CR o b K I2 P N T2 n g R2 F Q U ∧ T <+: T2 ∧ ∀ j, j ≠ wh → R2 j = R j) := fun res h1 h2 => ⟨I, Or.inr ⟨by omega, h2, T, R1, hC, List.prefix_refl _, hag⟩⟩
      have hstp : fX6_fill_b3 o (fu + 1) (some a) (some c) (some d) (nI q) (K, I, P, N) = if B[q].1 = 1 then Option.bind (fX6_typeTold o (some a) B[q].2.2.1 B[q].2.2.2.1 (K, I, P, N)) (fun q61 => if B[q].2.2.2.2.2 = -1 then fX6_fill_b122 o (fX6_fill_b3 o fu) (some a) (some c) (some d) (nI q) B[q].1 (B[q].2.2.2.2.1 + 0) q61.1 q61.2 else Option.bind (crc (q61.2) (some d) 2) fun c83 => Option.bind (fX2_placeOf c83 1 B[q].2.2.2.2.2 (q61.2)) fun q83 => Option.bind (crc (q83.2) (some d) 2) fun c87 => Option.bind (fX2_get c87 (q83.1) 4 (q83.2)) fun q87 => fX6_fill_b122 o (fX6_fill_b3 o fu) (some a) (some c) (some d) (nI q) B[q].1 (B[q].2.2.2.2.1 + q87.1) q61.1 q87.2)
          else if B[q].2.2.2.2.2 = -1 then Option.bind (fX4_newOne b (K, I, P, N)) (fun q106 => fX6_fill_b122 o (fX6_fill_b3 o fu) (some a) (some c) (some d) (nI q) B[q].1 B[q].2.2.2.2.1 q106.1 q106.2)
          else fX6_fill_b122 o (fX6_fill_b3 o fu) (some a) (some c) (some d) (nI q) B[q].1 B[q].2.2.2.2.1 (tyO X (-1 - B[q].2.2.2.2.2)) (K, I, P, N) := by
        show fX6_fill_b3_body o _ (some a) (some c) (some d) (nI q) (K, I, P, N) = _
        unfold fX6_fill_b3_body
        rw [Option.bind_some, e_gI c1.1, Option.bind_some, c2.1.1, if_neg (nI_ge hql (by omega)), e_rc c1.1, Option.bind_some, get_r0 c1 c2.1 hg, Option.bind_some]
        show Option.bind (crc (K, I, P, N) (some c) 2) _ = _
        rw [e_rc c1.1, Option.bind_some, get_r5 c1 c2.1 hg, Option.bind_some]
        show Option.bind (crc (K, I, P, N) (some c) 2) _ = _
        rw [e_rc c1.1, Option.bind_some, get_r4 c1 c2.1 hg, Option.bind_some]
        show (if B[q].1 = 1 then Option.bind (crc (K, I, P, N) (some c) 2) _ else if B[q].2.2.2.2.2 = -1 then Option.bind (cgR (K, I, P, N) o 6 0) _ else Option.bind (crc (K, I, P, N) (some d) 2) _) = _
        by_cases h1 : B[q].1 = 1
        · rw [if_pos h1, if_pos h1, e_rc c1.1, Option.bind_some, get_r2 c1 c2.1 hg, Option.bind_some]
          show Option.bind (crc (K, I, P, N) (some c) 2) _ = _
          rw [e_rc c1.1, Option.bind_some, get_r3 c1 c2.1 hg, Option.bind_some]
          show Option.bind (crc (K, I, P, N) (some o) 6) _ = _
          rw [ro hC, Option.bind_some]
          rfl
        · rw [if_neg h1, if_neg h1]
          by_cases h2 : B[q].2.2.2.2.2 = -1
          · rw [if_pos h2, if_pos h2, g60 hC, Option.bind_some, r4 hC, Option.bind_some]
            rfl
          · rw [if_neg h2, if_neg h2, e_rc d1.1, Option.bind_some, typeOf_r d1 d2.1, Option.bind_some]
            simp only [fX6_fill_b120]
      rw [hstp]
      rcases p4 with ⟨k0, k1, k2⟩ | ⟨k0, j, j1, j2, -, k3⟩
      · have n1 : ¬ B[q].1 = 1 := by rw [k0]; decide
        rw [if_neg n1, k1]
        by_cases hf : B[q].2.2.2.2.2 = -1
        · rw [if_pos hf]
          have hgl : glT X L B[q] T = (T.length, T ++ [none]) := by unfold glT; rw [if_pos k0, if_pos hf]
          by_cases hl : T.length < 200
          · obtain ⟨J, i1, i2⟩ := newOne_ok hC hl
            rw [i1, Option.bind_some]
            have := fin J 0 (fun h => absurd h n1) (fun _ => rfl) (by rw [hgl]; exact i2)
            rw [hgl] at this ⊢
            exact this
          · rw [newOne_no hC (by omega), Option.bind_some]
            exact no _ (by rw [hgl]; show 200 < (T ++ [none]).length; simp; omega) (bad _ _)
        · rw [if_neg hf]
          obtain ⟨i, i1, i2, i3⟩ := k2 hf
          have hgl : glT X L B[q] T = (i, T) := by unfold glT; rw [if_pos k0, if_neg hf, i2, iN_nI (by omega)]
          have := fin I 0 (fun h => absurd h n1) (fun _ => rfl) (by rw [hgl]; exact hC)
          rw [i3]
          rw [hgl] at this ⊢
          exact this
      · have n0 : ¬ B[q].1 = 0 := by rw [k0]; decide
        rw [if_pos k0]
        have h4 := typeTold_ok (N := N) hC hw pa hRw j1 j2 (k3.imp id (fun h => ⟨h.1, let ⟨l, l1, l2, _⟩ := h.2; ⟨l, l1, l2⟩⟩))
        have h5 : (∃ J, (glT X L B[q] T).2.length ≤ 200 ∧ fX6_typeTold o (some a) B[q].2.2.1 B[q].2.2.2.1 (K, I, P, N) = some (nI (glT X L B[q] T).1, K, J, P, N) ∧ CR o b K J P N (glT X L B[q] T).2 n g R1 F Q U) ∨ (200 < (glT X L B[q] T).2.length ∧ fX6_typeTold o (some a) B[q].2.2.1 B[q].2.2.2.1 (K, I, P, N) = some (-1, K, I, P, N)) := by
          have hgl : glT X L B[q] T = (if B[q].2.2.2.1 = -100 then j else arN T (tyO L B[q].2.2.1) (tyO L B[q].2.2.2.1), if B[q].2.2.2.1 = -100 then T else arT T (tyO L B[q].2.2.1) (tyO L B[q].2.2.2.1)) := by
            unfold glT
            rw [if_neg n0]
            by_cases hto : B[q].2.2.2.1 = -100
            · rw [if_pos hto, if_pos hto, if_pos hto, j2, iN_nI (by omega)]
            · rw [if_neg hto, if_neg hto, if_neg hto]
          rw [hgl]
          exact h4
        rcases h5 with ⟨J, i1, i2, i3⟩ | ⟨i1, i2⟩
        · rw [i2, Option.bind_some]
          by_cases hf : B[q].2.2.2.2.2 = -1
          · rw [if_pos hf]
            exact fin J _ (fun _ => by unfold glM; rw [if_pos hf]) (fun h => absurd h n0) i3
          · rw [if_neg hf]
            obtain ⟨p, x, hp, hx⟩ := p3 hf
            rw [k0] at hp
            obtain ⟨d3, d4, -⟩ := i3.rowAt ((hag s hsw).trans hX) pd
            show ∃ I2, (_ ∧ Option.bind (crc (K, J, P, N) (some d) 2) _ = _ ∧ _) ∨ (_ ∧ Option.bind (crc (K, J, P, N) (some d) 2) _ = _ ∧ _)
            have he : (Option.bind (crc (K, J, P, N) (some d) 2) fun c83 => Option.bind (fX2_placeOf c83 1 B[q].2.2.2.2.2 (K, J, P, N)) fun q83 => Option.bind (crc (q83.2) (some d) 2) fun c87 => Option.bind (fX2_get c87 (q83.1) 4 (q83.2)) fun q87 => fX6_fill_b122 o (fX6_fill_b3 o fu) (some a) (some c) (some d) (nI q) B[q].1 (B[q].2.2.2.2.1 + q87.1) (nI (glT X L B[q] T).1) q87.2) = fX6_fill_b122 o (fX6_fill_b3 o fu) (some a) (some c) (some d) (nI q) B[q].1 (B[q].2.2.2.2.1 + x.2.2.2.2.1) (nI (glT X L B[q] T).1) (K, J, P, N) := by
              rw [e_rc d3.1, Option.bind_some, placeOf_r d3 d4.1, Option.bind_some, hp, plI_some, Nat.zero_add]
              show Option.bind (crc (K, J, P, N) (some d) 2) _ = _
              rw [e_rc d3.1, Option.bind_some, get_r4 d3 d4.1 hx, Option.bind_some]
            have h9 := fin J (B[q].2.2.2.2.1 + x.2.2.2.2.1) (fun _ => by
              unfold glM glX
              rw [if_neg hf, k0, hp]
              show _ = B[q].2.2.2.2.1 + (match X[p]? with
                | none => 0
                | some x => x.2.2.2.2.1)
              rw [hx]) (fun h => absurd h n0) i3
            rw [← he] at h9
            exact h9
        · rw [i2, Option.bind_some]
          refine no _ i1 ?_
          by_cases hf : B[q].2.2.2.2.2 = -1
          · rw [if_pos hf]
            exact bad _ _
          · rw [if_neg hf]
            obtain ⟨p, x, hp, hx⟩ := p3 hf
            rw [k0] at hp
            show Option.bind (crc (K, I, P, N) (some d) 2) _ = _
            rw [e_rc d1.1, Option.bind_some, placeOf_r d1 d2.1, Option.bind_some, hp, plI_some, Nat.zero_add]
            show Option.bind (crc (K, I, P, N) (some d) 2) _ = _
            rw [e_rc d1.1, Option.bind_some, get_r4 d1 d2.1 hx, Option.bind_some]
            exact bad _ _
end Fill
