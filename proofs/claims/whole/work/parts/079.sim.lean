/-! THE INVARIANT, and how a call is held against it -/
def Inv (o t : Nat) (z : cS) (S : rS) : Prop := ∃ b T n g R F Q U nx, CR o b z.1 z.2.1 z.2.2.1 nx T n g R F Q U ∧ RR S.1 S.2 T n g R F Q U ∧ WF t T n g R F Q U
section Sims
variable {o b t : Nat} {K : Nat → Option (Nat × Nat)} {I : Nat → Nat → Int32} {P : Nat → Nat → Option Nat} {N0 N : Nat} {f : Nat → Int32} {M : Nat → Nat → Int32} {T : List TyD} {n g : Nat} {R : Nat → Option RowD} {F : List FuD} {Q : List (Int32 × Int32)} {U : List UnD}
theorem CR.next {N2 : Nat} (h : CR o b K I P N T n g R F Q U) (hN : ∀ q, K q ≠ none → q < N2) : CR o b K I P N2 T n g R F Q U := ⟨hN, h.2⟩
def okC {α : Type} (o b : Nat) (K : Nat → Option (Nat × Nat)) (I : Nat → Nat → Int32) (P : Nat → Nat → Option Nat) (T : List TyD) (n g : Nat) (R : Nat → Option RowD) (F : List FuD) (Q : List (Int32 × Int32)) (U : List UnD) (fn : cS → Option ((α ⊕ Nat) × cS × Nat × Nat)) (res : α ⊕ Nat) (T2 : List TyD) (n2 g2 : Nat) (R2 : Nat → Option RowD) (F2 : List FuD) (Q2 : List (Int32 × Int32)) (U2 : List UnD) : Prop :=
  ∀ N, CR o b K I P N T n g R F Q U → ∃ K2 I2 P2 N2 ka kb, fn (K, I, P, N) = some (res, (K2, I2, P2, N2), ka, kb) ∧ ka ≤ 100 ∧ kb ≤ 14000 ∧ CR o b K2 I2 P2 N2 T2 n2 g2 R2 F2 Q2 U2
def okR (fr : Option (Int32 × rS)) (res : Int32 ⊕ Nat) (c : Nat → Int32) (T2 : List TyD) (n2 g2 : Nat) (R2 : Nat → Option RowD) (F2 : List FuD) (Q2 : List (Int32 × Int32)) (U2 : List UnD) : Prop :=
  ∃ v f2 M2, fr = some (v, f2, M2) ∧ RR f2 M2 T2 n2 g2 R2 F2 Q2 U2 ∧ match res with
    | .inl w => f2 54 = 0 ∧ w = v
    | .inr e => f2 54 = c e
theorem sim_core {fn : cS → Option ((Int32 ⊕ Nat) × cS × Nat × Nat)} {fr : Option (Int32 × rS)} (E : Nat → Prop) (c : Nat → Int32) (hI : Inv o t (K, I, P, N0) (f, M)) (H : ∀ b T n g R F Q U, RR f M T n g R F Q U → WF t T n g R F Q U → ∃ res T2 n2 g2 R2 F2 Q2 U2, okC o b K I P T n g R F Q U fn res T2 n2 g2 R2 F2 Q2 U2 ∧ okR fr res c T2 n2 g2 R2 F2 Q2 U2 ∧ WF (t + 1) T2 n2 g2 R2 F2 Q2 U2 ∧ ∀ e, res = .inr e → E e) :
    ∃ Pd : Int32 ⊕ Nat → cS → Prop, cSpec fn (K, I, P, N0) 100 14000 Pd ∧ (∀ e z2, Pd (.inr e) z2 → E e) ∧ ∃ v S1, fr = some (v, S1) ∧ (∀ w z2, Pd (.inl w) z2 → S1.1 54 = 0 ∧ w = v ∧ Inv o (t + 1) z2 S1) ∧ ∀ e z2, Pd (.inr e) z2 → S1.1 54 = c e ∧ Inv o (t + 1) z2 S1 := by
  obtain ⟨b, T, n, g, R, F, Q, U, nx, hC, hR, hW⟩ := hI
  obtain ⟨res, T2, n2, g2, R2, F2, Q2, U2, h1, ⟨v, f2, M2, e1, e2, e3⟩, h3, h4⟩ := H b T n g R F Q U hR hW
  refine ⟨fun r z2 => r = res ∧ ∃ nx2, CR o b z2.1 z2.2.1 z2.2.2.1 nx2 T2 n2 g2 R2 F2 Q2 U2, ?_, fun e z2 hq => h4 e hq.1.symm, v, (f2, M2), e1, ?_, ?_⟩
  · intro nx2 hfr
    obtain ⟨K2, I2, P2, N2, ka, kb, d1, d2, d3, d4⟩ := h1 nx2 (hC.next hfr)
    exact ⟨res, (K2, I2, P2, N2), ka, kb, d1, d2, d3, rfl, N2, d4⟩
  · rintro w z2 ⟨hq, nx2, hq2⟩
    subst hq
    exact ⟨e3.1, e3.2, b, T2, n2, g2, R2, F2, Q2, U2, nx2, hq2, e2, h3⟩
  · rintro e z2 ⟨hq, nx2, hq2⟩
    subst hq
    exact ⟨e3, b, T2, n2, g2, R2, F2, Q2, U2, nx2, hq2, e2, h3⟩
theorem wUni.mono {t t2 g g2 u : Nat} {x : UnD} (h : wUni t g u x) (ht : t ≤ t2) (hg : g ≤ g2) : wUni t2 g2 u x := by
  obtain ⟨h1, h2, ⟨c, h3, h4⟩, h5, h6⟩ := h
  refine ⟨h1, h2, ⟨c, by omega, h4⟩, by omega, fun d hd => ?_⟩
  obtain ⟨a, b⟩ := h6 d hd
  exact ⟨by omega, fun k hk hu => let ⟨y, p, q⟩ := b k hk hu; ⟨y, by omega, q⟩⟩
theorem WF.step (h : WF t T n g R F Q U) : WF (t + 1) T n g R F Q U := by
  obtain ⟨h1, h2, h3, h4, h5, h6, h7⟩ := h
  exact ⟨h1, h2, h3, h4, h5, h6, fun u x hx => (h7 u x hx).mono (by omega) (Nat.le_refl _)⟩
/-- a call that throws and changes nothing -/
theorem sim_thr {fn : cS → Option ((Int32 ⊕ Nat) × cS × Nat × Nat)} {fr : Option (Int32 × rS)} {E : Nat → Prop} {c : Nat → Int32} (e : Nat) (v : Int32) (hR : RR f M T n g R F Q U) (hW : WF t T n g R F Q U) (hE : E e) (hc : ∀ N, CR o b K I P N T n g R F Q U → fn (K, I, P, N) = some (.inr e, (K, I, P, N), 1, 6)) (hr : fr = some (v, upd f 54 (c e), M)) : ∃ res T2 n2 g2 R2 F2 Q2 U2, okC o b K I P T n g R F Q U fn res T2 n2 g2 R2 F2 Q2 U2 ∧ okR fr res c T2 n2 g2 R2 F2 Q2 U2 ∧ WF (t + 1) T2 n2 g2 R2 F2 Q2 U2 ∧ ∀ e, res = .inr e → E e :=
  ⟨.inr e, T, n, g, R, F, Q, U, fun N hN => ⟨K, I, P, N, 1, 6, hc N hN, by omega, by omega, hN⟩, ⟨v, _, M, hr, hR.thr _, if_pos rfl⟩, hW.step, fun e2 h2 => by cases h2; exact hE⟩
/-- a call that tells something -/
theorem sim_get {fn : cS → Option ((Int32 ⊕ Nat) × cS × Nat × Nat)} {fr : Option (Int32 × rS)} {E : Nat → Prop} {c : Nat → Int32} (v : Int32) (hR : RR f M T n g R F Q U) (hW : WF t T n g R F Q U) (hc : ∀ N, CR o b K I P N T n g R F Q U → fn (K, I, P, N) = some (.inl v, (K, I, P, N), 0, 0)) (hr : fr = some (v, upd f 54 0, M)) : ∃ res T2 n2 g2 R2 F2 Q2 U2, okC o b K I P T n g R F Q U fn res T2 n2 g2 R2 F2 Q2 U2 ∧ okR fr res c T2 n2 g2 R2 F2 Q2 U2 ∧ WF (t + 1) T2 n2 g2 R2 F2 Q2 U2 ∧ ∀ e, res = .inr e → E e :=
  ⟨.inl v, T, n, g, R, F, Q, U, fun N hN => ⟨K, I, P, N, 0, 0, hc N hN, by omega, by omega, hN⟩, ⟨v, _, M, hr, hR.thr _, if_pos rfl, rfl⟩, hW.step, fun e2 h2 => by cases h2⟩
/-- a call that does something -/
theorem sim_do {fn : cS → Option ((Int32 ⊕ Nat) × cS × Nat × Nat)} {fr : Option (Int32 × rS)} {E : Nat → Prop} {c : Nat → Int32} {T2 : List TyD} {n2 g2 : Nat} {R2 : Nat → Option RowD} {F2 : List FuD} {Q2 : List (Int32 × Int32)} {U2 : List UnD} (v : Int32) (hW : WF (t + 1) T2 n2 g2 R2 F2 Q2 U2) (hc : okC o b K I P T n g R F Q U fn (.inl v) T2 n2 g2 R2 F2 Q2 U2) (hr : ∃ f2 M2, fr = some (v, f2, M2) ∧ RR f2 M2 T2 n2 g2 R2 F2 Q2 U2 ∧ f2 54 = 0) : ∃ res T2 n2 g2 R2 F2 Q2 U2, okC o b K I P T n g R F Q U fn res T2 n2 g2 R2 F2 Q2 U2 ∧ okR fr res c T2 n2 g2 R2 F2 Q2 U2 ∧ WF (t + 1) T2 n2 g2 R2 F2 Q2 U2 ∧ ∀ e, res = .inr e → E e :=
  let ⟨f2, M2, h1, h2, h3⟩ := hr
  ⟨.inl v, T2, n2, g2, R2, F2, Q2, U2, hc, ⟨v, f2, M2, h1, h2, h3, rfl⟩, hW, fun e2 h2 => by cases h2⟩
/-! what the class asks of arguments -/
theorem tb_l {α β : Type} {v : α} {z : cS} {h : α → cS → Option ((β ⊕ Nat) × cS × Nat × Nat)} : tbind (some (.inl v, z, 0, 0)) h = h v z := ause_0
theorem tb_r {α β : Type} {e : Nat} {z : cS} {p q : Nat} {h : α → cS → Option ((β ⊕ Nat) × cS × Nat × Nat)} : tbind (some (.inr e, z, p, q)) h = some (.inr e, z, p, q) := rfl
theorem needType_t (h : CR o b K I P N T n g R F Q U) {i : Nat} (ht : i < T.length) : fX6_needType o (nI i) (K, I, P, N) = some (.inl (), (K, I, P, N), 0, 0) := by
  unfold fX6_needType
  rw [e_gR h.Ko, Option.bind_some, h.sf.2.1, e_rc h.K0, Option.bind_some, has_t h ht, Option.bind_some]
  rfl
theorem needType_f (h : CR o b K I P N T n g R F Q U) {x : Int32} (hx : x < 0 ∨ nI T.length ≤ x) : fX6_needType o x (K, I, P, N) = some (.inr 0, (K, I, P, N), 1, 6) := by
  unfold fX6_needType
  rw [e_gR h.Ko, Option.bind_some, h.sf.2.1, e_rc h.K0, Option.bind_some, has_f h hx, Option.bind_some]
  rfl
theorem needName_t {x : Int32} {z : cS} (h : isNm x) : fX6_needName x z = some (.inl (), z, 0, 0) := by
  obtain ⟨i, hi, rfl⟩ := h
  unfold fX6_needName
  rw [if_neg (nI_pos (by omega)), show (10 : Int32) = nI 10 from rfl, if_pos (nI_lt hi (by omega))]
theorem needName_f {x : Int32} {z : cS} (h : x < 0 ∨ nI 10 ≤ x) : fX6_needName x z = some (.inr 1, z, 1, 6) := by
  unfold fX6_needName
  by_cases h1 : x < 0
  · rw [if_pos h1]; rfl
  · rw [if_neg h1, if_neg (by have := h.resolve_left h1; rw [Int32.lt_iff_toInt_lt]; rw [Int32.le_iff_toInt_le] at this; exact Int.not_lt.mpr this)]; rfl
theorem needNumber_t {x : Int32} {z : cS} (h : isNum x) : fX6_needNumber x z = some (.inl (), z, 0, 0) := by
  unfold fX6_needNumber
  rw [if_neg h.1, if_pos (by have := h.2; rw [Int32.lt_iff_toInt_lt] at this; rw [Int32.le_iff_toInt_le]; exact Int.not_lt.mp this)]
theorem needNumber_f {x : Int32} {z : cS} (h : ¬ isNum x) : fX6_needNumber x z = some (.inr 1, z, 1, 6) := by
  unfold fX6_needNumber
  by_cases h1 : x < -10000
  · rw [if_pos h1]; rfl
  · rw [if_neg h1, if_neg (fun h2 => h ⟨h1, by rw [Int32.lt_iff_toInt_lt]; rw [Int32.le_iff_toInt_le] at h2; exact Int.not_lt.mpr h2⟩)]; rfl
theorem needRow_t {a : Nat} {z : cS} : fX6_needRow (some a) z = some (.inl (), z, 0, 0) := if_neg (fun e => by cases e)
theorem needRow_f {z : cS} : fX6_needRow none z = some (.inr 0, z, 1, 6) := if_pos rfl
/-! types: the reference -/
theorem tdK_ne (p : Nat) : ¬ tdK p none = 2 := by
  show ¬ (if p < 2 then (0 : Int32) else 1) = 2
  by_cases h : p < 2
  · rw [if_pos h]; decide
  · rw [if_neg h]; decide
theorem findsArrow_loop (h : RR f M T n g R F Q U) (hw : TyW T) (x y : Int32) : ∀ m fu p, p + m = T.length → m < fu → fX7_findsArrow_b5 fu x y (match (T.take p).findIdx? (fun e => decide (e = some (x, y))) with
    | some i => nI i
    | none => -1) (nI p) (f, M) = some (match T.findIdx? (fun e => decide (e = some (x, y))) with
    | some i => nI i
    | none => -1, f, M) := by
  obtain ⟨h1, h2, h3⟩ := h.ty
  intro m
  induction m with
  | zero =>
    intro fu p hp hf
    cases fu with
    | zero => omega
    | succ fu =>
      show fX7_findsArrow_b5_body _ x y _ (nI p) (f, M) = _
      unfold fX7_findsArrow_b5_body
      show (if f 0 ≤ nI p then _ else _) = _
      rw [h1, if_pos (nI_le (by omega) (by omega)), List.take_of_length_le (by omega)]
  | succ m ih =>
    intro fu p hp hf
    cases fu with
    | zero => omega
    | succ fu =>
      have hpl : p < T.length := by omega
      have hg := List.getElem?_eq_getElem hpl
      obtain ⟨e1, e2⟩ := h3 p _ hg
      have hn := ih fu (p + 1) (by omega) (by omega)
      have step : (T.take (p + 1)).findIdx? (fun e => decide (e = some (x, y))) = if T[p] = some (x, y) then some p else (T.take p).findIdx? (fun e => decide (e = some (x, y))) := by
        rw [← List.take_append_getElem hpl, List.findIdx?_append]
        by_cases c : T[p] = some (x, y)
        · rw [if_pos c]
          have : (T.take p).findIdx? (fun e => decide (e = some (x, y))) = none := by
            rw [List.findIdx?_eq_none_iff]
            intro e he
            refine decide_eq_false (fun hee => ?_)
            obtain ⟨q, hq⟩ := List.mem_iff_getElem?.mp he
            rw [List.getElem?_take] at hq
            split at hq
            · rw [hee] at hq
              have := hw.2.2.2.2 q p (x, y) hq (by rw [hg, c])
              omega
            · cases hq
          rw [this]
          simp [c]
          omega
        · rw [if_neg c]
          cases (T.take p).findIdx? (fun e => decide (e = some (x, y))) with
          | some i => rfl
          | none => simp [c]
      rw [step] at hn
      show fX7_findsArrow_b5_body _ x y _ (nI p) (f, M) = _
      unfold fX7_findsArrow_b5_body
      show (if f 0 ≤ nI p then _ else _) = _
      rw [h1, if_neg (nI_ge hpl (by omega)), r_rd 400 rfl (by omega) (by omega), Option.bind_some, e1]
      cases hx : T[p] with
      | none =>
        rw [hx, if_neg (fun e => by cases e)] at hn
        rw [if_neg (tdK_ne p)]
        unfold fX7_findsArrow_b52 fX7_findsArrow_b53
        rw [nI_1]
        exact hn
      | some q =>
        obtain ⟨a, c⟩ := q
        obtain ⟨e3, e4⟩ := e2 a c hx
        rw [hx] at hn
        rw [if_pos (show tdK p (some (a, c)) = 2 from rfl), r_rd 400 rfl (by omega) (by omega), Option.bind_some, e3]
        by_cases c1 : a = x
        · rw [if_pos c1, r_rd 400 rfl (by omega) (by omega), Option.bind_some, e4]
          by_cases c2 : c = y
          · rw [if_pos (by rw [c1, c2])] at hn
            rw [if_pos c2]
            unfold fX7_findsArrow_b53
            rw [nI_1]
            exact hn
          · rw [if_neg (fun e => c2 (by cases e; rfl))] at hn
            rw [if_neg c2]
            unfold fX7_findsArrow_b52 fX7_findsArrow_b53
            rw [nI_1]
            exact hn
        · rw [if_neg (fun e => c1 (by cases e; rfl))] at hn
          rw [if_neg c1]
          unfold fX7_findsArrow_b52 fX7_findsArrow_b53
          rw [nI_1]
          exact hn
theorem findsArrow_r (h : RR f M T n g R F Q U) (hw : TyW T) (x y : Int32) : fX7_findsArrow x y (f, M) = some (match fArr T x y with
    | some i => nI i
    | none => -1, f, M) := by
  have h2 := h.ty.2.1
  have := findsArrow_loop h hw x y T.length rFuel 0 (by omega) (by show T.length < 100000; omega)
  rw [List.take_zero] at this
  exact this
theorem upd_s {f : Nat → Int32} {k : Nat} {v : Int32} : upd f k v k = v := if_pos rfl
theorem upd_n {f : Nat → Int32} {k j : Nat} {v : Int32} (h : j ≠ k) : upd f k v j = f j := if_neg h
theorem makesType_r (h : RR f M T n g R F Q U) (hl : T.length < 390) (h2 : 2 ≤ T.length) (x : TyD) (a : Int32) (hk : a = tdK T.length x) (y z : Int32) (hyz : ∀ p q, x = some (p, q) → p = y ∧ q = z) : ∃ W, fX7_makesType a y z (f, M) = some (nI T.length, upd f 0 (nI (T.length + 1)), W) ∧ RR (upd f 0 (nI (T.length + 1))) W (T ++ [x]) n g R F Q U := by
  obtain ⟨h1, h3, h4⟩ := h.ty
  refine ⟨mup (mup (mup M 1 T.length a) 2 T.length y) 3 T.length z, ?_, ?_⟩
  · unfold fX7_makesType
    show Option.bind (rwr (f, M) 1 (f 0) a) _ = _
    rw [h1, r_wr 400 rfl (by omega) (by omega), Option.bind_some]
    show Option.bind (rwr (f, _) 2 (f 0) y) _ = _
    rw [h1, r_wr 400 rfl (by omega) (by omega), Option.bind_some]
    show Option.bind (rwr (f, _) 3 (f 0) z) _ = _
    rw [h1, r_wr 400 rfl (by omega) (by omega), Option.bind_some]
    show some (upd f 0 (f 0 + 1) 0 - 1, upd f 0 (f 0 + 1), _) = _
    rw [upd_s, h1, nI_1, nI_pred]
  · have hW : ∀ j, 3 < j → mup (mup (mup M 1 T.length a) 2 T.length y) 3 T.length z j = M j := fun j hj => by rw [mup_k (by omega), mup_k (by omega), mup_k (by omega)]
    refine ⟨⟨by rw [upd_s, List.length_append]; rfl, by simp; omega, fun t e he => ?_⟩, h.cn.congr (upd_n (by omega)) (upd_n (by omega)) (hW _ (by omega)) (hW _ (by omega)), h.rw.congr (fun j hj => hW j (by omega)), h.fu.congr (upd_n (by omega)) (fun j _ _ => hW j (by omega)), h.pk.congr (upd_n (by omega)) (hW _ (by omega)) (hW _ (by omega)), h.un.congr (upd_n (by omega)) (fun j _ _ => hW j (by omega)), (upd_n (by omega)).trans h.dp⟩
    rw [mup_k (show 1 ≠ 3 by omega), mup_k (show 1 ≠ 2 by omega), mup_k (show 2 ≠ 3 by omega)]
    by_cases ht : t < T.length
    · rw [List.getElem?_append_left ht] at he
      rw [mup_i (by omega), mup_i (by omega), mup_i (by omega), mup_k (show 2 ≠ 1 by omega), mup_k (show 3 ≠ 2 by omega), mup_k (show 3 ≠ 1 by omega)]
      exact h4 t e he
    · have hl2 := (List.getElem?_eq_some_iff.mp he).1
      have ht2 : t = T.length := by simp at hl2; omega
      subst ht2
      rw [List.getElem?_append_right (Nat.le_refl _), Nat.sub_self] at he
      cases he
      rw [mup_s, mup_s, mup_s]
      exact ⟨hk, fun p q hpq => ⟨(hyz p q hpq).1.symm, (hyz p q hpq).2.symm⟩⟩
theorem arrowOf_rr (h : RR f M T n g R F Q U) (hw : TyW T) (hl : T.length < 390) (x y : Int32) : ∃ f2 W, fX7_arrowOf x y (f, M) = some (nI (arN T x y), f2, W) ∧ RR f2 W (arT T x y) n g R F Q U ∧ ∀ j, j ≠ 0 → f2 j = f j := by
  unfold fX7_arrowOf
  rw [findsArrow_r h hw, Option.bind_some]
  unfold arN arT
  cases hf : fArr T x y with
  | some i =>
    have hil : i < T.length := by
      unfold fArr at hf
      exact (List.findIdx?_eq_some_iff_getElem.mp hf).1
    refine ⟨f, M, ?_, h, fun _ _ => rfl⟩
    show (if nI i = -1 then _ else fX7_arrowOf_b23 (nI i) (f, M)) = _
    rw [if_neg (nI_nm1 (by omega))]
    rfl
  | none =>
    obtain ⟨W, e1, e2⟩ := makesType_r h hl hw.1 (some (x, y)) 2 rfl x y (fun p q hq => by cases hq; exact ⟨rfl, rfl⟩)
    refine ⟨_, W, ?_, e2, fun j hj => upd_n hj⟩
    show (if (-1 : Int32) = -1 then Option.bind (fX7_makesType 2 x y (f, M)) _ else _) = _
    rw [if_pos rfl, e1, Option.bind_some]
    rfl
theorem TyW.addNone {T : List TyD} (h : TyW T) : TyW (T ++ [none]) := by
  obtain ⟨h1, h2, h3, h4, h5⟩ := h
  have key : ∀ (t : Nat) (x : Int32 × Int32), (T ++ [none])[t]? = some (some x) → T[t]? = some (some x) := by
    intro t x hx
    by_cases ht : t < T.length
    · rwa [List.getElem?_append_left ht] at hx
    · have hl2 := (List.getElem?_eq_some_iff.mp hx).1
      have ht2 : t = T.length := by simp at hl2; omega
      subst ht2
      rw [List.getElem?_append_right (Nat.le_refl _), Nat.sub_self] at hx
      cases hx
  refine ⟨by simp; omega, by rw [List.getElem?_append_left (by omega)]; exact h2, by rw [List.getElem?_append_left (by omega)]; exact h3, fun t x y hx => ?_, fun s t x hs ht => h5 s t x (key s x hs) (key t x ht)⟩
  obtain ⟨i, j, a, c, d, e⟩ := h4 t x y (key t _ hx)
  exact ⟨i, j, by simp; omega, by simp; omega, d, e⟩
theorem TyW.ar {T : List TyD} (h : TyW T) {i j : Nat} (hi : i < T.length) (hj : j < T.length) : TyW (arT T (nI i) (nI j)) := by
  unfold arT
  cases hf : fArr T (nI i) (nI j) with
  | some _ => exact h
  | none =>
    obtain ⟨h1, h2, h3, h4, h5⟩ := h
    have hno : ∀ (t : Nat), T[t]? ≠ some (some (nI i, nI j)) := by
      intro t ht
      unfold fArr at hf
      have := List.findIdx?_eq_none_iff.mp hf _ (List.mem_of_getElem? ht)
      exact of_decide_eq_false this rfl
    have key : ∀ (t : Nat) (x : Int32 × Int32), (T ++ [some (nI i, nI j)])[t]? = some (some x) → T[t]? = some (some x) ∨ (t = T.length ∧ x = (nI i, nI j)) := by
      intro t x hx
      by_cases ht : t < T.length
      · rw [List.getElem?_append_left ht] at hx; exact Or.inl hx
      · have hl2 := (List.getElem?_eq_some_iff.mp hx).1
        have ht2 : t = T.length := by simp at hl2; omega
        subst ht2
        rw [List.getElem?_append_right (Nat.le_refl _), Nat.sub_self] at hx
        cases hx
        exact Or.inr ⟨rfl, rfl⟩
    refine ⟨by simp; omega, by rw [List.getElem?_append_left (by omega)]; exact h2, by rw [List.getElem?_append_left (by omega)]; exact h3, fun t x y hx => ?_, fun s t x hs ht => ?_⟩
    · rcases key t _ hx with h6 | ⟨h6, h7⟩
      · obtain ⟨i, j, a, c, d, e⟩ := h4 t x y h6
        exact ⟨i, j, by simp; omega, by simp; omega, d, e⟩
      · cases h7
        exact ⟨i, j, by simp; omega, by simp; omega, rfl, rfl⟩
    · rcases key s _ hs with h6 | ⟨h6, h7⟩ <;> rcases key t _ ht with h8 | ⟨h8, h9⟩
      · exact h5 s t x h6 h8
      · subst h9; exact absurd h6 (hno s)
      · subst h7; exact absurd h8 (hno t)
      · omega
theorem arT_len {T : List TyD} {x y : Int32} : T.length ≤ (arT T x y).length := by
  unfold arT
  cases fArr T x y with
  | some _ => exact Nat.le_refl _
  | none => simp
theorem WF.types (h : WF t T n g R F Q U) {T2 : List TyD} (h1 : TyW T2) (h2 : T2.length ≤ 200) (h3 : T.length ≤ T2.length) : WF t T2 n g R F Q U := by
  obtain ⟨a, c, ⟨d1, d2⟩, e, r⟩ := h
  refine ⟨⟨h1, h2, a.2.2⟩, fun k hk => ?_, ⟨fun i hi => (d1 i hi).congr h3 (by have := a.2.2.2; omega) (fun _ _ => rfl) rfl, d2.congr h3 a.2.2.2 (fun _ _ => rfl) rfl⟩, fun i hi => ?_, r⟩
  · obtain ⟨L, w, p, q1, q2⟩ := c k hk
    exact ⟨L, w, p, q1, q2.mono h3 (Nat.le_refl _)⟩
  · obtain ⟨L, w, p, q1, q2⟩ := e i hi
    exact ⟨L, w, p, q1, q2.mono h3⟩
end Sims
