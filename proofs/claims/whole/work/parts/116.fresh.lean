/-! FINER: a struct that is made of no struct -/
def Corr (Y L : List En) (m : Nat) (T : List TyD) (Rel : Nat → Nat → Prop) : Prop :=
  (∀ (p : Nat) (e y : En), L[p]? = some e → Y[p]? = some y → e.1 = y.1 ∧ e.2.1 = y.2.1 ∧ e.2.2.2.1 = -100 ∧ (y.1 = 0 → y.2.2.1 = -100 → ∃ i, m ≤ i ∧ e.2.2.1 = nI i ∧ T[i]? = some none) ∧ (y.1 = 0 → y.2.2.1 ≠ -100 → e.2.2.1 = tyO L y.2.2.1) ∧ (y.1 = 1 → (y.2.2.2.1 = -100 → e.2.2.1 = tyO L y.2.2.1) ∧ (y.2.2.2.1 ≠ -100 → ∃ i, e.2.2.1 = nI i ∧ T[i]? = some (some (tyO L y.2.2.1, tyO L y.2.2.2.1)))) ∧ (y.1 = 2 → Rel (iN e.2.2.1) (iN y.2.2.1))) ∧
  ∀ (p q : Nat) (e f y z : En), L[p]? = some e → L[q]? = some f → Y[p]? = some y → Y[q]? = some z → y.1 = 0 → z.1 = 0 → y.2.2.1 = -100 → z.2.2.1 = -100 → e.2.2.1 = f.2.2.1 → p = q
def FrC (R : Nat → Option RowD) (g m n : Nat) (T : List TyD) (D : List (List En)) : Nat → Nat → Nat → Prop
  | 0, _, _ => False
  | k + 1, v, j => j < g ∧ ∃ L, n ≤ v ∧ D[v - n]? = some L ∧ L.length = (sgL R j).length ∧ Corr (sgL R j) L m T (FrC R g m n T D k)
section Fresh
variable {m n g k u q n0 c : Nat} {T T2 : List TyD} {D D2 : List (List En)} {R : Nat → Option RowD} {Rel Rel2 : Nat → Nat → Prop} {Y L : List En} {y : En} {num : Int32}
theorem pre_get {α : Type} {A B : List α} (h : A <+: B) {i : Nat} {x : α} (hx : A[i]? = some x) : B[i]? = some x := by
  obtain ⟨E, rfl⟩ := h
  rw [List.getElem?_append_left (List.getElem?_eq_some_iff.mp hx).1]
  exact hx
theorem Corr.mono (h : Corr Y L m T Rel) (hT : T <+: T2) (hr : ∀ v j, Rel v j → Rel2 v j) : Corr Y L m T2 Rel2 := by
  refine ⟨fun p e y he hy => ?_, h.2⟩
  obtain ⟨a1, a2, a3, a4, a5, a6, a7⟩ := h.1 p e y he hy
  refine ⟨a1, a2, a3, fun h1 h2 => ?_, a5, fun h1 => ⟨(a6 h1).1, fun h2 => ?_⟩, fun h1 => hr _ _ (a7 h1)⟩
  · obtain ⟨i, i1, i2, i3⟩ := a4 h1 h2
    exact ⟨i, i1, i2, pre_get hT i3⟩
  · obtain ⟨i, i1, i2⟩ := (a6 h1).2 h2
    exact ⟨i, i1, pre_get hT i2⟩
theorem FrC.mono (hT : T <+: T2) (hD : D <+: D2) : ∀ k v j, FrC R g m n T D k v j → FrC R g m n T2 D2 k v j := by
  intro k
  induction k with
  | zero => intro v j h; exact h
  | succ k ih =>
    intro v j h
    obtain ⟨h1, L, h2, h3, h4, h5⟩ := h
    exact ⟨h1, L, h2, pre_get hD h3, h4, h5.mono hT ih⟩
theorem arT_at {a b : Int32} : (arT T a b)[arN T a b]? = some (some (a, b)) := by
  unfold arT arN
  cases h : fArr T a b with
  | some i =>
    obtain ⟨hl, h1, -⟩ := List.findIdx?_eq_some_iff_getElem.mp h
    show T[i]? = _
    rw [List.getElem?_eq_getElem hl, of_decide_eq_true h1]
  | none =>
    show (T ++ [some (a, b)])[T.length]? = _
    rw [List.getElem?_append_right (Nat.le_refl _), Nat.sub_self]
    rfl
/-- what can be looked up in a row -/
def rz (L : List En) (t : Int32) : Prop := (∃ j, j < 2 ^ 31 ∧ t = nI j) ∨ ∃ nm, isNm nm ∧ plc L 0 nm ≠ none ∧ t = -1 - nm
theorem tyO_ext {m1 k1 m2 k2 : Nat} {x : En} (h1 : WfS m1 k1 L) (h2 : WfS m2 k2 (L ++ [x])) (hm : m1 < 2 ^ 31) (hm2 : m2 < 2 ^ 31) {t : Int32} (ht : rz L t) : tyO (L ++ [x]) t = tyO L t := by
  rcases ht with ⟨j, hj, rfl⟩ | ⟨nm, hn, hp, rfl⟩
  · rw [tyO_nI hj, tyO_nI hj]
  · cases hq : plc L 0 nm with
    | none => exact absurd hq hp
    | some p =>
      obtain ⟨e, i, e1, e2, e3, -, e4, e5, -⟩ := tyO_nm h1 hm hn hq
      have hl := (List.getElem?_eq_some_iff.mp e1).1
      have hg : (L ++ [x])[p]? = some e := by rw [List.getElem?_append_left hl]; exact e1
      have hq2 : plc (L ++ [x]) 0 nm = some p := plc_of h2.1 hg e2 e3
      obtain ⟨e', i', f1, f2, f3, -, f4, f5, -⟩ := tyO_nm h2 hm2 hn hq2
      rw [hg] at f1
      cases f1
      rw [e5, f5, ← e4, ← f4]
theorem rz_of {i p : Nat} {t : Int32} (hY : WfG m i Y) (hm : m < 2 ^ 31) (hl : p ≤ L.length) (hn : ∀ (r : Nat) (e y : En), L[r]? = some e → Y[r]? = some y → e.1 = y.1 ∧ e.2.1 = y.2.1) (ht : tOK m Y p t) : rz L t := by
  rcases ht with ⟨j, hj, rfl⟩ | ⟨r, y, hr, hy, h0, rfl⟩
  · exact Or.inl ⟨j, by omega, rfl⟩
  · refine Or.inr ⟨y.2.1, (hY.2 r y hy).1, fun hp => ?_, rfl⟩
    obtain ⟨e, he⟩ : ∃ e, L[r]? = some e := ⟨_, List.getElem?_eq_getElem (by omega)⟩
    obtain ⟨y1, y2⟩ := hn r e y he hy
    exact plc_none hp e (List.mem_of_getElem? he) ⟨by rw [y1, h0], y2⟩
theorem rz_app {x : En} {t : Int32} (h : rz L t) : rz (L ++ [x]) t := by
  rcases h with h | ⟨nm, h1, h2, h3⟩
  · exact Or.inl h
  · refine Or.inr ⟨nm, h1, fun hp => h2 (plc_of_none (fun e he => plc_none hp e (List.mem_append_left _ he))), h3⟩
/-- what is told by a spec, at its place -/
theorem gE_told {i p : Nat} {e : En} (h : gE m i Y p e) (h0 : e.1 = 0 ∨ e.1 = 1) (hn : e.1 = 0 → e.2.2.1 ≠ -100) : tOK m Y p e.2.2.1 ∧ (e.2.2.2.1 ≠ -100 → tOK m Y p e.2.2.2.1) := by
  rcases h.2.2.2 with ⟨a, b, c⟩ | ⟨a, b, c⟩ | ⟨a, -⟩
  · exact ⟨c.resolve_left (hn a), fun h => absurd b h⟩
  · exact ⟨b, fun h => c.resolve_left h⟩
  · rcases h0 with h | h <;> rw [h] at a <;> exact absurd a (by decide)
theorem corr_step {i k1 k2 : Nat} (hY : WfG m i Y) (hm : m ≤ T.length) (hT2 : T2.length < 2 ^ 31) (hl : L.length = q) (hn : ∀ (r : Nat) (e y : En), L[r]? = some e → Y[r]? = some y → e.1 = y.1 ∧ e.2.1 = y.2.1) (hL : WfS T.length k1 L) (hL2 : WfS T2.length k2 (L ++ [(y.1, y.2.1, nI c, -100, num, -1)])) (hy : Y[q]? = some y) (hC : Corr Y L m T Rel) (hT : T <+: T2) (hr : ∀ v j, Rel v j → Rel2 v j) (hc : c < 2 ^ 31) (c0 : y.1 = 0 → y.2.2.1 = -100 → T.length ≤ c ∧ T2[c]? = some none) (c1 : y.1 = 0 → y.2.2.1 ≠ -100 → nI c = tyO L y.2.2.1) (c2 : y.1 = 1 → (y.2.2.2.1 = -100 → nI c = tyO L y.2.2.1) ∧ (y.2.2.2.1 ≠ -100 → T2[c]? = some (some (tyO L y.2.2.1, tyO L y.2.2.2.1)))) (c3 : y.1 = 2 → Rel2 c (iN y.2.2.1)) : Corr Y (L ++ [(y.1, y.2.1, nI c, -100, num, -1)]) m T2 Rel2 := by
  have hpl := hT.length_le
  have ext : ∀ t, rz L t → tyO (L ++ [(y.1, y.2.1, nI c, -100, num, -1)]) t = tyO L t := fun t ht => tyO_ext hL hL2 (by omega) hT2 ht
  have tol : ∀ (p : Nat) (z : En), p ≤ q → Y[p]? = some z → (z.1 = 0 ∨ z.1 = 1) → (z.1 = 0 → z.2.2.1 ≠ -100) → tyO (L ++ [(y.1, y.2.1, nI c, -100, num, -1)]) z.2.2.1 = tyO L z.2.2.1 ∧ (z.2.2.2.1 ≠ -100 → tyO (L ++ [(y.1, y.2.1, nI c, -100, num, -1)]) z.2.2.2.1 = tyO L z.2.2.2.1) := fun p z hp hz h0 h1 => by
    obtain ⟨t1, t2⟩ := gE_told (hY.2 p z hz) h0 h1
    exact ⟨ext _ (rz_of hY (by omega) (by omega) hn t1), fun h => ext _ (rz_of hY (by omega) (by omega) hn (t2 h))⟩
  refine ⟨fun p e z he hz => ?_, fun p r e f z w he hf hz hw z0 w0 z1 w1 hef => ?_⟩
  · rcases app_get he with ⟨p1, p2⟩ | ⟨p1, p2⟩
    · obtain ⟨a1, a2, a3, a4, a5, a6, a7⟩ := hC.1 p e z p2 hz
      refine ⟨a1, a2, a3, fun h1 h2 => ?_, fun h1 h2 => ?_, fun h1 => ⟨fun h2 => ?_, fun h2 => ?_⟩, fun h1 => hr _ _ (a7 h1)⟩
      · obtain ⟨i, i1, i2, i3⟩ := a4 h1 h2
        exact ⟨i, i1, i2, pre_get hT i3⟩
      · rw [(tol p z (by omega) hz (Or.inl h1) (fun _ => h2)).1]
        exact a5 h1 h2
      · rw [(tol p z (by omega) hz (Or.inr h1) (fun h => by rw [h1] at h; exact absurd h (by decide))).1]
        exact (a6 h1).1 h2
      · obtain ⟨t1, t2⟩ := tol p z (by omega) hz (Or.inr h1) (fun h => by rw [h1] at h; exact absurd h (by decide))
        obtain ⟨i, i1, i2⟩ := (a6 h1).2 h2
        rw [t1, t2 h2]
        exact ⟨i, i1, pre_get hT i2⟩
    · rw [p1, hl, hy] at hz
      cases hz
      rw [p2]
      refine ⟨rfl, rfl, rfl, fun h1 h2 => ?_, fun h1 h2 => ?_, fun h1 => ⟨fun h2 => ?_, fun h2 => ?_⟩, fun h1 => ?_⟩
      · obtain ⟨d1, d2⟩ := c0 h1 h2
        exact ⟨c, by omega, rfl, d2⟩
      · rw [(tol q y (Nat.le_refl _) hy (Or.inl h1) (fun _ => h2)).1]
        exact c1 h1 h2
      · rw [(tol q y (Nat.le_refl _) hy (Or.inr h1) (fun h => by rw [h1] at h; exact absurd h (by decide))).1]
        exact (c2 h1).1 h2
      · obtain ⟨t1, t2⟩ := tol q y (Nat.le_refl _) hy (Or.inr h1) (fun h => by rw [h1] at h; exact absurd h (by decide))
        rw [t1, t2 h2]
        exact ⟨c, rfl, (c2 h1).2 h2⟩
      · show Rel2 (iN (nI c)) (iN y.2.2.1)
        rw [iN_nI hc]
        exact c3 h1
  · have old : ∀ (p : Nat) (e z : En), L[p]? = some e → Y[p]? = some z → z.1 = 0 → z.2.2.1 = -100 → ∃ i, i < T.length ∧ e.2.2.1 = nI i := fun p e z he hz h0 h1 => by
      obtain ⟨-, -, -, a4, -⟩ := hC.1 p e z he hz
      obtain ⟨i, i1, i2, i3⟩ := a4 h0 h1
      exact ⟨i, (List.getElem?_eq_some_iff.mp i3).1, i2⟩
    rcases app_get he with ⟨p1, p2⟩ | ⟨p1, p2⟩ <;> rcases app_get hf with ⟨r1, r2⟩ | ⟨r1, r2⟩
    · exact hC.2 p r e f z w p2 r2 hz hw z0 w0 z1 w1 hef
    · rw [r1, hl, hy] at hw
      cases hw
      obtain ⟨d1, d2⟩ := c0 w0 w1
      obtain ⟨j, j1, j2⟩ := old p e z p2 hz z0 z1
      rw [r2, j2] at hef
      have := (nI_eq (by omega) hc).mp hef
      omega
    · rw [p1, hl, hy] at hz
      cases hz
      obtain ⟨d1, d2⟩ := c0 z0 z1
      obtain ⟨j, j1, j2⟩ := old r f w r2 hw w0 w1
      rw [p2, j2] at hef
      have := (nI_eq hc (by omega)).mp hef
      omega
    · omega
theorem mkL_fr (hR : gdR R n0 g m) {rec : Option Nat → Nat → MkS → MkS} (hu : u < g) (hrec : ∀ s' j st, j < u → gdU false R n0 g s' j → gdS n0 m st → st.1.length + wOf R j ≤ 390 → n0 + st.2.length + pOf R j + 1 < 2 ^ 30 → gdS n0 m (rec s' j st) ∧ gdW st (rec s' j st) (wOf R j) (pOf R j + 1)) (hfr : ∀ j st, j < u → gdS n0 m st → st.1.length + wOf R j ≤ 390 → n0 + st.2.length + pOf R j + 1 < 2 ^ 30 → FrC R g m n0 (rec none j st).1 (rec none j st).2 k (n0 + (rec none j st).2.length - 1) j) : ∀ cnt q L st, q + cnt = (sgL R u).length → gdS n0 m st → gdL (sgL R u) L n0 q st → st.1.length + sumW R ((sgL R u).drop q) ≤ 390 → n0 + st.2.length + sumP R ((sgL R u).drop q) < 2 ^ 30 → Corr (sgL R u) L m st.1 (FrC R g m n0 st.1 st.2 k) → Corr (sgL R u) (mkL rec false n0 (Option.map (stR R) none) ((sgL R u).drop q) L st).1 m (mkL rec false n0 (Option.map (stR R) none) ((sgL R u).drop q) L st).2.1 (FrC R g m n0 (mkL rec false n0 (Option.map (stR R) none) ((sgL R u).drop q) L st).2.1 (mkL rec false n0 (Option.map (stR R) none) ((sgL R u).drop q) L st).2.2 k) := by
  have hU : ∀ j, j < g → gdU false R n0 g none j := fun j hj => ⟨hj, (fun h => nomatch h), (fun s' h => nomatch h)⟩
  have h20 := hR.1
  intro cnt
  induction cnt with
  | zero =>
    intro q L st hq hst hL h1 h2 hC
    rw [List.drop_eq_nil_of_le (by omega)]
    exact hC
  | succ cnt ih =>
    intro q L st hq hst hL h1 h2 hC
    have hql : q < (sgL R u).length := by omega
    have hg := List.getElem?_eq_getElem hql
    obtain ⟨x, hE⟩ := mk_E hR (hU u hu) hst hL hql
    obtain ⟨d1, d2⟩ := sumW_drop (R := R) hql
    rw [d1] at h1
    rw [d2] at h2
    obtain ⟨g1, g2, g3, g4⟩ := mk_step hR hu hrec hst hL hg hE (by omega) (by omega)
    have em : mkL rec false n0 (Option.map (stR R) none) ((sgL R u).drop q) L st = mkL rec false n0 (Option.map (stR R) none) ((sgL R u).drop (q + 1)) (L ++ [((sgL R u)[q].1, (sgL R u)[q].2.1, nI (mkN rec false n0 (Option.map (stR R) none) x (sgL R u)[q] L st).1, -100, x.2.2.2.2.1, -1)]) (mkN rec false n0 (Option.map (stR R) none) x (sgL R u)[q] L st).2 := by
      rw [List.drop_eq_getElem_cons hql]
      show (match mkX (Option.map (stR R) none) (sgL R u)[q] with
        | none => (L, st)
        | some x => mkL rec false n0 (Option.map (stR R) none) ((sgL R u).drop (q + 1)) (L ++ [((sgL R u)[q].1, (sgL R u)[q].2.1, nI (mkN rec false n0 (Option.map (stR R) none) x (sgL R u)[q] L st).1, -100, x.2.2.2.2.1, -1)]) (mkN rec false n0 (Option.map (stR R) none) x (sgL R u)[q] L st).2) = _
      rw [hE.1]
    have wt1 := g2.2.1
    have s5 : (mkN rec false n0 (Option.map (stR R) none) x (sgL R u)[q] L st).2.2.length = st.2.length + pt R (sgL R u)[q] := by
      obtain ⟨-, -, E, a3, a4⟩ := g2
      rw [a3, List.length_append, a4]
    rw [em]
    refine ih (q + 1) _ _ (by omega) g1 g3 (by omega) (by omega) ?_
    obtain ⟨w1, w2, E, w3, w4⟩ := g2
    have hpl := w1.length_le
    have hDp : st.2 <+: (mkN rec false n0 (Option.map (stR R) none) x (sgL R u)[q] L st).2.2 := ⟨E, w3.symm⟩
    have h391 := g1.2.2.1
    have hm := hst.2.1
    generalize (sgL R u)[q] = y at *
    refine corr_step (hR.2.2.2 u hu).1 hst.2.1 (by omega) hL.1 hL.2.1 hL.2.2 g3.2.2 hg hC w1 (FrC.mono w1 hDp k) (by omega) (fun k0 k1 => ?_) (fun k0 k1 => ?_) (fun k0 => ⟨fun k1 => ?_, fun k1 => ?_⟩) (fun k0 => ?_)
    · have n2 : y.1 ≠ 2 := by rw [k0]; exact i02
      have emk : mkN rec false n0 (Option.map (stR R) none) x y L st = ((mkT false L x y st.1).1, (mkT false L x y st.1).2, st.2) := if_neg n2
      have et : mkT false L x y st.1 = (st.1.length, st.1 ++ [none]) := by unfold mkT; rw [if_pos k1, if_neg (by decide)]
      rw [emk, et]
      refine ⟨Nat.le_refl _, ?_⟩
      show (st.1 ++ [none])[st.1.length]? = some none
      rw [List.getElem?_append_right (Nat.le_refl _), Nat.sub_self]
      rfl
    · rcases hE.2.2.2.2 with ⟨k2, -⟩ | ⟨-, k2, -⟩ | ⟨-, k2, ⟨j, j1, j2, -⟩, k3⟩
      · rw [k0] at k2; exact absurd k2 (by decide)
      · exact absurd k2 k1
      · have n2 : y.1 ≠ 2 := by rw [k0]; exact i02
        have emk : mkN rec false n0 (Option.map (stR R) none) x y L st = ((mkT false L x y st.1).1, (mkT false L x y st.1).2, st.2) := if_neg n2
        have hto : y.2.2.2.1 = -100 := by
          rcases k3 with h | ⟨h, -⟩
          · exact h
          · rw [k0] at h; exact absurd h (by decide)
        have et : mkT false L x y st.1 = (j, st.1) := by unfold mkT; rw [if_neg k1, if_pos hto, j2, iN_nI (by omega)]
        rw [emk, et, j2]
    · rcases hE.2.2.2.2 with ⟨k2, -⟩ | ⟨k2, -⟩ | ⟨-, k2, ⟨j, j1, j2, -⟩, k3⟩
      · rw [k0] at k2; exact absurd k2 (by decide)
      · rw [k0] at k2; exact absurd k2 (by decide)
      · have n2 : y.1 ≠ 2 := by rw [k0]; exact i12
        have emk : mkN rec false n0 (Option.map (stR R) none) x y L st = ((mkT false L x y st.1).1, (mkT false L x y st.1).2, st.2) := if_neg n2
        have et : mkT false L x y st.1 = (j, st.1) := by unfold mkT; rw [if_neg k2, if_pos k1, j2, iN_nI (by omega)]
        rw [emk, et, j2]
    · rcases hE.2.2.2.2 with ⟨k2, -⟩ | ⟨k2, -⟩ | ⟨-, k2, -, k3⟩
      · rw [k0] at k2; exact absurd k2 (by decide)
      · rw [k0] at k2; exact absurd k2 (by decide)
      · have n2 : y.1 ≠ 2 := by rw [k0]; exact i12
        have emk : mkN rec false n0 (Option.map (stR R) none) x y L st = ((mkT false L x y st.1).1, (mkT false L x y st.1).2, st.2) := if_neg n2
        have et : mkT false L x y st.1 = (arN st.1 (tyO L y.2.2.1) (tyO L y.2.2.2.1), arT st.1 (tyO L y.2.2.1) (tyO L y.2.2.2.1)) := by unfold mkT; rw [if_neg k2, if_neg k1]
        rw [emk, et]
        exact arT_at
    · rcases hE.2.2.2.2 with ⟨-, j, j1, j2, j3, -⟩ | ⟨k2, -⟩ | ⟨k2, -⟩
      · have ew : wt R y = 1 + wOf R j := by unfold wt; rw [if_pos k0, j2, iN_nI (by omega)]
        have ep : pt R y = 1 + pOf R j := by unfold pt; rw [if_pos k0, j2, iN_nI (by omega)]
        have emk : mkN rec false n0 (Option.map (stR R) none) x y L st = (n0 + (rec none j st).2.length - 1, rec none j st) := by
          unfold mkN
          rw [if_pos k0, j2, iN_nI (by omega)]
          rfl
        rw [emk, j2, iN_nI (by omega)]
        exact hfr j st j1 hst (by omega) (by omega)
      · rw [k0] at k2; exact absurd k2 (by decide)
      · rw [k0] at k2; exact absurd k2 (by decide)
theorem mk_fr (hR : gdR R n0 g m) : ∀ k u st, u < k → u < g → gdS n0 m st → st.1.length + wOf R u ≤ 390 → n0 + st.2.length + pOf R u + 1 < 2 ^ 30 → FrC R g m n0 (mk false n0 R k none u st).1 (mk false n0 R k none u st).2 k (n0 + (mk false n0 R k none u st).2.length - 1) u := by
  intro k
  induction k with
  | zero => intro u st h; omega
  | succ k ih =>
    intro u st hk hu hst h1 h2
    obtain ⟨-, ew, ep, -⟩ := hR.2.2.2 u hu
    have hU : gdU false R n0 g none u := ⟨hu, (fun h => nomatch h), (fun s' h => nomatch h)⟩
    have hL0 : gdL (sgL R u) [] n0 0 st := ⟨rfl, fun r e y h => by simp at h, WfS.nil⟩
    have hrec : ∀ s' j st, j < u → gdU false R n0 g s' j → gdS n0 m st → st.1.length + wOf R j ≤ 390 → n0 + st.2.length + pOf R j + 1 < 2 ^ 30 → gdS n0 m (mk false n0 R k s' j st) ∧ gdW st (mk false n0 R k s' j st) (wOf R j) (pOf R j + 1) := fun s' j st hj => mk_ok hR k s' j st (by omega)
    obtain ⟨r1, r2, r3⟩ := mkL_ok hR hU hrec (sgL R u).length 0 [] st (by omega) hst hL0 (by rw [List.drop_zero]; omega) (by rw [List.drop_zero]; omega)
    have hfr := mkL_fr (k := k) hR hu hrec (fun j st hj a1 a2 a3 => ih j st (by omega) (by omega) a1 a2 a3) (sgL R u).length 0 [] st (by omega) hst hL0 (by rw [List.drop_zero]; omega) (by rw [List.drop_zero]; omega) ⟨fun p e y h => by simp at h, fun p q e f y z h => by simp at h⟩
    rw [List.drop_zero] at r1 r2 r3 hfr
    show FrC R g m n0 (mkL (mk false n0 R k) false n0 (Option.map (stR R) none) (sgL R u) [] st).2.1 ((mkL (mk false n0 R k) false n0 (Option.map (stR R) none) (sgL R u) [] st).2.2 ++ [(mkL (mk false n0 R k) false n0 (Option.map (stR R) none) (sgL R u) [] st).1]) (k + 1) (n0 + ((mkL (mk false n0 R k) false n0 (Option.map (stR R) none) (sgL R u) [] st).2.2 ++ [(mkL (mk false n0 R k) false n0 (Option.map (stR R) none) (sgL R u) [] st).1]).length - 1) u
    generalize mkL (mk false n0 R k) false n0 (Option.map (stR R) none) (sgL R u) [] st = r at *
    have hlen : (r.2.2 ++ [r.1]).length = r.2.2.length + 1 := by simp
    refine ⟨hu, r.1, by omega, ?_, r3.1, hfr.mono (List.prefix_refl _) (FrC.mono (List.prefix_refl _) (List.prefix_append _ _) k)⟩
    rw [hlen, show n0 + (r.2.2.length + 1) - 1 - n0 = r.2.2.length by omega, List.getElem?_append_right (Nat.le_refl _), Nat.sub_self]
    rfl
end Fresh
