/-! MATCHING: the reference; match -/
section Match
variable {o b t : Nat} {K : Nat → Option (Nat × Nat)} {I : Nat → Nat → Int32} {P : Nat → Nat → Option Nat} {N0 N a : Nat} {f : Nat → Int32} {M : Nat → Nat → Int32} {T : List TyD} {n g : Nat} {R : Nat → Option RowD} {F : List FuD} {Q : List (Int32 × Int32)} {U : List UnD} {L X Y : List En}
/-- the structs, as both have them -/
def wfSt (R : Nat → Option RowD) (m n : Nat) : Prop := n ≤ 95 ∧ m ≤ 390 ∧ ∀ s, s < n → ∃ L w p, R s = some (L, w, p) ∧ WfS m n L
theorem WF.wfSt (h : WF t T n g R F Q U) : wfSt R T.length n := ⟨by have := h.1.2.2.1; omega, by have := h.1.2.1; omega, fun s hs => h.str (Or.inl hs)⟩
theorem wfSt.rw {m : Nat} (h : wfSt R m n) {s : Nat} (hs : s < n) : ∃ w p, R s = some (stR R s, w, p) ∧ WfS m n (stR R s) := by
  obtain ⟨L, w, p, h1, h2⟩ := h.2.2 s hs
  have : stR R s = L := by unfold stR; rw [h1]
  rw [this]
  exact ⟨w, p, h1, h2⟩
theorem neg_ge {x : Int32} : x < 0 ↔ ¬ 0 ≤ x := by rw [Int32.lt_iff_toInt_lt, Int32.le_iff_toInt_le]; omega
/-- what is told, by the types of a struct: both mean the same -/
theorem tyF_nn {k : Nat} {x : Int32} (h : 0 ≤ x) : tyF k X x = x := by
  cases k with
  | zero => rfl
  | succ k => exact if_pos h
theorem nI_n100 {i : Nat} (h : i < 2 ^ 31) : nI i ≠ -100 := fun e => by
  have h1 := nI_toInt h
  rw [e] at h1
  have h2 : ((-100 : Int32)).toInt = -100 := by decide
  omega
theorem tyO_nI {i : Nat} (h : i < 2 ^ 31) : tyO X (nI i) = nI i := (if_neg (nI_n100 h)).trans (tyF_nn (nI_pos' h))
theorem tyO_nm {m k : Nat} (hX : WfS m k X) (hm : m < 2 ^ 31) {nm : Int32} (hn : isNm nm) {p : Nat} (hp : plc X 0 nm = some p) : ∃ e i, X[p]? = some e ∧ e.1 = 0 ∧ e.2.1 = nm ∧ i < m ∧ e.2.2.1 = nI i ∧ tyO X (-1 - nm) = nI i ∧ mnt X (-1 - nm) = nI i := by
  obtain ⟨e, h1, h2, h3⟩ := plc_some hp
  obtain ⟨i, hi, hi2⟩ := (hX.2 p e h1).2.2.2.1 (by rw [h2]; exact i02)
  refine ⟨e, i, h1, h2, h3, hi, hi2, ?_, ?_⟩
  · rw [show tyO X (-1 - nm) = tyF 11 X (-1 - nm) from if_neg (nm_100 hn)]
    show (if 0 ≤ (-1 - nm : Int32) then (-1 - nm : Int32) else match plc X 0 (-1 - (-1 - nm)) with
      | none => -200
      | some p => match X[p]? with
        | none => -200
        | some e => if e.2.2.1 = -100 then (-1 - nm : Int32) else tyF 10 X e.2.2.1) = nI i
    rw [if_neg (neg_ge.mp (nm_neg hn)), m1m1, hp]
    show (match X[p]? with
        | none => (-200 : Int32)
        | some e => if e.2.2.1 = -100 then (-1 - nm : Int32) else tyF 10 X e.2.2.1) = nI i
    rw [h1]
    show (if e.2.2.1 = -100 then (-1 - nm : Int32) else tyF 10 X e.2.2.1) = nI i
    rw [hi2, if_neg (nI_n100 (by omega)), tyF_nn (nI_pos' (by omega))]
  · unfold mnt
    rw [if_pos (nm_neg hn), m1m1, hp]
    show (match X[p]? with
        | none => (-1 : Int32)
        | some e => e.2.2.1) = nI i
    rw [h1]
    exact hi2
/-- what a spec tells can be told by a struct that has all type names ahead of it -/
def tells (X Y : List En) (q : Nat) : Prop := ∀ (r : Nat) (e : En), r < q → Y[r]? = some e → e.1 = 0 → plc X 0 e.2.1 ≠ none
theorem told_ok {m k m2 i q : Nat} (hX : WfS m k X) (hm : m < 2 ^ 31) (hm2 : m2 < 2 ^ 31) (hY : WfG m2 i Y) (ht : tells X Y q) {x : Int32} (hx : tOK m2 Y q x) : ∃ j, j < 2 ^ 31 ∧ tyO X x = nI j ∧ mnt X x = nI j ∧ x ≠ -100 ∧ (j < m ∨ (j < m2 ∧ x = nI j)) := by
  rcases hx with ⟨j, hj, rfl⟩ | ⟨r, e, h1, h2, h3, rfl⟩
  · exact ⟨j, by omega, tyO_nI (by omega), if_neg (nI_pos (by omega)), nI_n100 (by omega), Or.inr ⟨hj, rfl⟩⟩
  · have hn := (hY.2 r e h2).1
    cases hp : plc X 0 e.2.1 with
    | none => exact absurd hp (ht r e h1 h2 h3)
    | some p =>
      obtain ⟨y, j, -, -, -, hj, -, h5, h6⟩ := tyO_nm hX hm hn hp
      exact ⟨j, by omega, h5, h6, nm_100 hn, Or.inl hj⟩
theorem tyd_inj (hw : TyW T) (h31 : T.length < 2 ^ 31) {i j : Nat} (hi : i < T.length) (hj : j < T.length) : nrm T (nI i) (-100) = nrm T (nI j) (-100) ↔ nI i = nI j := by
  constructor
  · intro h
    have e1 := tyd_t h31 (List.getElem?_eq_getElem hi)
    have e2 := tyd_t h31 (List.getElem?_eq_getElem hj)
    unfold nrm at h
    rw [if_pos rfl, if_pos rfl, e1, e2] at h
    cases h3 : T[i] with
    | none =>
      rw [h3] at h
      cases h4 : T[j] with
      | none => rw [h4] at h; exact Sum.inl.inj h
      | some y => rw [h4] at h; cases h
    | some x =>
      rw [h3] at h
      cases h4 : T[j] with
      | none => rw [h4] at h; cases h
      | some y =>
        rw [h4] at h
        have hxy : x = y := Sum.inr.inj h
        have := hw.2.2.2.2 i j x (by rw [List.getElem?_eq_getElem hi, h3]) (by rw [List.getElem?_eq_getElem hj, h4, hxy])
        rw [this]
  · intro h; rw [h]
theorem fit_eq (hw : TyW T) (h31 : T.length ≤ 390) {k m2 i p q : Nat} (hX : WfS T.length k X) (hm2 : m2 ≤ T.length) (hY : WfG m2 i Y) (ht : tells X Y q) {m e : En} (hm : X[p]? = some m) (he : Y[q]? = some e) (h1 : m.1 = e.1) (h2 : m.2.1 = e.2.1) (h3 : e.1 ≠ 2) : fitC T X m e = fitS T X m e := by
  have hE := hY.2 q e he
  obtain ⟨j, hj, hj2⟩ := (hX.2 p m hm).2.2.2.1 (by rw [h1]; exact h3)
  have hto := (hX.2 p m hm).2.2.2.2.1
  unfold fitC fitS
  by_cases h0 : e.1 = 0
  · rw [if_pos h0, if_pos h0]
    have hp := plc_of hX.1 hm (h1.trans h0) h2
    obtain ⟨y, l, y1, y2, y3, hl, hl2, h5, h6⟩ := tyO_nm hX (by omega) hE.1 hp
    have hym : y = m := by rw [hm] at y1; cases y1; rfl
    rw [h5, hj2]
    have hjl : nI l = nI j := by rw [← hl2, hym, hj2]
    rw [hjl]
    rcases hE.2.2.2 with ⟨-, -, h⟩ | ⟨h, -⟩ | ⟨h, -⟩
    · rcases h with h | h
      · rw [decide_eq_true (Or.inl h), decide_eq_true (Or.inl h)]
      · obtain ⟨r, -, r1, r2, r3, -⟩ := told_ok hX (by omega) (by omega) hY ht h
        rw [r1, r2]
        exact decide_eq_decide.mpr ⟨fun h => h.imp_right Eq.symm, fun h => h.imp_right Eq.symm⟩
    · exact absurd (h0.symm.trans h) i01
    · exact absurd h h3
  · rw [if_neg h0, if_neg h0]
    have h7 : ∃ y, y = e.2.2.1 ∧ tOK m2 Y q y ∧ (e.2.2.2.1 = -100 ∨ tOK m2 Y q e.2.2.2.1) := by
      rcases hE.2.2.2 with ⟨h, -⟩ | ⟨-, h, h4⟩ | ⟨h, -⟩
      · exact absurd h h0
      · exact ⟨_, rfl, h, h4⟩
      · exact absurd h h3
    obtain ⟨y, rfl, hy, hz⟩ := h7
    obtain ⟨r, hr, r1, r2, -, r4⟩ := told_ok hX (by omega) (by omega) hY ht hy
    have hrT : r < T.length := by rcases r4 with h | ⟨h, -⟩ <;> omega
    have e1 : tyT X m.2.2.2.1 = -100 := by rw [hto]; exact if_pos rfl
    rw [e1, hj2, tyO_nI (by omega), r1, r2]
    rcases hz with hz | hz
    · rw [hz, if_pos rfl, show tyT X (-100) = -100 from if_pos rfl]
      exact decide_eq_decide.mpr ((tyd_inj hw (by omega) hj hrT).trans ⟨Eq.symm, Eq.symm⟩)
    · obtain ⟨s, hs, s1, s2, s3, -⟩ := told_ok hX (by omega) (by omega) hY ht hz
      rw [if_neg s3, show tyT X e.2.2.2.1 = nI s from (if_neg s3).trans s1, s2]
      refine decide_eq_decide.mpr ?_
      unfold nrm
      rw [if_pos rfl, if_neg (nI_n100 hs)]
      cases tyd T (nI j) with
      | none => exact ⟨fun h => (by cases h), fun h => (by cases h)⟩
      | some x => exact ⟨fun h => (by cases h; rfl), fun h => (by cases h; rfl)⟩
theorem mfL_fit (hw : TyW T) (h31 : T.length ≤ 390) {k m2 i : Nat} (hX : WfS T.length k X) (hm2 : m2 ≤ T.length) (hY : WfG m2 i Y) {rec rec2 : Nat → Nat → Int32} (hrec : ∀ m e, m ∈ X → e ∈ Y → m.1 = 2 → e.1 = 2 → rec (iN m.2.2.1) (iN e.2.2.1) = rec2 (iN m.2.2.1) (iN e.2.2.1)) : ∀ c q, q + c = Y.length → tells X Y q → mfL rec (fitC T X) X (Y.drop q) = mfL rec2 (fitS T X) X (Y.drop q) := by
  intro c
  induction c with
  | zero => intro q hq _; rw [List.drop_eq_nil_of_le (by omega)]; rfl
  | succ c ih =>
    intro q hq ht
    have hql : q < Y.length := by omega
    have hg := List.getElem?_eq_getElem hql
    rw [List.drop_eq_getElem_cons hql]
    unfold mfL
    cases hp : plc X Y[q].1 Y[q].2.1 with
    | none => rfl
    | some p =>
      obtain ⟨m, hm, mk, mn⟩ := plc_some hp
      show (match X[p]? with
        | none => 0
        | some m => if (if Y[q].1 = 2 then decide (rec (iN m.2.2.1) (iN Y[q].2.2.1) = 0) else fitC T X m Y[q]) = true then mfL rec (fitC T X) X (Y.drop (q + 1)) else 10 * (2 * Y[q].1 + 2) + Y[q].2.1) = (match X[p]? with
        | none => 0
        | some m => if (if Y[q].1 = 2 then decide (rec2 (iN m.2.2.1) (iN Y[q].2.2.1) = 0) else fitS T X m Y[q]) = true then mfL rec2 (fitS T X) X (Y.drop (q + 1)) else 10 * (2 * Y[q].1 + 2) + Y[q].2.1)
      rw [hm]
      have ht2 : tells X Y (q + 1) := by
        intro r e hr he h0
        by_cases hrq : r = q
        · subst hrq
          rw [hg] at he
          cases he
          rw [h0] at hp
          rw [hp]
          exact fun h => by cases h
        · exact ht r e (by omega) he h0
      have hc : (if Y[q].1 = 2 then decide (rec (iN m.2.2.1) (iN Y[q].2.2.1) = 0) else fitC T X m Y[q]) = (if Y[q].1 = 2 then decide (rec2 (iN m.2.2.1) (iN Y[q].2.2.1) = 0) else fitS T X m Y[q]) := by
        by_cases h2 : Y[q].1 = 2
        · rw [if_pos h2, if_pos h2, hrec m Y[q] (List.mem_of_getElem? hm) (List.mem_of_getElem? hg) (mk.trans h2) h2]
        · rw [if_neg h2, if_neg h2]
          exact fit_eq hw h31 hX hm2 hY ht hm hg mk mn h2
      show (if (if Y[q].1 = 2 then decide (rec (iN m.2.2.1) (iN Y[q].2.2.1) = 0) else fitC T X m Y[q]) = true then mfL rec (fitC T X) X (Y.drop (q + 1)) else 10 * (2 * Y[q].1 + 2) + Y[q].2.1) = (if (if Y[q].1 = 2 then decide (rec2 (iN m.2.2.1) (iN Y[q].2.2.1) = 0) else fitS T X m Y[q]) = true then mfL rec2 (fitS T X) X (Y.drop (q + 1)) else 10 * (2 * Y[q].1 + 2) + Y[q].2.1)
      rw [hc, ih (q + 1) (by omega) ht2]
/-- the sigs' types are there -/
def wfGm (R : Nat → Option RowD) (g m : Nat) : Prop := g ≤ 20 ∧ ∀ i, i < g → ∃ L w p, R (200 + i) = some (L, w, p) ∧ WfG m i L
theorem wfGm.rw {m : Nat} (h : wfGm R g m) {i : Nat} (hi : i < g) : ∃ w p, R (200 + i) = some (sgL R i, w, p) ∧ WfG m i (sgL R i) := by
  obtain ⟨L, w, p, h1, h2⟩ := h.2 i hi
  have : sgL R i = L := by unfold sgL; rw [h1]
  rw [this]
  exact ⟨w, p, h1, h2⟩
theorem WF.wfGm (h : WF t T n g R F Q U) : wfGm R g T.length := ⟨h.1.2.2.2, fun i hi => let ⟨L, a, _, c⟩ := h.sG hi; ⟨L, _, _, a, c⟩⟩
theorem wfGm.G {m : Nat} (h : wfGm R g m) (hm : m ≤ 400) : wfG R g := ⟨h.1, fun i hi => let ⟨L, w, p, a, c⟩ := h.2 i hi; ⟨L, w, p, m, a, c, hm⟩⟩
/-- the answer: by the class's way, of enough steps, or by the reference's -/
theorem mf_eq (hw : TyW T) (h31 : T.length ≤ 390) (hS : wfSt R T.length n) {m2 : Nat} (hG : wfGm R g m2) (hm2 : m2 ≤ T.length) : ∀ (k l s u : Nat), s < n → u < g → u < k → u < l → mf (fitC T) (stR R) R k s u = mf (fitS T) (stR R) R l s u := by
  have h20 := hG.1
  have h95 := hS.1
  intro k
  induction k with
  | zero => intro l s u _ _ h; omega
  | succ k ih =>
    intro l s u h1 h2 h3 h4
    cases l with
    | zero => omega
    | succ l =>
      obtain ⟨w, p, -, hX⟩ := hS.rw h1
      obtain ⟨w2, p2, -, hY⟩ := hG.rw h2
      have := mfL_fit hw h31 hX hm2 hY (rec := mf (fitC T) (stR R) R k) (rec2 := mf (fitS T) (stR R) R l) (fun m e hm he m2 e2 => by
        obtain ⟨p, hp⟩ := List.mem_iff_getElem?.mp hm
        obtain ⟨q, hq⟩ := List.mem_iff_getElem?.mp he
        obtain ⟨i, hi, hi2⟩ := (hX.2 p m hp).2.2.1 m2
        obtain ⟨j, hj, hj2⟩ := (hY.2 q e hq).part e2
        rw [hi2, hj2, iN_nI (by omega), iN_nI (by omega)]
        exact ih l i j hi (by omega) (by omega) (by omega)) (sgL R u).length 0 (by omega) (fun r e hr => by omega)
      rw [List.drop_zero] at this
      exact this
/-! the reference -/
theorem meant_r (hX : rIt M a X) (ha : a ≤ 100) (hu : Uq X) (x : Int32) : fX7_meant (nI a) x (f, M) = some (mnt X x, f, M) := by
  have h60 := hX.2.1
  unfold fX7_meant mnt
  by_cases h : x < 0
  · rw [if_pos h, if_pos h, fi_it hX ha hu, Option.bind_some]
    cases hp : plc X 0 (-1 - x) with
    | none => rfl
    | some p =>
      obtain ⟨e, he, -⟩ := plc_some hp
      have hpl := plc_lt hp
      show (if nI (60 * a + p) = -1 then _ else Option.bind (rd (f, M) 8 (nI (60 * a + p))) _) = some ((match X[p]? with
        | none => (-1 : Int32)
        | some m => m.2.2.1), f, M)
      rw [he, if_neg (nI_nm1 (by omega)), r_rd 6060 rfl (by omega) (by omega), (hX.2.2 p e he).2.2.1]
      rfl
  · rw [if_neg h, if_neg h]
def why (x : Int32) (e : En) (ok : Bool) : Int32 := if ok = true then 0 else x
/-- why a spec doesn't fit: the reference -/
theorem misfit_r (hR : RR f M T n g R F Q U) (hS : wfSt R T.length n) {m2 : Nat} (hG : wfGm R g m2) {s u q : Nat} (hs : s < n) (hu : u < g) {e : En} (he : (sgL R u)[q]? = some e) {rec : Nat → Nat → Int32} (ht : ∀ i j, i < n → j < u → M 52 (20 * i + j) = rec i j) : ∃ v, fX7_misfit (nI s) (nI (60 * u + q)) (f, M) = some (v, f, M) ∧ (v = 0 ∧ (∃ p m, plc (stR R s) e.1 e.2.1 = some p ∧ (stR R s)[p]? = some m ∧ (if e.1 = 2 then decide (rec (iN m.2.2.1) (iN e.2.2.1) = 0) else fitS T (stR R s) m e) = true) ∨ (v = 2 * e.1 + 1 ∧ plc (stR R s) e.1 e.2.1 = none) ∨ (v = 2 * e.1 + 2 ∧ ∃ p m, plc (stR R s) e.1 e.2.1 = some p ∧ (stR R s)[p]? = some m ∧ (if e.1 = 2 then decide (rec (iN m.2.2.1) (iN e.2.2.1) = 0) else fitS T (stR R s) m e) = false)) := by
  have h20 := hG.1
  have h95 := hS.1
  have h390 := hS.2.1
  obtain ⟨w, p, rs, hX⟩ := hS.rw hs
  obtain ⟨w2, p2, ru, hY⟩ := hG.rw hu
  have hit := (hR.rw s _ rs).1 (by omega)
  have hsp := (hR.sp (k := u) (by omega) ru).1
  have hql := (List.getElem?_eq_some_iff.mp he).1
  have h60 : (sgL R u).length ≤ 60 := hsp.2.1
  have hX60 : (stR R s).length ≤ 60 := hit.2.1
  obtain ⟨v1, v2, v3, v4⟩ := hsp.2.2 q e he
  have a13 : rd (f, M) 13 (nI (60 * u + q)) = some e.1 := by rw [r_rd 1260 rfl (by omega) (by omega), v1]
  have a14 : rd (f, M) 14 (nI (60 * u + q)) = some e.2.1 := by rw [r_rd 1260 rfl (by omega) (by omega), v2]
  have a15 : rd (f, M) 15 (nI (60 * u + q)) = some e.2.2.1 := by rw [r_rd 1260 rfl (by omega) (by omega), v3]
  have a16 : rd (f, M) 16 (nI (60 * u + q)) = some e.2.2.2.1 := by rw [r_rd 1260 rfl (by omega) (by omega), v4]
  have hE := hY.2 q e he
  have mea := fun x => meant_r (f := f) hit (by omega) hX.1 x
  unfold fX7_misfit
  simp only [a13, a14, Option.bind_some, fi_it hit (show s ≤ 100 by omega) hX.1]
  cases hp : plc (stR R s) e.1 e.2.1 with
  | none =>
    have h1 : plI (60 * s) (none : Option Nat) = -1 := rfl
    simp only [h1, if_pos]
    rcases hE.kind.1 with h | h | h
    · exact ⟨1, by rw [h]; rfl, Or.inr (Or.inl ⟨by rw [h]; rfl, trivial⟩)⟩
    · exact ⟨3, by rw [h]; rfl, Or.inr (Or.inl ⟨by rw [h]; rfl, trivial⟩)⟩
    · exact ⟨5, by rw [h]; rfl, Or.inr (Or.inl ⟨by rw [h]; rfl, trivial⟩)⟩
  | some p =>
    obtain ⟨m, hm, mk, mn⟩ := plc_some hp
    have hpl := plc_lt hp
    obtain ⟨u1, u2, u3, u4⟩ := hit.2.2 p m hm
    have h1 : plI (60 * s) (some p) = nI (60 * s + p) := rfl
    have a8 : rd (f, M) 8 (nI (60 * s + p)) = some m.2.2.1 := by rw [r_rd 6060 rfl (by omega) (by omega), u3]
    simp only [h1, if_neg (nI_nm1 (show 60 * s + p < 2 ^ 31 by omega)), a8, Option.bind_some]
    by_cases h2 : e.1 = 2
    · obtain ⟨i, hi, hi2⟩ := (hX.2 p m hm).2.2.1 (mk.trans h2)
      obtain ⟨j, hj, hj2⟩ := hE.part h2
      have e20 : (20 : Int32) * nI i + nI j = nI (20 * i + j) := by rw [show (20 : Int32) = nI 20 from rfl, pk_mul, nI_add]
      have a52 : rd (f, M) 52 (nI (20 * i + j)) = some (rec i j) := by rw [r_rd 2000 rfl (by omega) (by omega), ht i j hi hj]
      rw [if_pos h2, a15, Option.bind_some, hi2, hj2, e20, a52, Option.bind_some, iN_nI (show j < 2 ^ 31 by omega)]
      by_cases h3 : rec i j = 0
      · refine ⟨0, by rw [if_pos h3]; rfl, Or.inl ⟨rfl, p, m, rfl, hm, ?_⟩⟩
        rw [if_pos h2, hi2, iN_nI (by omega)]; exact decide_eq_true h3
      · refine ⟨6, by rw [if_neg h3]; rfl, Or.inr (Or.inr ⟨by rw [h2]; rfl, p, m, rfl, hm, ?_⟩)⟩
        rw [if_pos h2, hi2, iN_nI (by omega)]; exact decide_eq_false h3
    · have hif : ∀ (A : Bool), (if e.1 = 2 then decide (rec (iN m.2.2.1) (iN e.2.2.1) = 0) else A) = A := fun A => if_neg h2
      simp only [if_neg h2, a15, Option.bind_some]
      by_cases h0 : e.1 = 0
      · simp only [if_pos h0]
        by_cases h4 : e.2.2.1 = -100
        · refine ⟨0, by rw [if_pos h4]; rfl, Or.inl ⟨rfl, p, m, rfl, hm, ?_⟩⟩
          unfold fitS
          rw [if_pos h0, decide_eq_true (Or.inl h4)]
        · simp only [if_neg h4, mea, Option.bind_some]
          by_cases h5 : mnt (stR R s) e.2.2.1 = m.2.2.1
          · refine ⟨0, by rw [if_pos h5]; rfl, Or.inl ⟨rfl, p, m, rfl, hm, ?_⟩⟩
            unfold fitS
            rw [if_pos h0, decide_eq_true (Or.inr h5)]
          · refine ⟨2, by rw [if_neg h5]; rfl, Or.inr (Or.inr ⟨by rw [h0]; rfl, p, m, rfl, hm, ?_⟩)⟩
            unfold fitS
            rw [if_pos h0, decide_eq_false (fun h => h.elim h4 h5)]
      · have he1 : e.1 = 1 := by
          rcases hE.kind.1 with h | h | h
          · exact absurd h h0
          · exact h
          · exact absurd h h2
        obtain ⟨i, hi, hi2⟩ := (hX.2 p m hm).2.2.2.1 (by rw [mk]; exact h2)
        have hT := List.getElem?_eq_getElem hi
        obtain ⟨t1, t2⟩ := hR.ty.2.2 i _ hT
        have htd := tyd_t (by omega) hT
        have a1 : rd (f, M) 1 (nI i) = some (tdK i T[i]) := by rw [r_rd 400 rfl (by omega) (by omega), t1]
        simp only [if_neg h0, mea, Option.bind_some, a16]
        by_cases h4 : e.2.2.2.1 = -100
        · simp only [if_pos h4]
          by_cases h5 : mnt (stR R s) e.2.2.1 = m.2.2.1
          · refine ⟨0, by rw [if_pos h5]; rfl, Or.inl ⟨rfl, p, m, rfl, hm, ?_⟩⟩
            unfold fitS
            rw [if_neg h0, if_pos h4, decide_eq_true h5]
          · refine ⟨4, by rw [if_neg h5]; rfl, Or.inr (Or.inr ⟨by rw [he1]; rfl, p, m, rfl, hm, ?_⟩)⟩
            unfold fitS
            rw [if_neg h0, if_pos h4, decide_eq_false h5]
        · simp only [if_neg h4, hi2, a1, Option.bind_some]
          have fok : ∀ z : Bool, z = decide (T[i] = some (mnt (stR R s) e.2.2.1, mnt (stR R s) e.2.2.2.1)) → fitS T (stR R s) m e = z := by
            intro z hz
            unfold fitS
            rw [if_neg h0, if_neg h4, hi2, htd, hz]
          cases hti : T[i] with
          | none =>
            refine ⟨4, by rw [if_neg (tdK_ne i)]; rfl, Or.inr (Or.inr ⟨by rw [he1]; rfl, p, m, rfl, hm, ?_⟩)⟩
            exact fok _ (by rw [hti]; exact (decide_eq_false (fun h => by cases h)).symm)
          | some y =>
            obtain ⟨y1, y2⟩ := y
            obtain ⟨t3, t4⟩ := t2 y1 y2 hti
            have a2 : rd (f, M) 2 (nI i) = some y1 := by rw [r_rd 400 rfl (by omega) (by omega), t3]
            have a3 : rd (f, M) 3 (nI i) = some y2 := by rw [r_rd 400 rfl (by omega) (by omega), t4]
            rw [if_pos (show tdK i (some (y1, y2)) = 2 from rfl), a2, Option.bind_some]
            by_cases h5 : y1 = mnt (stR R s) e.2.2.1
            · rw [if_pos h5, a3, Option.bind_some]
              by_cases h6 : y2 = mnt (stR R s) e.2.2.2.1
              · refine ⟨0, by rw [if_pos h6]; rfl, Or.inl ⟨rfl, p, m, rfl, hm, ?_⟩⟩
                exact fok _ (by rw [hti, h5, h6]; exact (decide_eq_true rfl).symm)
              · refine ⟨4, by rw [if_neg h6]; rfl, Or.inr (Or.inr ⟨by rw [he1]; rfl, p, m, rfl, hm, ?_⟩)⟩
                exact fok _ (by rw [hti]; exact (decide_eq_false (fun h => by cases h; exact h6 rfl)).symm)
            · refine ⟨4, by rw [if_neg h5]; rfl, Or.inr (Or.inr ⟨by rw [he1]; rfl, p, m, rfl, hm, ?_⟩)⟩
              exact fok _ (by rw [hti]; exact (decide_eq_false (fun h => by cases h; exact h5 rfl)).symm)
end Match
