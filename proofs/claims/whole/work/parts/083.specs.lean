/-! THE CALLS ON SIGS: the draft -/
theorem m1m1 (x : Int32) : -1 - (-1 - x) = x := by grind
section Specs
variable {o b t : Nat} {K : Nat → Option (Nat × Nat)} {I : Nat → Nat → Int32} {P : Nat → Nat → Option Nat} {N0 N a : Nat} {f : Nat → Int32} {M : Nat → Nat → Int32} {T : List TyD} {n g : Nat} {R : Nat → Option RowD} {F : List FuD} {Q : List (Int32 × Int32)} {U : List UnD} {L : List En}
theorem sumW_add {e : En} : sumW R (L ++ [e]) = sumW R L + wt R e := by unfold sumW; simp
theorem sumP_add {e : En} : sumP R (L ++ [e]) = sumP R L + pt R e := by unfold sumP; simp
theorem WF.sigs (h : WF t T n g R F Q U) {g2 : Nat} {R2 : Nat → Option RowD} (hg : g ≤ g2) (h20 : g2 ≤ 20) (hR : ∀ k, k < 200 ∨ 300 ≤ k → R2 k = R k) (hR2 : ∀ j, j < g → R2 (200 + j) = R (200 + j)) (hN : ∀ i, g ≤ i → i < g2 → wSig R2 T.length i (200 + i)) (hD : wSig R2 T.length g2 220) : WF t T n g2 R2 F Q U := by
  obtain ⟨a, c, ⟨d1, d2⟩, e, fu, pk, un⟩ := h
  refine ⟨⟨a.1, a.2.1, a.2.2.1, h20⟩, fun k hk => by rw [hR k (by have := a.2.2.1; omega)]; exact c k hk, ⟨fun i hi => ?_, hD⟩, fun i hi => by rw [hR _ (by omega)]; exact e i hi, fun i x hx => ?_, fun i x hx => ?_, fun u x hx => (un u x hx).mono (Nat.le_refl _) hg⟩
  · by_cases h1 : i < g
    · exact (d1 i h1).congr (Nat.le_refl _) (by omega) (fun j hj => hR2 j (by omega)) (hR2 i h1)
    · exact hN i (by omega) hi
  · obtain ⟨⟨q, h1, h2, LA, wa, pa, LB, wb, pb, h3, h4, h5⟩, h6, h7, h8⟩ := fu i x hx
    exact ⟨⟨q, by omega, h2, LA, wa, pa, LB, wb, pb, by rw [hR2 q h1]; exact h3, by rw [hR _ (by omega)]; exact h4, h5⟩, h6.imp_right (fun ⟨c, p, q⟩ => ⟨c, by omega, q⟩), h7, h8⟩
  · obtain ⟨s, c, h1, h2, h3⟩ := pk i x hx
    exact ⟨s, c, h1, by omega, h3⟩
theorem WF.draftG (h : WF t T n g R F Q U) (hL : WfG T.length g L) (hw : sumW R L ≤ 60) : WF t T n g (aup R 220 (some (L, sumW R L, sumP R L))) F Q U := by
  have h20 := h.1.2.2.2
  refine h.sigs (Nat.le_refl _) h20 (fun k hk => aup_n (by omega)) (fun j hj => aup_n (by omega)) (fun i h1 h2 => by omega) ?_
  obtain ⟨e1, e2⟩ := sumW_congr (R2 := aup R 220 (some (L, sumW R L, sumP R L))) hL h20 (fun j hj => aup_n (by omega))
  exact ⟨L, by rw [aup_s, e1, e2], by rw [e1]; exact hw, hL⟩
/-! what the class asks -/
theorem needPlace_t (h : RowOK K P a) (hr : RowE I a L) {kd nm : Int32} (hp : plc L kd nm = none) : fX6_needPlace (some a) kd nm (K, I, P, N) = some (.inl (), (K, I, P, N), 0, 0) := by
  unfold fX6_needPlace
  rw [e_rc h.1, Option.bind_some, placeOf_r h hr, hp, Option.bind_some]
  rfl
theorem needPlace_f (h : RowOK K P a) (hr : RowE I a L) {kd nm : Int32} (hp : plc L kd nm ≠ none) : fX6_needPlace (some a) kd nm (K, I, P, N) = some (.inr 2, (K, I, P, N), 1, 6) := by
  cases hq : plc L kd nm with
  | none => exact absurd hq hp
  | some q =>
    have h30 : L.length ≤ 30 := hr.2.1
    have := plc_lt hq
    unfold fX6_needPlace
    rw [e_rc h.1, Option.bind_some, placeOf_r h hr, hq, Option.bind_some]
    show (if nI (0 + q) = -1 then _ else _) = _
    rw [if_neg (nI_nm1 (by omega))]
theorem needRoom_t (hC : CR o b K I P N T n g R F Q U) (h : RowOK K P (b + 9)) {w m : Nat} (hw : I (b + 9) 2 = nI w) (hl : w + m ≤ 60) : fX6_needRoomForSpecs o (nI m) (K, I, P, N) = some (.inl (), (K, I, P, N), 0, 0) := by
  unfold fX6_needRoomForSpecs
  rw [g64 hC, Option.bind_some, Option.bind_some, e_gI h.1, Option.bind_some, hw, nI_add, show (60 : Int32) = nI 60 from rfl, if_pos (nI_le hl (by omega))]
theorem needRoom_f (hC : CR o b K I P N T n g R F Q U) (h : RowOK K P (b + 9)) {w m : Nat} (hw : I (b + 9) 2 = nI w) (hl : 60 < w + m) (h31 : w + m < 2 ^ 31) : fX6_needRoomForSpecs o (nI m) (K, I, P, N) = some (.inr 2, (K, I, P, N), 1, 6) := by
  unfold fX6_needRoomForSpecs
  rw [g64 hC, Option.bind_some, Option.bind_some, e_gI h.1, Option.bind_some, hw, nI_add, show (60 : Int32) = nI 60 from rfl, if_neg (nI_ge hl h31)]
/-- what may be told of a draft -/
def tP (T : List TyD) (L : List En) (x : Int32) : Prop := (∃ i, i < T.length ∧ x = nI i) ∨ (x < 0 ∧ plc L 0 (-1 - x) ≠ none)
theorem tP.ok {x : Int32} (h : tP T L x) : tOK T.length L L.length x := by
  rcases h with h | ⟨-, h⟩
  · exact Or.inl h
  · cases hp : plc L 0 (-1 - x) with
    | none => exact absurd hp h
    | some q =>
      obtain ⟨e, h1, h2, h3⟩ := plc_some hp
      exact Or.inr ⟨q, e, plc_lt hp, h1, h2, by rw [h3, m1m1]⟩
theorem needTold_t (hC : CR o b K I P N T n g R F Q U) (h : RowOK K P a) (hr : RowE I a L) {x : Int32} (hx : tP T L x) : fX6_needTold o (some a) x (K, I, P, N) = some (.inl (), (K, I, P, N), 0, 0) := by
  have h2 := hC.ty.2.1
  unfold fX6_needTold
  rcases hx with ⟨i, hi, rfl⟩ | ⟨h0, hp⟩
  · rw [if_pos (nI_pos' (by omega)), g60 hC, Option.bind_some, r4 hC, Option.bind_some, has_t hC hi, Option.bind_some]
    unfold fX6_needTold_b32
    rw [if_neg i10]
  · rw [if_neg (fun h1 => by rw [Int32.lt_iff_toInt_lt] at h0; rw [Int32.le_iff_toInt_le] at h1; omega), e_rc h.1, Option.bind_some, placeOf_r h hr]
    cases hq : plc L 0 (-1 - x) with
    | none => exact absurd hq hp
    | some q =>
      have h30 : L.length ≤ 30 := hr.2.1
      have := plc_lt hq
      rw [Option.bind_some]
      show (if nI (0 + q) = -1 then _ else _) = _
      rw [if_neg (nI_nm1 (by omega))]
      unfold fX6_needTold_b32
      rw [if_neg i10]
theorem needTold_f (hC : CR o b K I P N T n g R F Q U) (h : RowOK K P a) (hr : RowE I a L) {x : Int32} (hx : ¬ tP T L x) : fX6_needTold o (some a) x (K, I, P, N) = some (.inr 0, (K, I, P, N), 1, 6) := by
  have h2 := hC.ty.2.1
  unfold fX6_needTold
  by_cases h0 : 0 ≤ x
  · have h1 : x < 0 ∨ nI T.length ≤ x := (ix_em x (n := T.length) (by omega)).resolve_left (fun h3 => hx (Or.inl h3))
    rw [if_pos h0, g60 hC, Option.bind_some, r4 hC, Option.bind_some, has_f hC h1, Option.bind_some]
    unfold fX6_needTold_b32
    rw [if_pos rfl]
  · have h1 : x < 0 := by rw [Int32.lt_iff_toInt_lt]; rw [Int32.le_iff_toInt_le] at h0; omega
    rw [if_neg h0, e_rc h.1, Option.bind_some, placeOf_r h hr]
    cases hq : plc L 0 (-1 - x) with
    | some q => exact absurd (Or.inr ⟨h1, by rw [hq]; exact fun e => by cases e⟩) hx
    | none => rfl
/-! what the reference asks -/
theorem isTold_t (hR : RR f M T n g R F Q U) (hr : rSp M 20 L) (hu : Uq L) {x : Int32} (hx : tP T L x) : fX7_isTold x (f, M) = some (1, f, M) := by
  have h2 := hR.ty.2.1
  unfold fX7_isTold
  rcases hx with ⟨i, hi, rfl⟩ | ⟨h0, hp⟩
  · rw [if_neg (nI_pos (by omega)), isType_t hR hi, Option.bind_some]
    exact rbo_1
  · rw [if_pos h0, show (20 : Int32) = nI 20 from rfl, fi_sp hr (Nat.le_refl _) hu]
    cases hq : plc L 0 (-1 - x) with
    | none => exact absurd hq hp
    | some q =>
      have h60 := hr.2.1
      have := plc_lt hq
      rw [Option.bind_some]
      show (if nI (60 * 20 + q) = -1 then _ else _) = _
      rw [if_neg (nI_nm1 (by omega))]
      exact rbo_1
theorem isTold_f (hR : RR f M T n g R F Q U) (hr : rSp M 20 L) (hu : Uq L) {x : Int32} (hx : ¬ tP T L x) : fX7_isTold x (f, M) = some (0, f, M) := by
  have h2 := hR.ty.2.1
  unfold fX7_isTold
  by_cases h0 : x < 0
  · rw [if_pos h0, show (20 : Int32) = nI 20 from rfl, fi_sp hr (Nat.le_refl _) hu]
    cases hq : plc L 0 (-1 - x) with
    | some q => exact absurd (Or.inr ⟨h0, by rw [hq]; exact fun e => by cases e⟩) hx
    | none => exact rbo_0
  · have h1 : x < 0 ∨ nI T.length ≤ x := (ix_em x (n := T.length) (by omega)).resolve_left (fun h3 => hx (Or.inl h3))
    rw [if_neg h0, isType_f hR h1, Option.bind_some]
    exact rbo_0
theorem WF.dG (h : WF t T n g R F Q U) : ∃ L, R 220 = some (L, sumW R L, sumP R L) ∧ sumW R L ≤ 60 ∧ WfG T.length g L := h.2.2.1.2
theorem WF.sG (h : WF t T n g R F Q U) {i : Nat} (hi : i < g) : ∃ L, R (200 + i) = some (L, sumW R L, sumP R L) ∧ sumW R L ≤ 60 ∧ WfG T.length i L := h.2.2.1.1 i hi
theorem RR.sp (hR : RR f M T n g R F Q U) {k : Nat} {d : RowD} (hk : k ≤ 20) (hr : R (200 + k) = some d) : rSp M k d.1 ∧ M 12 k = nI d.2.1 := by
  have := (hR.rw _ _ hr).2.1 (by omega) (by omega)
  rw [Nat.add_sub_cancel_left] at this
  exact this
/-- a spec is added: the class, what is done behind the tests -/
theorem spec_c (hC : CR o b K I P N T n g R F Q U) {w p m q : Nat} (hr : R 220 = some (L, w, p)) (hl : L.length < 30) (x0 x1 x2 x3 : Int32) : RowOK K P (b + 9) ∧ RowIs I (b + 9) (L, w, p) ∧ ∃ J, fX2_add (b + 9) x0 x1 x2 x3 0 (-1) (K, I, P, N) = some ((), K, J, P, N) ∧ J (b + 9) 1 = nI (L.length + 1) ∧ J (b + 9) 2 = nI w ∧ J (b + 9) 3 = nI p ∧ RowO I J (b + 9) ∧ CR o b K (cup J (b + 9) 2 (nI (w + m))) P N T n g (aup R 220 (some (L ++ [(x0, x1, x2, x3, 0, -1)], w + m, p))) F Q U ∧ CR o b K (cup (cup J (b + 9) 2 (nI (w + m))) (b + 9) 3 (nI (p + q))) P N T n g (aup R 220 (some (L ++ [(x0, x1, x2, x3, 0, -1)], w + m, p + q))) F Q U := by
  obtain ⟨a, hk, hp, hok, hrow⟩ := hC.row hr
  have ha : b + 9 = a := by rw [ptr220] at hp; cases hp; rfl
  subst ha
  obtain ⟨J, e1, e2, e3, e4, e5⟩ := add_r (N := N) hok hrow.1 hl x0 x1 x2 x3 0 (-1)
  refine ⟨hok, hrow, J, e1, by rw [e2.1]; simp, by rw [e4]; exact hrow.2.1, by rw [e5]; exact hrow.2.2, e3, hC.upRow hk hp (e3.tr (fun x h1 h2 => cup_q h1)) ⟨e2.congr (cup_j (by omega)) (cup_q (by omega)), cup_s, by rw [cup_j (by omega), e5]; exact hrow.2.2⟩, hC.upRow hk hp (e3.tr (fun x h1 h2 => by rw [cup_q h1, cup_q h1])) ⟨e2.congr (by rw [cup_j (by omega), cup_j (by omega)]) (by rw [cup_q (by omega), cup_q (by omega)]), by rw [cup_j (by omega), cup_s], cup_s⟩⟩
/-- a spec is added: the reference -/
theorem spec_r (hR : RR f M T n g R F Q U) {w p m q : Nat} (hr : R 220 = some (L, w, p)) (hl : L.length < 30) (x0 x1 x2 x3 : Int32) : ∃ W, fX7_specifies 20 x0 x1 x2 x3 (nI m) (f, M) = some (f, W) ∧ W 11 20 = nI (L.length + 1) ∧ RR f W T n g (aup R 220 (some (L ++ [(x0, x1, x2, x3, 0, -1)], w + m, q))) F Q U := by
  obtain ⟨h1, h2⟩ := hR.sp (k := 20) (Nat.le_refl _) hr
  obtain ⟨W, e1, e2, e3, e4⟩ := specifies_r (f := f) h1 (Nat.le_refl _) (show L.length < 60 by omega) h2 x0 x1 x2 x3 0 (-1) m
  exact ⟨W, e1, by rw [e2.1]; simp, hR.upSp (Nat.le_refl _) (fun _ => rfl) e4 e2 e3⟩
theorem Cgi (hC : CR o b K I P N T n g R F Q U) (h : RowOK K P a) {J : Nat → Nat → Int32} (j : Nat) : cgI (K, J, P, N) a 2 j = some (J a j) := e_gI h.1
theorem s_specType (o t : Nat) : sim_specType o (Inv o t) (Inv o (t + 1)) := by
  intro z S p0 p1 hI
  obtain ⟨K, I, P, N0⟩ := z
  obtain ⟨f, M⟩ := S
  refine sim_core (fun e => e = 0 ∨ e = 1 ∨ e = 2) (fun e => if e = 0 then 1 else (if e = 1 then 2 else (if e = 2 then 3 else 0))) hI (fun b T n g R F Q U hR hW => ?_)
  obtain ⟨L, hr, hw60, hL⟩ := hW.dG
  have hL30 := hL.len
  obtain ⟨hsp, hsw⟩ := hR.sp (k := 20) (Nat.le_refl _) hr
  by_cases hx : p1 = -100 ∨ tP T L p1
  · have cst : ∀ N, CR o b K I P N T n g R F Q U → fX6_specType o p0 p1 (K, I, P, N) = fX6_specType_b15 o p0 p1 (K, I, P, N) := by
      intro N hC
      obtain ⟨a, hk, hp, hok, hrow⟩ := hC.row hr
      have ha : b + 9 = a := by rw [ptr220] at hp; cases hp; rfl
      subst ha
      unfold fX6_specType
      by_cases h1 : p1 = -100
      · rw [if_pos h1]
      · rw [if_neg h1, g64 hC, Option.bind_some, ro hC, Option.bind_some, needTold_t hC hok hrow.1 (hx.resolve_left h1), tb_l]
    have rst : fX7_specType p0 p1 (f, M) = fX7_specType_b19 p0 p1 1 (f, M) := by
      unfold fX7_specType
      by_cases h1 : p1 = -100
      · rw [if_pos h1]; rfl
      · rw [if_neg h1, isTold_t hR hsp hL.1 (hx.resolve_left h1), Option.bind_some, if_neg i10]; rfl
    rcases isNm_em p0 with h0 | h0
    · have rs2 : fX7_specType_b19 p0 p1 1 (f, M) = Option.bind (fX7_findsSpec 20 0 p0 (f, M)) fun q45 => if (q45.1) = ((-1)) then Option.bind (rd (q45.2) 12 (20)) fun x58 => if (x58) = (60) then fX7_specType_b64 p0 p1 (q45.2) else fX7_specType_b69 p0 p1 0 (q45.2) else fX7_specType_b64 p0 p1 (q45.2) := by
        unfold fX7_specType_b19
        rw [if_neg i10, isName_t h0, Option.bind_some, if_neg i10]
      have thr : (plc L 0 p0 ≠ none ∨ sumW R L = 60) → fX7_specType p0 p1 (f, M) = some (0, upd f 54 3, M) := by
        intro hh
        rw [rst, rs2, show (20 : Int32) = nI 20 from rfl, fi_sp hsp (Nat.le_refl _) hL.1, Option.bind_some]
        have fin : fX7_specType_b64 p0 p1 (f, M) = some (0, upd f 54 3, M) := by
          unfold fX7_specType_b64 fX7_specType_b69
          rw [fails_1 (by decide), Option.bind_some]
          rfl
        cases hp : plc L 0 p0 with
        | some q =>
          have := plc_lt hp
          show (if nI (60 * 20 + q) = -1 then _ else _) = _
          rw [if_neg (nI_nm1 (by omega))]
          exact fin
        | none =>
          have h60 := hh.resolve_left (fun h => h hp)
          rw [if_pos plI_none, r_rd 21 rfl (by omega) (by omega), hsw]
          show (if nI (sumW R L) = 60 then _ else _) = _
          rw [h60, if_pos (show nI 60 = (60 : Int32) from rfl)]
          exact fin
      by_cases hp : plc L 0 p0 = none
      · by_cases h60 : sumW R L = 60
        · refine sim_thr 2 0 hR hW (Or.inr (Or.inr rfl)) (fun N hC => ?_) (thr (Or.inr h60))
          obtain ⟨a, hk, hpp, hok, hrow⟩ := hC.row hr
          have ha : b + 9 = a := by rw [ptr220] at hpp; cases hpp; rfl
          subst ha
          rw [cst N hC]
          unfold fX6_specType_b15
          rw [needName_t h0, tb_l, g64 hC, Option.bind_some, needPlace_t hok hrow.1 hp, tb_l, ro hC, Option.bind_some, show (1 : Int32) = nI 1 from rfl, needRoom_f hC hok hrow.2.1 (show 60 < sumW R L + 1 by omega) (show sumW R L + 1 < 2 ^ 31 by omega)]
          rfl
        · have hE : gE T.length g L L.length (0, p0, p1, -100, 0, -1) := ⟨h0, rfl, rfl, Or.inl ⟨rfl, rfl, hx.imp_right tP.ok⟩⟩
          have hL2 := hL.add hE hp
          have hL230 := hL2.len
          have hwt : wt R (0, p0, p1, -100, 0, -1) = 1 := if_neg i02
          have hpt : pt R (0, p0, p1, -100, 0, -1) = 0 := if_neg i02
          have hW2 := hW.draftG hL2 (by rw [sumW_add, hwt]; omega)
          rw [sumW_add, hwt, sumP_add, hpt, Nat.add_zero] at hW2
          have hl : L.length < 30 := by simp at hL230; omega
          refine sim_do (nI (L.length + 1)) hW2.step (fun N hC => ?_) ?_
          · obtain ⟨hok, hrow, J, e1, e2, e3, e4, e5, e6, -⟩ := spec_c (m := 1) (q := 0) hC hr hl 0 p0 p1 (-100)
            refine ⟨K, _, P, N, 0, 0, ?_, by omega, by omega, e6⟩
            rw [cst N hC]
            unfold fX6_specType_b15
            rw [needName_t h0, tb_l, g64 hC, Option.bind_some, needPlace_t hok hrow.1 hp, tb_l, ro hC, Option.bind_some, show (1 : Int32) = nI 1 from rfl, needRoom_t hC hok hrow.2.1 (show sumW R L + 1 ≤ 60 by omega), tb_l, g64 hC, Option.bind_some, e_rc hok.1, Option.bind_some]
            rw [show nI 1 = (1 : Int32) from rfl, e1, Option.bind_some]
            rw [e_gR hC.Ko, hC.sf.2.2.2.2.2.1, Option.bind_some, Option.bind_some, e_gI hok.1, Option.bind_some, e3, Option.bind_some, nI_1, e_pI hok.1, Option.bind_some, e_gR hC.Ko, hC.sf.2.2.2.2.2.1, Option.bind_some, Option.bind_some, e_gI hok.1, Option.bind_some, cup_j (by omega), e2]
          · obtain ⟨W, e1, e2, e3⟩ := spec_r (m := 1) (q := sumP R L) (hR.thr 0) hr hl 0 p0 p1 (-100)
            refine ⟨_, W, ?_, e3, upd_s⟩
            rw [rst, rs2, show (20 : Int32) = nI 20 from rfl, fi_sp hsp (Nat.le_refl _) hL.1, Option.bind_some, hp, if_pos plI_none, r_rd 21 rfl (by omega) (by omega), hsw]
            show (if nI (sumW R L) = 60 then _ else _) = _
            rw [show (60 : Int32) = nI 60 from rfl, if_neg (nI_ne (by omega) (by omega) h60)]
            unfold fX7_specType_b69
            rw [fails_0, Option.bind_some]
            show Option.bind (fX7_specifies 20 0 p0 p1 (-100) (nI 1) (upd f 54 0, M)) _ = _
            rw [e1, Option.bind_some, show (20 : Int32) = nI 20 from rfl, r_rd 21 rfl (by omega) (by omega), e2]
            rfl
      · refine sim_thr 2 0 hR hW (Or.inr (Or.inr rfl)) (fun N hC => ?_) (thr (Or.inl hp))
        obtain ⟨a, hk, hpp, hok, hrow⟩ := hC.row hr
        have ha : b + 9 = a := by rw [ptr220] at hpp; cases hpp; rfl
        subst ha
        rw [cst N hC]
        unfold fX6_specType_b15
        rw [needName_t h0, tb_l, g64 hC, Option.bind_some, needPlace_f hok hrow.1 hp]
        rfl
    · refine sim_thr 1 0 hR hW (Or.inr (Or.inl rfl)) (fun N hC => ?_) ?_
      · rw [cst N hC]
        unfold fX6_specType_b15
        rw [needName_f h0]
        rfl
      · rw [rst]
        unfold fX7_specType_b19
        rw [if_neg i10, isName_f h0, Option.bind_some, if_pos rfl]
        unfold fX7_specType_b69
        rw [fails_1 (by decide), Option.bind_some]
        rfl
  · have h1 : ¬ p1 = -100 := fun e => hx (Or.inl e)
    have h2 : ¬ tP T L p1 := fun e => hx (Or.inr e)
    refine sim_thr 0 0 hR hW (Or.inl rfl) (fun N hC => ?_) ?_
    · obtain ⟨a, hk, hpp, hok, hrow⟩ := hC.row hr
      have ha : b + 9 = a := by rw [ptr220] at hpp; cases hpp; rfl
      subst ha
      unfold fX6_specType
      rw [if_neg h1, g64 hC, Option.bind_some, ro hC, Option.bind_some, needTold_f hC hok hrow.1 h2]
      rfl
    · unfold fX7_specType
      rw [if_neg h1, isTold_f hR hsp hL.1 h2, Option.bind_some, if_pos rfl]
      unfold fX7_specType_b19
      rw [if_pos rfl]
      unfold fX7_specType_b69
      rw [fails_1 (by decide), Option.bind_some]
      rfl
end Specs
