/-! THE DRAFT OF A BODY -/
section Body
variable {o b t : Nat} {K : Nat → Option (Nat × Nat)} {I : Nat → Nat → Int32} {P : Nat → Nat → Option Nat} {N0 N a : Nat} {f : Nat → Int32} {M : Nat → Nat → Int32} {T : List TyD} {n g : Nat} {R : Nat → Option RowD} {F : List FuD} {Q : List (Int32 × Int32)} {U : List UnD} {L X Y : List En}
theorem row308 (hC : CR o b K I P N T n g R F Q U) {d : RowD} (hr : R 308 = some d) : ptr b P 308 = some (b + 11) ∧ RowOK K P (b + 11) ∧ RowIs I (b + 11) d := by
  obtain ⟨a, hk, hp, hok, hrow⟩ := hC.row hr
  have ha : b + 11 = a := by rw [ptr308] at hp; cases hp; rfl
  subst ha
  exact ⟨hp, hok, hrow⟩
theorem WF.dB (h : WF t T n g R F Q U) : ∃ L w p, R 308 = some (L, w, p) ∧ WfB T.length L := h.2.2.2.1 8 (Or.inr rfl)
theorem RR.bo (hR : RR f M T n g R F Q U) {k : Nat} {d : RowD} (hk : k ≤ 8) (hr : R (300 + k) = some d) : rBo M k d.1 := by
  have := (hR.rw _ _ hr).2.2 (by omega) (by omega)
  rw [Nat.add_sub_cancel_left] at this
  exact this
theorem WF.draftB (h : WF t T n g R F Q U) (hF : F.length ≤ 8) {w p : Nat} (hL : WfB T.length L) : WF t T n g (aup R 308 (some (L, w, p))) F Q U := by
  obtain ⟨a, c, ⟨d1, d2⟩, e, fu, pk, un⟩ := h
  have h30 := a.2.2.1
  have h20 := a.2.2.2
  refine ⟨a, fun k hk => by rw [aup_n (by omega)]; exact c k hk, ⟨fun i hi => (d1 i hi).congr (Nat.le_refl _) (by omega) (fun j hj => aup_n (by omega)) (aup_n (by omega)), d2.congr (Nat.le_refl _) h20 (fun j hj => aup_n (by omega)) (aup_n (by omega))⟩, fun i hi => ?_, fun i x hx => ?_, pk, un⟩
  · by_cases h8 : i = 8
    · subst h8; exact ⟨L, w, p, aup_s, hL⟩
    · rw [aup_n (by omega)]; exact e i hi
  · obtain ⟨⟨q, h1, h2, LA, wa, pa, LB, wb, pb, h3, h4, h5⟩, h6⟩ := fu i x hx
    have hi := (List.getElem?_eq_some_iff.mp hx).1
    exact ⟨⟨q, h1, h2, LA, wa, pa, LB, wb, pb, by rw [aup_n (by omega)]; exact h3, by rw [aup_n (by omega)]; exact h4, h5⟩, h6⟩
theorem isFrom_t {x : Int32} {S : rS} (h : x = -1 ∨ isNm x) : fX7_isFrom x S = some (1, S) := by
  unfold fX7_isFrom
  have h1 : ¬ x < -1 ∧ ¬ 9 < x := by
    rcases h with rfl | ⟨i, hi, rfl⟩
    · exact ⟨by decide, by decide⟩
    · refine ⟨fun h => ?_, by rw [show (9 : Int32) = nI 9 from rfl]; exact nI_nlt (by omega) (by omega)⟩
      rw [Int32.lt_iff_toInt_lt, nI_toInt (by omega)] at h
      have : ((-1 : Int32)).toInt = -1 := by decide
      omega
  rw [isIn_t h1.1 h1.2, Option.bind_some]
  exact rbo_1
theorem isFrom_f {x : Int32} {S : rS} (h1 : x ≠ -1) (h2 : x < 0 ∨ nI 10 ≤ x) : fX7_isFrom x S = some (0, S) := by
  unfold fX7_isFrom
  have h3 : x < -1 ∨ 9 < x := by
    rcases h2 with h | h
    · refine Or.inl ?_
      rw [Int32.lt_iff_toInt_lt] at h ⊢
      have e1 : ((-1 : Int32)).toInt = -1 := by decide
      have e2 : ((0 : Int32)).toInt = 0 := by decide
      have : x.toInt ≠ -1 := fun e => h1 (Int32.toInt_inj.mp (e.trans e1.symm))
      omega
    · refine Or.inr ?_
      rw [Int32.le_iff_toInt_le, nI_toInt (by omega)] at h
      rw [Int32.lt_iff_toInt_lt]
      have e1 : ((9 : Int32)).toInt = 9 := by decide
      omega
  rw [isIn_f h3, Option.bind_some]
  exact rbo_0
theorem writes_r (h : rBo M 8 L) (hl : L.length < 20) (kd nm told to from' num told2 : Int32) (ht : kd ≠ 0 → told2 = told) : ∃ W, fX7_writes kd nm told to from' num (f, M) = some (nI (L.length + 1), f, W) ∧ rBo W 8 (L ++ [(kd, nm, told2, to, num, from')]) ∧ boF M W 8 := by
  obtain ⟨h1, h2, h3⟩ := h
  refine ⟨mup (mup (mup (mup (mup (mup (mup M 19 (160 + L.length) kd) 20 (160 + L.length) nm) 21 (160 + L.length) told) 22 (160 + L.length) to) 23 (160 + L.length) from') 24 (160 + L.length) num) 18 8 (nI (L.length + 1)), ?_, ?_, ?_⟩
  · unfold fX7_writes
    rw [show (8 : Int32) = nI 8 from rfl, r_rd 9 rfl (by omega) (by omega), Option.bind_some, h1]
    show Option.bind (rwr (f, M) 19 (nI 160 + nI L.length) kd) _ = _
    rw [nI_add, r_wr 180 rfl (by omega) (by omega), Option.bind_some, show (160 : Int32) = nI 160 from rfl, nI_add, r_wr 180 rfl (by omega) (by omega), Option.bind_some, r_wr 180 rfl (by omega) (by omega), Option.bind_some, r_wr 180 rfl (by omega) (by omega), Option.bind_some, r_wr 180 rfl (by omega) (by omega), Option.bind_some, r_wr 180 rfl (by omega) (by omega), Option.bind_some, r_rd 9 rfl (by omega) (by omega), Option.bind_some, mup_k (by omega), mup_k (by omega), mup_k (by omega), mup_k (by omega), mup_k (by omega), mup_k (by omega), h1, nI_1, r_wr 9 rfl (by omega) (by omega), Option.bind_some, r_rd 9 rfl (by omega) (by omega), Option.bind_some, mup_s]
  · refine ⟨by rw [mup_s, List.length_append]; rfl, by simp; omega, fun p e he => ?_⟩
    show mup _ 18 8 _ 19 (160 + p) = _ ∧ mup _ 18 8 _ 20 (160 + p) = _ ∧ (_ → mup _ 18 8 _ 21 (160 + p) = _) ∧ mup _ 18 8 _ 22 (160 + p) = _ ∧ mup _ 18 8 _ 23 (160 + p) = _ ∧ mup _ 18 8 _ 24 (160 + p) = _
    rw [mup_k (show 19 ≠ 18 by omega), mup_k (show 20 ≠ 18 by omega), mup_k (show 21 ≠ 18 by omega), mup_k (show 22 ≠ 18 by omega), mup_k (show 23 ≠ 18 by omega), mup_k (show 24 ≠ 18 by omega)]
    rw [mup_k (show 19 ≠ 24 by omega), mup_k (show 19 ≠ 23 by omega), mup_k (show 19 ≠ 22 by omega), mup_k (show 19 ≠ 21 by omega), mup_k (show 19 ≠ 20 by omega), mup_k (show 20 ≠ 24 by omega), mup_k (show 20 ≠ 23 by omega), mup_k (show 20 ≠ 22 by omega), mup_k (show 20 ≠ 21 by omega), mup_k (show 21 ≠ 24 by omega), mup_k (show 21 ≠ 23 by omega), mup_k (show 21 ≠ 22 by omega), mup_k (show 22 ≠ 24 by omega), mup_k (show 22 ≠ 23 by omega), mup_k (show 23 ≠ 24 by omega)]
    rcases app_get he with ⟨hp, he2⟩ | ⟨hp, rfl⟩
    · rw [mup_i (show 160 + p ≠ 160 + L.length by omega), mup_i (show 160 + p ≠ 160 + L.length by omega), mup_i (show 160 + p ≠ 160 + L.length by omega), mup_i (show 160 + p ≠ 160 + L.length by omega), mup_i (show 160 + p ≠ 160 + L.length by omega), mup_i (show 160 + p ≠ 160 + L.length by omega)]
      rw [mup_k (show 20 ≠ 19 by omega), mup_k (show 21 ≠ 20 by omega), mup_k (show 21 ≠ 19 by omega), mup_k (show 22 ≠ 21 by omega), mup_k (show 22 ≠ 20 by omega), mup_k (show 22 ≠ 19 by omega), mup_k (show 23 ≠ 22 by omega), mup_k (show 23 ≠ 21 by omega), mup_k (show 23 ≠ 20 by omega), mup_k (show 23 ≠ 19 by omega), mup_k (show 24 ≠ 23 by omega), mup_k (show 24 ≠ 22 by omega), mup_k (show 24 ≠ 21 by omega), mup_k (show 24 ≠ 20 by omega), mup_k (show 24 ≠ 19 by omega)]
      exact h3 p e he2
    · rw [hp, mup_s, mup_s, mup_s, mup_s, mup_s, mup_s]
      exact ⟨rfl, rfl, fun h => (ht h).symm, rfl, rfl, rfl⟩
  · refine ⟨fun j hj => by rw [mup_k (by omega), mup_k (by omega), mup_k (by omega), mup_k (by omega), mup_k (by omega), mup_k (by omega), mup_k (by omega)], fun i hi => by rw [mup_i hi, mup_k (by omega), mup_k (by omega), mup_k (by omega), mup_k (by omega), mup_k (by omega), mup_k (by omega)], fun j i hj1 hj2 hi => ?_⟩
    rw [mup_k (by omega)]
    rcases (show j = 19 ∨ j = 20 ∨ j = 21 ∨ j = 22 ∨ j = 23 ∨ j = 24 by omega) with rfl | rfl | rfl | rfl | rfl | rfl
    · rw [mup_k (by omega), mup_k (by omega), mup_k (by omega), mup_k (by omega), mup_k (by omega), mup_i (by omega)]
    · rw [mup_k (by omega), mup_k (by omega), mup_k (by omega), mup_k (by omega), mup_i (by omega), mup_k (by omega)]
    · rw [mup_k (by omega), mup_k (by omega), mup_k (by omega), mup_i (by omega), mup_k (by omega), mup_k (by omega)]
    · rw [mup_k (by omega), mup_k (by omega), mup_i (by omega), mup_k (by omega), mup_k (by omega), mup_k (by omega)]
    · rw [mup_k (by omega), mup_i (by omega), mup_k (by omega), mup_k (by omega), mup_k (by omega), mup_k (by omega)]
    · rw [mup_i (by omega), mup_k (by omega), mup_k (by omega), mup_k (by omega), mup_k (by omega), mup_k (by omega)]
theorem isBodyTold_t (hR : RR f M T n g R F Q U) (hr : rBo M 8 L) (hu : Uq L) {x : Int32} (hx : tP T L x) : fX7_isBodyTold x (f, M) = some (1, f, M) := by
  have h2 := hR.ty.2.1
  unfold fX7_isBodyTold
  rcases hx with ⟨i, hi, rfl⟩ | ⟨h0, hp⟩
  · rw [if_neg (nI_pos (by omega)), isType_t hR hi, Option.bind_some]
    exact rbo_1
  · rw [if_pos h0, show (8 : Int32) = nI 8 from rfl, fi_bo hr (Nat.le_refl _) hu]
    cases hq : plc L 0 (-1 - x) with
    | none => exact absurd hq hp
    | some q =>
      have h60 := hr.2.1
      have := plc_lt hq
      rw [Option.bind_some]
      show (if nI (20 * 8 + q) = -1 then _ else _) = _
      rw [if_neg (nI_nm1 (by omega))]
      exact rbo_1
theorem isBodyTold_f (hR : RR f M T n g R F Q U) (hr : rBo M 8 L) (hu : Uq L) {x : Int32} (hx : ¬ tP T L x) : fX7_isBodyTold x (f, M) = some (0, f, M) := by
  have h2 := hR.ty.2.1
  unfold fX7_isBodyTold
  by_cases h0 : x < 0
  · rw [if_pos h0, show (8 : Int32) = nI 8 from rfl, fi_bo hr (Nat.le_refl _) hu]
    cases hq : plc L 0 (-1 - x) with
    | some q => exact absurd (Or.inr ⟨h0, by rw [hq]; exact fun e => by cases e⟩) hx
    | none => exact rbo_0
  · have h1 : x < 0 ∨ nI T.length ≤ x := (ix_em x (n := T.length) (by omega)).resolve_left (fun h3 => hx (Or.inl h3))
    rw [if_neg h0, isType_f hR h1, Option.bind_some]
    exact rbo_0
/-- an item is added to the body's draft: both -/
theorem bod_c (hC : CR o b K I P N T n g R F Q U) {w p : Nat} (hr : R 308 = some (L, w, p)) (hl : L.length < 20) (x0 x1 x2 x3 x4 x5 : Int32) : RowOK K P (b + 11) ∧ RowIs I (b + 11) (L, w, p) ∧ ∃ J, fX2_add (b + 11) x0 x1 x2 x3 x4 x5 (K, I, P, N) = some ((), K, J, P, N) ∧ J (b + 11) 1 = nI (L.length + 1) ∧ CR o b K J P N T n g (aup R 308 (some (L ++ [(x0, x1, x2, x3, x4, x5)], w, p))) F Q U := by
  obtain ⟨hp, hok, hrow⟩ := row308 hC hr
  obtain ⟨J, e1, e2, e3, e4, e5⟩ := add_r (N := N) hok hrow.1 (show L.length < 30 by omega) x0 x1 x2 x3 x4 x5
  exact ⟨hok, hrow, J, e1, by rw [e2.1]; simp, hC.upRow (by omega) hp e3 ⟨e2, by rw [e4]; exact hrow.2.1, by rw [e5]; exact hrow.2.2⟩⟩
theorem bod_r (hR : RR f M T n g R F Q U) {w p : Nat} (hr : R 308 = some (L, w, p)) (hl : L.length < 20) (kd nm told to from' num told2 : Int32) (ht : kd ≠ 0 → told2 = told) : ∃ W, fX7_writes kd nm told to from' num (f, M) = some (nI (L.length + 1), f, W) ∧ RR f W T n g (aup R 308 (some (L ++ [(kd, nm, told2, to, num, from')], w, p))) F Q U := by
  have hb := hR.bo (k := 8) (Nat.le_refl _) hr
  obtain ⟨W, e1, e2, e3⟩ := writes_r (f := f) hb hl kd nm told to from' num told2 ht
  exact ⟨W, e1, hR.upBo (k := 8) (Nat.le_refl _) e3 e2⟩
theorem s_bodyType (o t : Nat) : sim_bodyType o (Inv o t) (Inv o (t + 1)) := by
  intro z S p0 p1 hI
  obtain ⟨K, I, P, N0⟩ := z
  obtain ⟨f, M⟩ := S
  refine sim_core (fun e => e = 1 ∨ e = 2) (fun e => if e = 1 then 1 else (if e = 2 then 2 else 0)) hI (fun b T n g R F Q U hR hW => ?_)
  have hF8 := hR.fu.2.1
  obtain ⟨L, w, p, hr, hL⟩ := hW.dB
  have hL20 := hL.len
  have hb := hR.bo (k := 8) (Nat.le_refl _) hr
  have thr : ∀ v : Int32, ¬ v ≤ 0 → fX7_bodyType_b36 p0 p1 v (f, M) = some (0, upd f 54 v, M) := by
    intro v hv
    unfold fX7_bodyType_b36
    rw [fails_1 hv, Option.bind_some]
    rfl
  rcases isNm_em p0 with h0 | h0
  · by_cases h1 : p1 = -1 ∨ isNm p1
    · have cst : ∀ N, fX6_bodyType o p0 p1 (K, I, P, N) = fX6_bodyType_b13 o p0 p1 (K, I, P, N) := by
        intro N
        unfold fX6_bodyType
        rw [needName_t h0, tb_l]
        by_cases h2 : p1 = -1
        · rw [if_pos h2]
        · rw [if_neg h2, needName_t (h1.resolve_left h2), tb_l]
      have rst : fX7_bodyType p0 p1 (f, M) = if plI (20 * 8) (plc L 0 p0) = -1 then fX7_bodyType_b36 p0 p1 0 (f, M) else fX7_bodyType_b36 p0 p1 2 (f, M) := by
        unfold fX7_bodyType
        rw [isName_t h0, Option.bind_some, if_neg i10, isFrom_t h1, Option.bind_some, if_neg i10, show (8 : Int32) = nI 8 from rfl, fi_bo hb (Nat.le_refl _) hL.1, Option.bind_some]
      by_cases hp : plc L 0 p0 = none
      · have hE : bE T.length L L.length (0, p0, -100, -100, 0, p1) := ⟨h0, h1, Or.inl ⟨rfl, rfl, rfl, rfl⟩⟩
        have hL2 := hL.add hE hp
        have hl2 := hL2.len
        have hl : L.length < 20 := by simp at hl2; omega
        refine sim_do (nI (L.length + 1)) (hW.draftB hF8 (w := w) (p := p) hL2).step (fun N hC => ?_) ?_
        · obtain ⟨hok, hrow, J, e1, e2, e3⟩ := bod_c hC hr hl 0 p0 (-100) (-100) 0 p1
          refine ⟨K, J, P, N, 0, 0, ?_, by omega, by omega, e3⟩
          rw [cst N]
          unfold fX6_bodyType_b13
          rw [g65 hC, Option.bind_some, needPlace_t hok hrow.1 hp, tb_l, g65 hC, Option.bind_some, e_rc hok.1, Option.bind_some, e1, Option.bind_some, e_gR hC.Ko, hC.sf.2.2.2.2.2.2.1, Option.bind_some, Option.bind_some, e_gI hok.1, e2]
          rfl
        · obtain ⟨W, e1, e2⟩ := bod_r (hR.thr 0) hr hl 0 p0 0 (-100) p1 0 (-100) (fun h => absurd rfl h)
          refine ⟨_, W, ?_, e2, upd_s⟩
          rw [rst, hp, if_pos plI_none]
          unfold fX7_bodyType_b36
          rw [fails_0, Option.bind_some]
          show Option.bind (fX7_writes 0 p0 0 (-100) p1 0 (upd f 54 0, M)) _ = _
          rw [e1]
          rfl
      · refine sim_thr 2 0 hR hW (Or.inr rfl) (fun N hC => ?_) ?_
        · obtain ⟨hpp, hok, hrow⟩ := row308 hC hr
          rw [cst N]
          unfold fX6_bodyType_b13
          rw [g65 hC, Option.bind_some, needPlace_f hok hrow.1 hp]
          rfl
        · rw [rst]
          have : ¬ plI (20 * 8) (plc L 0 p0) = -1 := by
            cases hq : plc L 0 p0 with
            | none => exact absurd hq hp
            | some q => have := plc_lt hq; exact nI_nm1 (by omega)
          rw [if_neg this]
          exact thr 2 (by decide)
    · have h2 : p1 ≠ -1 := fun e => h1 (Or.inl e)
      have h3 := (isNm_em p1).resolve_left (fun e => h1 (Or.inr e))
      refine sim_thr 1 0 hR hW (Or.inl rfl) (fun N hC => ?_) ?_
      · unfold fX6_bodyType
        rw [needName_t h0, tb_l, if_neg h2, needName_f h3]
        rfl
      · unfold fX7_bodyType
        rw [isName_t h0, Option.bind_some, if_neg i10, isFrom_f h2 h3, Option.bind_some, if_pos rfl]
        exact thr 1 (by decide)
  · refine sim_thr 1 0 hR hW (Or.inl rfl) (fun N hC => ?_) ?_
    · unfold fX6_bodyType
      rw [needName_f h0]
      rfl
    · unfold fX7_bodyType
      rw [isName_f h0, Option.bind_some, if_pos rfl]
      exact thr 1 (by decide)
theorem s_bodyValue (o t : Nat) : sim_bodyValue o (Inv o t) (Inv o (t + 1)) := by
  intro z S p0 p1 p2 p3 p4 hI
  obtain ⟨K, I, P, N0⟩ := z
  obtain ⟨f, M⟩ := S
  refine sim_core (fun e => e = 0 ∨ e = 1 ∨ e = 2) (fun e => if e = 0 then 1 else (if e = 1 then 2 else (if e = 2 then 3 else 0))) hI (fun b T n g R F Q U hR hW => ?_)
  have hF8 := hR.fu.2.1
  obtain ⟨L, w, p, hr, hL⟩ := hW.dB
  have hL20 := hL.len
  have hb := hR.bo (k := 8) (Nat.le_refl _) hr
  have thr : ∀ v : Int32, ¬ v ≤ 0 → fX7_bodyValue_b95 p0 p1 p2 p3 p4 v (f, M) = some (0, upd f 54 v, M) := by
    intro v hv
    unfold fX7_bodyValue_b95
    rw [fails_1 hv, Option.bind_some]
    rfl
  have r27t : ∀ s0, (isNm p0 ∧ (p3 = -1 ∨ isNm p3) ∧ isNum p4) → fX7_bodyValue_b27 p0 p1 p2 p3 p4 s0 (f, M) = fX7_bodyValue_b57 p0 p1 p2 p3 p4 s0 1 (f, M) := by
    rintro s0 ⟨h0, h1, h2⟩
    unfold fX7_bodyValue_b27
    rw [isName_t h0, Option.bind_some, if_neg i10, isFrom_t h1, Option.bind_some, if_neg i10, isNumber_t h2, Option.bind_some, if_neg i10]
  have r27f : ∀ s0, ¬ (isNm p0 ∧ (p3 = -1 ∨ isNm p3) ∧ isNum p4) → fX7_bodyValue_b27 p0 p1 p2 p3 p4 s0 (f, M) = fX7_bodyValue_b57 p0 p1 p2 p3 p4 s0 0 (f, M) := by
    intro s0 hh
    unfold fX7_bodyValue_b27 fX7_bodyValue_b56
    rcases isNm_em p0 with h0 | h0
    · rw [isName_t h0, Option.bind_some, if_neg i10]
      by_cases h1 : p3 = -1 ∨ isNm p3
      · have h2 : ¬ isNum p4 := fun h => hh ⟨h0, h1, h⟩
        rw [isFrom_t h1, Option.bind_some, if_neg i10, isNumber_f h2, Option.bind_some, if_pos rfl]
      · rw [isFrom_f (fun e => h1 (Or.inl e)) ((isNm_em p3).resolve_left (fun e => h1 (Or.inr e))), Option.bind_some, if_pos rfl]
    · rw [isName_f h0, Option.bind_some, if_pos rfl]
  have bad : fX7_bodyValue_b26 p0 p1 p2 p3 p4 (f, M) = some (0, upd f 54 1, M) := by
    unfold fX7_bodyValue_b26
    by_cases hh : isNm p0 ∧ (p3 = -1 ∨ isNm p3) ∧ isNum p4
    · rw [r27t 0 hh]
      unfold fX7_bodyValue_b57
      rw [if_pos rfl]; exact thr 1 (by decide)
    · rw [r27f 0 hh]
      unfold fX7_bodyValue_b57
      rw [if_pos rfl]; exact thr 1 (by decide)
  by_cases h1 : tP T L p1
  · by_cases hx : p2 = -100 ∨ tP T L p2
    · have cst : ∀ N, CR o b K I P N T n g R F Q U → fX6_bodyValue o p0 p1 p2 p3 p4 (K, I, P, N) = fX6_bodyValue_b24 o p0 p1 p2 p3 p4 (K, I, P, N) := by
        intro N hC
        obtain ⟨hpp, hok, hrow⟩ := row308 hC hr
        unfold fX6_bodyValue
        rw [g65 hC, Option.bind_some, ro hC, Option.bind_some, needTold_t hC hok hrow.1 h1, tb_l]
        by_cases h2 : p2 = -100
        · rw [if_pos h2]
        · rw [if_neg h2, g65 hC, Option.bind_some, ro hC, Option.bind_some, needTold_t hC hok hrow.1 (hx.resolve_left h2), tb_l]
      have rst : fX7_bodyValue p0 p1 p2 p3 p4 (f, M) = fX7_bodyValue_b27 p0 p1 p2 p3 p4 1 (f, M) := by
        unfold fX7_bodyValue
        rw [isBodyTold_t hR hb hL.1 h1, Option.bind_some, if_neg i10]
        by_cases h2 : p2 = -100
        · rw [if_pos h2]; rfl
        · rw [if_neg h2, isBodyTold_t hR hb hL.1 (hx.resolve_left h2), Option.bind_some, if_neg i10]; rfl
      by_cases hall : isNm p0 ∧ (p3 = -1 ∨ isNm p3) ∧ isNum p4
      · obtain ⟨h0, h3, h4⟩ := hall
        have c2 : ∀ N, CR o b K I P N T n g R F Q U → fX6_bodyValue o p0 p1 p2 p3 p4 (K, I, P, N) = Option.bind (cgR (K, I, P, N) o 6 5) fun x45 =>
            tbind (fX6_needPlace x45 1 p0 (K, I, P, N)) fun v50 z50 =>
            Option.bind (cgR z50 o 6 5) fun x54 =>
            Option.bind (crc z50 x54 2) fun c65 =>
            Option.bind (fX2_add c65 1 p0 p1 p2 p4 p3 z50) fun q65 =>
            Option.bind (cgR (q65.2) o 6 5) fun x69 =>
            Option.bind x69 fun q72 =>
            Option.bind (cgI (q65.2) q72 2 1) fun x72 =>
            some (.inl x72, q65.2, 0, 0) := by
          intro N hC
          rw [cst N hC]
          unfold fX6_bodyValue_b24 fX6_bodyValue_b39
          rw [needName_t h0, tb_l]
          by_cases h5 : p3 = -1
          · rw [if_pos h5, needNumber_t h4, tb_l]
          · rw [if_neg h5, needName_t (h3.resolve_left h5), tb_l, needNumber_t h4, tb_l]
        have r2 : fX7_bodyValue p0 p1 p2 p3 p4 (f, M) = if plI (20 * 8) (plc L 1 p0) = -1 then fX7_bodyValue_b95 p0 p1 p2 p3 p4 0 (f, M) else fX7_bodyValue_b95 p0 p1 p2 p3 p4 3 (f, M) := by
          rw [rst, r27t 1 ⟨h0, h3, h4⟩]
          unfold fX7_bodyValue_b57
          rw [if_neg i10, if_neg i10, show (8 : Int32) = nI 8 from rfl, fi_bo hb (Nat.le_refl _) hL.1, Option.bind_some]
        by_cases hp : plc L 1 p0 = none
        · have hE : bE T.length L L.length (1, p0, p1, p2, p4, p3) := ⟨h0, h3, Or.inr ⟨rfl, h1.ok, hx.imp_right tP.ok⟩⟩
          have hL2 := hL.add hE hp
          have hl2 := hL2.len
          have hl : L.length < 20 := by simp at hl2; omega
          refine sim_do (nI (L.length + 1)) (hW.draftB hF8 (w := w) (p := p) hL2).step (fun N hC => ?_) ?_
          · obtain ⟨hok, hrow, J, e1, e2, e3⟩ := bod_c hC hr hl 1 p0 p1 p2 p4 p3
            refine ⟨K, J, P, N, 0, 0, ?_, by omega, by omega, e3⟩
            rw [c2 N hC, g65 hC, Option.bind_some, needPlace_t hok hrow.1 hp, tb_l, g65 hC, Option.bind_some, e_rc hok.1, Option.bind_some, e1, Option.bind_some, e_gR hC.Ko, hC.sf.2.2.2.2.2.2.1, Option.bind_some, Option.bind_some, e_gI hok.1, e2]
            rfl
          · obtain ⟨W, e1, e2⟩ := bod_r (hR.thr 0) hr hl 1 p0 p1 p2 p3 p4 p1 (fun _ => rfl)
            refine ⟨_, W, ?_, e2, upd_s⟩
            rw [r2, hp, if_pos plI_none]
            unfold fX7_bodyValue_b95
            rw [fails_0, Option.bind_some]
            show Option.bind (fX7_writes 1 p0 p1 p2 p3 p4 (upd f 54 0, M)) _ = _
            rw [e1]
            rfl
        · refine sim_thr 2 0 hR hW (Or.inr (Or.inr rfl)) (fun N hC => ?_) ?_
          · obtain ⟨hpp, hok, hrow⟩ := row308 hC hr
            rw [c2 N hC, g65 hC, Option.bind_some, needPlace_f hok hrow.1 hp]
            rfl
          · rw [r2]
            have : ¬ plI (20 * 8) (plc L 1 p0) = -1 := by
              cases hq : plc L 1 p0 with
              | none => exact absurd hq hp
              | some q => have := plc_lt hq; exact nI_nm1 (by omega)
            rw [if_neg this]
            exact thr 3 (by decide)
      · refine sim_thr 1 0 hR hW (Or.inr (Or.inl rfl)) (fun N hC => ?_) ?_
        · rw [cst N hC]
          unfold fX6_bodyValue_b24 fX6_bodyValue_b39
          rcases isNm_em p0 with h0 | h0
          · rw [needName_t h0, tb_l]
            by_cases h3 : p3 = -1 ∨ isNm p3
            · have h4 : ¬ isNum p4 := fun h => hall ⟨h0, h3, h⟩
              by_cases h5 : p3 = -1
              · rw [if_pos h5, needNumber_f h4]; rfl
              · rw [if_neg h5, needName_t (h3.resolve_left h5), tb_l, needNumber_f h4]; rfl
            · rw [if_neg (fun e => h3 (Or.inl e)), needName_f ((isNm_em p3).resolve_left (fun e => h3 (Or.inr e)))]; rfl
          · rw [needName_f h0]; rfl
        · rw [rst, r27f 1 hall]
          unfold fX7_bodyValue_b57
          rw [if_neg i10, if_pos rfl]
          exact thr 2 (by decide)
    · have h3 : ¬ p2 = -100 := fun e => hx (Or.inl e)
      have h2 : ¬ tP T L p2 := fun e => hx (Or.inr e)
      refine sim_thr 0 0 hR hW (Or.inl rfl) (fun N hC => ?_) ?_
      · obtain ⟨hpp, hok, hrow⟩ := row308 hC hr
        unfold fX6_bodyValue
        rw [g65 hC, Option.bind_some, ro hC, Option.bind_some, needTold_t hC hok hrow.1 h1, tb_l, if_neg h3, g65 hC, Option.bind_some, ro hC, Option.bind_some, needTold_f hC hok hrow.1 h2]
        rfl
      · unfold fX7_bodyValue
        rw [isBodyTold_t hR hb hL.1 h1, Option.bind_some, if_neg i10, if_neg h3, isBodyTold_f hR hb hL.1 h2, Option.bind_some, if_pos rfl]
        exact bad
  · refine sim_thr 0 0 hR hW (Or.inl rfl) (fun N hC => ?_) ?_
    · obtain ⟨hpp, hok, hrow⟩ := row308 hC hr
      unfold fX6_bodyValue
      rw [g65 hC, Option.bind_some, ro hC, Option.bind_some, needTold_f hC hok hrow.1 h1]
      rfl
    · unfold fX7_bodyValue
      rw [isBodyTold_f hR hb hL.1 h1, Option.bind_some, if_pos rfl]
      exact bad
end Body
