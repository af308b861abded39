/-! THE CALLS ON SIGS: values and parts of the draft -/
section Specs2
variable {o b t : Nat} {K : Nat → Option (Nat × Nat)} {I : Nat → Nat → Int32} {P : Nat → Nat → Option Nat} {N0 N a : Nat} {f : Nat → Int32} {M : Nat → Nat → Int32} {T : List TyD} {n g : Nat} {R : Nat → Option RowD} {F : List FuD} {Q : List (Int32 × Int32)} {U : List UnD} {L : List En}
theorem row220 (hC : CR o b K I P N T n g R F Q U) {d : RowD} (hr : R 220 = some d) : ptr b P 220 = some (b + 9) ∧ RowOK K P (b + 9) ∧ RowIs I (b + 9) d := by
  obtain ⟨a, hk, hp, hok, hrow⟩ := hC.row hr
  have ha : b + 9 = a := by rw [ptr220] at hp; cases hp; rfl
  subst ha
  exact ⟨hp, hok, hrow⟩
theorem s_specValue (o t : Nat) : sim_specValue o (Inv o t) (Inv o (t + 1)) := by
  intro z S p0 p1 p2 hI
  obtain ⟨K, I, P, N0⟩ := z
  obtain ⟨f, M⟩ := S
  refine sim_core (fun e => e = 0 ∨ e = 1 ∨ e = 2) (fun e => if e = 0 then 1 else (if e = 1 then 2 else (if e = 2 then 3 else 0))) hI (fun b T n g R F Q U hR hW => ?_)
  obtain ⟨L, hr, hw60, hL⟩ := hW.dG
  have hL30 := hL.len
  obtain ⟨hsp, hsw⟩ := hR.sp (k := 20) (Nat.le_refl _) hr
  have bad : fX7_specValue_b26 p0 p1 p2 (f, M) = some (0, upd f 54 1, M) := by
    unfold fX7_specValue_b26 fX7_specValue_b27
    rw [if_pos rfl]
    unfold fX7_specValue_b79
    rw [fails_1 (by decide), Option.bind_some]
    rfl
  by_cases h1 : tP T L p1
  · by_cases hx : p2 = -100 ∨ tP T L p2
    · have cst : ∀ N, CR o b K I P N T n g R F Q U → fX6_specValue o p0 p1 p2 (K, I, P, N) = fX6_specValue_b24 o p0 p1 p2 (K, I, P, N) := by
        intro N hC
        obtain ⟨hp, hok, hrow⟩ := row220 hC hr
        unfold fX6_specValue
        rw [g64 hC, Option.bind_some, ro hC, Option.bind_some, needTold_t hC hok hrow.1 h1, tb_l]
        by_cases h2 : p2 = -100
        · rw [if_pos h2]
        · rw [if_neg h2, g64 hC, Option.bind_some, ro hC, Option.bind_some, needTold_t hC hok hrow.1 (hx.resolve_left h2), tb_l]
      have rst : fX7_specValue p0 p1 p2 (f, M) = fX7_specValue_b27 p0 p1 p2 1 (f, M) := by
        unfold fX7_specValue
        rw [isTold_t hR hsp hL.1 h1, Option.bind_some, if_neg i10]
        by_cases h2 : p2 = -100
        · rw [if_pos h2]; rfl
        · rw [if_neg h2, isTold_t hR hsp hL.1 (hx.resolve_left h2), Option.bind_some, if_neg i10]; rfl
      rcases isNm_em p0 with h0 | h0
      · have rs2 : fX7_specValue_b27 p0 p1 p2 1 (f, M) = Option.bind (fX7_findsSpec 20 1 p0 (f, M)) fun q45 => if (q45.1) = ((-1)) then Option.bind (rd (q45.2) 12 (20)) fun x58 => if (x58) = (60) then fX7_specValue_b74 p0 p1 p2 (q45.2) else fX7_specValue_b79 p0 p1 p2 0 (q45.2) else fX7_specValue_b74 p0 p1 p2 (q45.2) := by
          unfold fX7_specValue_b27
          rw [if_neg i10, isName_t h0, Option.bind_some, if_neg i10]
        have thr : (plc L 1 p0 ≠ none ∨ sumW R L = 60) → fX7_specValue p0 p1 p2 (f, M) = some (0, upd f 54 3, M) := by
          intro hh
          rw [rst, rs2, show (20 : Int32) = nI 20 from rfl, fi_sp hsp (Nat.le_refl _) hL.1, Option.bind_some]
          have fin : fX7_specValue_b74 p0 p1 p2 (f, M) = some (0, upd f 54 3, M) := by
            unfold fX7_specValue_b74 fX7_specValue_b79
            rw [fails_1 (by decide), Option.bind_some]
            rfl
          cases hp : plc L 1 p0 with
          | some q =>
            have := plc_lt hp
            show (if nI (60 * 20 + q) = -1 then _ else _) = _
            rw [if_neg (nI_nm1 (by omega))]
            exact fin
          | none =>
            have h60 := hh.resolve_left (fun h => h hp)
            rw [if_pos plI_none, r_rd 21 rfl (by omega) (by omega), hsw]
            show (if nI (sumW R L) = 60 then _ else _) = _
            rw [h60, if_pos (show nI 60 = (60 : Int32) from rfl)]
            exact fin
        by_cases hp : plc L 1 p0 = none
        · by_cases h60 : sumW R L = 60
          · refine sim_thr 2 0 hR hW (Or.inr (Or.inr rfl)) (fun N hC => ?_) (thr (Or.inr h60))
            obtain ⟨hpp, hok, hrow⟩ := row220 hC hr
            rw [cst N hC]
            unfold fX6_specValue_b24
            rw [needName_t h0, tb_l, g64 hC, Option.bind_some, needPlace_t hok hrow.1 hp, tb_l, ro hC, Option.bind_some, show fX6_needRoomForSpecs o 1 (K, I, P, N) = some (.inr 2, (K, I, P, N), 1, 6) from needRoom_f hC hok (m := 1) hrow.2.1 (show 60 < sumW R L + 1 by omega) (show sumW R L + 1 < 2 ^ 31 by omega)]
            rfl
          · have hE : gE T.length g L L.length (1, p0, p1, p2, 0, -1) := ⟨h0, rfl, rfl, Or.inr (Or.inl ⟨rfl, h1.ok, hx.imp_right tP.ok⟩)⟩
            have hL2 := hL.add hE hp
            have hL230 := hL2.len
            have hwt : wt R (1, p0, p1, p2, 0, -1) = 1 := if_neg i12
            have hpt : pt R (1, p0, p1, p2, 0, -1) = 0 := if_neg i12
            have hW2 := hW.draftG hL2 (by rw [sumW_add, hwt]; omega)
            rw [sumW_add, hwt, sumP_add, hpt, Nat.add_zero] at hW2
            have hl : L.length < 30 := by simp at hL230; omega
            refine sim_do (nI (L.length + 1)) hW2.step (fun N hC => ?_) ?_
            · obtain ⟨hok, hrow, J, e1, e2, e3, e4, e5, e6, -⟩ := spec_c (m := 1) (q := 0) hC hr hl 1 p0 p1 p2
              refine ⟨K, _, P, N, 0, 0, ?_, by omega, by omega, e6⟩
              rw [cst N hC]
              unfold fX6_specValue_b24
              rw [needName_t h0, tb_l, g64 hC, Option.bind_some, needPlace_t hok hrow.1 hp, tb_l, ro hC, Option.bind_some, show fX6_needRoomForSpecs o 1 (K, I, P, N) = some (.inl (), (K, I, P, N), 0, 0) from needRoom_t hC hok (m := 1) hrow.2.1 (show sumW R L + 1 ≤ 60 by omega), tb_l, g64 hC, Option.bind_some, e_rc hok.1, Option.bind_some]
              rw [e1, Option.bind_some]
              rw [e_gR hC.Ko, hC.sf.2.2.2.2.2.1, Option.bind_some, Option.bind_some, e_gI hok.1, Option.bind_some, e3, Option.bind_some, nI_1, e_pI hok.1, Option.bind_some, e_gR hC.Ko, hC.sf.2.2.2.2.2.1, Option.bind_some, Option.bind_some, e_gI hok.1, Option.bind_some, cup_j (by omega), e2]
            · obtain ⟨W, e1, e2, e3⟩ := spec_r (m := 1) (q := sumP R L) (hR.thr 0) hr hl 1 p0 p1 p2
              refine ⟨_, W, ?_, e3, upd_s⟩
              rw [rst, rs2, show (20 : Int32) = nI 20 from rfl, fi_sp hsp (Nat.le_refl _) hL.1, Option.bind_some, hp, if_pos plI_none, r_rd 21 rfl (by omega) (by omega), hsw]
              show (if nI (sumW R L) = 60 then _ else _) = _
              rw [show (60 : Int32) = nI 60 from rfl, if_neg (nI_ne (by omega) (by omega) h60)]
              unfold fX7_specValue_b79
              rw [fails_0, Option.bind_some]
              show Option.bind (fX7_specifies 20 1 p0 p1 p2 (nI 1) (upd f 54 0, M)) _ = _
              rw [e1, Option.bind_some, show (20 : Int32) = nI 20 from rfl, r_rd 21 rfl (by omega) (by omega), e2]
              rfl
        · refine sim_thr 2 0 hR hW (Or.inr (Or.inr rfl)) (fun N hC => ?_) (thr (Or.inl hp))
          obtain ⟨hpp, hok, hrow⟩ := row220 hC hr
          rw [cst N hC]
          unfold fX6_specValue_b24
          rw [needName_t h0, tb_l, g64 hC, Option.bind_some, needPlace_f hok hrow.1 hp]
          rfl
      · refine sim_thr 1 0 hR hW (Or.inr (Or.inl rfl)) (fun N hC => ?_) ?_
        · rw [cst N hC]
          unfold fX6_specValue_b24
          rw [needName_f h0]
          rfl
        · rw [rst]
          unfold fX7_specValue_b27
          rw [if_neg i10, isName_f h0, Option.bind_some, if_pos rfl]
          unfold fX7_specValue_b79
          rw [fails_1 (by decide), Option.bind_some]
          rfl
    · have h3 : ¬ p2 = -100 := fun e => hx (Or.inl e)
      have h2 : ¬ tP T L p2 := fun e => hx (Or.inr e)
      refine sim_thr 0 0 hR hW (Or.inl rfl) (fun N hC => ?_) ?_
      · obtain ⟨hpp, hok, hrow⟩ := row220 hC hr
        unfold fX6_specValue
        rw [g64 hC, Option.bind_some, ro hC, Option.bind_some, needTold_t hC hok hrow.1 h1, tb_l, if_neg h3, g64 hC, Option.bind_some, ro hC, Option.bind_some, needTold_f hC hok hrow.1 h2]
        rfl
      · unfold fX7_specValue
        rw [isTold_t hR hsp hL.1 h1, Option.bind_some, if_neg i10, if_neg h3, isTold_f hR hsp hL.1 h2, Option.bind_some, if_pos rfl]
        exact bad
  · refine sim_thr 0 0 hR hW (Or.inl rfl) (fun N hC => ?_) ?_
    · obtain ⟨hpp, hok, hrow⟩ := row220 hC hr
      unfold fX6_specValue
      rw [g64 hC, Option.bind_some, ro hC, Option.bind_some, needTold_f hC hok hrow.1 h1]
      rfl
    · unfold fX7_specValue
      rw [isTold_f hR hsp hL.1 h1, Option.bind_some, if_pos rfl]
      exact bad
theorem wOf_of {i : Nat} {d : RowD} (h : R (200 + i) = some d) : wOf R i = d.2.1 ∧ pOf R i = d.2.2 := by unfold wOf pOf; rw [h]; exact ⟨rfl, rfl⟩
theorem iN_nI {i : Nat} (h : i < 2 ^ 31) : iN (nI i) = i := nI_clamp h
theorem s_specPart (o t : Nat) : sim_specPart o (Inv o t) (Inv o (t + 1)) := by
  intro z S p0 p1 hI
  obtain ⟨K, I, P, N0⟩ := z
  obtain ⟨f, M⟩ := S
  refine sim_core (fun e => e = 0 ∨ e = 1 ∨ e = 2) (fun e => if e = 0 then 1 else (if e = 1 then 2 else (if e = 2 then 3 else 0))) hI (fun b T n g R F Q U hR hW => ?_)
  have h20 := hW.1.2.2.2
  obtain ⟨L, hr, hw60, hL⟩ := hW.dG
  have hL30 := hL.len
  obtain ⟨hsp, hsw⟩ := hR.sp (k := 20) (Nat.le_refl _) hr
  rcases ix_em p1 (n := g) (by omega) with ⟨i, hi, rfl⟩ | h1
  · obtain ⟨X, hri, hx60, hX⟩ := hW.sG hi
    obtain ⟨hspi, hswi⟩ := hR.sp (k := i) (by omega) hri
    have hwo := wOf_of hri
    have rst : fX7_specPart p0 (nI i) (f, M) = fX7_specPart_b22 p0 (nI i) 1 (nI (1 + sumW R X)) (f, M) := by
      unfold fX7_specPart
      rw [isSig_t hR hi, Option.bind_some]
      show (if (1 : Int32) = 0 then _ else Option.bind (rd (f, M) 12 (nI i)) _) = _
      rw [if_neg i10, r_rd 21 rfl (by omega) (by omega), hswi, Option.bind_some]
      show fX7_specPart_b22 p0 (nI i) 1 (nI 1 + nI (sumW R X)) (f, M) = _
      rw [nI_add]
    have cst : ∀ N, CR o b K I P N T n g R F Q U → ∃ c, c ≠ b + 9 ∧ RowOK K P c ∧ RowIs I c (X, sumW R X, sumP R X) ∧ fX6_specPart o p0 (nI i) (K, I, P, N) = tbind (fX6_needName p0 (K, I, P, N)) fun v24 z24 =>
      Option.bind (cgR z24 o 6 4) fun x28 =>
      tbind (fX6_needPlace x28 2 p0 z24) fun v33 z33 =>
      Option.bind (some c) fun q39 =>
      Option.bind (cgI z33 q39 2 2) fun x39 =>
      Option.bind (crc z33 (some o) 6) fun c43 =>
      tbind (fX6_needRoomForSpecs c43 (1 + x39) z33) fun v43 z43 =>
      Option.bind (cgR z43 o 6 4) fun x47 =>
      Option.bind (crc z43 x47 2) fun c57 =>
      Option.bind (fX2_add c57 2 p0 (nI i) ((-100)) 0 ((-1)) z43) fun q57 =>
      Option.bind (cgR (q57.2) o 6 4) fun x61 =>
      Option.bind x61 fun q65 =>
      Option.bind (cgI (q57.2) q65 2 2) fun x65 =>
      Option.bind (some c) fun q70 =>
      Option.bind (cgI (q57.2) q70 2 2) fun x70 =>
      Option.bind x61 fun q75 =>
      Option.bind (cpI (q57.2) q75 2 2 (x65 + (1 + x70))) fun z75 =>
      Option.bind (cgR z75 o 6 4) fun x79 =>
      Option.bind x79 fun q83 =>
      Option.bind (cgI z75 q83 2 3) fun x83 =>
      Option.bind (some c) fun q88 =>
      Option.bind (cgI z75 q88 2 3) fun x88 =>
      Option.bind x79 fun q93 =>
      Option.bind (cpI z75 q93 2 3 (x83 + (1 + x88))) fun z93 =>
      Option.bind (cgR z93 o 6 4) fun x97 =>
      Option.bind x97 fun q100 =>
      Option.bind (cgI z93 q100 2 1) fun x100 =>
      some (.inl x100, z93, 0, 0) := by
      intro N hC
      obtain ⟨c, c1, c2, c3, hc⟩ := atG hC hi hri
      refine ⟨c, fun e => ?_, c2, c3, ?_⟩
      · have := hC.sd.2.1 _ _ _ c1 (ptr220.trans (by rw [e]))
        omega
      · unfold fX6_specPart
        rw [g62 hC, Option.bind_some, r5 hC, Option.bind_some, hc, Option.bind_some]
        rfl
    have cr1 : (1 : Int32) + nI (sumW R X) = nI (1 + sumW R X) := nI_add 1 _
    have cp1 : (1 : Int32) + nI (sumP R X) = nI (1 + sumP R X) := nI_add 1 _
    rcases isNm_em p0 with h0 | h0
    · have rs2 : fX7_specPart_b22 p0 (nI i) 1 (nI (1 + sumW R X)) (f, M) = Option.bind (fX7_findsSpec 20 2 p0 (f, M)) fun q49 => if (q49.1) = ((-1)) then Option.bind (rd (q49.2) 12 (20)) fun x62 => if (x62 + nI (1 + sumW R X)) ≤ (60) then fX7_specPart_b76 p0 (nI i) (nI (1 + sumW R X)) 0 (q49.2) else fX7_specPart_b71 p0 (nI i) (nI (1 + sumW R X)) (q49.2) else fX7_specPart_b71 p0 (nI i) (nI (1 + sumW R X)) (q49.2) := by
        unfold fX7_specPart_b22
        rw [if_neg i10, isName_t h0, Option.bind_some, if_neg i10]
      have thr : (plc L 2 p0 ≠ none ∨ 60 < sumW R L + (1 + sumW R X)) → fX7_specPart p0 (nI i) (f, M) = some (0, upd f 54 3, M) := by
        intro hh
        rw [rst, rs2, show (20 : Int32) = nI 20 from rfl, fi_sp hsp (Nat.le_refl _) hL.1, Option.bind_some]
        have fin : fX7_specPart_b71 p0 (nI i) (nI (1 + sumW R X)) (f, M) = some (0, upd f 54 3, M) := by
          unfold fX7_specPart_b71 fX7_specPart_b76
          rw [fails_1 (by decide), Option.bind_some]
          rfl
        cases hp : plc L 2 p0 with
        | some q =>
          have := plc_lt hp
          show (if nI (60 * 20 + q) = -1 then _ else _) = _
          rw [if_neg (nI_nm1 (by omega))]
          exact fin
        | none =>
          have h60 := hh.resolve_left (fun h => h hp)
          rw [if_pos plI_none, r_rd 21 rfl (by omega) (by omega), hsw]
          show (if nI (sumW R L) + nI (1 + sumW R X) ≤ 60 then _ else _) = _
          rw [nI_add, show (60 : Int32) = nI 60 from rfl, if_neg (nI_ge h60 (by omega))]
          exact fin
      by_cases hp : plc L 2 p0 = none
      · by_cases h60 : 60 < sumW R L + (1 + sumW R X)
        · refine sim_thr 2 0 hR hW (Or.inr (Or.inr rfl)) (fun N hC => ?_) (thr (Or.inr h60))
          obtain ⟨hpp, hok, hrow⟩ := row220 hC hr
          obtain ⟨c, c0, c1, c2, c3⟩ := cst N hC
          rw [c3, needName_t h0, tb_l, g64 hC, Option.bind_some, needPlace_t hok hrow.1 hp, tb_l, Option.bind_some, e_gI c1.1, Option.bind_some, c2.2.1, ro hC, Option.bind_some]
          show tbind (fX6_needRoomForSpecs o (1 + nI (sumW R X)) (K, I, P, N)) _ = _
          rw [cr1, needRoom_f hC hok hrow.2.1 h60 (show sumW R L + (1 + sumW R X) < 2 ^ 31 by omega)]
          rfl
        · have hE : gE T.length g L L.length (2, p0, nI i, -100, 0, -1) := ⟨h0, rfl, rfl, Or.inr (Or.inr ⟨rfl, rfl, i, hi, rfl⟩)⟩
          have hL2 := hL.add hE hp
          have hL230 := hL2.len
          have hwt : wt R (2, p0, nI i, -100, 0, -1) = 1 + sumW R X := by
            show (if (2 : Int32) = 2 then 1 + wOf R (iN (nI i)) else 1) = _
            rw [if_pos rfl, iN_nI (by omega), hwo.1]
          have hpt : pt R (2, p0, nI i, -100, 0, -1) = 1 + sumP R X := by
            show (if (2 : Int32) = 2 then 1 + pOf R (iN (nI i)) else 0) = _
            rw [if_pos rfl, iN_nI (by omega), hwo.2]
          have hW2 := hW.draftG hL2 (by rw [sumW_add, hwt]; omega)
          rw [sumW_add, hwt, sumP_add, hpt] at hW2
          have hl : L.length < 30 := by simp at hL230; omega
          refine sim_do (nI (L.length + 1)) hW2.step (fun N hC => ?_) ?_
          · obtain ⟨hok, hrow, J, e1, e2, e3, e4, e5, -, e6⟩ := spec_c (m := 1 + sumW R X) (q := 1 + sumP R X) hC hr hl 2 p0 (nI i) (-100)
            obtain ⟨c, c0, c1, c2, c3⟩ := cst N hC
            have jc := (e5.row hok c1 (Ne.symm c0)).1
            refine ⟨K, _, P, N, 0, 0, ?_, by omega, by omega, e6⟩
            rw [c3, needName_t h0, tb_l, g64 hC, Option.bind_some, needPlace_t hok hrow.1 hp, tb_l, Option.bind_some, e_gI c1.1, Option.bind_some, c2.2.1, ro hC, Option.bind_some]
            show tbind (fX6_needRoomForSpecs o (1 + nI (sumW R X)) (K, I, P, N)) _ = _
            rw [cr1, needRoom_t hC hok hrow.2.1 (show sumW R L + (1 + sumW R X) ≤ 60 by omega), tb_l, g64 hC, Option.bind_some, e_rc hok.1, Option.bind_some, e1, Option.bind_some]
            rw [e_gR hC.Ko, hC.sf.2.2.2.2.2.1, Option.bind_some, Option.bind_some, e_gI hok.1, Option.bind_some, e3, Option.bind_some, e_gI c1.1, Option.bind_some, jc, c2.2.1]
            show Option.bind (some (b + 9)) _ = _
            rw [Option.bind_some, e_pI hok.1, Option.bind_some, e_gR hC.Ko, hC.sf.2.2.2.2.2.1, Option.bind_some, Option.bind_some, e_gI hok.1, Option.bind_some, cup_j (by omega), e4, Option.bind_some, e_gI c1.1, Option.bind_some, cup_q c0, jc, c2.2.2]
            show Option.bind (some (b + 9)) _ = _
            rw [Option.bind_some, e_pI hok.1, Option.bind_some, e_gR hC.Ko, hC.sf.2.2.2.2.2.1, Option.bind_some, Option.bind_some, e_gI hok.1, Option.bind_some, cup_j (by omega), cup_j (by omega), e2]
            show some (_, (K, cup (cup J (b + 9) 2 (nI (sumW R L) + (1 + nI (sumW R X)))) (b + 9) 3 (nI (sumP R L) + (1 + nI (sumP R X))), P, N), 0, 0) = _
            rw [cr1, cp1, nI_add, nI_add]
          · obtain ⟨W, e1, e2, e3⟩ := spec_r (m := 1 + sumW R X) (q := sumP R L + (1 + sumP R X)) (hR.thr 0) hr hl 2 p0 (nI i) (-100)
            refine ⟨_, W, ?_, e3, upd_s⟩
            rw [rst, rs2, show (20 : Int32) = nI 20 from rfl, fi_sp hsp (Nat.le_refl _) hL.1, Option.bind_some, hp, if_pos plI_none, r_rd 21 rfl (by omega) (by omega), hsw]
            show (if nI (sumW R L) + nI (1 + sumW R X) ≤ 60 then _ else _) = _
            rw [nI_add, show (60 : Int32) = nI 60 from rfl, if_pos (nI_le (by omega) (by omega))]
            unfold fX7_specPart_b76
            rw [fails_0, Option.bind_some]
            show Option.bind (fX7_specifies 20 2 p0 (nI i) (-100) (nI (1 + sumW R X)) (upd f 54 0, M)) _ = _
            rw [e1, Option.bind_some, show (20 : Int32) = nI 20 from rfl, r_rd 21 rfl (by omega) (by omega), e2]
            rfl
      · refine sim_thr 2 0 hR hW (Or.inr (Or.inr rfl)) (fun N hC => ?_) (thr (Or.inl hp))
        obtain ⟨hpp, hok, hrow⟩ := row220 hC hr
        obtain ⟨c, c0, c1, c2, c3⟩ := cst N hC
        rw [c3, needName_t h0, tb_l, g64 hC, Option.bind_some, needPlace_f hok hrow.1 hp]
        rfl
    · refine sim_thr 1 0 hR hW (Or.inr (Or.inl rfl)) (fun N hC => ?_) ?_
      · obtain ⟨c, c0, c1, c2, c3⟩ := cst N hC
        rw [c3, needName_f h0]
        rfl
      · rw [rst]
        unfold fX7_specPart_b22
        rw [if_neg i10, isName_f h0, Option.bind_some, if_pos rfl]
        unfold fX7_specPart_b76
        rw [fails_1 (by decide), Option.bind_some]
        rfl
  · refine sim_thr 0 0 hR hW (Or.inl rfl) (fun N hC => ?_) ?_
    · unfold fX6_specPart
      rw [g62 hC, Option.bind_some, r5 hC, Option.bind_some, at_no hC.shG h1, Option.bind_some]
      rfl
    · unfold fX7_specPart
      rw [isSig_f hR h1, Option.bind_some]
      show (if (0 : Int32) = 0 then fX7_specPart_b22 p0 p1 0 0 (f, M) else _) = _
      rw [if_pos rfl]
      unfold fX7_specPart_b22
      rw [if_pos rfl]
      unfold fX7_specPart_b76
      rw [fails_1 (by decide), Option.bind_some]
      rfl
theorem s_specs (o t : Nat) : sim_specs o (Inv o t) (Inv o (t + 1)) := by
  intro z S p0 hI
  obtain ⟨K, I, P, N0⟩ := z
  obtain ⟨f, M⟩ := S
  refine sim_core (fun e => e = 0) (fun e => if e = 0 then 1 else 0) hI (fun b T n g R F Q U hR hW => ?_)
  have h20 := hW.1.2.2.2
  rcases ix_em p0 (n := g) (by omega) with ⟨i, hi, rfl⟩ | h1
  · obtain ⟨X, hri, hx60, hX⟩ := hW.sG hi
    refine sim_get (nI X.length) hR hW (fun N hC => ?_) ?_
    · obtain ⟨a, a1, a2, a3, ha⟩ := atG hC hi hri
      unfold fX6_specs
      rw [g62 hC, Option.bind_some, r5 hC, Option.bind_some, ha, Option.bind_some]
      show Option.bind (cgI (K, I, P, N) a 2 1) _ = _
      rw [e_gI a2.1, a3.1.1]
      rfl
    · unfold fX7_specs
      rw [isSig_t hR hi, Option.bind_some, if_neg i10]
      unfold fX7_specs_b14
      rw [fails_0, Option.bind_some]
      show Option.bind (rd (upd f 54 0, M) 11 (nI i)) _ = _
      rw [r_rd 21 rfl (by omega) (by omega), (hR.sp (k := i) (by omega) hri).1.1]
      rfl
  · refine sim_thr 0 0 hR hW rfl (fun N hC => ?_) ?_
    · unfold fX6_specs
      rw [g62 hC, Option.bind_some, r5 hC, Option.bind_some, at_no hC.shG h1, Option.bind_some]
      rfl
    · unfold fX7_specs
      rw [isSig_f hR h1, Option.bind_some, if_pos rfl]
      unfold fX7_specs_b14
      rw [fails_1 (by decide), Option.bind_some]
      rfl
end Specs2
