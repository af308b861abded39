/-! THE CALLS ON TYPES AND STRUCTS -/
theorem i02 : ¬ (0 : Int32) = 2 := by decide
theorem i12 : ¬ (1 : Int32) = 2 := by decide
theorem i01 : ¬ (0 : Int32) = 1 := by decide
theorem i10 : ¬ (1 : Int32) = 0 := by decide
theorem i20 : ¬ (2 : Int32) = 0 := by decide
theorem i21 : ¬ (2 : Int32) = 1 := by decide
section Easy
variable {o b t : Nat} {K : Nat → Option (Nat × Nat)} {I : Nat → Nat → Int32} {P : Nat → Nat → Option Nat} {N0 N : Nat} {f : Nat → Int32} {M : Nat → Nat → Int32} {T : List TyD} {n g : Nat} {R : Nat → Option RowD} {F : List FuD} {Q : List (Int32 × Int32)} {U : List UnD}
theorem ix_em (x : Int32) {n : Nat} (hn : n < 2 ^ 31) : (∃ j, j < n ∧ x = nI j) ∨ (x < 0 ∨ nI n ≤ x) := by
  rcases pk_ix x hn with h | h | h
  · exact Or.inr (Or.inl h)
  · exact Or.inr (Or.inr h)
  · exact Or.inl h
theorem arN_lt {x y : Int32} : arN T x y < (arT T x y).length := by
  unfold arN arT
  cases hf : fArr T x y with
  | some i =>
    unfold fArr at hf
    exact (List.findIdx?_eq_some_iff_getElem.mp hf).1
  | none => simp
theorem WF.strs (h : WF t T n g R F Q U) {n2 : Nat} {R2 : Nat → Option RowD} (hn : n ≤ n2) (h30 : n2 ≤ 30) (hR : ∀ k, 200 ≤ k → R2 k = R k) (hS : ∀ k, k < n2 ∨ k = 100 → ∃ L w p, R2 k = some (L, w, p) ∧ WfS T.length n2 L) : WF t T n2 g R2 F Q U := by
  obtain ⟨a, c, ⟨d1, d2⟩, e, fu, pk, un⟩ := h
  refine ⟨⟨a.1, a.2.1, h30, a.2.2.2⟩, hS, ⟨fun i hi => (d1 i hi).congr (Nat.le_refl _) (by have := a.2.2.2; omega) (fun j _ => hR _ (by omega)) (hR _ (by omega)), d2.congr (Nat.le_refl _) a.2.2.2 (fun j _ => hR _ (by omega)) (hR _ (by omega))⟩, fun i hi => ?_, fun i x hx => ?_, fun i x hx => ?_, un⟩
  · rw [hR _ (by omega)]; exact e i hi
  · obtain ⟨⟨q, h1, h2, LA, wa, pa, LB, wb, pb, h3, h4, h5⟩, h6, h7, h8⟩ := fu i x hx
    exact ⟨⟨q, h1, h2, LA, wa, pa, LB, wb, pb, by rw [hR _ (by omega)]; exact h3, by rw [hR _ (by omega)]; exact h4, h5⟩, h6, h7, fun s hs => (h8 s hs).imp_right (fun ⟨v, p, q⟩ => ⟨v, by omega, q⟩)⟩
  · obtain ⟨s, c, h1, h2, h3⟩ := pk i x hx
    exact ⟨s, c, by omega, h2, h3⟩
theorem WF.draftS (h : WF t T n g R F Q U) {L : List En} {w p : Nat} (hL : WfS T.length n L) : WF t T n g (aup R 100 (some (L, w, p))) F Q U := by
  refine h.strs (Nat.le_refl _) h.1.2.2.1 (fun k hk => aup_n (by omega)) (fun k hk => ?_)
  by_cases hk1 : k = 100
  · subst hk1; exact ⟨L, w, p, aup_s, hL⟩
  · rw [aup_n hk1]; exact h.2.1 k hk
theorem WF.str (h : WF t T n g R F Q U) {k : Nat} (hk : k < n ∨ k = 100) : ∃ L w p, R k = some (L, w, p) ∧ WfS T.length n L := h.2.1 k hk
theorem ptr100 : ptr b P 100 = some (b + 7) := rfl
theorem ptr220 : ptr b P 220 = some (b + 9) := rfl
theorem ptr308 : ptr b P 308 = some (b + 11) := rfl
theorem s_arrow (o t : Nat) : sim_arrow o (Inv o t) (Inv o (t + 1)) := by
  intro z S p0 p1 hI
  obtain ⟨K, I, P, N0⟩ := z
  obtain ⟨f, M⟩ := S
  refine sim_core (fun e => e = 0 ∨ e = 2) (fun e => if e = 0 then 1 else (if e = 2 then 2 else 0)) hI (fun b T n g R F Q U hR hW => ?_)
  have hT := hW.1.1
  have h2 := hW.1.2.1
  rcases ix_em p0 (n := T.length) (by omega) with ⟨i, hi, rfl⟩ | h0
  · rcases ix_em p1 (n := T.length) (by omega) with ⟨j, hj, rfl⟩ | h1
    · have rst : fX7_arrow (nI i) (nI j) (f, M) = fX7_arrow_b21 (nI i) (nI j) 1 (f, M) := by
        unfold fX7_arrow
        rw [isType_t hR hi, Option.bind_some, if_neg (show ¬ (1 : Int32) = 0 by decide), isType_t hR hj, Option.bind_some, if_neg (show ¬ (1 : Int32) = 0 by decide)]
      by_cases hl : (arT T (nI i) (nI j)).length ≤ 200
      · refine sim_do (nI (arN T (nI i) (nI j))) ((hW.types (hT.ar hi hj) hl arT_len).step) (fun N hC => ?_) ?_
        · obtain ⟨J, e1, e2⟩ := arrowOf_ok hC hT hi hj hl
          refine ⟨K, J, P, N, 0, 0, ?_, by omega, by omega, e2⟩
          unfold fX6_arrow
          rw [e_rc hC.Ko, Option.bind_some, needType_t hC hi, tb_l, e_rc hC.Ko, Option.bind_some, needType_t hC hj, tb_l, e_gR hC.Ko, Option.bind_some, hC.sf.2.1, e_rc hC.K0, Option.bind_some, e1, Option.bind_some]
          show (if nI (arN T (nI i) (nI j)) = -1 then _ else _) = _
          rw [if_neg (nI_nm1 (by have := arN_lt (T := T) (x := nI i) (y := nI j); omega))]
        · obtain ⟨f2, W, e1, e2, e3⟩ := arrowOf_rr (hR.thr 0) hT (by omega) (nI i) (nI j)
          refine ⟨f2, W, ?_, e2, by rw [e3 54 (by omega), upd_s]⟩
          have fin : fX7_arrow_b56 (nI i) (nI j) 0 (f, M) = some (nI (arN T (nI i) (nI j)), f2, W) := by
            unfold fX7_arrow_b56
            rw [fails_0, Option.bind_some]
            show Option.bind (fX7_arrowOf (nI i) (nI j) (upd f 54 0, M)) _ = _
            rw [e1]
            rfl
          rw [rst]
          unfold fX7_arrow_b21
          rw [if_neg (show ¬ (1 : Int32) = 0 by decide), findsArrow_r hR hT, Option.bind_some]
          cases hf : fArr T (nI i) (nI j) with
          | some q =>
            have hq : q < T.length := by unfold fArr at hf; exact (List.findIdx?_eq_some_iff_getElem.mp hf).1
            show (if nI q = -1 then _ else _) = _
            rw [if_neg (nI_nm1 (by omega))]
            exact fin
          | none =>
            show (if (-1 : Int32) = -1 then (if f 0 = 200 then _ else _) else _) = _
            have : T.length < 200 := by unfold arT at hl; rw [hf] at hl; simp at hl; omega
            rw [if_pos rfl, hR.ty.1, show (200 : Int32) = nI 200 from rfl, if_neg (fun e => by have := (nI_eq (by omega) (by omega)).mp e; omega)]
            exact fin
      · have hf : fArr T (nI i) (nI j) = none := by
          cases hf : fArr T (nI i) (nI j) with
          | none => rfl
          | some q => unfold arT at hl; rw [hf] at hl; exact absurd h2 hl
        have h200 : T.length = 200 := by unfold arT at hl; rw [hf] at hl; simp at hl; omega
        refine sim_thr 2 0 hR hW (Or.inr rfl) (fun N hC => ?_) ?_
        · unfold fX6_arrow
          rw [e_rc hC.Ko, Option.bind_some, needType_t hC hi, tb_l, e_rc hC.Ko, Option.bind_some, needType_t hC hj, tb_l, e_gR hC.Ko, Option.bind_some, hC.sf.2.1, e_rc hC.K0, Option.bind_some, arrowOf_no hC hT hi hj (by omega), Option.bind_some]
          rfl
        · rw [rst]
          unfold fX7_arrow_b21
          rw [if_neg (show ¬ (1 : Int32) = 0 by decide), findsArrow_r hR hT, Option.bind_some, hf]
          show (if (-1 : Int32) = -1 then (if f 0 = 200 then _ else _) else _) = _
          rw [if_pos rfl, hR.ty.1, h200, if_pos rfl]
          unfold fX7_arrow_b56
          rw [fails_1 (by decide), Option.bind_some]
          rfl
    · refine sim_thr 0 0 hR hW (Or.inl rfl) (fun N hC => ?_) ?_
      · unfold fX6_arrow
        rw [e_rc hC.Ko, Option.bind_some, needType_t hC hi, tb_l, e_rc hC.Ko, Option.bind_some, needType_f hC h1]
        rfl
      · unfold fX7_arrow
        rw [isType_t hR hi, Option.bind_some, if_neg (show ¬ (1 : Int32) = 0 by decide), isType_f hR h1, Option.bind_some, if_pos rfl]
        unfold fX7_arrow_b20 fX7_arrow_b21
        rw [if_pos rfl]
        unfold fX7_arrow_b56
        rw [fails_1 (by decide), Option.bind_some]
        rfl
  · refine sim_thr 0 0 hR hW (Or.inl rfl) (fun N hC => ?_) ?_
    · unfold fX6_arrow
      rw [e_rc hC.Ko, Option.bind_some, needType_f hC h0]
      rfl
    · unfold fX7_arrow
      rw [isType_f hR h0, Option.bind_some, if_pos rfl]
      unfold fX7_arrow_b20 fX7_arrow_b21
      rw [if_pos rfl]
      unfold fX7_arrow_b56
      rw [fails_1 (by decide), Option.bind_some]
      rfl
theorem kind3 (x : Int32) : x = 0 ∨ x = 1 ∨ x = 2 ∨ (x < 0 ∨ 2 < x) := by
  rcases pk_ix x (n := 3) (by omega) with h | h | ⟨j, hj, rfl⟩
  · exact Or.inr (Or.inr (Or.inr (Or.inl h)))
  · refine Or.inr (Or.inr (Or.inr (Or.inr ?_)))
    rw [Int32.lt_iff_toInt_lt]
    rw [Int32.le_iff_toInt_le] at h
    have h1 : (nI 3).toInt = 3 := by decide
    have h2 : (2 : Int32).toInt = 2 := by decide
    omega
  · rcases (show j = 0 ∨ j = 1 ∨ j = 2 by omega) with rfl | rfl | rfl
    · exact Or.inl rfl
    · exact Or.inr (Or.inl rfl)
    · exact Or.inr (Or.inr (Or.inl rfl))
theorem nI_ne {i j : Nat} (hi : i < 2 ^ 31) (hj : j < 2 ^ 31) (h : i ≠ j) : ¬ nI i = nI j := fun e => h ((nI_eq hi hj).mp e)
theorem kindOf_c (hC : CR o b K I P N T n g R F Q U) (hw : TyW T) {i : Nat} {x : TyD} (hi : T[i]? = some x) : fX4_kindOf b (nI i) (K, I, P, N) = some (tdK i x, K, I, P, N) := by
  have h2 := hC.ty.2.1
  have hl := (List.getElem?_eq_some_iff.mp hi).1
  unfold fX4_kindOf
  rw [e_rc hC.K0, Option.bind_some, isArrow_a hC hw, Option.bind_some, tyd_t (by omega) hi]
  cases x with
  | some y => rfl
  | none =>
    show (if nI i = 0 then _ else _) = _
    by_cases h0 : i = 0
    · subst h0; rfl
    · rw [if_neg (nI_ne0 (by omega) (by omega))]
      by_cases h1 : i = 1
      · subst h1; rfl
      · rw [show (1 : Int32) = nI 1 from rfl, if_neg (nI_ne (by omega) (by omega) h1)]
        show some ((1 : Int32), (K, I, P, N)) = some (if i < 2 then 0 else 1, (K, I, P, N))
        rw [if_neg (show ¬ i < 2 by omega)]
theorem s_type (o t : Nat) : sim_type o (Inv o t) (Inv o (t + 1)) := by
  intro z S p0 p1 hI
  obtain ⟨K, I, P, N0⟩ := z
  obtain ⟨f, M⟩ := S
  refine sim_core (fun e => e = 0 ∨ e = 1) (fun e => if e = 0 then 1 else (if e = 1 then 2 else 0)) hI (fun b T n g R F Q U hR hW => ?_)
  have hT := hW.1.1
  have h2 := hW.1.2.1
  rcases ix_em p0 (n := T.length) (by omega) with ⟨i, hi, rfl⟩ | h0
  · have hg := List.getElem?_eq_getElem hi
    obtain ⟨q1, q2⟩ := hR.ty.2.2 i _ hg
    have rst : fX7_type (nI i) p1 (f, M) = Option.bind (fX7_isIn p1 0 2 (f, M)) fun q16 => if (q16.1) = 0 then fX7_type_b27 (nI i) p1 2 (q16.2) else fX7_type_b27 (nI i) p1 0 (q16.2) := by
      unfold fX7_type
      rw [isType_t hR hi, Option.bind_some, if_neg (show ¬ (1 : Int32) = 0 by decide)]
    have cst : ∀ N, CR o b K I P N T n g R F Q U → fX6_type o (nI i) p1 (K, I, P, N) = (if (p1) = 0 then Option.bind (fX4_kindOf b (nI i) (K, I, P, N)) fun q14 => some (.inl (q14.1), q14.2, 0, 0) else if (p1) = (1) then Option.bind (fX4_fromOf b (nI i) (K, I, P, N)) fun q28 => some (.inl (q28.1), q28.2, 0, 0) else if (p1) = (2) then Option.bind (fX4_toOf b (nI i) (K, I, P, N)) fun q42 => some (.inl (q42.1), q42.2, 0, 0) else some (.inr 1, (K, I, P, N), 1, 6)) := by
      intro N hC
      unfold fX6_type
      rw [e_rc hC.Ko, Option.bind_some, needType_t hC hi, tb_l, e_gR hC.Ko, Option.bind_some, Option.bind_some, Option.bind_some, hC.sf.2.1, e_rc hC.K0, Option.bind_some, Option.bind_some, Option.bind_some]
    have r1 : rd (upd f 54 0, M) 1 (nI i) = some (tdK i T[i]) := by rw [r_rd 400 rfl (by omega) (by omega), q1]
    rcases kind3 p1 with rfl | rfl | rfl | h1
    · refine sim_get (tdK i T[i]) hR hW (fun N hC => ?_) ?_
      · rw [cst N hC, if_pos rfl, kindOf_c hC hT hg]; rfl
      · rw [rst, isIn_t (by decide) (by decide), Option.bind_some, if_neg (show ¬ (1 : Int32) = 0 by decide)]
        unfold fX7_type_b27
        rw [fails_0, Option.bind_some]
        show Option.bind (rd (upd f 54 0, M) 1 (nI i)) _ = _
        rw [r1]
        rfl
    · refine sim_get (tdF T[i]) hR hW (fun N hC => ?_) ?_
      · rw [cst N hC, if_neg (by decide), if_pos rfl, fromOf_t hC hg]; rfl
      · rw [rst, isIn_t (by decide) (by decide), Option.bind_some, if_neg (show ¬ (1 : Int32) = 0 by decide)]
        unfold fX7_type_b27
        rw [fails_0, Option.bind_some]
        show Option.bind (rd (upd f 54 0, M) 1 (nI i)) _ = _
        rw [r1, Option.bind_some]
        cases hx : T[i] with
        | none => rw [if_neg (tdK_ne i)]; rfl
        | some y =>
          obtain ⟨y1, y2⟩ := y
          rw [if_pos rfl, if_pos (show tdK i (some (y1, y2)) = 2 from rfl), r_rd 400 rfl (by omega) (by omega), (q2 y1 y2 hx).1]
          rfl
    · refine sim_get (tdT T[i]) hR hW (fun N hC => ?_) ?_
      · rw [cst N hC, if_neg (by decide), if_neg (by decide), if_pos rfl, toOf_t hC hg]; rfl
      · rw [rst, isIn_t (by decide) (by decide), Option.bind_some, if_neg (show ¬ (1 : Int32) = 0 by decide)]
        unfold fX7_type_b27
        rw [fails_0, Option.bind_some]
        show Option.bind (rd (upd f 54 0, M) 1 (nI i)) _ = _
        rw [r1, Option.bind_some]
        cases hx : T[i] with
        | none => rw [if_neg (tdK_ne i)]; rfl
        | some y =>
          obtain ⟨y1, y2⟩ := y
          rw [if_pos (show tdK i (some (y1, y2)) = 2 from rfl), if_neg (by decide), r_rd 400 rfl (by omega) (by omega), (q2 y1 y2 hx).2]
          rfl
    · refine sim_thr 1 0 hR hW (Or.inr rfl) (fun N hC => ?_) ?_
      · rw [cst N hC, if_neg (fun e => by subst e; exact absurd h1 (by decide)), if_neg (fun e => by subst e; exact absurd h1 (by decide)), if_neg (fun e => by subst e; exact absurd h1 (by decide))]
      · rw [rst, isIn_f h1, Option.bind_some, if_pos rfl]
        unfold fX7_type_b27
        rw [fails_1 (by decide), Option.bind_some]
        rfl
  · refine sim_thr 0 0 hR hW (Or.inl rfl) (fun N hC => ?_) ?_
    · unfold fX6_type
      rw [e_rc hC.Ko, Option.bind_some, needType_f hC h0]
      rfl
    · unfold fX7_type
      rw [isType_f hR h0, Option.bind_some, if_pos rfl]
      unfold fX7_type_b27
      rw [fails_1 (by decide), Option.bind_some]
      rfl
/-! items -/
theorem hidden_cb {L : List En} {kd nm : Int32} {β : Type} {x : Option β} : cbo (hidden L kd nm) x = x := by
  unfold hidden
  cases plc L kd nm with
  | none => exact cbo_0
  | some _ => exact cbo_1
theorem hidden_rb {L : List En} {kd nm : Int32} {S : rS} : rbo (hidden L kd nm) S = some (hidden L kd nm, S) := by
  unfold hidden
  cases plc L kd nm with
  | none => exact rbo_0
  | some _ => exact rbo_1
theorem addHiding_c (hC : CR o b K I P N T n g R F Q U) {L : List En} {w p : Nat} (hr : R 100 = some (L, w, p)) {kd nm x num : Int32} (h30 : (hide L (kd, nm, x, -100, num, -1)).length ≤ 30) : ∃ J, fX6_addHiding o kd nm x num (K, I, P, N) = some (hidden L kd nm, K, J, P, N) ∧ CR o b K J P N T n g (aup R 100 (some (hide L (kd, nm, x, -100, num, -1), w, p))) F Q U := by
  obtain ⟨a, hk, hp, hok, hrow⟩ := hC.row hr
  have ha : b + 7 = a := by rw [ptr100] at hp; cases hp; rfl
  have g3 : cgR (K, I, P, N) o 6 3 = some (some (b + 7)) := by rw [e_gR hC.Ko, hC.sf.2.2.2.2.1]
  unfold fX6_addHiding
  rw [g3, Option.bind_some, ha, e_rc hok.1, Option.bind_some, placeOf_r hok hrow.1, Option.bind_some]
  unfold hide at h30 ⊢
  unfold hidden
  cases hpl : plc L kd nm with
  | none =>
    rw [hpl] at h30
    obtain ⟨J, e1, e2, e3, e4, e5⟩ := add_r (N := N) hok hrow.1 (show L.length < 30 by simp at h30; omega) kd nm x (-100) num (-1)
    refine ⟨J, ?_, hC.upRow hk hp e3 ⟨e2, by rw [e4]; exact hrow.2.1, by rw [e5]; exact hrow.2.2⟩⟩
    show fX6_addHiding_b26 o kd nm x num (-1) (K, I, P, N) = _
    unfold fX6_addHiding_b26
    rw [g3, Option.bind_some, ha, e_rc hok.1, Option.bind_some, e1, Option.bind_some]
    rw [if_pos rfl]
    exact cbo_0
  | some i =>
    rw [hpl] at h30
    have hi := plc_lt hpl
    have h1 : L.length ≤ 30 := hrow.1.2.1
    obtain ⟨J0, d1, d2, d3, d4, d5⟩ := takeOut_r (N := N) hok hrow.1 hi
    obtain ⟨J, e1, e2, e3, e4, e5⟩ := add_r (N := N) hok d2 (show (L.eraseIdx i).length < 30 by simp at h30; omega) kd nm x (-100) num (-1)
    refine ⟨J, ?_, hC.upRow hk hp (d3.tr e3) ⟨e2, by rw [e4, d4]; exact hrow.2.1, by rw [e5, d5]; exact hrow.2.2⟩⟩
    show (if nI (0 + i) = -1 then _ else _) = _
    rw [Nat.zero_add, if_neg (nI_nm1 (by omega))]
    show Option.bind (cgR (K, I, P, N) o 6 3) _ = _
    rw [g3, Option.bind_some, ha, e_rc hok.1, Option.bind_some]
    show Option.bind (fX2_takeOut a (nI (0 + i)) (K, I, P, N)) _ = _
    rw [Nat.zero_add, d1, Option.bind_some]
    show fX6_addHiding_b26 o kd nm x num (nI (0 + i)) (K, J0, P, N) = _
    unfold fX6_addHiding_b26
    rw [e_gR hC.Ko, hC.sf.2.2.2.2.1, Option.bind_some, ha, e_rc hok.1, Option.bind_some, e1, Option.bind_some, Nat.zero_add, if_neg (nI_nm1 (by omega))]
    exact cbo_1
/-- an item is added to the draft: the reference -/
theorem adds_rr (hR : RR f M T n g R F Q U) {L : List En} {w p : Nat} (hr : R 100 = some (L, w, p)) (hu : Uq L) (h30 : L.length ≤ 30) (kd nm x num : Int32) : ∃ W, fX7_adds kd nm x num (f, M) = some (hidden L kd nm, f, W) ∧ RR f W T n g (aup R 100 (some (hide L (kd, nm, x, -100, num, -1), w, p))) F Q U := by
  obtain ⟨W, e1, e2, e3⟩ := adds_r (f := f) ((hR.rw 100 _ hr).1 (Nat.le_refl _)) hu (by show L.length < 60; omega) kd nm x num
  exact ⟨W, e1, hR.upIt (Nat.le_refl _) e3 e2⟩
theorem s_addType (o t : Nat) : sim_addType o (Inv o t) (Inv o (t + 1)) := by
  intro z S p0 p1 hI
  obtain ⟨K, I, P, N0⟩ := z
  obtain ⟨f, M⟩ := S
  refine sim_core (fun e => e = 0 ∨ e = 1 ∨ e = 2) (fun e => if e = 0 then 1 else (if e = 1 then 2 else (if e = 2 then 3 else 0))) hI (fun b T n g R F Q U hR hW => ?_)
  have hT := hW.1.1
  have h2 := hW.1.2.1
  obtain ⟨L, w, p, hr, hL⟩ := hW.str (Or.inr rfl)
  have hL30 := hL.len
  by_cases hm : p1 = -1
  · subst hm
    have cst : ∀ N, fX6_addType o p0 (-1) (K, I, P, N) = fX6_addType_b10 o p0 (-1) (K, I, P, N) := fun N => if_pos rfl
    have rst : fX7_addType p0 (-1) (f, M) = fX7_addType_b18 p0 (-1) 1 (f, M) := if_pos rfl
    rcases isNm_em p0 with h0 | h0
    · by_cases hl : T.length < 200
      · have hs : WfS (T ++ [none]).length n (hide L (0, p0, nI T.length, -100, 0, -1)) := by
          refine (hL.mono (by simp) (Nat.le_refl _)).hid ⟨Or.inl rfl, h0, fun e => absurd e i02, fun _ => ⟨T.length, by simp, rfl⟩, rfl, fun _ => rfl, rfl⟩
        have hW2 := ((hW.types hT.addNone (by simp; omega) (by simp)).draftS (w := w) (p := p) hs).step
        refine sim_do (nI T.length) hW2 (fun N hC => ?_) ?_
        · obtain ⟨J, e1, e2⟩ := newOne_ok hC hl
          obtain ⟨J2, d1, d2⟩ := addHiding_c e2 hr (kd := 0) (nm := p0) (x := nI T.length) (num := 0) hs.len
          refine ⟨K, J2, P, N, 0, 0, ?_, by omega, by omega, d2⟩
          rw [cst N]
          unfold fX6_addType_b10
          rw [needName_t h0, tb_l, if_pos rfl, e_gR hC.Ko, hC.sf.2.1, Option.bind_some, e_rc hC.K0, Option.bind_some, e1, Option.bind_some]
          unfold fX6_addType_b30
          rw [if_neg (nI_nm1 (by omega)), e_rc hC.Ko, Option.bind_some, d1, Option.bind_some]
        · obtain ⟨W, e1, e2⟩ := makesType_r (hR.thr 0) (by omega) hT.1 none 1 (by unfold tdK; rw [if_neg (by have := hT.1; omega)]) (-1) (-1) (fun p q h => by cases h)
          obtain ⟨W2, d1, d2⟩ := adds_rr e2 hr hL.1 hL30 0 p0 (nI T.length) 0
          refine ⟨_, W2, ?_, d2, by rw [upd_n (by omega), upd_s]⟩
          rw [rst]
          unfold fX7_addType_b18
          rw [if_neg (by decide), isName_t h0, Option.bind_some, if_neg (show ¬ (1 : Int32) = 0 by decide), if_pos rfl]
          show (if f 0 = 200 then _ else _) = _
          rw [hR.ty.1, show (200 : Int32) = nI 200 from rfl, if_neg (nI_ne (by omega) (by omega) (by omega))]
          unfold fX7_addType_b58 fX7_addType_b59
          rw [fails_0, Option.bind_some]
          show Option.bind (fX7_makesType 1 (-1) (-1) (upd f 54 0, M)) _ = _
          rw [e1, Option.bind_some]
          unfold fX7_addType_b83
          rw [d1]
          rfl
      · have h200 : T.length = 200 := by omega
        refine sim_thr 2 0 hR hW (Or.inr (Or.inr rfl)) (fun N hC => ?_) ?_
        · rw [cst N]
          unfold fX6_addType_b10
          rw [needName_t h0, tb_l, if_pos rfl, e_gR hC.Ko, hC.sf.2.1, Option.bind_some, e_rc hC.K0, Option.bind_some, newOne_no hC (by omega), Option.bind_some]
          rfl
        · rw [rst]
          unfold fX7_addType_b18
          rw [if_neg (by decide), isName_t h0, Option.bind_some, if_neg (show ¬ (1 : Int32) = 0 by decide), if_pos rfl]
          show (if f 0 = 200 then _ else _) = _
          rw [hR.ty.1, h200, if_pos rfl]
          unfold fX7_addType_b59
          rw [fails_1 (by decide), Option.bind_some]
          rfl
    · refine sim_thr 1 0 hR hW (Or.inr (Or.inl rfl)) (fun N hC => ?_) ?_
      · rw [cst N]
        unfold fX6_addType_b10
        rw [needName_f h0]
        rfl
      · rw [rst]
        unfold fX7_addType_b18
        rw [if_neg (by decide), isName_f h0, Option.bind_some, if_pos rfl]
        unfold fX7_addType_b59
        rw [fails_1 (by decide), Option.bind_some]
        rfl
  · rcases ix_em p1 (n := T.length) (by omega) with ⟨i, hi, rfl⟩ | h1
    · have cst : ∀ N, CR o b K I P N T n g R F Q U → fX6_addType o p0 (nI i) (K, I, P, N) = fX6_addType_b10 o p0 (nI i) (K, I, P, N) := by
        intro N hC
        unfold fX6_addType
        rw [if_neg hm, e_rc hC.Ko, Option.bind_some, needType_t hC hi, tb_l]
      have rst : fX7_addType p0 (nI i) (f, M) = fX7_addType_b18 p0 (nI i) 1 (f, M) := by
        unfold fX7_addType
        rw [if_neg hm, isType_t hR hi, Option.bind_some, if_neg (show ¬ (1 : Int32) = 0 by decide)]
        rfl
      rcases isNm_em p0 with h0 | h0
      · have hs : WfS T.length n (hide L (0, p0, nI i, -100, 0, -1)) := hL.hid ⟨Or.inl rfl, h0, fun e => absurd e i02, fun _ => ⟨i, hi, rfl⟩, rfl, fun _ => rfl, rfl⟩
        refine sim_do (nI i) (hW.draftS (w := w) (p := p) hs).step (fun N hC => ?_) ?_
        · obtain ⟨J2, d1, d2⟩ := addHiding_c hC hr (kd := 0) (nm := p0) (x := nI i) (num := 0) hs.len
          refine ⟨K, J2, P, N, 0, 0, ?_, by omega, by omega, d2⟩
          rw [cst N hC]
          unfold fX6_addType_b10
          rw [needName_t h0, tb_l, if_neg hm]
          unfold fX6_addType_b30
          rw [if_neg hm, e_rc hC.Ko, Option.bind_some, d1, Option.bind_some]
        · obtain ⟨W2, d1, d2⟩ := adds_rr (hR.thr 0) hr hL.1 hL30 0 p0 (nI i) 0
          refine ⟨_, W2, ?_, d2, upd_s⟩
          rw [rst]
          unfold fX7_addType_b18
          rw [if_neg (by decide), isName_t h0, Option.bind_some, if_neg (show ¬ (1 : Int32) = 0 by decide), if_neg hm]
          unfold fX7_addType_b58 fX7_addType_b59
          rw [fails_0, Option.bind_some]
          show (if nI i = -1 then _ else _) = _
          rw [if_neg hm]
          unfold fX7_addType_b83
          rw [d1]
          rfl
      · refine sim_thr 1 0 hR hW (Or.inr (Or.inl rfl)) (fun N hC => ?_) ?_
        · rw [cst N hC]
          unfold fX6_addType_b10
          rw [needName_f h0]
          rfl
        · rw [rst]
          unfold fX7_addType_b18
          rw [if_neg (by decide), isName_f h0, Option.bind_some, if_pos rfl]
          unfold fX7_addType_b59
          rw [fails_1 (by decide), Option.bind_some]
          rfl
    · refine sim_thr 0 0 hR hW (Or.inl rfl) (fun N hC => ?_) ?_
      · unfold fX6_addType
        rw [if_neg hm, e_rc hC.Ko, Option.bind_some, needType_f hC h1]
        rfl
      · unfold fX7_addType
        rw [if_neg hm, isType_f hR h1, Option.bind_some, if_pos rfl]
        unfold fX7_addType_b18
        rw [if_pos rfl]
        unfold fX7_addType_b59
        rw [fails_1 (by decide), Option.bind_some]
        rfl
theorem s_addValue (o t : Nat) : sim_addValue o (Inv o t) (Inv o (t + 1)) := by
  intro z S p0 p1 p2 hI
  obtain ⟨K, I, P, N0⟩ := z
  obtain ⟨f, M⟩ := S
  refine sim_core (fun e => e = 0 ∨ e = 1) (fun e => if e = 0 then 1 else (if e = 1 then 2 else 0)) hI (fun b T n g R F Q U hR hW => ?_)
  have hT := hW.1.1
  have h2 := hW.1.2.1
  obtain ⟨L, w, p, hr, hL⟩ := hW.str (Or.inr rfl)
  have hL30 := hL.len
  rcases ix_em p1 (n := T.length) (by omega) with ⟨i, hi, rfl⟩ | h1
  · rcases isNm_em p0 with h0 | h0
    · by_cases hn : isNum p2
      · have hs : WfS T.length n (hide L (1, p0, nI i, -100, p2, -1)) := hL.hid ⟨Or.inr (Or.inl rfl), h0, fun e => absurd e i12, fun _ => ⟨i, hi, rfl⟩, rfl, fun e => absurd rfl e, rfl⟩
        refine sim_do (hidden L 1 p0) (hW.draftS (w := w) (p := p) hs).step (fun N hC => ?_) ?_
        · obtain ⟨J2, d1, d2⟩ := addHiding_c hC hr (kd := 1) (nm := p0) (x := nI i) (num := p2) hs.len
          refine ⟨K, J2, P, N, 0, 0, ?_, by omega, by omega, d2⟩
          unfold fX6_addValue
          rw [e_rc hC.Ko, Option.bind_some, needType_t hC hi, tb_l, needName_t h0, tb_l, needNumber_t hn, tb_l, e_rc hC.Ko, Option.bind_some, d1, Option.bind_some]
          exact hidden_cb
        · obtain ⟨W2, d1, d2⟩ := adds_rr (hR.thr 0) hr hL.1 hL30 1 p0 (nI i) p2
          refine ⟨_, W2, ?_, d2, upd_s⟩
          unfold fX7_addValue
          rw [isType_t hR hi, Option.bind_some, if_neg (show ¬ (1 : Int32) = 0 by decide), isName_t h0, Option.bind_some, if_neg (show ¬ (1 : Int32) = 0 by decide), isNumber_t hn, Option.bind_some, if_neg (show ¬ (1 : Int32) = 0 by decide)]
          unfold fX7_addValue_b32
          rw [fails_0, Option.bind_some]
          show Option.bind (fX7_adds 1 p0 (nI i) p2 (upd f 54 0, M)) _ = _
          rw [d1, Option.bind_some]
          exact hidden_rb
      · refine sim_thr 1 0 hR hW (Or.inr rfl) (fun N hC => ?_) ?_
        · unfold fX6_addValue
          rw [e_rc hC.Ko, Option.bind_some, needType_t hC hi, tb_l, needName_t h0, tb_l, needNumber_f hn]
          rfl
        · unfold fX7_addValue
          rw [isType_t hR hi, Option.bind_some, if_neg (show ¬ (1 : Int32) = 0 by decide), isName_t h0, Option.bind_some, if_neg (show ¬ (1 : Int32) = 0 by decide), isNumber_f hn, Option.bind_some, if_pos rfl]
          unfold fX7_addValue_b31 fX7_addValue_b32
          rw [fails_1 (by decide), Option.bind_some]
          rfl
    · refine sim_thr 1 0 hR hW (Or.inr rfl) (fun N hC => ?_) ?_
      · unfold fX6_addValue
        rw [e_rc hC.Ko, Option.bind_some, needType_t hC hi, tb_l, needName_f h0]
        rfl
      · unfold fX7_addValue
        rw [isType_t hR hi, Option.bind_some, if_neg (show ¬ (1 : Int32) = 0 by decide), isName_f h0, Option.bind_some, if_pos rfl]
        unfold fX7_addValue_b31 fX7_addValue_b32
        rw [fails_1 (by decide), Option.bind_some]
        rfl
  · refine sim_thr 0 0 hR hW (Or.inl rfl) (fun N hC => ?_) ?_
    · unfold fX6_addValue
      rw [e_rc hC.Ko, Option.bind_some, needType_f hC h1]
      rfl
    · unfold fX7_addValue
      rw [isType_f hR h1, Option.bind_some, if_pos rfl]
      unfold fX7_addValue_b32
      rw [fails_1 (by decide), Option.bind_some]
      rfl
end Easy
