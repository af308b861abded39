/-! THE CALLS ON SIGS: made of the draft, made of another -/
section Sig
variable {o b t : Nat} {K : Nat → Option (Nat × Nat)} {I : Nat → Nat → Int32} {P : Nat → Nat → Option Nat} {N0 N a : Nat} {f : Nat → Int32} {M : Nat → Nat → Int32} {T : List TyD} {n g : Nat} {R : Nat → Option RowD} {F : List FuD} {Q : List (Int32 × Int32)} {U : List UnD} {L X : List En}
theorem sumW_nil : sumW R [] = 0 := rfl
theorem WF.newG (h : WF t T n g R F Q U) (hg : g < 20) {L2 D : List En} (hL : WfG T.length g L2) (hw : sumW R L2 ≤ 60) (hD : WfG T.length g D) (hwD : sumW R D ≤ 60) : WF t T n (g + 1) (aup (aup R (200 + g) (some (L2, sumW R L2, sumP R L2))) 220 (some (D, sumW R D, sumP R D))) F Q U := by
  have hj : ∀ j, j < g → (aup (aup R (200 + g) (some (L2, sumW R L2, sumP R L2))) 220 (some (D, sumW R D, sumP R D))) (200 + j) = R (200 + j) := fun j hj => by rw [aup_n (by omega), aup_n (by omega)]
  refine h.sigs (by omega) (by omega) (fun k hk => by rw [aup_n (by omega), aup_n (by omega)]) hj (fun i h1 h2 => ?_) ?_
  · have hi : i = g := by omega
    subst hi
    obtain ⟨e1, e2⟩ := sumW_congr hL (by omega) hj
    exact ⟨L2, by rw [aup_n (by omega), aup_s, e1, e2], by rw [e1]; exact hw, hL⟩
  · obtain ⟨e1, e2⟩ := sumW_congr hD (by omega) hj
    exact ⟨D, by rw [aup_s, e1, e2], by rw [e1]; exact hwD, hD.mono (Nat.le_refl _) (by omega)⟩
theorem sign_loop (hg : g < 20) {m0 : Nat} (hXG : WfG m0 g L) : ∀ m fu q M, q + m = L.length → m < fu → f 10 = nI g → hWt M R g → rSp M 20 L → rSp M g (L.take q) → M 12 g = nI (sumW R (L.take q)) → L.length ≤ 30 → ∃ W, fX7_signature_b27 fu (nI (1200 + q)) (f, M) = some (nI g, upd f 10 (nI (g + 1)), mup (mup W 11 20 0) 12 20 0) ∧ rSp W g L ∧ W 12 g = nI (sumW R L) ∧ spF M W g := by
  intro m
  induction m with
  | zero =>
    intro fu q M hq hf hf10 hw hX hL hwk h30
    cases fu with
    | zero => omega
    | succ fu =>
      rw [List.take_of_length_le (by omega)] at hL hwk
      refine ⟨M, ?_, hL, hwk, spF.rf⟩
      show fX7_signature_b27_body _ (nI (1200 + q)) (f, M) = _
      unfold fX7_signature_b27_body
      rw [show (20 : Int32) = nI 20 from rfl, r_rd 21 rfl (by omega) (by omega), Option.bind_some, hX.1, show (1200 : Int32) = nI 1200 from rfl, nI_add, if_pos (nI_le (by omega) (by omega)), r_wr 21 rfl (by omega) (by omega), Option.bind_some, r_wr 21 rfl (by omega) (by omega), Option.bind_some]
      show some (upd f 10 (f 10 + 1) 10 - 1, upd f 10 (f 10 + 1), _) = _
      rw [upd_s, hf10, nI_1, nI_pred]
  | succ m ih =>
    intro fu q M hq hf hf10 hw hX hL hwk h30
    cases fu with
    | zero => omega
    | succ fu =>
      have hql : q < L.length := by omega
      have hg2 := List.getElem?_eq_getElem hql
      have hE := hXG.2 q _ hg2
      obtain ⟨v1, v2, v3, v4, v5, W, e1, e2, e3, e4, e5, e6⟩ := copy_r (f := f) (R := R) (s := 20) (k := g) (Nat.le_of_lt hg) hw (Nat.le_refl _) (by omega) (Nat.le_refl _) (by omega) hX hL hwk (by rw [List.length_take]; omega) hql (Nat.le_refl _) hg2 hE L[q].2.2.1 L[q].2.2.2.1
      rw [← sG_E hE, List.take_append_getElem hql] at e2
      have hsum : sumW R (L.take q) + wt R L[q] = sumW R (L.take (q + 1)) := by rw [← List.take_append_getElem hql, sumW_add]
      rw [hsum] at e3
      obtain ⟨W2, d1, d2, d3, d4⟩ := ih fu (q + 1) W (by omega) (by omega) hf10 e6 e5 e2 e3 h30
      refine ⟨W2, ?_, d2, d3, e4.tr d4⟩
      show fX7_signature_b27_body _ (nI (1200 + q)) (f, M) = _
      unfold fX7_signature_b27_body
      rw [show (20 : Int32) = nI 20 from rfl, r_rd 21 rfl (by omega) (by omega), Option.bind_some, hX.1, show (1200 : Int32) = nI 1200 from rfl, nI_add, if_neg (nI_ge (by omega) (by omega)), r_rd 1260 rfl (by omega) (by omega), Option.bind_some, r_rd 1260 rfl (by omega) (by omega), Option.bind_some, r_rd 1260 rfl (by omega) (by omega), Option.bind_some, r_rd 1260 rfl (by omega) (by omega), Option.bind_some, show 1200 + q = 60 * 20 + q from rfl, v1, v2, v3, v4, v5, Option.bind_some]
      show Option.bind (fX7_specifies (f 10) _ _ _ _ (nI (wt R L[q])) (f, M)) _ = _
      rw [hf10, e1, Option.bind_some, nI_1]
      exact d1
theorem sp_nil {M : Nat → Nat → Int32} {k : Nat} (h : M 11 k = 0) : rSp M k [] := ⟨h, by simp, fun p e he => by simp at he⟩
theorem spF_zero (k : Nat) : spF M (mup (mup M 11 k 0) 12 k 0) k := ⟨fun j hj => by rw [mup_k (by omega), mup_k (by omega)], fun j i h1 h2 h3 => by
  rcases (show j = 11 ∨ j = 12 by omega) with rfl | rfl
  · rw [mup_k (by omega), mup_i h3]
  · rw [mup_i h3, mup_k (by omega)], fun j i h1 h2 h3 => by rw [mup_k (by omega), mup_k (by omega)]⟩
theorem s_signature (o t : Nat) : sim_signature o (Inv o t) (Inv o (t + 1)) := by
  intro z S hI
  obtain ⟨K, I, P, N0⟩ := z
  obtain ⟨f, M⟩ := S
  refine sim_core (fun e => e = 2) (fun e => if e = 2 then 1 else 0) hI (fun b T n g R F Q U hR hW => ?_)
  have h20 := hW.1.2.2.2
  obtain ⟨L, hr, hw60, hL⟩ := hW.dG
  have hL30 := hL.len
  obtain ⟨hsp, hsw⟩ := hR.sp (k := 20) (Nat.le_refl _) hr
  by_cases hg : g < 20
  · refine sim_do (nI g) (hW.newG hg hL hw60 WfG.nil (by rw [sumW_nil]; omega)).step (fun N hC => ?_) ?_
    · obtain ⟨hp, -, -⟩ := row220 hC hr
      obtain ⟨K2, I2, P2, N2, ka, kb, e1, e2, e3, e4⟩ := keep_G hC hg hr hp (by omega)
      refine ⟨K2, I2, P2, N2, ka, kb, ?_, by omega, by omega, e4⟩
      unfold fX6_signature
      rw [g62 hC, Option.bind_some, g64 hC, Option.bind_some, r5 hC, Option.bind_some, e1]
      show ause ka kb (if nI g = -1 then _ else _) = _
      rw [if_neg (nI_nm1 (by omega))]
      rfl
    · obtain ⟨z1, z2⟩ := hR.cn.2.2.2.2 g (Nat.le_refl _) hg
      obtain ⟨W, d1, d2, d3, d4⟩ := sign_loop (f := upd f 54 0) hg hL L.length rFuel 0 M (by omega) (by show L.length < 100000; omega) ((upd_n (by omega)).trans hR.cn.2.2.1) (hR.wts hW) hsp (sp_nil z1) z2 hL30
      have q1 := ((hR.thr 0).upG (g2 := g + 1) (by omega) (by omega)).upSp (k := g) (d := (L, sumW R L, sumP R L)) (by omega) (fun h => by omega) d4 d2 d3
      have q2 := q1.upSp (k := 20) (d := ([], 0, 0)) (Nat.le_refl _) (fun _ => rfl) (spF_zero 20) (sp_nil (by rw [mup_k (by omega), mup_s])) mup_s
      refine ⟨_, _, ?_, q2, by rw [upd_n (by omega), upd_s]⟩
      unfold fX7_signature
      show (if f 10 = 20 then _ else _) = _
      rw [hR.cn.2.2.1, show (20 : Int32) = nI 20 from rfl, if_neg (nI_ne (by omega) (by omega) (by omega))]
      unfold fX7_signature_b15
      rw [fails_0, Option.bind_some]
      exact d1
  · have hg20 : g = 20 := by omega
    refine sim_thr 2 0 hR hW rfl (fun N hC => ?_) ?_
    · unfold fX6_signature
      rw [g62 hC, Option.bind_some, g64 hC, Option.bind_some, r5 hC, Option.bind_some, keep_no hC.shG hg20]
      rfl
    · unfold fX7_signature
      show (if f 10 = 20 then _ else _) = _
      rw [hR.cn.2.2.1, hg20, if_pos rfl]
      unfold fX7_signature_b15
      rw [fails_1 (by decide), Option.bind_some]
      rfl
end Sig
