/-! PACK -/
section Pack
variable {o b t : Nat} {K : Nat → Option (Nat × Nat)} {I J : Nat → Nat → Int32} {P : Nat → Nat → Option Nat} {N0 N a : Nat} {f : Nat → Int32} {M : Nat → Nat → Int32} {T : List TyD} {n g : Nat} {R : Nat → Option RowD} {F : List FuD} {Q : List (Int32 × Int32)} {U : List UnD}
theorem ptr5 {u : Nat} (hu : u < 10) : ptr b P (500 + u) = P (b + 14) u := by
  unfold ptr
  rw [if_neg (by omega), if_neg (by omega), if_neg (by omega), if_neg (by omega), if_neg (by omega), if_neg (by omega), if_neg (by omega), if_pos (by omega), Nat.add_sub_cancel_left]
theorem newPack_c (h : CR o b K I P N T n g R F Q U) (hl : Q.length < 10) (s c : Int32) : ∃ K2 I2 P2, (Option.bind (fX1_init N s c (cnw (K, I, P, N) 1 0)) fun q86 => Option.bind (some (b + 14)) fun q89 => Option.bind (cstR (q86.2) q89 11 (nI Q.length) (some N)) fun z89 => Option.bind (cgI z89 o 6 9) fun x92 => Option.bind (cpI z89 o 6 9 (x92 + 1)) fun z97 => some ((.inl (nI Q.length) : Int32 ⊕ Nat), z97, (0 : Nat), (0 : Nat))) = some (.inl (nI Q.length), (K2, I2, P2, N + 1), 0, 0) ∧ CR o b K2 I2 P2 (N + 1) T n g R F (Q ++ [(s, c)]) U := by
  have hlt : ∀ q x, K q = some x → q < N := fun q x hx => h.fr q (by rw [hx]; exact fun e => by cases e)
  obtain ⟨⟨s1, s2, s3, s4, s5, s6, s7, s8, s9, s10, s11⟩, t1⟩ := h.sf
  have hoN := hlt _ _ s1
  have haN := hlt _ _ s10
  let K2 : Nat → Option (Nat × Nat) := fun q => if q = N then some (1, 0) else K q
  let I1 : Nat → Nat → Int32 := cup (cup (fun q => if q = N then fun _ => 0 else I q) N 0 s) N 1 c
  let I2 : Nat → Nat → Int32 := cup I1 o 9 (nI (Q.length + 1))
  let P1 : Nat → Nat → Option Nat := fun q => if q = N then fun _ => none else P q
  have k0 : K2 N = some (1, 0) := if_pos rfl
  have kO : ∀ q, q < N → K2 q = K q := fun q hq => by
    show (if q = N then _ else K q) = _
    rw [if_neg (by omega)]
  have kN : ∀ q, N + 1 ≤ q → K2 q = none := fun q hq => by
    show (if q = N then _ else K q) = _
    rw [if_neg (by omega)]
    exact Classical.byContradiction (fun h9 => by have := h.fr q h9; omega)
  have iO : ∀ q, q < N → I1 q = I q := fun q hq => by
    show cup (cup _ N 0 s) N 1 c q = _
    rw [cup_q (by omega), cup_q (by omega), if_neg (by omega)]
  have pO : ∀ q, q < N → P1 q = P q := fun q hq => by
    show (if q = N then _ else P q) = _
    rw [if_neg (by omega)]
  have hpp : ∀ j, ptr b (cuR P1 (b + 14) Q.length (some N)) j = if j = 500 + Q.length then some N else ptr b P j := by
    obtain ⟨⟨t1, t2, t3, t4, t5, t6, t7, t8, t9, t10, t11⟩, -⟩ := h.sf
    have e1 : cuR P1 (b + 14) Q.length (some N) (b + 4) = P (b + 4) := by rw [cuR_q (by omega), pO _ (hlt _ _ t6)]
    have e2 : cuR P1 (b + 14) Q.length (some N) (b + 6) = P (b + 6) := by rw [cuR_q (by omega), pO _ (hlt _ _ t8)]
    have e3 : cuR P1 (b + 14) Q.length (some N) (b + 13) = P (b + 13) := by rw [cuR_q (by omega), pO _ (hlt _ _ t9)]
    have e4 : cuR P1 (b + 14) Q.length (some N) (b + 15) = P (b + 15) := by rw [cuR_q (by omega), pO _ (hlt _ _ t11)]
    have e5 : ∀ i, i ≠ Q.length → cuR P1 (b + 14) Q.length (some N) (b + 14) i = P (b + 14) i := fun i hi => by rw [cuR_j hi, pO _ (hlt _ _ t10)]
    intro j
    by_cases hj : j = 500 + Q.length
    · rw [if_pos hj, hj, ptr5 hl, cuR_s]
    · rw [if_neg hj]
      by_cases h6 : 500 ≤ j ∧ j < 510
      · obtain ⟨i, rfl⟩ : ∃ i, j = 500 + i := ⟨j - 500, by omega⟩
        rw [ptr5 (by omega), ptr5 (by omega), e5 i (by omega)]
      · unfold ptr
        rw [e1, e2, e3, e4, if_neg h6, if_neg h6]
  have hnone : ptr b P (500 + Q.length) = none := h.pk.2.2.2 _ (Nat.le_refl _) hl
  have I3o : ∀ q, q < N → q ≠ o → I2 q = I q := fun q hq ho => by
    show cup I1 o 9 _ q = _
    rw [cup_q ho, iO q hq]
  have iNN : ∀ j, I2 N j = I1 N j := fun j => by
    show cup I1 o 9 _ N j = _
    rw [cup_q (by omega)]
  obtain ⟨c1, c2, c3, c4, c5, c6, c7, c8⟩ := h.allocX (K2 := K2) (I2 := I2) (P2 := cuR P1 (b + 14) Q.length (some N)) (arr := b + 14) (Or.inr (Or.inl rfl)) kO I3o (fun q hq hqa => by rw [cuR_q hqa, pO q hq]) (fun a ha hk => by
      rcases (show a = N ∨ N + 1 ≤ a by omega) with rfl | h9
      · rw [k0] at hk; cases hk
      · rw [kN a h9] at hk; cases hk) (fun a ha hk => by
      rcases (show a = N ∨ N + 1 ≤ a by omega) with rfl | h9
      · rw [k0] at hk; cases hk
      · rw [kN a h9] at hk; cases hk) (fun a ha hk => by
      rcases (show a = N ∨ N + 1 ≤ a by omega) with rfl | h9
      · rw [k0] at hk; cases hk
      · rw [kN a h9] at hk; cases hk) (fun j c hj => by
      rw [hpp] at hj
      by_cases h9 : j = 500 + Q.length
      · rw [if_pos h9] at hj; cases hj; exact Or.inr ⟨Nat.le_refl _, by rw [k0, pkd1 (by omega) (by omega)]⟩
      · rw [if_neg h9] at hj; exact Or.inl hj) (fun i j c hc hi hj => by
      have hold : ∀ j, ptr b P j = some c → False := fun j hj => by have := hlt _ _ (h.sd.1 j c hj); omega
      rw [hpp] at hi hj
      by_cases h9 : i = 500 + Q.length
      · by_cases h10 : j = 500 + Q.length
        · rw [h9, h10]
        · rw [if_neg h10] at hj; exact absurd hj (hold j)
      · rw [if_neg h9] at hi; exact absurd hi (hold i)) (fun j c hj => by rw [hpp, if_neg (fun e => by rw [e, hnone] at hj; cases hj)]; exact hj)
  refine ⟨K2, I2, cuR P1 (b + 14) Q.length (some N), ?_, ⟨fun q hq => Nat.lt_of_not_le (fun h9 => hq (kN q h9)), c1, c2, c3, c4, c5, ?_, ?_, ?_⟩⟩
  · have ini : fX1_init N s c (cnw (K, I, P, N) 1 0) = some ((), K2, I1, P1, N + 1) := by
      unfold fX1_init
      show Option.bind (cpI (K2, (fun q => if q = N then fun _ => 0 else I q), P1, N + 1) N 1 0 s) _ = _
      rw [e_pI k0, Option.bind_some, e_pI k0, Option.bind_some]
    rw [ini]
    show Option.bind (cstR (K2, I1, P1, N + 1) (b + 14) 11 (nI Q.length) (some N)) _ = _
    have ko : K2 o = some (6, 0) := by rw [kO o hoN, s1]
    rw [e_stR (n := 10) (m := 0) (by rw [kO _ haN, s10]) k0 hl (by omega), Option.bind_some, e_gI ko, Option.bind_some, iO o hoN, h.pk.1, nI_1, e_pI ko, Option.bind_some]
  · have hfu := h.fu
    refine ⟨by show cup I1 o 9 _ o _ = _; rw [cup_j (by omega), iO o hoN]; exact hfu.1, hfu.2.1, c6, fun i h1 h2 => by rw [hpp, if_neg (by omega)]; exact hfu.2.2.2 i h1 h2⟩
  · refine ⟨by show cup I1 o 9 _ o _ = _; rw [cup_s, List.length_append]; rfl, by simp; omega, fun u x hx => ?_, fun u h1 h2 => ?_⟩
    · by_cases hu : u < Q.length
      · rw [List.getElem?_append_left hu] at hx
        exact c7 u x hx
      · have hl2 := (List.getElem?_eq_some_iff.mp hx).1
        have hu2 : u = Q.length := by simp at hl2; omega
        subst hu2
        rw [List.getElem?_append_right (Nat.le_refl _), Nat.sub_self] at hx
        cases hx
        refine ⟨N, by rw [hpp, if_pos rfl], ?_, ?_⟩
        · rw [iNN]
          show cup (cup _ N 0 s) N 1 c N 0 = s
          rw [cup_j (by omega), cup_s]
        · rw [iNN]; exact cup_s
    · rw [List.length_append, List.length_singleton] at h1
      rw [hpp, if_neg (by omega)]
      exact h.pk.2.2.2 u (by omega) h2
  · have hun := h.un
    refine ⟨by show cup I1 o 9 _ o _ = _; rw [cup_j (by omega), iO o hoN]; exact hun.1, hun.2.1, c8, fun i h1 h2 => by rw [hpp, if_neg (by omega)]; exact hun.2.2.2 i h1 h2⟩
theorem s_pack (o t : Nat) : sim_pack o (Inv o t) (Inv o (t + 1)) := by
  intro z S p0 p1 hI
  obtain ⟨K, I, P, N0⟩ := z
  obtain ⟨f, M⟩ := S
  refine sim_core (fun e => e = 0 ∨ e = 2) (fun e => if e = 0 then 1 else (if e = 2 then 2 else 0)) hI (fun b T n g R F Q U hR hW => ?_)
  have hw := hW.1.1
  have hS := hW.wfSt
  have hG := hW.wfGm
  have h20 := hG.1
  have h95 := hS.1
  have h10 := hR.pk.2.1
  have thr : ∀ (M : Nat → Nat → Int32) (v : Int32), ¬ v ≤ 0 → v ≠ 0 → fX7_pack_b54 p0 p1 v (f, M) = some (0, upd f 54 v, M) := by
    intro M v hv hv0
    unfold fX7_pack_b54
    rw [fails_1 hv, Option.bind_some]
    rfl
  have bad : fX7_pack_b20 p0 p1 (f, M) = some (0, upd f 54 1, M) := by
    unfold fX7_pack_b20 fX7_pack_b21
    rw [if_pos rfl]
    exact thr M 1 (by decide) (by decide)
  rcases ix_em p0 (n := n) (by omega) with ⟨s, hs, rfl⟩ | h1
  · obtain ⟨wx, px, rx, -⟩ := hS.rw hs
    rcases ix_em p1 (n := g) (by omega) with ⟨u, hu, rfl⟩ | h2
    · obtain ⟨wy, py, ry, -⟩ := hG.rw hu
      have cst : ∀ N, CR o b K I P N T n g R F Q U → fX6_pack o (nI s) (nI u) (K, I, P, N) = if Q.length < 10 then (if ms T R s u = 0 then ause 1 2 (Option.bind (fX1_init N (nI s) (nI u) (cnw (K, I, P, N) 1 0)) fun q86 => Option.bind (some (b + 14)) fun q89 => Option.bind (cstR (q86.2) q89 11 (nI Q.length) (some N)) fun z89 => Option.bind (cgI z89 o 6 9) fun x92 => Option.bind (cpI z89 o 6 9 (x92 + 1)) fun z97 => some ((.inl (nI Q.length) : Int32 ⊕ Nat), z97, (0 : Nat), (0 : Nat))) else some (.inr 2, (K, I, P, N), 1, 6)) else some (.inr 2, (K, I, P, N), 1, 6) := by
        intro N hC
        obtain ⟨a, a1, a2, a3, ha⟩ := atS hC hs rx
        obtain ⟨c, c1, c2, c3, hc⟩ := atG hC hu ry
        obtain ⟨⟨s1, s2, s3, s4, s5, s6, s7, s8, s9, s10, s11⟩, t1, t2, t3, t4, t5, t6, t7, t8, t9, -⟩ := hC.sf
        unfold fX6_pack
        rw [g61 hC, Option.bind_some, r3 hC, Option.bind_some, ha, Option.bind_some, needRow_t, tb_l, g62 hC, Option.bind_some, r5 hC, Option.bind_some, hc, Option.bind_some, needRow_t, tb_l, e_gI s1, Option.bind_some, hC.pk.1, if_neg (nI_pos (by omega)), e_gR s1, Option.bind_some, t8, Option.bind_some, e_len s10, Option.bind_some]
        by_cases hl : Q.length < 10
        · rw [if_pos (nI_lt hl (by omega)), if_pos hl, g61 hC, Option.bind_some, ro hC, Option.bind_some, misfit_S hC hw hS (Nat.le_refl _) hG hs hu, Option.bind_some]
          by_cases hm : ms T R s u = 0
          · rw [if_pos hm, if_pos hm, e_gR s1, Option.bind_some, t8]
          · rw [if_neg hm, if_neg hm]
        · rw [if_neg (nI_nlt (by omega) (by omega)), if_neg hl]
          rfl
      have rst : fX7_pack (nI s) (nI u) (f, M) = if Q.length = 10 then fX7_pack_b49 (nI s) (nI u) (f, M) else Option.bind (fX7_matchOf (nI s) (nI u) (f, M)) fun q43 => if (q43.1) = 0 then fX7_pack_b54 (nI s) (nI u) 0 (q43.2) else fX7_pack_b49 (nI s) (nI u) (q43.2) := by
        unfold fX7_pack
        rw [isStr_t hR hs, Option.bind_some, if_neg i10, isSig_t hR hu, Option.bind_some, if_neg i10]
        unfold fX7_pack_b21
        rw [if_neg i10]
        show (if f 29 = 10 then _ else _) = _
        rw [hR.pk.1, show (10 : Int32) = nI 10 from rfl]
        by_cases hl : Q.length = 10
        · rw [if_pos (by rw [hl]), if_pos hl]
        · rw [if_neg (nI_ne (by omega) (by omega) hl), if_neg hl]
      by_cases hl : Q.length < 10
      · obtain ⟨W, d1, d2, -⟩ := matchOf_r hR hw hS (Nat.le_refl _) hG hs hu
        by_cases hm : ms T R s u = 0
        · have hW2 : WF (t + 1) T n g R F (Q ++ [(nI s, nI u)]) U := by
            obtain ⟨a, c, d, e, fu, pk, un⟩ := hW.step
            refine ⟨a, c, d, e, fu, fun j x hx => ?_, un⟩
            by_cases hj : j < Q.length
            · rw [List.getElem?_append_left hj] at hx
              exact pk j x hx
            · have hl2 := (List.getElem?_eq_some_iff.mp hx).1
              have hj2 : j = Q.length := by simp at hl2; omega
              subst hj2
              rw [List.getElem?_append_right (Nat.le_refl _), Nat.sub_self] at hx
              cases hx
              exact ⟨s, u, hs, hu, rfl⟩
          refine sim_do (nI Q.length) hW2 (fun N hC => ?_) ?_
          · obtain ⟨K2, I2, P2, e1, e2⟩ := newPack_c hC hl (nI s) (nI u)
            refine ⟨K2, I2, P2, N + 1, 1, 2, ?_, by omega, by omega, e2⟩
            rw [cst N hC, if_pos hl, if_pos hm, e1]
            rfl
          · have hR2 := d2.thr 0
            refine ⟨upd (upd f 54 0) 29 (nI (Q.length + 1)), mup (mup W 30 Q.length (nI s)) 31 Q.length (nI u), ?_, ?_, by rw [upd_n (by omega), upd_s]⟩
            · rw [rst, if_neg (by omega), d1, Option.bind_some]
              show (if ms T R s u = 0 then _ else _) = _
              rw [if_pos hm]
              unfold fX7_pack_b54
              show Option.bind (fX7_fails 0 (f, W)) _ = _
              rw [fails_0, Option.bind_some]
              show Option.bind (rwr (upd f 54 0, W) 30 (upd f 54 0 29) (nI s)) _ = _
              have e29 : upd f 54 0 29 = nI Q.length := by rw [upd_n (by omega), hR.pk.1]
              rw [e29, r_wr 10 rfl (by omega) (by omega), Option.bind_some]
              show Option.bind (rwr (upd f 54 0, _) 31 (upd f 54 0 29) (nI u)) _ = _
              rw [e29, r_wr 10 rfl (by omega) (by omega), Option.bind_some]
              show some (upd (upd f 54 0) 29 (upd f 54 0 29 + 1) 29 - 1, upd (upd f 54 0) 29 (upd f 54 0 29 + 1), _) = _
              rw [upd_s, e29, nI_1, nI_pred]
            · have vo : ∀ j, j < 30 ∨ 31 < j → mup (mup W 30 Q.length (nI s)) 31 Q.length (nI u) j = W j := fun j hj => by rw [mup_k (by omega), mup_k (by omega)]
              refine ⟨hR2.ty.congr (upd_n (by omega)) (vo _ (by omega)) (vo _ (by omega)) (vo _ (by omega)), hR2.cn.congr (upd_n (by omega)) (upd_n (by omega)) (vo _ (by omega)) (vo _ (by omega)), hR2.rw.congr (fun j hj => vo j (by omega)), hR2.fu.congr (upd_n (by omega)) (fun j _ h2 => vo j (by omega)), ⟨by rw [upd_s, List.length_append]; rfl, by simp; omega, fun j x hx => ?_⟩, hR2.un.congr (upd_n (by omega)) (fun j h1 h2 => vo _ (by omega)), (upd_n (by omega)).trans hR2.dp⟩
              by_cases hj : j < Q.length
              · rw [List.getElem?_append_left hj] at hx
                obtain ⟨q1, q2⟩ := hR2.pk.2.2 j x hx
                rw [mup_k (show 30 ≠ 31 by omega), mup_i (by omega), mup_i (by omega), mup_k (show 31 ≠ 30 by omega)]
                exact ⟨q1, q2⟩
              · have hl2 := (List.getElem?_eq_some_iff.mp hx).1
                have hj2 : j = Q.length := by simp at hl2; omega
                subst hj2
                rw [List.getElem?_append_right (Nat.le_refl _), Nat.sub_self] at hx
                cases hx
                rw [mup_k (show 30 ≠ 31 by omega), mup_s, mup_s]
                exact ⟨rfl, rfl⟩
        · have d3 := d2.thr 2
          refine ⟨.inr 2, T, n, g, R, F, Q, U, fun N hN => ⟨K, I, P, N, 1, 6, ?_, by omega, by omega, hN⟩, ⟨0, upd f 54 2, W, ?_, d3, upd_s⟩, hW.step, fun e2 h2 => by cases h2; exact Or.inr rfl⟩
          · rw [cst N hN, if_pos hl, if_neg hm]
          · rw [rst, if_neg (by omega), d1, Option.bind_some]
            show (if ms T R s u = 0 then _ else _) = _
            rw [if_neg hm]
            exact thr W 2 (by decide) (by decide)
      · refine sim_thr 2 0 hR hW (Or.inr rfl) (fun N hC => ?_) ?_
        · rw [cst N hC, if_neg hl]
        · rw [rst, if_pos (by omega)]
          exact thr M 2 (by decide) (by decide)
    · refine sim_thr 0 0 hR hW (Or.inl rfl) (fun N hC => ?_) ?_
      · obtain ⟨a, a1, a2, a3, ha⟩ := atS hC hs rx
        unfold fX6_pack
        rw [g61 hC, Option.bind_some, r3 hC, Option.bind_some, ha, Option.bind_some, needRow_t, tb_l, g62 hC, Option.bind_some, r5 hC, Option.bind_some, at_no hC.shG h2, Option.bind_some, needRow_f]
        rfl
      · unfold fX7_pack
        rw [isStr_t hR hs, Option.bind_some, if_neg i10, isSig_f hR h2, Option.bind_some, if_pos rfl]
        exact bad
  · refine sim_thr 0 0 hR hW (Or.inl rfl) (fun N hC => ?_) ?_
    · unfold fX6_pack
      rw [g61 hC, Option.bind_some, r3 hC, Option.bind_some, at_no hC.shS h1, Option.bind_some, needRow_f]
      rfl
    · unfold fX7_pack
      rw [isStr_f hR h1, Option.bind_some, if_pos rfl]
      exact bad
end Pack
