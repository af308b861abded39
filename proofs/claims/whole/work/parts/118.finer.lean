/-! FINER: the call -/
section Finer
variable {o b t : Nat} {K : Nat → Option (Nat × Nat)} {I : Nat → Nat → Int32} {P : Nat → Nat → Option Nat} {N : Nat} {f : Nat → Int32} {M : Nat → Nat → Int32} {T : List TyD} {n g : Nat} {R : Nat → Option RowD} {F : List FuD} {Q : List (Int32 × Int32)} {U : List UnD} {a c : Nat}
theorem finer_mf (hW : WF t T n g R F Q U) (ha : a < g) (hc : c < g) {st : MkS} (hst : st = mk false n R 20 none a (T, [])) : gdS n T.length st ∧ T <+: st.1 ∧ st.2.length = pOf R a + 1 ∧ wfSt (newR R n st.2) st.1.length (n + st.2.length) ∧ wfGm (newR R n st.2) g T.length ∧ ms st.1 (newR R n st.2) (n + st.2.length - 1) c = mf (fitC T) (sgL R) R 30 a c := by
  have h20 := hW.1.2.2.2
  have h30 := hW.1.2.2.1
  have h200 := hW.1.2.1
  obtain ⟨p1, p2⟩ := hW.pw a ha
  have hU : gdU false R n g none a := ⟨ha, (fun h => nomatch h), (fun s' h => nomatch h)⟩
  obtain ⟨x0, x1, x2, E, x3, x4⟩ := mk_ok hW.toR 20 none a (T, []) (by omega) hU hW.toS (by show T.length + _ ≤ 390; omega) (by show n + 0 + _ + 1 < 2 ^ 30; omega)
  have hfr := mk_fr hW.toR 20 a (T, []) (by omega) ha hW.toS (by show T.length + _ ≤ 390; omega) (by show n + 0 + _ + 1 < 2 ^ 30; omega)
  have hlen : (mk false n R 20 none a (T, [])).2.length = pOf R a + 1 := by rw [x3]; exact x4
  rw [← hst] at x0 x1 hlen hfr
  have e200 : ∀ i, newR R n st.2 (200 + i) = R (200 + i) := fun i => newR_o (Or.inr (by omega))
  have eS : ∀ i, i < g → sgL (newR R n st.2) i = sgL R i := fun i _ => by unfold sgL; rw [e200]
  have hGm : wfGm (newR R n st.2) g T.length := ⟨h20, fun i hi => by rw [e200]; exact hW.wfGm.2 i hi⟩
  have h390 := x0.2.2.1
  have row : ∀ s, s < n + st.2.length → n ≤ s → ∃ L, st.2[s - n]? = some L ∧ newR R n st.2 s = some (L, 0, 0) ∧ WfS st.1.length (n + st.2.length) L := by
    intro s hs hn
    have hE := List.getElem?_eq_getElem (show s - n < st.2.length by omega)
    refine ⟨_, hE, ?_, (x0.2.2.2 _ _ hE).mono (Nat.le_refl _) (by omega)⟩
    unfold newR
    rw [if_neg (by omega), hE]
    rfl
  have hSt : wfSt (newR R n st.2) st.1.length (n + st.2.length) := by
    refine ⟨by omega, h390, fun s hs => ?_⟩
    by_cases hsn : s < n
    · obtain ⟨L, w, p, h1, h2⟩ := hW.str (Or.inl hsn)
      exact ⟨L, w, p, by rw [newR_o (Or.inl hsn)]; exact h1, h2.mono x0.2.1 (Nat.le_add_right _ _)⟩
    · obtain ⟨L, -, h1, h2⟩ := row s hs (by omega)
      exact ⟨L, 0, 0, h1, h2⟩
  refine ⟨x0, x1, hlen, hSt, hGm, ?_⟩
  have hpl : T.length ≤ st.1.length := x1.length_le
  have e1 := mf_eq x0.1 h390 hSt hGm hpl 30 30 (n + st.2.length - 1) c (by omega) hc (by omega) (by omega)
  unfold ms
  rw [← e1]
  refine (mf_fr (n' := n + st.2.length) (Rel := fun v j => ∃ k, FrC R g T.length n st.1 st.2 k v j) hW.1.1 x1 (by omega) (fun i hi => (hW.sgAt hi).2.2) eS h20 (fun v j h => ?_) 30 (n + st.2.length - 1) a c ⟨20, hfr⟩ hc).symm
  obtain ⟨k, hk⟩ := h
  cases k with
  | zero => exact absurd hk (fun h => h)
  | succ k =>
    obtain ⟨k1, L, k2, k3, k4, k5⟩ := hk
    have hvl := (List.getElem?_eq_some_iff.mp k3).1
    obtain ⟨L2, r1, r2, r3⟩ := row v (by omega) k2
    rw [k3] at r1
    cases r1
    have hs : stR (newR R n st.2) v = L := by unfold stR; rw [r2]
    rw [hs]
    exact ⟨k1, r3, k4, k5.mono (List.prefix_refl _) (fun v j h => ⟨k, h⟩)⟩
theorem s_finer (o t : Nat) : sim_finer o (Inv o t) (Inv o (t + 1)) := by
  intro z S p0 p1 hI
  obtain ⟨K, I, P, N0⟩ := z
  obtain ⟨f, M⟩ := S
  refine sim_core (fun e => e = 0) (fun e => if e = 0 then 1 else 0) hI (fun b T n g R F Q U hR hW => ?_)
  have h20 := hW.1.2.2.2
  have h30 := hW.1.2.2.1
  have h200 := hW.1.2.1
  have bad : fX7_finer_b21 p0 p1 (f, M) = some (0, upd f 54 1, M) := by
    unfold fX7_finer_b21 fX7_finer_b22
    rw [fails_1 (by decide), Option.bind_some]
    exact rbo_0
  rcases ix_em p0 (n := g) (by omega) with ⟨a, ha, rfl⟩ | h1
  · obtain ⟨rx, -⟩ := hW.sgAt ha
    rcases ix_em p1 (n := g) (by omega) with ⟨c, hc, rfl⟩ | h2
    · obtain ⟨ry, -⟩ := hW.sgAt hc
      obtain ⟨st, hst⟩ : ∃ st, st = mk false n R 20 none a (T, []) := ⟨_, rfl⟩
      obtain ⟨x0, x1, hlen, hSt, hGm, hms⟩ := finer_mf hW ha hc hst
      obtain ⟨p1, p2⟩ := hW.pw a ha
      have hU : gdU false R n g none a := ⟨ha, (fun h => nomatch h), (fun s' h => nomatch h)⟩
      have hans : ∀ N, CR o b K I P N T n g R F Q U → fX6_finer o (nI a) (nI c) (K, I, P, N) = some (.inl (if mf (fitC T) (sgL R) R 30 a c = 0 then 1 else 0), (K, I, P, N), 0, 0) := by
        intro N hC
        obtain ⟨w, a1, a2, a3, hw⟩ := atG hC ha rx
        obtain ⟨d, c1, c2, c3, hd⟩ := atG hC hc ry
        have hmis : fX6_firstMisfit 30 o (some (b + 5)) (nI a) (nI c) 0 (K, I, P, N) = some (mf (fitC T) (sgL R) R 30 a c, K, I, P, N) := misfit_c hC hW.1.1 hW.wfG (shK_G hC hW.wfG) 30 a c 0 ha hc (by omega) (by omega)
        unfold fX6_finer
        rw [g62 hC, Option.bind_some, r5 hC, Option.bind_some, hw, Option.bind_some, needRow_t, tb_l, g62 hC, Option.bind_some, r5 hC, Option.bind_some, hd, Option.bind_some, needRow_t, tb_l, g62 hC, Option.bind_some, ro hC, Option.bind_some, hmis, Option.bind_some]
        show (if mf (fitC T) (sgL R) R 30 a c = 0 then fX6_finer_b41 o 1 (K, I, P, N) else fX6_finer_b41 o 0 (K, I, P, N)) = _
        by_cases hm : mf (fitC T) (sgL R) R 30 a c = 0
        · rw [if_pos hm, if_pos hm]
          exact cbo_1
        · rw [if_neg hm, if_neg hm]
          exact cbo_0
      obtain ⟨f2, W, R2, e1, e2, e3, e4, e54⟩ := makes_r54 (how := 2) (vw := false) (st := (T, [])) (u := a) (s := none) hW.toR hW.toX ⟨fun h => absurd h (by decide), fun h => by cases h⟩ rfl hU hW.toS (by show T.length + _ ≤ 390; omega) (by omega) (hR.thr 0) (fun _ _ => rfl)
      rw [← hst] at e1 e2 e3 e4
      have e2' : RR f2 W st.1 (n + st.2.length) g (newR R n st.2) F Q U := e2.sub (newR_sub (fun j L hj => e3 j L hj) (fun j hj => e4 j (by omega)))
      obtain ⟨V, d1, d2, -⟩ := matchOf_r e2' x0.1 hSt x1.length_le hGm (show n + st.2.length - 1 < n + st.2.length by omega) hc
      have hb65 : ∀ v : Int32, fX7_finer_b65 (nI T.length) (nI n) v (f2, V) = rbo v (upd (upd f2 0 (nI T.length)) 4 (nI n), V) := fun v => rfl
      refine ⟨.inl (if mf (fitC T) (sgL R) R 30 a c = 0 then 1 else 0), T, n, g, newR R n [], F, Q, U, fun N hC => ⟨K, I, P, N, 0, 0, hans N hC, by omega, by omega, hC.sub (newR_sub (fun j L h => by simp at h) (fun _ _ => rfl))⟩, ⟨_, upd (upd f2 0 (nI T.length)) 4 (nI n), V, ?_, (d2.back x1 (by omega)).sub (newR_sub (fun j L h => by simp at h) (fun j hj => newR_o hj)), ?_, rfl⟩, hW.cut.step, fun e h => by cases h⟩
      · unfold fX7_finer
        rw [isSig_t hR ha, Option.bind_some, if_neg i10, isSig_t hR hc, Option.bind_some, if_neg i10]
        unfold fX7_finer_b22
        rw [fails_0, Option.bind_some]
        show (if (0 : Int32) = 0 then Option.bind (fX7_makes 2 (-1) (nI a) (upd f 54 0, M)) (fun q45 => Option.bind (fX7_matchOf q45.1 (nI c) (q45.2)) fun q54 => if (q54.1) = 0 then fX7_finer_b65 (upd f 54 0 0) (upd f 54 0 4) 1 (q54.2) else fX7_finer_b65 (upd f 54 0 0) (upd f 54 0 4) 0 (q54.2)) else _) = _
        have e5 : fX7_makes 2 (-1) (nI a) (upd f 54 0, M) = some (nI (n + st.2.length - 1), f2, W) := e1
        rw [if_pos rfl, e5, Option.bind_some, d1, Option.bind_some, hms, upd_n (by omega), upd_n (by omega), hR.ty.1, hR.cn.1]
        show (if mf (fitC T) (sgL R) R 30 a c = 0 then fX7_finer_b65 (nI T.length) (nI n) 1 (f2, V) else fX7_finer_b65 (nI T.length) (nI n) 0 (f2, V)) = _
        by_cases hm : mf (fitC T) (sgL R) R 30 a c = 0
        · rw [if_pos hm, if_pos hm, hb65]
          exact rbo_1
        · rw [if_neg hm, if_neg hm, hb65]
          exact rbo_0
      · rw [upd_n (by omega), upd_n (by omega), e54]
        exact upd_s
    · refine sim_thr 0 0 hR hW rfl (fun N hC => ?_) ?_
      · obtain ⟨w, a1, a2, a3, hw⟩ := atG hC ha rx
        unfold fX6_finer
        rw [g62 hC, Option.bind_some, r5 hC, Option.bind_some, hw, Option.bind_some, needRow_t, tb_l, g62 hC, Option.bind_some, r5 hC, Option.bind_some, at_no hC.shG h2, Option.bind_some, needRow_f]
        rfl
      · unfold fX7_finer
        rw [isSig_t hR ha, Option.bind_some, if_neg i10, isSig_f hR h2, Option.bind_some, if_pos rfl]
        exact bad
  · refine sim_thr 0 0 hR hW rfl (fun N hC => ?_) ?_
    · unfold fX6_finer
      rw [g62 hC, Option.bind_some, r5 hC, Option.bind_some, at_no hC.shG h1, Option.bind_some, needRow_f]
      rfl
    · unfold fX7_finer
      rw [isSig_f hR h1, Option.bind_some, if_pos rfl]
      exact bad
end Finer
