/-! UNITS: change, build -/
section Build
variable {o b t : Nat} {K : Nat → Option (Nat × Nat)} {I J : Nat → Nat → Int32} {P : Nat → Nat → Option Nat} {N0 N a : Nat} {f : Nat → Int32} {M W : Nat → Nat → Int32} {T : List TyD} {n g : Nat} {R : Nat → Option RowD} {F : List FuD} {Q : List (Int32 × Int32)} {U : List UnD} {L X : List En}
theorem set_get {α : Type} {L : List α} {u v : Nat} {x y : α} (h : (L.set u x)[v]? = some y) : (v = u ∧ y = x ∧ u < L.length) ∨ (v ≠ u ∧ L[v]? = some y) := by
  rw [List.getElem?_set] at h
  by_cases h1 : u = v
  · rw [if_pos h1] at h
    by_cases h2 : u < L.length
    · rw [if_pos h2] at h; cases h; exact Or.inl ⟨h1.symm, rfl, h2⟩
    · rw [if_neg h2] at h; cases h
  · rw [if_neg h1] at h; exact Or.inr ⟨fun e => h1 e.symm, h⟩
/-- a unit is changed -/
theorem CR.upUn (h : CR o b K I P N T n g R F Q U) {u : Nat} {x y : UnD} (hx : U[u]? = some x) (hp : ptr b P (600 + u) = some a) (ho : ∀ q, q ≠ a → q ≠ a + 1 → q ≠ a + 2 → J q = I q) (hy : UnIs J a y) : CR o b K J P N T n g R F Q (U.set u y) := by
  have ka := h.sd.1 _ _ hp
  rw [pkd5 (by omega)] at ka
  obtain ⟨-, k1, -, k2⟩ := h.sd.2.2.2.2 a ka
  have hq : ∀ q z, K q = some z → z ≠ (5, 0) → z ≠ (8, 8) → J q = I q := fun q z hz h1 h2 => ho q (fun e => by subst e; rw [ka] at hz; cases hz; exact h1 rfl) (fun e => by subst e; rw [k1] at hz; cases hz; exact h2 rfl) (fun e => by subst e; rw [k2] at hz; cases hz; exact h2 rfl)
  obtain ⟨⟨s1, s2, s3, s4, s5, s6, s7, s8, s9, s10, s11⟩, -⟩ := h.sf
  have jo := hq _ _ s1 (by decide) (by decide)
  refine h.frame (h.ty.congr (hq _ _ s2 (by decide) (by decide)) (hq _ _ s3 (by decide) (by decide)) (hq _ _ s4 (by decide) (by decide))) (h.cn.congr (hq _ _ s5 (by decide) (by decide)) (hq _ _ s7 (by decide) (by decide))) (cRw.congr h.sd h.rw (fun q hx => hq q _ hx (by decide) (by decide)) (fun q hx => hq q _ hx (by decide) (by decide))) (cFu.congr h.sd h.fu (by rw [jo]) (fun q hx => hq q _ hx (by decide) (by decide)) (fun q hx => hq q _ hx (by decide) (by decide))) (cPk.congr h.sd h.pk (by rw [jo]) (fun q hx => hq q _ hx (by decide) (by decide))) ?_
  have hun := h.un
  refine ⟨by rw [jo, List.length_set]; exact hun.1, by rw [List.length_set]; exact hun.2.1, fun v z hz => ?_, by rw [List.length_set]; exact hun.2.2.2⟩
  rcases set_get hz with ⟨rfl, rfl, -⟩ | ⟨h1, h2⟩
  · exact ⟨a, hp, hy⟩
  · obtain ⟨c, c1, c2⟩ := hun.2.2.1 v z h2
    have kc := h.sd.1 _ _ c1
    rw [pkd5 (by omega)] at kc
    obtain ⟨-, k3, -, k4⟩ := h.sd.2.2.2.2 c kc
    have hne : c ≠ a := fun e => h1 (by have := h.sd.2.1 _ _ _ c1 (by rw [e]; exact hp); omega)
    have n1 : c ≠ a + 1 := fun e => by rw [e, k1] at kc; cases kc
    have n2 : c ≠ a + 2 := fun e => by rw [e, k2] at kc; cases kc
    have n3 : c + 1 ≠ a := fun e => by rw [e, ka] at k3; cases k3
    have n4 : c + 2 ≠ a := fun e => by rw [e, ka] at k4; cases k4
    refine ⟨c, c1, c2.congr (ho c hne n1 n2) (ho _ n3 (by omega) (fun e => ?_)) (ho _ n4 (fun e => ?_) (by omega))⟩
    · exact n1 (by omega)
    · exact n3 (by omega)
theorem WF.setU {t2 : Nat} (h : WF t T n g R F Q U) (ht : t ≤ t2) {u : Nat} {y : UnD} (hy : wUni t2 g u y) : WF t2 T n g R F Q (U.set u y) := by
  obtain ⟨a, c, d, e, fu, pk, un⟩ := h
  refine ⟨a, c, d, e, fu, pk, fun v x hx => ?_⟩
  rcases set_get hx with ⟨rfl, rfl, -⟩ | ⟨-, h2⟩
  · exact hy
  · exact (un v x h2).mono ht (Nat.le_refl _)
/-- what a write of a unit's tables leaves alone -/
theorem RR.upUn' (x : RR f M T n g R F Q U) {U2 : List UnD} (h0 : ∀ j, j < 33 ∨ 40 < j → W j = M j) (hU : rUn f W U2) : RR f W T n g R F Q U2 := ⟨x.ty.congr rfl (h0 _ (by omega)) (h0 _ (by omega)) (h0 _ (by omega)), x.cn.congr rfl rfl (h0 _ (by omega)) (h0 _ (by omega)), x.rw.congr (fun j hj => h0 j (by omega)), x.fu.congr rfl (fun j _ h2 => h0 j (by omega)), x.pk.congr rfl (h0 _ (by omega)) (h0 _ (by omega)), hU, x.dp⟩
theorem s_change (o t : Nat) : sim_change o (Inv o t) (Inv o (t + 1)) := by
  intro z S p0 p1 hI
  obtain ⟨K, I, P, N0⟩ := z
  obtain ⟨f, M⟩ := S
  refine sim_core (fun e => e = 0) (fun e => if e = 0 then 1 else 0) hI (fun b T n g R F Q U hR hW => ?_)
  have h20 := hW.1.2.2.2
  have h8 := hR.un.2.1
  have bad : fX7_change_b26 p0 p1 (f, M) = some (0, upd f 54 1, M) := by
    unfold fX7_change_b26 fX7_change_b27
    rw [fails_1 (by decide), Option.bind_some]
    rfl
  rcases ix_em p0 (n := U.length) (by omega) with ⟨u, hu, rfl⟩ | h1
  · have hx := List.getElem?_eq_getElem hu
    have hwu := hW.2.2.2.2.2.2 u _ hx
    obtain ⟨u1, u2, u3, u4, u5⟩ := hR.un.2.2.1 u _ hx
    have isU : fX7_isUnit (nI u) (f, M) = some (1, f, M) := by
      unfold fX7_isUnit
      have hn : ¬ (nI u < 0 ∨ nI U.length - 1 < nI u) := fun hh => ((lt_cnt (by omega)).mp hh).elim (nI_pos (by omega)) (nI_ge hu (by omega))
      show Option.bind (fX7_isIn (nI u) 0 (f 32 - 1) (f, M)) _ = _
      rw [hR.un.1, isIn_t (fun hh => hn (Or.inl hh)) (fun hh => hn (Or.inr hh)), Option.bind_some]
      exact rbo_1
    have go : ∀ fc : Int32, (∃ c, c < g ∧ fc = nI c) → (∀ N, CR o b K I P N T n g R F Q U → ∃ a, ptr b P (600 + u) = some a ∧ K a = some (5, 0) ∧ UnIs I a U[u] ∧ fX6_change o (nI u) p1 (K, I, P, N) = fX6_change_b47 o (some a) (K, cup I a 2 fc, P, N)) → (fX7_change (nI u) p1 (f, M) = fX7_change_b55 (nI u) fc (nI u) (upd f 54 0, M)) → ∃ res T2 n2 g2 R2 F2 Q2 U2, okC o b K I P T n g R F Q U (fX6_change o (nI u) p1) res T2 n2 g2 R2 F2 Q2 U2 ∧ okR (fX7_change (nI u) p1 (f, M)) res (fun e => if e = 0 then 1 else 0) T2 n2 g2 R2 F2 Q2 U2 ∧ WF (t + 1) T2 n2 g2 R2 F2 Q2 U2 ∧ ∀ e, res = .inr e → e = 0 := by
      intro fc hfc hcl hre
      refine sim_do (E := fun e => e = 0) (nI (U[u].2.2.2.1 + 1)) (hW.setU (t2 := t + 1) (by omega) (u := u) (y := (U[u].1, U[u].2.1, fc, U[u].2.2.2.1 + 1, U[u].2.2.2.2)) ?_) (fun N hC => ?_) ?_
      · obtain ⟨w1, w2, w3, w4, w5⟩ := hwu
        exact ⟨w1, w2, hfc, by show U[u].2.2.2.1 + 1 ≤ t + 1; omega, fun c hc => ⟨by have := (w5 c hc).1; omega, (w5 c hc).2⟩⟩
      · obtain ⟨a, a1, a2, a3, a4⟩ := hcl N hC
        refine ⟨K, cup (cup I a 2 fc) a 3 (nI (U[u].2.2.2.1 + 1)), P, N, 0, 0, ?_, by omega, by omega, hC.upUn hx a1 (fun q h1 h2 h3 => by rw [cup_q h1, cup_q h1]) ⟨?_, ?_, ?_, ?_, ?_, ?_⟩⟩
        · rw [a4]
          unfold fX6_change_b47
          rw [Option.bind_some, e_gI a2, Option.bind_some, cup_j (by omega), a3.2.2.2.1, Option.bind_some, nI_1, e_pI a2, Option.bind_some, Option.bind_some, e_gI a2, Option.bind_some, cup_s]
        · rw [cup_j (by omega), cup_j (by omega)]; exact a3.1
        · rw [cup_j (by omega), cup_j (by omega)]; exact a3.2.1
        · rw [cup_j (by omega), cup_s]
        · rw [cup_s]
        · rw [cup_j (by omega), cup_j (by omega)]; exact a3.2.2.2.2.1
        · intro k hk
          rw [cup_q (show a + 1 ≠ a by omega), cup_q (show a + 1 ≠ a by omega), cup_q (show a + 2 ≠ a by omega), cup_q (show a + 2 ≠ a by omega)]
          exact a3.2.2.2.2.2 k hk
      · refine ⟨upd f 54 0, mup (mup M 33 u fc) 36 u (nI (U[u].2.2.2.1 + 1)), ?_, (hR.thr 0).upUn' ?_ ?_, upd_s⟩
        · rw [hre]
          unfold fX7_change_b55
          rw [r_wr 8 rfl (by omega) (by omega), Option.bind_some, r_rd 8 rfl (by omega) (by omega), Option.bind_some, mup_k (by omega), u4, nI_1, r_wr 8 rfl (by omega) (by omega), Option.bind_some, r_rd 8 rfl (by omega) (by omega), mup_s]
          rfl
        · intro j hj; rw [mup_k (by omega), mup_k (by omega)]
        · have hun := (hR.thr 0).un
          refine ⟨by rw [List.length_set]; exact hun.1, by rw [List.length_set]; exact hun.2.1, fun v y hy => ?_, fun v h1 h2 => ?_⟩
          · rcases set_get hy with ⟨rfl, rfl, -⟩ | ⟨h1, h2⟩
            · rw [mup_k (show 33 ≠ 36 by omega), mup_s, mup_k (show 34 ≠ 36 by omega), mup_k (show 34 ≠ 33 by omega), mup_k (show 35 ≠ 36 by omega), mup_k (show 35 ≠ 33 by omega), mup_s]
              refine ⟨rfl, u2, u3, rfl, ?_⟩
              exact rBt.congr (y := U[v]) u5 (fun j h1 h2 => by rw [mup_k (by omega), mup_k (by omega)])
            · obtain ⟨q1, q2, q3, q4, q5⟩ := hun.2.2.1 v y h2
              rw [mup_k (show 33 ≠ 36 by omega), mup_i h1, mup_k (show 34 ≠ 36 by omega), mup_k (show 34 ≠ 33 by omega), mup_k (show 35 ≠ 36 by omega), mup_k (show 35 ≠ 33 by omega), mup_i h1, mup_k (show 36 ≠ 33 by omega)]
              exact ⟨q1, q2, q3, q4, q5.congr (fun j h1 h2 => by rw [mup_k (by omega), mup_k (by omega)])⟩
          · rw [List.length_set] at h1
            rw [mup_i (by omega), mup_k (show 36 ≠ 33 by omega), mup_k (show 37 ≠ 36 by omega), mup_k (show 37 ≠ 33 by omega)]
            exact hun.2.2.2 v h1 h2
    by_cases hm : p1 = -1
    · refine go U[u].2.2.1 hwu.2.2.1 (fun N hC => ?_) ?_
      · obtain ⟨a, a1, a2, a3, a4⟩ := unitAt_is hC hx
        refine ⟨a, a1, a2, a3, ?_⟩
        have same : cup I a 2 U[u].2.2.1 = I := by
          funext x y
          by_cases hx : x = a
          · subst hx
            by_cases hy : y = 2
            · subst hy; rw [cup_s, a3.2.2.1]
            · rw [cup_j hy]
          · rw [cup_q hx]
        rw [same]
        unfold fX6_change
        rw [ro hC, Option.bind_some, a4, Option.bind_some]
        show (if some a = none then _ else if p1 = -1 then fX6_change_b37 o p1 (some a) (K, I, P, N) else _) = _
        rw [if_neg (fun e => by cases e), if_pos hm]
        unfold fX6_change_b37
        rw [if_pos hm]
      · unfold fX7_change
        rw [isU, Option.bind_some, if_neg i10, if_pos hm]
        unfold fX7_change_b22 fX7_change_b27
        rw [fails_0, Option.bind_some]
        show (if p1 = -1 then Option.bind (rd (upd f 54 0, M) 33 (nI u)) _ else _) = _
        rw [if_pos hm, r_rd 8 rfl (by omega) (by omega), u1]
        rfl
    · rcases ix_em p1 (n := g) (by omega) with ⟨j, hj, rfl⟩ | h2
      · obtain ⟨LJ, hrj, -, -⟩ := hW.sG hj
        refine go (nI j) ⟨j, hj, rfl⟩ (fun N hC => ?_) ?_
        · obtain ⟨a, a1, a2, a3, a4⟩ := unitAt_is hC hx
          obtain ⟨c, c1, c2, c3, c4⟩ := atG hC hj hrj
          refine ⟨a, a1, a2, a3, ?_⟩
          unfold fX6_change
          rw [ro hC, Option.bind_some, a4, Option.bind_some]
          show (if some a = none then _ else if nI j = -1 then _ else Option.bind (cgR (K, I, P, N) o 6 2) _) = _
          rw [if_neg (fun e => by cases e), if_neg hm, g62 hC, Option.bind_some, r5 hC, Option.bind_some, c4, Option.bind_some, if_neg (fun e => by cases e)]
          unfold fX6_change_b37
          rw [if_neg hm, Option.bind_some, e_pI a2, Option.bind_some]
        · unfold fX7_change
          rw [isU, Option.bind_some, if_neg i10, if_neg hm, isSig_t hR hj, Option.bind_some, if_neg i10]
          unfold fX7_change_b22 fX7_change_b27
          rw [fails_0, Option.bind_some]
          show (if nI j = -1 then _ else fX7_change_b55 (nI u) (nI j) (nI u) (upd f 54 0, M)) = _
          rw [if_neg hm]
      · refine sim_thr 0 0 hR hW rfl (fun N hC => ?_) ?_
        · obtain ⟨a, a1, a2, a3, a4⟩ := unitAt_is hC hx
          unfold fX6_change
          rw [ro hC, Option.bind_some, a4, Option.bind_some]
          show (if some a = none then _ else if p1 = -1 then _ else Option.bind (cgR (K, I, P, N) o 6 2) _) = _
          rw [if_neg (fun e => by cases e), if_neg hm, g62 hC, Option.bind_some, r5 hC, Option.bind_some, at_no hC.shG h2, Option.bind_some, if_pos rfl]
          rfl
        · unfold fX7_change
          rw [isU, Option.bind_some, if_neg i10, if_neg hm, isSig_f hR h2, Option.bind_some, if_pos rfl]
          exact bad
  · refine sim_thr 0 0 hR hW rfl (fun N hC => ?_) ?_
    · unfold fX6_change
      rw [ro hC, Option.bind_some, unitAt_no hC h1, Option.bind_some]
      rfl
    · unfold fX7_change
      have isU : fX7_isUnit p0 (f, M) = some (0, f, M) := by
        unfold fX7_isUnit
        show Option.bind (fX7_isIn p0 0 (f 32 - 1) (f, M)) _ = _
        rw [hR.un.1, isIn_f ((lt_cnt (by omega)).mpr h1), Option.bind_some]
        exact rbo_0
      rw [isU, Option.bind_some, if_pos rfl]
      exact bad
end Build
