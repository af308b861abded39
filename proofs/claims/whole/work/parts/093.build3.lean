/-! UNITS: build, the call -/
section Build3
variable {o b t : Nat} {K : Nat → Option (Nat × Nat)} {I J : Nat → Nat → Int32} {P : Nat → Nat → Option Nat} {N0 N a : Nat} {f : Nat → Int32} {M W : Nat → Nat → Int32} {T : List TyD} {n g : Nat} {R : Nat → Option RowD} {F : List FuD} {Q : List (Int32 × Int32)} {U V : List UnD} {L X : List En}
theorem sameF.set (h : sameF U V) {u : Nat} {x y : UnD} (hx : U[u]? = some x) (h1 : y.1 = x.1) (h2 : y.2.1 = x.2.1) (h3 : y.2.2.1 = x.2.2.1) (h4 : y.2.2.2.1 = x.2.2.2.1) : sameF U (V.set u y) := by
  refine ⟨by rw [List.length_set]; exact h.1, fun j z hz => ?_⟩
  rw [List.getElem?_set]
  by_cases hj : u = j
  · subst hj
    rw [hx] at hz
    cases hz
    rw [if_pos rfl, if_pos (by rw [h.1]; exact (List.getElem?_eq_some_iff.mp hx).1)]
    exact ⟨y, rfl, h1, h2, h3, h4⟩
  · rw [if_neg hj]; exact h.2 j z hz
theorem fcO_of {k : Nat} {y : UnD} (h : U[k]? = some y) : fcO U k = y.2.2.1 ∧ chO U k = nI y.2.2.2.1 := by unfold fcO chO; rw [h]; exact ⟨rfl, rfl⟩
theorem bdm_bits {x : UnD} {u : Nat} (h : stU R U x = true) {k : Nat} (hb : uBit x.1 k) (hk : k < U.length) : (bdm R U x).2.2.2.2.2.1 k = fcO U k ∧ (bdm R U x).2.2.2.2.2.2 k = chO U k := by
  have e : bdm R U x = bld U x := if_pos h
  rw [e]
  exact ⟨if_pos ⟨Nat.zero_le _, hk, uB_iff.mpr hb⟩, if_pos ⟨Nat.zero_le _, hk, uB_iff.mpr hb⟩⟩
theorem bdm_built {x : UnD} (h : stU R U x = true) : (bdm R U x).2.2.2.2.1 = some x.2.2.2.1 := by
  have e : bdm R U x = bld U x := if_pos h
  rw [e]; rfl
theorem wfU_bdV (hU : wfU R g U) (u : Nat) : wfU R g (bdV R U u) := by
  intro j x hx
  rw [bdV_get] at hx
  by_cases hj : j < u
  · rw [if_pos hj] at hx
    cases hy : U[j]? with
    | none => rw [hy] at hx; cases hx
    | some y =>
      rw [hy] at hx
      cases hx
      have hjl := (List.getElem?_eq_some_iff.mp hy).1
      obtain ⟨w1, w2, w3, w4, w5⟩ := hU j y hy
      obtain ⟨s1, s2, s3, s4⟩ := bdm_same (R := R) (U := U) (y := y)
      refine ⟨by rw [s1]; exact w1, by rw [s2]; exact w2, by rw [s3]; exact w3, by rw [s4]; exact w4, fun c hc => ?_⟩
      cases hst : stU R U y with
      | false =>
        have e : bdm R U y = y := if_neg (by rw [hst]; decide)
        rw [e] at hc ⊢
        exact w5 c hc
      | true =>
        rw [bdm_built hst] at hc
        cases hc
        refine ⟨w4, fun k hk hb => ?_⟩
        rw [s1] at hb
        have hkl : k < U.length := by omega
        have hg := List.getElem?_eq_getElem hkl
        rw [(bdm_bits (u := j) hst hb hkl).1, (fcO_of hg).1]
        exact (hU k _ hg).2.2.1
  · rw [if_neg hj] at hx
    exact hU j x hx
theorem build_c (hG : wfG R g) (hU : wfU R g U) : ∀ m fu u c I, u + m = U.length → m < fu → CR o b K I P N T n g R F Q (bdV R U u) → ∃ J, fX6_build_b4 o fu (nI c) (nI u) (K, I, P, N) = some (nI (c + cN R U (U.drop u)), K, J, P, N) ∧ CR o b K J P N T n g R F Q (U.map (bdm R U)) := by
  intro m
  induction m with
  | zero =>
    intro fu u c I hu hf hC
    have h8 := hC.un.2.1
    rw [bdV_len] at h8
    cases fu with
    | zero => omega
    | succ fu =>
      refine ⟨I, ?_, by rw [show u = U.length by omega, bdV_all] at hC; exact hC⟩
      show fX6_build_b4_body o _ (nI c) (nI u) (K, I, P, N) = _
      unfold fX6_build_b4_body
      rw [e_gI hC.Ko, Option.bind_some, hC.un.1, bdV_len, if_pos (nI_le (by omega) (by omega)), List.drop_eq_nil_of_le (by omega)]
      rfl
  | succ m ih =>
    intro fu u c I hu hf hC
    have h8 := hC.un.2.1
    rw [bdV_len] at h8
    cases fu with
    | zero => omega
    | succ fu =>
      have hul : u < U.length := by omega
      have hg := List.getElem?_eq_getElem hul
      have hgV : (bdV R U u)[u]? = some U[u] := by rw [bdV_get, if_neg (by omega), hg]
      obtain ⟨a, a1, a2, a3, a4⟩ := unitAt_is hC hgV
      have hsf := bdV_sameF (R := R) (U := U) (u := u)
      have hst := isStale_c hC hG (wfU_bdV hU u) hgV a2 a3
      rw [hsf.st] at hst
      have st : fX6_build_b4 o (fu + 1) (nI c) (nI u) (K, I, P, N) = if stU R U U[u] = true then Option.bind (fX6_noteAllUsed o (some a) (K, I, P, N)) fun q32 => fX6_build_b4 o fu (nI (c + 1)) (nI (u + 1)) (q32.2) else fX6_build_b4 o fu (nI c) (nI (u + 1)) (K, I, P, N) := by
        show fX6_build_b4_body o _ (nI c) (nI u) (K, I, P, N) = _
        unfold fX6_build_b4_body fX6_build_b38
        rw [e_gI hC.Ko, Option.bind_some, hC.un.1, bdV_len, if_neg (nI_ge hul (by omega)), ro hC, Option.bind_some, a4, Option.bind_some]
        show (if some a = none then _ else Option.bind (crc (K, I, P, N) (some o) 6) _) = _
        rw [if_neg (fun e => by cases e), ro hC, Option.bind_some, hst, Option.bind_some, nI_1, nI_1]
        cases stU R U U[u] with
        | false =>
          show (if b2 false = 0 then fX6_build_b4 o fu (nI c) (nI (u + 1)) (K, I, P, N) else _) = _
          rw [if_pos bF]
          rfl
        | true =>
          show (if b2 true = 0 then _ else Option.bind (crc (K, I, P, N) (some o) 6) _) = _
          rw [if_neg (show ¬ b2 true = 0 by decide), ro hC, Option.bind_some]
          rfl
      have hcn : cN R U (U.drop u) = (if stU R U U[u] = true then 1 else 0) + cN R U (U.drop (u + 1)) := by rw [List.drop_eq_getElem_cons hul]; rfl
      by_cases hs : stU R U U[u] = true
      · have hbits := stale_bits hU h8 hg
        have hC2 := hC.upUn (J := cup I a 4 (nI U[u].2.2.2.1)) (y := (U[u].1, U[u].2.1, U[u].2.2.1, U[u].2.2.2.1, some U[u].2.2.2.1, U[u].2.2.2.2.2)) hgV a1 (fun q h1 h2 h3 => cup_q h1) (by
          refine ⟨?_, ?_, ?_, ?_, ?_, fun j hj => ?_⟩
          · rw [cup_j (by omega)]; exact a3.1
          · rw [cup_j (by omega)]; exact a3.2.1
          · rw [cup_j (by omega)]; exact a3.2.2.1
          · rw [cup_j (by omega)]; exact a3.2.2.2.1
          · rw [cup_s]; rfl
          · rw [cup_q (show a + 1 ≠ a by omega), cup_q (show a + 2 ≠ a by omega)]; exact a3.2.2.2.2.2 j hj)
        obtain ⟨J, d1, d2⟩ := noteAll_c (u := u) (by omega) U.length rFuel 0 _ _ (U[u].1, U[u].2.1, U[u].2.2.1, U[u].2.2.2.1, some U[u].2.2.2.1, U[u].2.2.2.2.2) (by rw [List.length_set, bdV_len]; omega) (by show U.length < 100000; omega) hC2 (by rw [List.getElem?_set, if_pos rfl, if_pos (by rw [bdV_len]; exact hul)]) a1 a2 hbits
        rw [List.set_set, (hsf.set (y := (U[u].1, U[u].2.1, U[u].2.2.1, U[u].2.2.2.1, some U[u].2.2.2.1, U[u].2.2.2.2.2)) hg rfl rfl rfl rfl).nof] at d2
        have hbm : noF U 0 (U[u].1, U[u].2.1, U[u].2.2.1, U[u].2.2.2.1, some U[u].2.2.2.1, U[u].2.2.2.2.2) = bdm R U U[u] := (if_pos hs).symm
        rw [hbm, ← bdV_step hul] at d2
        obtain ⟨J2, c1, c2⟩ := ih fu (u + 1) (c + 1) J (by omega) (by omega) d2
        refine ⟨J2, ?_, c2⟩
        rw [st, if_pos hs]
        unfold fX6_noteAllUsed
        rw [Option.bind_some, e_gI a2, Option.bind_some, a3.2.2.2.1, Option.bind_some, e_pI a2, Option.bind_some]
        show Option.bind (fX6_noteAllUsed_b10 o rFuel (some a) (nI 0) (K, cup I a 4 (nI U[u].2.2.2.1), P, N)) _ = _
        rw [d1, Option.bind_some, hcn, if_pos hs, show c + (1 + cN R U (U.drop (u + 1))) = c + 1 + cN R U (U.drop (u + 1)) by omega]
        exact c1
      · have hs0 : stU R U U[u] = false := by cases h : stU R U U[u] with
          | false => rfl
          | true => exact absurd h hs
        rw [← bdV_same hul hs0] at hC
        obtain ⟨J2, c1, c2⟩ := ih fu (u + 1) c I (by omega) (by omega) hC
        refine ⟨J2, ?_, c2⟩
        rw [st, if_neg hs, hcn, if_neg hs, Nat.zero_add]
        exact c1
/-! the set of the stale ones, bit by bit -/
theorem stN_tb : ∀ (Y : List UnD) (u a j : Nat), (stN R U u a Y).testBit j = (a.testBit j || (decide (u ≤ j) && (match Y[j - u]? with
    | some y => stU R U y
    | none => false))) := by
  intro Y
  induction Y with
  | nil => intro u a j; simp [stN]
  | cons y Y ih =>
    intro u a j
    unfold stN
    rw [ih (u + 1) _ j]
    by_cases h1 : j < u
    · rw [decide_eq_false (show ¬ u + 1 ≤ j by omega), decide_eq_false (show ¬ u ≤ j by omega), Bool.false_and, Bool.false_and, Bool.or_false, Bool.or_false]
      split
      · rw [Nat.testBit_or, Nat.testBit_two_pow, decide_eq_false (by omega), Bool.or_false]
      · rfl
    · by_cases h2 : j = u
      · subst h2
        rw [decide_eq_false (show ¬ j + 1 ≤ j by omega), Bool.false_and, Bool.or_false, Nat.sub_self]
        show _ = (a.testBit j || (decide (j ≤ j) && stU R U y))
        rw [decide_eq_true (Nat.le_refl j), Bool.true_and]
        cases hs : stU R U y with
        | true => rw [if_pos rfl, Nat.testBit_or, Nat.testBit_two_pow, decide_eq_true rfl]
        | false => rw [if_neg (by decide), Bool.or_false]
      · rw [decide_eq_true (show u + 1 ≤ j by omega), decide_eq_true (show u ≤ j by omega), show j - u = (j - (u + 1)) + 1 by omega, List.getElem?_cons_succ]
        congr 1
        split
        · rw [Nat.testBit_or, Nat.testBit_two_pow, decide_eq_false (by omega), Bool.or_false]
        · rfl
theorem stN_lt : ∀ (Y : List UnD) (u a : Nat), a < 2 ^ 8 → u + Y.length ≤ 8 → stN R U u a Y < 2 ^ 8 := by
  intro Y
  induction Y with
  | nil => intro u a h _; exact h
  | cons y Y ih =>
    intro u a h hl
    simp at hl
    unfold stN
    refine ih (u + 1) _ ?_ (by omega)
    split
    · exact Nat.or_lt_two_pow h (Nat.pow_lt_pow_right (by omega) (by omega))
    · exact h
theorem stN_bit (h8 : U.length ≤ 8) {u : Nat} {x : UnD} (hx : U[u]? = some x) : uBit (nI (stN R U 0 0 U)) u ↔ stU R U x = true := by
  have hul := (List.getElem?_eq_some_iff.mp hx).1
  have hlt := stN_lt (R := R) (U := U) U 0 0 (by decide) (by omega)
  rw [bit_tb (by omega) (by omega), stN_tb, Nat.zero_testBit, Bool.false_or, decide_eq_true (Nat.zero_le u), Bool.true_and, Nat.sub_zero, hx]
/-! the reference -/
theorem build_in {rec14 : Int32 → Int32 → Int32 → rS → Option (Int32 × rS)} {s c : Int32} {u : Nat} (hu : u < 8) : ∀ m fu k M, k + m = u → m < fu → ∃ W, fX7_build_b53 rec14 fu s c (nI u) (nI k) (f, M) = rec14 s (c + 1) (nI (u + 1)) (f, W) ∧ (∀ j, j ≠ 39 → j ≠ 40 → W j = M j) ∧ (∀ i, i < 8 * u + k ∨ 8 * u + u ≤ i → W 39 i = M 39 i ∧ W 40 i = M 40 i) ∧ ∀ j, k ≤ j → j < u → W 39 (8 * u + j) = M 33 j ∧ W 40 (8 * u + j) = M 36 j := by
  intro m
  induction m with
  | zero =>
    intro fu k M hk hf
    cases fu with
    | zero => omega
    | succ fu =>
      refine ⟨M, ?_, fun _ _ _ => rfl, fun _ _ => ⟨rfl, rfl⟩, fun j h1 h2 => by omega⟩
      show fX7_build_b53_body _ rec14 s c (nI u) (nI k) (f, M) = _
      unfold fX7_build_b53_body fX7_build_b106
      rw [if_pos (nI_le (by omega) (by omega)), nI_1]
  | succ m ih =>
    intro fu k M hk hf
    cases fu with
    | zero => omega
    | succ fu =>
      have e8 : (8 : Int32) * nI u + nI k = nI (8 * u + k) := by rw [show (8 : Int32) = nI 8 from rfl, pk_mul, nI_add]
      obtain ⟨W, d1, d2, d3, d4⟩ := ih fu (k + 1) (mup (mup M 39 (8 * u + k) (M 33 k)) 40 (8 * u + k) (M 36 k)) (by omega) (by omega)
      refine ⟨W, ?_, fun j h1 h2 => by rw [d2 j h1 h2, mup_k h2, mup_k h1], fun i hi => ?_, fun j h1 h2 => ?_⟩
      · show fX7_build_b53_body _ rec14 s c (nI u) (nI k) (f, M) = _
        unfold fX7_build_b53_body
        rw [if_neg (nI_ge (by omega) (by omega)), r_rd 8 rfl (by omega) (by omega), Option.bind_some, e8, r_wr 64 rfl (by omega) (by omega), Option.bind_some, r_rd 8 rfl (by omega) (by omega), Option.bind_some, mup_k (by omega), r_wr 64 rfl (by omega) (by omega), Option.bind_some, nI_1]
        exact d1
      · obtain ⟨q1, q2⟩ := d3 i (by omega)
        rw [q1, q2, mup_k (show 39 ≠ 40 by omega), mup_i (by omega), mup_i (by omega), mup_k (show 40 ≠ 39 by omega)]
        exact ⟨rfl, rfl⟩
      · by_cases hjk : j = k
        · subst hjk
          obtain ⟨q1, q2⟩ := d3 (8 * u + j) (by omega)
          rw [q1, q2, mup_k (show 39 ≠ 40 by omega), mup_s, mup_s]
          exact ⟨rfl, rfl⟩
        · obtain ⟨q1, q2⟩ := d4 j (by omega) h2
          rw [q1, q2, mup_k (show 33 ≠ 40 by omega), mup_k (show 33 ≠ 39 by omega), mup_k (show 36 ≠ 40 by omega), mup_k (show 36 ≠ 39 by omega)]
          exact ⟨rfl, rfl⟩
theorem build_r (hU : wfU R g U) {s : Int32} (hs : ∀ (u : Nat) (x : UnD), U[u]? = some x → (uBit s u ↔ stU R U x = true)) : ∀ m fu u c M, u + m = U.length → m < fu → RR f M T n g R F Q (bdV R U u) → ∃ W, fX7_build_b14 fu s (nI c) (nI u) (f, M) = some (nI (c + cN R U (U.drop u)), f, W) ∧ RR f W T n g R F Q (U.map (bdm R U)) := by
  intro m
  induction m with
  | zero =>
    intro fu u c M hu hf hR
    have h8 := hR.un.2.1
    rw [bdV_len] at h8
    cases fu with
    | zero => omega
    | succ fu =>
      refine ⟨M, ?_, by rw [show u = U.length by omega, bdV_all] at hR; exact hR⟩
      show fX7_build_b14_body _ s (nI c) (nI u) (f, M) = _
      unfold fX7_build_b14_body
      show (if f 32 ≤ nI u then _ else _) = _
      rw [hR.un.1, bdV_len, if_pos (nI_le (by omega) (by omega)), List.drop_eq_nil_of_le (by omega)]
      rfl
  | succ m ih =>
    intro fu u c M hu hf hR
    have h8 := hR.un.2.1
    rw [bdV_len] at h8
    cases fu with
    | zero => omega
    | succ fu =>
      have hul : u < U.length := by omega
      have hg := List.getElem?_eq_getElem hul
      have hgV : (bdV R U u)[u]? = some U[u] := by rw [bdV_get, if_neg (by omega), hg]
      have hcn : cN R U (U.drop u) = (if stU R U U[u] = true then 1 else 0) + cN R U (U.drop (u + 1)) := by rw [List.drop_eq_getElem_cons hul]; rfl
      by_cases hst : stU R U U[u] = true
      · obtain ⟨u1, u2, u3, u4, u5⟩ := hR.un.2.2.1 u _ hgV
        obtain ⟨W, d1, d2, d3, d4⟩ := build_in (f := f) (rec14 := fX7_build_b14 fu) (s := s) (c := nI c) (u := u) (by omega) u rFuel 0 (mup (mup M 37 u 1) 38 u (nI U[u].2.2.2.1)) (by omega) (by show u < 100000; omega)
        have hsf := bdV_sameF (R := R) (U := U) (u := u)
        have hR2 : RR f W T n g R F Q (bdV R U (u + 1)) := by
          rw [bdV_step hul]
          have hun := hR.un
          refine hR.upUn' (fun j hj => by rw [d2 j (by omega) (by omega), mup_k (by omega), mup_k (by omega)]) ⟨by rw [List.length_set]; exact hun.1, by rw [List.length_set]; exact hun.2.1, fun v y hy => ?_, fun v h1 h2 => ?_⟩
          · rcases set_get hy with ⟨rfl, rfl, -⟩ | ⟨h1, h2⟩
            · obtain ⟨s1, s2, s3, s4⟩ := bdm_same (R := R) (U := U) (y := U[v])
              rw [d2 33 (by omega) (by omega), d2 34 (by omega) (by omega), d2 35 (by omega) (by omega), d2 36 (by omega) (by omega), mup_k (show 33 ≠ 38 by omega), mup_k (show 33 ≠ 37 by omega), mup_k (show 34 ≠ 38 by omega), mup_k (show 34 ≠ 37 by omega), mup_k (show 35 ≠ 38 by omega), mup_k (show 35 ≠ 37 by omega), mup_k (show 36 ≠ 38 by omega), mup_k (show 36 ≠ 37 by omega), s1, s2, s3, s4]
              refine ⟨u1, u2, u3, u4, ?_⟩
              unfold rBt
              rw [bdm_built hst]
              refine ⟨by rw [d2 37 (by omega) (by omega), mup_k (by omega), mup_s], by rw [d2 38 (by omega) (by omega), mup_s], fun k hk hb => ?_⟩
              rw [s1] at hb
              have hkl : k < U.length := by omega
              obtain ⟨z, z0, z1, z2, z3, z4⟩ := hsf.2 k _ (List.getElem?_eq_getElem hkl)
              obtain ⟨k1, k2, k3, k4, -⟩ := hun.2.2.1 k z z0
              obtain ⟨b1, b2⟩ := bdm_bits (u := v) hst hb hkl
              obtain ⟨o1, o2⟩ := fcO_of (List.getElem?_eq_getElem hkl)
              obtain ⟨e1, e2⟩ := d4 k (Nat.zero_le _) hk
              rw [e1, e2, b1, b2, o1, o2, mup_k (show 33 ≠ 38 by omega), mup_k (show 33 ≠ 37 by omega), mup_k (show 36 ≠ 38 by omega), mup_k (show 36 ≠ 37 by omega), k1, k4, z3, z4]
              exact ⟨rfl, rfl⟩
            · obtain ⟨q1, q2, q3, q4, q5⟩ := hun.2.2.1 v y h2
              have hvl := (List.getElem?_eq_some_iff.mp h2).1
              rw [bdV_len] at hvl
              rw [d2 33 (by omega) (by omega), d2 34 (by omega) (by omega), d2 35 (by omega) (by omega), d2 36 (by omega) (by omega), mup_k (show 33 ≠ 38 by omega), mup_k (show 33 ≠ 37 by omega), mup_k (show 34 ≠ 38 by omega), mup_k (show 34 ≠ 37 by omega), mup_k (show 35 ≠ 38 by omega), mup_k (show 35 ≠ 37 by omega), mup_k (show 36 ≠ 38 by omega), mup_k (show 36 ≠ 37 by omega)]
              refine ⟨q1, q2, q3, q4, ?_⟩
              unfold rBt at q5 ⊢
              rw [d2 37 (by omega) (by omega), d2 38 (by omega) (by omega), mup_k (show 37 ≠ 38 by omega), mup_i h1, mup_i h1, mup_k (show 38 ≠ 37 by omega)]
              cases hb : y.2.2.2.2.1 with
              | none => rw [hb] at q5; exact q5
              | some c =>
                rw [hb] at q5
                refine ⟨q5.1, q5.2.1, fun k hk hbit => ?_⟩
                obtain ⟨e1, e2⟩ := d3 (8 * v + k) (by omega)
                rw [e1, e2, mup_k (show 39 ≠ 38 by omega), mup_k (show 39 ≠ 37 by omega), mup_k (show 40 ≠ 38 by omega), mup_k (show 40 ≠ 37 by omega)]
                exact q5.2.2 k hk hbit
          · rw [List.length_set] at h1
            rw [bdV_len] at h1
            rw [d2 36 (by omega) (by omega), d2 37 (by omega) (by omega), mup_k (show 36 ≠ 38 by omega), mup_k (show 36 ≠ 37 by omega), mup_k (show 37 ≠ 38 by omega), mup_i (by omega)]
            exact hun.2.2.2 v (by rw [bdV_len]; exact h1) h2
        obtain ⟨W2, c1, c2⟩ := ih fu (u + 1) (c + 1) W (by omega) (by omega) hR2
        refine ⟨W2, ?_, c2⟩
        show fX7_build_b14_body _ s (nI c) (nI u) (f, M) = _
        unfold fX7_build_b14_body
        show (if f 32 ≤ nI u then _ else _) = _
        have hbit : (s >>> (nI u &&& 31)) &&& 1 = 1 := (hs u _ hg).mpr hst
        rw [hR.un.1, bdV_len, if_neg (nI_ge hul (by omega)), if_pos hbit, r_wz 8 rfl (by omega) (by omega) (show vp_nar .boolean (1 : Int32) = 1 from b2_nar (x := true)), Option.bind_some, r_rd 8 rfl (by omega) (by omega), Option.bind_some, mup_k (by omega), u4, r_wr 8 rfl (by omega) (by omega), Option.bind_some]
        show fX7_build_b53 (fX7_build_b14 fu) rFuel s (nI c) (nI u) (nI 0) (f, _) = _
        rw [d1, nI_1, hcn, if_pos hst, show c + (1 + cN R U (U.drop (u + 1))) = c + 1 + cN R U (U.drop (u + 1)) by omega]
        exact c1
      · have hs0 : stU R U U[u] = false := by cases h : stU R U U[u] with
          | false => rfl
          | true => exact absurd h hst
        rw [← bdV_same hul hs0] at hR
        obtain ⟨W2, c1, c2⟩ := ih fu (u + 1) c M (by omega) (by omega) hR
        refine ⟨W2, ?_, c2⟩
        show fX7_build_b14_body _ s (nI c) (nI u) (f, M) = _
        unfold fX7_build_b14_body fX7_build_b106
        show (if f 32 ≤ nI u then _ else _) = _
        have hbit : ¬ (s >>> (nI u &&& 31)) &&& 1 = 1 := fun h => hst ((hs u _ hg).mp h)
        rw [hR.un.1, bdV_len, if_neg (nI_ge hul (by omega)), if_neg hbit, nI_1, hcn, if_neg hst, Nat.zero_add]
        exact c1
theorem s_build (o t : Nat) (ht : t ≤ 512) : sim_build o (Inv o t) (Inv o (t + 1)) := by
  intro z S hI
  obtain ⟨K, I, P, N0⟩ := z
  obtain ⟨f, M⟩ := S
  refine sim_pcore hI (fun b T n g R F Q U hR hW => ?_)
  have hG := hW.wfG
  have hU := hW.wfU ht
  have h8 := hR.un.2.1
  refine ⟨nI (cN R U U), U.map (bdm R U), fun N hC => ?_, ?_, ?_⟩
  · have h0 : CR o b K I P N T n g R F Q (bdV R U 0) := by rw [bdV_0]; exact hC
    obtain ⟨J, d1, d2⟩ := build_c hG hU U.length rFuel 0 0 I (by omega) (by show U.length < 100000; omega) h0
    rw [List.drop_zero, Nat.zero_add] at d1
    exact ⟨J, d1, d2⟩
  · obtain ⟨W, d1, d2⟩ := stales_rr (hR.thr 0) hG hU
    have h0 : RR (upd f 54 0) W T n g R F Q (bdV R U 0) := by rw [bdV_0]; exact d2
    obtain ⟨W2, c1, c2⟩ := build_r hU (s := nI (stN R U 0 0 U)) (fun u x hx => stN_bit h8 hx) U.length rFuel 0 0 W (by omega) (by show U.length < 100000; omega) h0
    rw [List.drop_zero, Nat.zero_add] at c1
    refine ⟨_, W2, ?_, c2⟩
    unfold fX7_build
    show Option.bind (fX7_stales (upd f 54 0, M)) _ = _
    rw [d1, Option.bind_some]
    exact c1
  · have hst := hW.step
    obtain ⟨a, c, d, e, fu, pk, un⟩ := hst
    refine ⟨a, c, d, e, fu, pk, fun u y hy => ?_⟩
    rw [List.getElem?_map] at hy
    cases hx : U[u]? with
    | none => rw [hx] at hy; cases hy
    | some x =>
      rw [hx] at hy
      cases hy
      have hul := (List.getElem?_eq_some_iff.mp hx).1
      obtain ⟨w1, w2, w3, w4, w5⟩ := un u x hx
      obtain ⟨s1, s2, s3, s4⟩ := bdm_same (R := R) (U := U) (y := x)
      refine ⟨by rw [s1]; exact w1, by rw [s2]; exact w2, by rw [s3]; exact w3, by rw [s4]; exact w4, fun c hc => ?_⟩
      cases hst : stU R U x with
      | false =>
        have e : bdm R U x = x := if_neg (by rw [hst]; decide)
        rw [e] at hc ⊢
        exact w5 c hc
      | true =>
        rw [bdm_built hst] at hc
        cases hc
        refine ⟨w4, fun k hk hb => ?_⟩
        rw [s1] at hb
        have hkl : k < U.length := by omega
        have hg := List.getElem?_eq_getElem hkl
        rw [(bdm_bits (u := u) hst hb hkl).1, (fcO_of hg).1]
        exact (hU k _ hg).2.2.1
end Build3
