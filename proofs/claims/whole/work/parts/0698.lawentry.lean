theorem eL_k8 : Cond.classLink RL 8 RX6 ∈ rgT := rgT_of 95 (by decide +kernel) (by decide +kernel)
theorem eL_k113 : Cond.classLink RL 113 RX7 ∈ rgT := rgT_of 825 (by decide +kernel) (by decide +kernel)
theorem eL_l112 : Cond.methodLink RL 112 yX6_init ∈ rgT := rgT_of 97 (by decide +kernel) (by decide +kernel)
theorem eL_l115 : Cond.methodLink RL 115 yX7_init ∈ rgT := rgT_of 827 (by decide +kernel) (by decide +kernel)
theorem eL_i6 : Cond.instanceMethod yX6_init ∈ rgT := rgT_of 98 (by decide +kernel) (by decide +kernel)
theorem eL_i7 : Cond.instanceMethod yX7_init ∈ rgT := rgT_of 828 (by decide +kernel) (by decide +kernel)
theorem eL_c6 : Cond.code yX6_init cX6_init 1 none ∈ rgT := rgT_of 99 (by decide +kernel) (by decide +kernel)
theorem eL_c7 : Cond.code yX7_init cX7_init 2 none ∈ rgT := rgT_of 829 (by decide +kernel) (by decide +kernel)
theorem eL_h6 : cHd yX6_init 0 := by unfold cHd; decide +kernel
theorem eL_h7 : cHd yX7_init 0 := by unfold cHd; decide +kernel
def z00 : cS := (fun _ => none, fun _ _ => 0, fun _ _ => none, 0)
/-- what the two constructors have to give -/
def simStart (Inv : Nat → Nat → cS → rS → Prop) : Prop := ∀ q, ∃ P6 : cS → Prop, aSpec (fX6_init q) (cnw (cwn z00 q) 6 0) 100 2000 P6 ∧ ∀ z', P6 z' → ∀ q7, (∀ p, z'.1 p ≠ none → p < q7) → aSpec (fX7_init q7) (cnw (cwn z' q7) 7 0) 100 50000 (fun z2 => ∃ zc a S, zSub zc z2 ∧ mAt z2 q7 a S ∧ (zc.1 q7 = none ∧ ∀ k, k < 55 → rInt k = false → zc.1 (a k) = none) ∧ Inv q 0 zc S)
set_option maxRecDepth 100000 in
set_option maxHeartbeats 4000000 in
theorem law_entry {G : cG} {X : rX} {Q : State → Prop} {b L : Nat} {xs : Nat → Int32} (C : eC G X) {cL : ClassId} (hKL : va_K G.1 vwCl [(cL, .long)] X.2.2.2.2.1) (hKr : va_K G.1 vwCl [(G.2 8, .int), (G.2 9, .boolean)] X.2.2.2.2.1) (hNc : cNc X.2.2.2.2.1) (hX : va_X b L xs X.2.2.2.2.1 X.2.2.2.2.1.heap) (hbl : b < X.2.2.2.2.1.heap.size) (hL : L ≤ 3072) {Inv : Nat → Nat → cS → rS → Prop} (hSt : simStart Inv) (hO : ∀ o t z S, Inv o t z S → ∃ n, z.1 o = some (6, n)) (hA : ∀ o t, t < 512 → simAll o (Inv o t) (Inv o (t + 1))) (hW : ∀ o t z S, Inv o t z S → Inv o (t + 1) z S)
    (hexit : ∀ (g : wG) (Gr : rG) lo z S f kc ks, kc ≤ 601024 → ks ≤ 7293034 → gAW X (lR g Gr X.2.2.2.2.1.heap.size) (lA X.2.2.2.2.1.heap.size) Q 7 2284 lo [] (z, S, f) kc ks) : gAW X (eR G X.2.2.2.2.1.heap.size) (lA X.2.2.2.2.1.heap.size) Q 7 0 [some (.ref b), none, none, none, none, none, none] [] z00 0 0 := by
  refine le_new C dL_law_0 vw6 (by decide) tyX6 tyX6_ok rX6_in eL_k8 tN6 tZ6 dfX6 (by decide) (by decide) (fun q _ _ => ?_)
  obtain ⟨P6, h6, h7⟩ := hSt q
  refine ga_dup C.1 dL_law_3 rfl ?_
  refine le_init C dL_law_4 (fun z z' k n h => mX6_init C.2.2.2.2.2.2.2.2 h) h6 eL_l112 eL_i6 rfl tZ6 eL_c6 eL_h6 (by decide) (by decide) (Nat.le_of_ble_eq_true rfl) (by decide) (by decide) (fun z' hP => ?_)
  refine ga_astore_n C.1 dL_law_7 rfl (by decide) ?_
  refine le_new C dL_law_8 vw7 (by decide) tyX7 tyX7_ok rX7_in eL_k113 tN7 tX7_init dfX7 (by decide) (by decide) (fun q7 hq7 _ => ?_)
  refine ga_dup C.1 dL_law_11 rfl ?_
  refine le_init C dL_law_12 (fun z z' k n h => mX7_init C.2.2.2.2.2.2.2.2 h) (h7 z' hP q7 hq7) eL_l115 eL_i7 rfl tX7_init eL_c7 eL_h7 (by decide) (by decide) (Nat.le_of_ble_eq_true rfl) (by decide) (by decide) (fun z2 hP2 => ?_)
  obtain ⟨zc, a, S, s1, s2, s3, hI⟩ := hP2
  refine ga_astore_n C.1 dL_law_15 rfl (by decide) ?_
  refine ga_iconst C.1 dL_law_16 (v := 1) (by decide) ?_
  refine le_newL C hKL s1 s2 s3 dL_law_17 (by decide) (by decide) (fun qo _ => ?_)
  refine ga_astore_n C.1 dL_law_19 rfl (by decide) ?_
  refine ga_iconst C.1 dL_law_20 (v := 0) (by decide) ?_
  refine ga_istore C.1 dL_law_21 (by decide) ?_
  have CL : lC (G, qo, cL) (G.1, G.2 8, G.2 9, q7, a) X b L xs := ⟨C.1, C.2.1, C.2.2.1, C.2.2.2.1, hKL, hKr, mAt_ap s2, C.2.2.2.2.1, C.2.2.2.2.2.1, C.2.2.2.2.2.2.1, hNc, C.2.2.2.2.2.2.2.1, C.2.2.2.2.2.2.2.2, hX, hbl⟩
  exact law_loop (g := (G, qo, cL)) (Gr := (G.1, G.2 8, G.2 9, q7, a)) (o := q) (Inv := Inv q) (c0 := 203) (s0 := 52068) CL hL (hO q) (hA q) (hW q) (by decide) (by decide) (hexit _ _) (L + 1) 0 zc S (fun _ => 0) none none hI (Nat.zero_le _) (by omega)
