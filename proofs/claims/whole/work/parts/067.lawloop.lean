def simAll (o : Nat) (Inv Inv2 : cS → rS → Prop) : Prop := sim_arrow o Inv Inv2 ∧ sim_type o Inv Inv2 ∧ sim_addType o Inv Inv2 ∧ sim_addValue o Inv Inv2 ∧ sim_addPart o Inv Inv2 ∧ sim_open o Inv Inv2 ∧ sim_structure o Inv Inv2 ∧ sim_item o Inv Inv2 ∧ sim_items o Inv Inv2 ∧ sim_specType o Inv Inv2 ∧ sim_specValue o Inv Inv2 ∧ sim_specPart o Inv Inv2 ∧ sim_include o Inv Inv2 ∧ sim_signature o Inv Inv2 ∧ sim_with o Inv Inv2 ∧ sim_specs o Inv Inv2 ∧ sim_match o Inv Inv2 ∧ sim_seal o Inv Inv2 ∧ sim_view o Inv Inv2 ∧ sim_finer o Inv Inv2 ∧ sim_alike o Inv Inv2 ∧ sim_bodyType o Inv Inv2 ∧ sim_bodyValue o Inv Inv2 ∧ sim_functor o Inv Inv2 ∧ sim_apply o Inv Inv2 ∧ sim_pack o Inv Inv2 ∧ sim_unpack o Inv Inv2 ∧ sim_unit o Inv Inv2 ∧ sim_change o Inv Inv2 ∧ sim_stale o Inv Inv2 ∧ sim_build o Inv Inv2
section LLoop
variable {K : Type} {X : rX} {R : K → Heap → Prop} {A : Nat → Prop} {Q : State → Prop} {nL : Nat} {cc : ByteArray} {pc : Nat} {lo : List (Option Value)} {st : List Value} {w : K} {kc ks : Nat}
theorem ga_tableIn (C : gC X nL cc) {dflt l0 h0 : Int} {offs : Array Int} {len : Nat} {x : Int32} {off : Int} {tgt : Nat} (hdg : decode cc pc = .ok (.tableswitch dflt l0 h0 offs, len)) (h1 : ¬ x.toInt < l0) (h2 : ¬ h0 < x.toInt) (ho : offs[(x.toInt - l0).toNat]? = some off) (ht : (pc : Int) + off = (tgt : Int)) (k : gAW X R A Q nL tgt lo st w kc ks) : gAW X R A Q nL pc lo (.int x :: st) w kc ks := fun H locs ls q1 q2 q3 => lv_tableIn C.1 C.2.1 hdg h1 h2 ho ht (k H locs ls q1 q2 q3)
theorem ga_tableOut (C : gC X nL cc) {dflt l0 h0 : Int} {offs : Array Int} {len : Nat} {x : Int32} {tgt : Nat} (hdg : decode cc pc = .ok (.tableswitch dflt l0 h0 offs, len)) (h : x.toInt < l0 ∨ h0 < x.toInt) (ht : (pc : Int) + dflt = (tgt : Int)) (k : gAW X R A Q nL tgt lo st w kc ks) : gAW X R A Q nL pc lo (.int x :: st) w kc ks := fun H locs ls q1 q2 q3 => lv_tableOut C.1 C.2.1 hdg h ht (k H locs ls q1 q2 q3)
end LLoop
set_option maxRecDepth 100000 in
set_option maxHeartbeats 4000000 in
theorem law_iter {g : wG} {Gr : rG} {X : rX} {b L : Nat} {xs : Nat → Int32} {Q : State → Prop} {o : Nat} {Inv Inv2 : cS → rS → Prop} {i : Nat} {z : cS} {S : rS} {f : Nat → Int64} {kc ks : Nat} (C : lC g Gr X b L xs) (hin : ∀ c : Nat, c < 6 → vp_in (nI i + nI c) L) (hI : Inv z S) (hO : ∀ z S, Inv z S → ∃ n, z.1 o = some (6, n)) (hA : simAll o Inv Inv2) (hW : ∀ z S, Inv z S → Inv2 z S) (hk : kc + 100 ≤ 601024) (hs : ks + 14000 ≤ 7293034)
    (hend : ∀ z' S' f' k5 k6, Inv2 z' S' → gAW X (lR g Gr X.2.2.2.2.1.heap.size) (lA X.2.2.2.2.1.heap.size) Q 7 2278 [some (.ref b), some (.ref o), some (.ref Gr.2.2.2.1), some (.ref g.2.1), some (.int (nI i)), k5, k6] [] (z', S', f') (kc + 100) (ks + 14000)) : gAW X (lR g Gr X.2.2.2.2.1.heap.size) (lA X.2.2.2.2.1.heap.size) Q 7 33 [some (.ref b), some (.ref o), some (.ref Gr.2.2.2.1), some (.ref g.2.1), some (.int (nI i)), none, none] [] (z, S, f) kc ks := by
  have h0 : vp_in (nI i) L := by
    have := hin 0 (by decide)
    rw [nI_add, Nat.add_zero] at this
    exact this
  refine ga_aload_n C.1 dL_law_33 rfl rfl ?_
  refine ga_iload C.1 dL_law_34 rfl ?_
  refine la_sld C dL_law_36 h0 ?_
  refine ga_bipush C.1 dL_law_37 (v := 31) (by decide) ?_
  refine ga_iand C.1 dL_law_39 ?_
  obtain ⟨j, hj, hx⟩ := pk_andE (xs (nI i).toNatClampNeg) (m := 31) 5 (by decide)
  rw [hx]
  rcases (show j = 0 ∨ j = 1 ∨ j = 2 ∨ j = 3 ∨ j = 4 ∨ j = 5 ∨ j = 6 ∨ j = 7 ∨ j = 8 ∨ j = 9 ∨ j = 10 ∨ j = 11 ∨ j = 12 ∨ j = 13 ∨ j = 14 ∨ j = 15 ∨ j = 16 ∨ j = 17 ∨ j = 18 ∨ j = 19 ∨ j = 20 ∨ j = 21 ∨ j = 22 ∨ j = 23 ∨ j = 24 ∨ j = 25 ∨ j = 26 ∨ j = 27 ∨ j = 28 ∨ j = 29 ∨ j = 30 ∨ j = 31 by omega) with rfl | rfl | rfl | rfl | rfl | rfl | rfl | rfl | rfl | rfl | rfl | rfl | rfl | rfl | rfl | rfl | rfl | rfl | rfl | rfl | rfl | rfl | rfl | rfl | rfl | rfl | rfl | rfl | rfl | rfl | rfl | rfl
  · exact ga_tableIn C.1 dL_law_40 (by decide) (by decide) (off := 140) rfl (tgt := 180) (by decide) (lcase_arrow C hin hI hO hA.1 hk hs hend)
  · exact ga_tableIn C.1 dL_law_40 (by decide) (by decide) (off := 208) rfl (tgt := 248) (by decide) (lcase_type C hin hI hO hA.2.1 hk hs hend)
  · exact ga_tableIn C.1 dL_law_40 (by decide) (by decide) (off := 276) rfl (tgt := 316) (by decide) (lcase_addType C hin hI hO hA.2.2.1 hk hs hend)
  · exact ga_tableIn C.1 dL_law_40 (by decide) (by decide) (off := 344) rfl (tgt := 384) (by decide) (lcase_addValue C hin hI hO hA.2.2.2.1 hk hs hend)
  · exact ga_tableIn C.1 dL_law_40 (by decide) (by decide) (off := 431) rfl (tgt := 471) (by decide) (lcase_addPart C hin hI hO hA.2.2.2.2.1 hk hs hend)
  · exact ga_tableIn C.1 dL_law_40 (by decide) (by decide) (off := 506) rfl (tgt := 546) (by decide) (lcase_open C hin hI hO hA.2.2.2.2.2.1 hk hs hend)
  · exact ga_tableIn C.1 dL_law_40 (by decide) (by decide) (off := 562) rfl (tgt := 602) (by decide) (lcase_structure C hin hI hO hA.2.2.2.2.2.2.1 hk hs hend)
  · exact ga_tableIn C.1 dL_law_40 (by decide) (by decide) (off := 606) rfl (tgt := 646) (by decide) (lcase_item C hin hI hO hA.2.2.2.2.2.2.2.1 hk hs hend)
  · exact ga_tableIn C.1 dL_law_40 (by decide) (by decide) (off := 698) rfl (tgt := 738) (by decide) (lcase_items C hin hI hO hA.2.2.2.2.2.2.2.2.1 hk hs hend)
  · exact ga_tableIn C.1 dL_law_40 (by decide) (by decide) (off := 754) rfl (tgt := 794) (by decide) (lcase_specType C hin hI hO hA.2.2.2.2.2.2.2.2.2.1 hk hs hend)
  · exact ga_tableIn C.1 dL_law_40 (by decide) (by decide) (off := 822) rfl (tgt := 862) (by decide) (lcase_specValue C hin hI hO hA.2.2.2.2.2.2.2.2.2.2.1 hk hs hend)
  · exact ga_tableIn C.1 dL_law_40 (by decide) (by decide) (off := 902) rfl (tgt := 942) (by decide) (lcase_specPart C hin hI hO hA.2.2.2.2.2.2.2.2.2.2.2.1 hk hs hend)
  · exact ga_tableIn C.1 dL_law_40 (by decide) (by decide) (off := 970) rfl (tgt := 1010) (by decide) (lcase_include C hin hI hO hA.2.2.2.2.2.2.2.2.2.2.2.2.1 hk hs hend)
  · exact ga_tableIn C.1 dL_law_40 (by decide) (by decide) (off := 1026) rfl (tgt := 1066) (by decide) (lcase_signature C hin hI hO hA.2.2.2.2.2.2.2.2.2.2.2.2.2.1 hk hs hend)
  · exact ga_tableIn C.1 dL_law_40 (by decide) (by decide) (off := 1070) rfl (tgt := 1110) (by decide) (lcase_with C hin hI hO hA.2.2.2.2.2.2.2.2.2.2.2.2.2.2.1 hk hs hend)
  · exact ga_tableIn C.1 dL_law_40 (by decide) (by decide) (off := 1178) rfl (tgt := 1218) (by decide) (lcase_specs C hin hI hO hA.2.2.2.2.2.2.2.2.2.2.2.2.2.2.2.1 hk hs hend)
  · exact ga_tableIn C.1 dL_law_40 (by decide) (by decide) (off := 1234) rfl (tgt := 1274) (by decide) (lcase_match C hin hI hO hA.2.2.2.2.2.2.2.2.2.2.2.2.2.2.2.2.1 hk hs hend)
  · exact ga_tableIn C.1 dL_law_40 (by decide) (by decide) (off := 1302) rfl (tgt := 1342) (by decide) (lcase_seal C hin hI hO hA.2.2.2.2.2.2.2.2.2.2.2.2.2.2.2.2.2.1 hk hs hend)
  · exact ga_tableIn C.1 dL_law_40 (by decide) (by decide) (off := 1370) rfl (tgt := 1410) (by decide) (lcase_view C hin hI hO hA.2.2.2.2.2.2.2.2.2.2.2.2.2.2.2.2.2.2.1 hk hs hend)
  · exact ga_tableIn C.1 dL_law_40 (by decide) (by decide) (off := 1438) rfl (tgt := 1478) (by decide) (lcase_finer C hin hI hO hA.2.2.2.2.2.2.2.2.2.2.2.2.2.2.2.2.2.2.2.1 hk hs hend)
  · exact ga_tableIn C.1 dL_law_40 (by decide) (by decide) (off := 1513) rfl (tgt := 1553) (by decide) (lcase_alike C hin hI hO hA.2.2.2.2.2.2.2.2.2.2.2.2.2.2.2.2.2.2.2.2.1 hk hs hend)
  · exact ga_tableIn C.1 dL_law_40 (by decide) (by decide) (off := 1588) rfl (tgt := 1628) (by decide) (lcase_bodyType C hin hI hO hA.2.2.2.2.2.2.2.2.2.2.2.2.2.2.2.2.2.2.2.2.2.1 hk hs hend)
  · exact ga_tableIn C.1 dL_law_40 (by decide) (by decide) (off := 1656) rfl (tgt := 1696) (by decide) (lcase_bodyValue C hin hI hO hA.2.2.2.2.2.2.2.2.2.2.2.2.2.2.2.2.2.2.2.2.2.2.1 hk hs hend)
  · exact ga_tableIn C.1 dL_law_40 (by decide) (by decide) (off := 1760) rfl (tgt := 1800) (by decide) (lcase_functor C hin hI hO hA.2.2.2.2.2.2.2.2.2.2.2.2.2.2.2.2.2.2.2.2.2.2.2.1 hk hs hend)
  · exact ga_tableIn C.1 dL_law_40 (by decide) (by decide) (off := 1856) rfl (tgt := 1896) (by decide) (lcase_apply C hin hI hO hA.2.2.2.2.2.2.2.2.2.2.2.2.2.2.2.2.2.2.2.2.2.2.2.2.1 hk hs hend)
  · exact ga_tableIn C.1 dL_law_40 (by decide) (by decide) (off := 1924) rfl (tgt := 1964) (by decide) (lcase_pack C hin hI hO hA.2.2.2.2.2.2.2.2.2.2.2.2.2.2.2.2.2.2.2.2.2.2.2.2.2.1 hk hs hend)
  · exact ga_tableIn C.1 dL_law_40 (by decide) (by decide) (off := 1992) rfl (tgt := 2032) (by decide) (lcase_unpack C hin hI hO hA.2.2.2.2.2.2.2.2.2.2.2.2.2.2.2.2.2.2.2.2.2.2.2.2.2.2.1 hk hs hend)
  · exact ga_tableIn C.1 dL_law_40 (by decide) (by decide) (off := 2048) rfl (tgt := 2088) (by decide) (lcase_unit C hin hI hO hA.2.2.2.2.2.2.2.2.2.2.2.2.2.2.2.2.2.2.2.2.2.2.2.2.2.2.2.1 hk hs hend)
  · exact ga_tableIn C.1 dL_law_40 (by decide) (by decide) (off := 2144) rfl (tgt := 2184) (by decide) (lcase_change C hin hI hO hA.2.2.2.2.2.2.2.2.2.2.2.2.2.2.2.2.2.2.2.2.2.2.2.2.2.2.2.2.1 hk hs hend)
  · exact ga_tableIn C.1 dL_law_40 (by decide) (by decide) (off := 2212) rfl (tgt := 2252) (by decide) (lcase_stale C hin hI hO hA.2.2.2.2.2.2.2.2.2.2.2.2.2.2.2.2.2.2.2.2.2.2.2.2.2.2.2.2.2.1 hk hs hend)
  · exact ga_tableIn C.1 dL_law_40 (by decide) (by decide) (off := 2225) rfl (tgt := 2265) (by decide) (lcase_build C hin hI hO hA.2.2.2.2.2.2.2.2.2.2.2.2.2.2.2.2.2.2.2.2.2.2.2.2.2.2.2.2.2.2 hk hs hend)
  · exact ga_tableOut C.1 dL_law_40 (Or.inr (by decide)) (tgt := 2278) (by decide) (ga_widen (by omega) (by omega) (hend z S f _ _ (hW z S hI)))
theorem lp_cond {i L : Nat} (hL : L ≤ 3072) (hi : i ≤ L) (h : ¬ nI L - 6 < nI i) : i + 6 ≤ L := by
  refine Nat.le_of_not_lt (fun hlt => h ?_)
  rw [show (6 : Int32) = nI 6 from rfl, Int32.lt_iff_toInt_lt, pk_sub_toInt (by omega) (by omega), nI_toInt (by omega)]
  omega
set_option maxRecDepth 100000 in
set_option maxHeartbeats 4000000 in
theorem law_loop {g : wG} {Gr : rG} {X : rX} {b L : Nat} {xs : Nat → Int32} {Q : State → Prop} {o : Nat} {Inv : Nat → cS → rS → Prop} {c0 s0 : Nat} (C : lC g Gr X b L xs) (hL : L ≤ 3072) (hO : ∀ t z S, Inv t z S → ∃ n, z.1 o = some (6, n)) (hA : ∀ t, t < 512 → simAll o (Inv t) (Inv (t + 1))) (hW : ∀ t z S, Inv t z S → Inv (t + 1) z S) (hc : c0 + 51200 ≤ 601024) (hs : s0 + 7168000 ≤ 7293034)
    (hexit : ∀ lo z S f kc ks, kc ≤ 601024 → ks ≤ 7293034 → gAW X (lR g Gr X.2.2.2.2.1.heap.size) (lA X.2.2.2.2.1.heap.size) Q 7 2284 lo [] (z, S, f) kc ks) : ∀ (n t : Nat) (z : cS) (S : rS) (f : Nat → Int64) (k5 k6 : Option Value), Inv t z S → 6 * t ≤ L → L < 6 * t + 6 * n → gAW X (lR g Gr X.2.2.2.2.1.heap.size) (lA X.2.2.2.2.1.heap.size) Q 7 23 [some (.ref b), some (.ref o), some (.ref Gr.2.2.2.1), some (.ref g.2.1), some (.int (nI (6 * t))), k5, k6] [] (z, S, f) (c0 + 100 * t) (s0 + 14000 * t) := by
  intro n
  induction n with
  | zero => intro t z S f k5 k6 hI h1 h2; omega
  | succ n ih =>
    intro t z S f k5 k6 hI h1 h2
    refine ga_mask [true, true, true, true, true, false, false] ?_
    refine ga_iload C.1 dL_law_23 rfl ?_
    refine ga_aload_n C.1 dL_law_25 rfl rfl ?_
    refine la_slen C dL_law_26 ?_
    refine ga_bipush C.1 dL_law_27 (v := 6) (by decide) ?_
    refine ga_isub C.1 dL_law_29 ?_
    refine ga_icmp_gt C.1 dL_law_30 (tgt := 2284) (by decide) (fun c1 => ?_) (fun c1 => ?_)
    · exact hexit _ _ _ _ _ _ (by omega) (by omega)
    · have h6 := lp_cond hL h1 c1
      refine law_iter (i := 6 * t) C (fun c hc' => ?_) hI (hO t) (hA t (by omega)) (hW t) (by omega) (by omega) (fun z' S' f' k5 k6 hI' => ?_)
      · rw [nI_add]
        exact vp_in_nI (by omega) (by omega)
      · refine ga_iinc C.1 dL_law_2278 rfl (v := 6) (by decide) (by decide) ?_
        refine ga_goto C.1 dL_law_2281 (tgt := 23) (by decide) ?_
        rw [show nI (6 * t) + 6 = nI (6 * (t + 1)) from nI_add (6 * t) 6]
        exact ih (t + 1) z' S' f' k5 k6 hI' (by omega) (by omega)
