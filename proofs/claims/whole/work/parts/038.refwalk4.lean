set_option maxRecDepth 100000 in
set_option maxHeartbeats 4000000 in
theorem bX7_alike_b22 {G : rG} {X : rX} (C : rC G X 3 cX7_alike (some .boolean) 2) {r : Int32 × rS} (l1 : Int32) (l2 : Int32) (s0 : Int32) (S : rS) (hf : fX7_alike_b22 l1 l2 s0 S = some r) : rAW G X 3 (some (.int r.1), r.2) 22 [some (.ref G.2.2.2.1), some (.int l1), some (.int l2)] [.int s0, .ref G.2.2.2.1] S := by
  unfold fX7_alike_b22 at hf
  obtain ⟨q22, h22, hf⟩ := rob hf
  refine ra_callVi C dX7_alike_22 (mX7_fails h22) rfl tX7_l175 tX7_i_X7_fails tX7_s_X7_fails tX7_init tX7_c_X7_fails tX7_d_X7_fails (by decide) (by decide) (Nat.le_of_ble_eq_true rfl) ?_
  refine ra_if_eq C dX7_alike_25 (tgt := 30) (by decide) (fun c25 => ?_) (fun c25 => ?_)
  · replace hf := rif_p c25 hf
    refine ra_aload_n C dX7_alike_30 rfl rfl ?_
    obtain ⟨q31, h31, hf⟩ := rob hf
    refine ra_callVv C dX7_alike_31 (mX7_compares h31) rfl tX7_l270 tX7_i_X7_compares tX7_s_X7_compares tX7_init tX7_c_X7_compares tX7_d_X7_compares (by decide) (by decide) (Nat.le_of_ble_eq_true rfl) ?_
    refine ra_aload_n C dX7_alike_34 rfl rfl ?_
    refine ra_getR C dX7_alike_35 (k := 53) (by decide) rfl rX7_in tX7_f153 rfl ?_
    refine ra_bipush C dX7_alike_38 (v := 20) (by decide) ?_
    refine ra_iload_n C dX7_alike_40 rfl rfl ?_
    refine ra_imul C dX7_alike_41 ?_
    refine ra_iload_n C dX7_alike_42 rfl rfl ?_
    refine ra_iadd C dX7_alike_43 ?_
    obtain ⟨x44, h44, hf⟩ := rob hf
    refine ra_bald C dX7_alike_44 h44 (by decide) rfl rfl ?_
    obtain ⟨rfl, hn⟩ := rbo_spec hf
    exact ra_zret C hn dX7_alike_45
  · replace hf := rif_n c25 hf
    refine ra_iconst C dX7_alike_28 (v := 0) (by decide) ?_
    obtain ⟨rfl, hn⟩ := rbo_spec hf
    exact ra_zret C hn dX7_alike_29
set_option maxRecDepth 100000 in
set_option maxHeartbeats 4000000 in
theorem bX7_alike_b21 {G : rG} {X : rX} (C : rC G X 3 cX7_alike (some .boolean) 2) {r : Int32 × rS} (l1 : Int32) (l2 : Int32) (S : rS) (hf : fX7_alike_b21 l1 l2 S = some r) : rAW G X 3 (some (.int r.1), r.2) 21 [some (.ref G.2.2.2.1), some (.int l1), some (.int l2)] [.ref G.2.2.2.1] S := by
  unfold fX7_alike_b21 at hf
  refine ra_iconst C dX7_alike_21 (v := 1) (by decide) ?_
  exact bX7_alike_b22 C _ _ _ _ hf
set_option maxRecDepth 100000 in
set_option maxHeartbeats 4000000 in
theorem bX7_alike {G : rG} {X : rX} (C : rC G X 3 cX7_alike (some .boolean) 2) (a0 : Int32) (a1 : Int32) (S : rS) {r : Int32 × rS} (hf : fX7_alike a0 a1 S = some r) : rAW G X 3 (some (.int r.1), r.2) 0 [some (.ref G.2.2.2.1), some (.int a0), some (.int a1)] [] S := by
  unfold fX7_alike at hf
  refine ra_aload_n C dX7_alike_0 rfl rfl ?_
  refine ra_aload_n C dX7_alike_1 rfl rfl ?_
  refine ra_iload_n C dX7_alike_2 rfl rfl ?_
  obtain ⟨q3, h3, hf⟩ := rob hf
  refine ra_callVi C dX7_alike_3 (mX7_isSignature h3) rfl tX7_l217 tX7_i_X7_isSignature tX7_s_X7_isSignature tX7_init tX7_c_X7_isSignature tX7_d_X7_isSignature (by decide) (by decide) (Nat.le_of_ble_eq_true rfl) ?_
  refine ra_if_eq C dX7_alike_6 (tgt := 21) (by decide) (fun c6 => ?_) (fun c6 => ?_)
  · replace hf := rif_p c6 hf
    exact bX7_alike_b21 C _ _ _ hf
  · replace hf := rif_n c6 hf
    refine ra_aload_n C dX7_alike_9 rfl rfl ?_
    refine ra_iload_n C dX7_alike_10 rfl rfl ?_
    obtain ⟨q11, h11, hf⟩ := rob hf
    refine ra_callVi C dX7_alike_11 (mX7_isSignature h11) rfl tX7_l217 tX7_i_X7_isSignature tX7_s_X7_isSignature tX7_init tX7_c_X7_isSignature tX7_d_X7_isSignature (by decide) (by decide) (Nat.le_of_ble_eq_true rfl) ?_
    refine ra_if_eq C dX7_alike_14 (tgt := 21) (by decide) (fun c14 => ?_) (fun c14 => ?_)
    · replace hf := rif_p c14 hf
      exact bX7_alike_b21 C _ _ _ hf
    · replace hf := rif_n c14 hf
      refine ra_iconst C dX7_alike_17 (v := 0) (by decide) ?_
      refine ra_goto C dX7_alike_18 (tgt := 22) (by decide) ?_
      exact bX7_alike_b22 C _ _ _ _ hf
set_option maxRecDepth 100000 in
set_option maxHeartbeats 4000000 in
theorem mX7_alike {l : Launch} {G : rG} {a0 : Int32} {a1 : Int32} {S : rS} {r : Int32 × rS} (hf : fX7_alike a0 a1 S = some r) : rM l G 2 yX7_alike cX7_alike 3 (some .boolean) [.ref G.2.2.2.1, .int a0, .int a1] S (some (.int r.1), r.2) :=
  rM_of (lo0 := [some (.ref G.2.2.2.1), some (.int a0), some (.int a1)]) (by decide +kernel) rfl (Nat.le_of_ble_eq_true rfl) (by simp [Value.category]) rfl (fun X _ C => bX7_alike C a0 a1 S hf)
set_option maxRecDepth 100000 in
set_option maxHeartbeats 4000000 in
theorem bX7_findsBody_b54 {G : rG} {X : rX} (C : rC G X 6 cX7_findsBody (some .int) 0) {r : Int32 × rS} {rec9 : Int32 → Int32 → Int32 → Int32 → Int32 → rS → Option (Int32 × rS)} (hrec9 : ∀ (l1 : Int32) (l2 : Int32) (l3 : Int32) (l4 : Int32) (l5 : Int32) (S : rS), rec9 l1 l2 l3 l4 l5 S = some r → rAW G X 6 (some (.int r.1), r.2) 9 [some (.ref G.2.2.2.1), some (.int l1), some (.int l2), some (.int l3), some (.int l4), some (.int l5)] [] S) (l1 : Int32) (l2 : Int32) (l3 : Int32) (l5 : Int32) (s0 : Int32) (S : rS) (hf : fX7_findsBody_b54 rec9 l1 l2 l3 l5 s0 S = some r) : rAW G X 6 (some (.int r.1), r.2) 54 [some (.ref G.2.2.2.1), some (.int l1), some (.int l2), some (.int l3), none, some (.int l5)] [.int s0] S := by
  unfold fX7_findsBody_b54 at hf
  refine ra_istore C dX7_findsBody_54 (by decide) ?_
  refine ra_iinc C dX7_findsBody_56 rfl (v := 1) (by decide) (by decide) ?_
  refine ra_goto C dX7_findsBody_59 (tgt := 9) (by decide) ?_
  exact hrec9 _ _ _ _ _ _ hf
set_option maxRecDepth 100000 in
set_option maxHeartbeats 4000000 in
theorem bX7_findsBody_b52 {G : rG} {X : rX} (C : rC G X 6 cX7_findsBody (some .int) 0) {r : Int32 × rS} {rec9 : Int32 → Int32 → Int32 → Int32 → Int32 → rS → Option (Int32 × rS)} (hrec9 : ∀ (l1 : Int32) (l2 : Int32) (l3 : Int32) (l4 : Int32) (l5 : Int32) (S : rS), rec9 l1 l2 l3 l4 l5 S = some r → rAW G X 6 (some (.int r.1), r.2) 9 [some (.ref G.2.2.2.1), some (.int l1), some (.int l2), some (.int l3), some (.int l4), some (.int l5)] [] S) (l1 : Int32) (l2 : Int32) (l3 : Int32) (l4 : Int32) (l5 : Int32) (S : rS) (hf : fX7_findsBody_b52 rec9 l1 l2 l3 l4 l5 S = some r) : rAW G X 6 (some (.int r.1), r.2) 52 [some (.ref G.2.2.2.1), some (.int l1), some (.int l2), some (.int l3), some (.int l4), some (.int l5)] [] S := by
  unfold fX7_findsBody_b52 at hf
  refine ra_iload C dX7_findsBody_52 rfl ?_
  refine ra_mask [true, true, true, true, false, true] ?_
  exact bX7_findsBody_b54 C hrec9 _ _ _ _ _ _ hf
set_option maxRecDepth 100000 in
set_option maxHeartbeats 4000000 in
theorem bX7_findsBody_b9_body {G : rG} {X : rX} (C : rC G X 6 cX7_findsBody (some .int) 0) {r : Int32 × rS} {rec9 : Int32 → Int32 → Int32 → Int32 → Int32 → rS → Option (Int32 × rS)} (hrec9 : ∀ (l1 : Int32) (l2 : Int32) (l3 : Int32) (l4 : Int32) (l5 : Int32) (S : rS), rec9 l1 l2 l3 l4 l5 S = some r → rAW G X 6 (some (.int r.1), r.2) 9 [some (.ref G.2.2.2.1), some (.int l1), some (.int l2), some (.int l3), some (.int l4), some (.int l5)] [] S) (l1 : Int32) (l2 : Int32) (l3 : Int32) (l4 : Int32) (l5 : Int32) (S : rS) (hf : fX7_findsBody_b9_body rec9 l1 l2 l3 l4 l5 S = some r) : rAW G X 6 (some (.int r.1), r.2) 9 [some (.ref G.2.2.2.1), some (.int l1), some (.int l2), some (.int l3), some (.int l4), some (.int l5)] [] S := by
  unfold fX7_findsBody_b9_body at hf
  refine ra_iload C dX7_findsBody_9 rfl ?_
  refine ra_bipush C dX7_findsBody_11 (v := 20) (by decide) ?_
  refine ra_iload_n C dX7_findsBody_13 rfl rfl ?_
  refine ra_imul C dX7_findsBody_14 ?_
  refine ra_aload_n C dX7_findsBody_15 rfl rfl ?_
  refine ra_getR C dX7_findsBody_16 (k := 18) (by decide) rfl rX7_in tX7_f56 rfl ?_
  refine ra_iload_n C dX7_findsBody_19 rfl rfl ?_
  obtain ⟨x20, h20, hf⟩ := rob hf
  refine ra_iald C dX7_findsBody_20 h20 (by decide) rfl rfl ?_
  refine ra_iadd C dX7_findsBody_21 ?_
  refine ra_icmp_ge C dX7_findsBody_22 (tgt := 62) (by decide) (fun c22 => ?_) (fun c22 => ?_)
  · replace hf := rif_p c22 hf
    refine ra_iload C dX7_findsBody_62 rfl ?_
    obtain rfl := Option.some.inj hf
    exact ra_iret C dX7_findsBody_64
  · replace hf := rif_n c22 hf
    refine ra_aload_n C dX7_findsBody_25 rfl rfl ?_
    refine ra_getR C dX7_findsBody_26 (k := 19) (by decide) rfl rX7_in tX7_f59 rfl ?_
    refine ra_iload C dX7_findsBody_29 rfl ?_
    obtain ⟨x31, h31, hf⟩ := rob hf
    refine ra_iald C dX7_findsBody_31 h31 (by decide) rfl rfl ?_
    refine ra_iload_n C dX7_findsBody_32 rfl rfl ?_
    refine ra_icmp_ne C dX7_findsBody_33 (tgt := 52) (by decide) (fun c33 => ?_) (fun c33 => ?_)
    · replace hf := rif_n c33 hf
      exact bX7_findsBody_b52 C hrec9 _ _ _ _ _ _ hf
    · replace hf := rif_p c33 hf
      refine ra_aload_n C dX7_findsBody_36 rfl rfl ?_
      refine ra_getR C dX7_findsBody_37 (k := 20) (by decide) rfl rX7_in tX7_f62 rfl ?_
      refine ra_iload C dX7_findsBody_40 rfl ?_
      obtain ⟨x42, h42, hf⟩ := rob hf
      refine ra_iald C dX7_findsBody_42 h42 (by decide) rfl rfl ?_
      refine ra_iload_n C dX7_findsBody_43 rfl rfl ?_
      refine ra_icmp_ne C dX7_findsBody_44 (tgt := 52) (by decide) (fun c44 => ?_) (fun c44 => ?_)
      · replace hf := rif_n c44 hf
        exact bX7_findsBody_b52 C hrec9 _ _ _ _ _ _ hf
      · replace hf := rif_p c44 hf
        refine ra_iload C dX7_findsBody_47 rfl ?_
        refine ra_goto C dX7_findsBody_49 (tgt := 54) (by decide) ?_
        refine ra_mask [true, true, true, true, false, true] ?_
        exact bX7_findsBody_b54 C hrec9 _ _ _ _ _ _ hf
set_option maxRecDepth 100000 in
set_option maxHeartbeats 4000000 in
theorem bX7_findsBody_b9 {G : rG} {X : rX} (C : rC G X 6 cX7_findsBody (some .int) 0) {r : Int32 × rS} : ∀ (n : Nat) (l1 : Int32) (l2 : Int32) (l3 : Int32) (l4 : Int32) (l5 : Int32) (S : rS), fX7_findsBody_b9 n l1 l2 l3 l4 l5 S = some r → rAW G X 6 (some (.int r.1), r.2) 9 [some (.ref G.2.2.2.1), some (.int l1), some (.int l2), some (.int l3), some (.int l4), some (.int l5)] [] S := by
  intro n
  induction n with
  | zero => intro l1 l2 l3 l4 l5 S hf; cases hf
  | succ n ih => intro l1 l2 l3 l4 l5 S hf; exact bX7_findsBody_b9_body C (fun l1 l2 l3 l4 l5 S h => ih l1 l2 l3 l4 l5 S h) l1 l2 l3 l4 l5 S hf
set_option maxRecDepth 100000 in
set_option maxHeartbeats 4000000 in
theorem bX7_findsBody {G : rG} {X : rX} (C : rC G X 6 cX7_findsBody (some .int) 0) (a0 : Int32) (a1 : Int32) (a2 : Int32) (S : rS) {r : Int32 × rS} (hf : fX7_findsBody a0 a1 a2 S = some r) : rAW G X 6 (some (.int r.1), r.2) 0 [some (.ref G.2.2.2.1), some (.int a0), some (.int a1), some (.int a2), none, none] [] S := by
  unfold fX7_findsBody at hf
  refine ra_iconst C dX7_findsBody_0 (v := (-1)) (by decide) ?_
  refine ra_istore C dX7_findsBody_1 (by decide) ?_
  refine ra_bipush C dX7_findsBody_3 (v := 20) (by decide) ?_
  refine ra_iload_n C dX7_findsBody_5 rfl rfl ?_
  refine ra_imul C dX7_findsBody_6 ?_
  refine ra_istore C dX7_findsBody_7 (by decide) ?_
  exact bX7_findsBody_b9 C _ _ _ _ _ _ _ hf
set_option maxRecDepth 100000 in
set_option maxHeartbeats 4000000 in
theorem mX7_findsBody {l : Launch} {G : rG} {a0 : Int32} {a1 : Int32} {a2 : Int32} {S : rS} {r : Int32 × rS} (hf : fX7_findsBody a0 a1 a2 S = some r) : rM l G 0 yX7_findsBody cX7_findsBody 6 (some .int) [.ref G.2.2.2.1, .int a0, .int a1, .int a2] S (some (.int r.1), r.2) :=
  rM_of (lo0 := [some (.ref G.2.2.2.1), some (.int a0), some (.int a1), some (.int a2), none, none]) (by decide +kernel) rfl (Nat.le_of_ble_eq_true rfl) (by simp [Value.category]) rfl (fun X _ C => bX7_findsBody C a0 a1 a2 S hf)
set_option maxRecDepth 100000 in
set_option maxHeartbeats 4000000 in
theorem bX7_writes {G : rG} {X : rX} (C : rC G X 8 cX7_writes (some .int) 0) (a0 : Int32) (a1 : Int32) (a2 : Int32) (a3 : Int32) (a4 : Int32) (a5 : Int32) (S : rS) {r : Int32 × rS} (hf : fX7_writes a0 a1 a2 a3 a4 a5 S = some r) : rAW G X 8 (some (.int r.1), r.2) 0 [some (.ref G.2.2.2.1), some (.int a0), some (.int a1), some (.int a2), some (.int a3), some (.int a4), some (.int a5), none] [] S := by
  unfold fX7_writes at hf
  refine ra_sipush C dX7_writes_0 (v := 160) (by decide) ?_
  refine ra_aload_n C dX7_writes_3 rfl rfl ?_
  refine ra_getR C dX7_writes_4 (k := 18) (by decide) rfl rX7_in tX7_f56 rfl ?_
  refine ra_bipush C dX7_writes_7 (v := 8) (by decide) ?_
  obtain ⟨x9, h9, hf⟩ := rob hf
  refine ra_iald C dX7_writes_9 h9 (by decide) rfl rfl ?_
  refine ra_iadd C dX7_writes_10 ?_
  refine ra_istore C dX7_writes_11 (by decide) ?_
  refine ra_aload_n C dX7_writes_13 rfl rfl ?_
  refine ra_getR C dX7_writes_14 (k := 19) (by decide) rfl rX7_in tX7_f59 rfl ?_
  refine ra_iload C dX7_writes_17 rfl ?_
  refine ra_iload_n C dX7_writes_19 rfl rfl ?_
  obtain ⟨S20, h20, hf⟩ := rob hf
  refine ra_iast C dX7_writes_20 h20 (by decide) rfl rfl ?_
  refine ra_aload_n C dX7_writes_21 rfl rfl ?_
  refine ra_getR C dX7_writes_22 (k := 20) (by decide) rfl rX7_in tX7_f62 rfl ?_
  refine ra_iload C dX7_writes_25 rfl ?_
  refine ra_iload_n C dX7_writes_27 rfl rfl ?_
  obtain ⟨S28, h28, hf⟩ := rob hf
  refine ra_iast C dX7_writes_28 h28 (by decide) rfl rfl ?_
  refine ra_aload_n C dX7_writes_29 rfl rfl ?_
  refine ra_getR C dX7_writes_30 (k := 21) (by decide) rfl rX7_in tX7_f65 rfl ?_
  refine ra_iload C dX7_writes_33 rfl ?_
  refine ra_iload_n C dX7_writes_35 rfl rfl ?_
  obtain ⟨S36, h36, hf⟩ := rob hf
  refine ra_iast C dX7_writes_36 h36 (by decide) rfl rfl ?_
  refine ra_aload_n C dX7_writes_37 rfl rfl ?_
  refine ra_getR C dX7_writes_38 (k := 22) (by decide) rfl rX7_in tX7_f68 rfl ?_
  refine ra_iload C dX7_writes_41 rfl ?_
  refine ra_iload C dX7_writes_43 rfl ?_
  obtain ⟨S45, h45, hf⟩ := rob hf
  refine ra_iast C dX7_writes_45 h45 (by decide) rfl rfl ?_
  refine ra_aload_n C dX7_writes_46 rfl rfl ?_
  refine ra_getR C dX7_writes_47 (k := 23) (by decide) rfl rX7_in tX7_f71 rfl ?_
  refine ra_iload C dX7_writes_50 rfl ?_
  refine ra_iload C dX7_writes_52 rfl ?_
  obtain ⟨S54, h54, hf⟩ := rob hf
  refine ra_iast C dX7_writes_54 h54 (by decide) rfl rfl ?_
  refine ra_aload_n C dX7_writes_55 rfl rfl ?_
  refine ra_getR C dX7_writes_56 (k := 24) (by decide) rfl rX7_in tX7_f74 rfl ?_
  refine ra_iload C dX7_writes_59 rfl ?_
  refine ra_iload C dX7_writes_61 rfl ?_
  obtain ⟨S63, h63, hf⟩ := rob hf
  refine ra_iast C dX7_writes_63 h63 (by decide) rfl rfl ?_
  refine ra_aload_n C dX7_writes_64 rfl rfl ?_
  refine ra_getR C dX7_writes_65 (k := 18) (by decide) rfl rX7_in tX7_f56 rfl ?_
  refine ra_bipush C dX7_writes_68 (v := 8) (by decide) ?_
  refine ra_dup2 C dX7_writes_70 rfl rfl ?_
  obtain ⟨x71, h71, hf⟩ := rob hf
  refine ra_iald C dX7_writes_71 h71 (by decide) rfl rfl ?_
  refine ra_iconst C dX7_writes_72 (v := 1) (by decide) ?_
  refine ra_iadd C dX7_writes_73 ?_
  obtain ⟨S74, h74, hf⟩ := rob hf
  refine ra_iast C dX7_writes_74 h74 (by decide) rfl rfl ?_
  refine ra_aload_n C dX7_writes_75 rfl rfl ?_
  refine ra_getR C dX7_writes_76 (k := 18) (by decide) rfl rX7_in tX7_f56 rfl ?_
  refine ra_bipush C dX7_writes_79 (v := 8) (by decide) ?_
  obtain ⟨x81, h81, hf⟩ := rob hf
  refine ra_iald C dX7_writes_81 h81 (by decide) rfl rfl ?_
  obtain rfl := Option.some.inj hf
  exact ra_iret C dX7_writes_82
set_option maxRecDepth 100000 in
set_option maxHeartbeats 4000000 in
theorem mX7_writes {l : Launch} {G : rG} {a0 : Int32} {a1 : Int32} {a2 : Int32} {a3 : Int32} {a4 : Int32} {a5 : Int32} {S : rS} {r : Int32 × rS} (hf : fX7_writes a0 a1 a2 a3 a4 a5 S = some r) : rM l G 0 yX7_writes cX7_writes 8 (some .int) [.ref G.2.2.2.1, .int a0, .int a1, .int a2, .int a3, .int a4, .int a5] S (some (.int r.1), r.2) :=
  rM_of (lo0 := [some (.ref G.2.2.2.1), some (.int a0), some (.int a1), some (.int a2), some (.int a3), some (.int a4), some (.int a5), none]) (by decide +kernel) rfl (Nat.le_of_ble_eq_true rfl) (by simp [Value.category]) rfl (fun X _ C => bX7_writes C a0 a1 a2 a3 a4 a5 S hf)
set_option maxRecDepth 100000 in
set_option maxHeartbeats 4000000 in
theorem bX7_isFrom {G : rG} {X : rX} (C : rC G X 1 cX7_isFrom (some .boolean) 1) (a0 : Int32) (S : rS) {r : Int32 × rS} (hf : fX7_isFrom a0 S = some r) : rAW G X 1 (some (.int r.1), r.2) 0 [some (.int a0)] [] S := by
  unfold fX7_isFrom at hf
  refine ra_iload_n C dX7_isFrom_0 rfl rfl ?_
  refine ra_iconst C dX7_isFrom_1 (v := (-1)) (by decide) ?_
  refine ra_bipush C dX7_isFrom_2 (v := 9) (by decide) ?_
  obtain ⟨q4, h4, hf⟩ := rob hf
  refine ra_callSi C dX7_isFrom_4 (mX7_isIn h4) rfl tX7_l159 tX7_st_X7_isIn tX7_init tX7_c_X7_isIn tX7_d_X7_isIn (by decide) (by decide) (Nat.le_of_ble_eq_true rfl) ?_
  obtain ⟨rfl, hn⟩ := rbo_spec hf
  exact ra_zret C hn dX7_isFrom_7
set_option maxRecDepth 100000 in
set_option maxHeartbeats 4000000 in
theorem mX7_isFrom {l : Launch} {G : rG} {a0 : Int32} {S : rS} {r : Int32 × rS} (hf : fX7_isFrom a0 S = some r) : rM l G 1 yX7_isFrom cX7_isFrom 1 (some .boolean) [.int a0] S (some (.int r.1), r.2) :=
  rM_of (lo0 := [some (.int a0)]) (by decide +kernel) rfl (Nat.le_of_ble_eq_true rfl) (by simp [Value.category]) rfl (fun X _ C => bX7_isFrom C a0 S hf)
set_option maxRecDepth 100000 in
set_option maxHeartbeats 4000000 in
theorem bX7_bodyType_b36 {G : rG} {X : rX} (C : rC G X 3 cX7_bodyType (some .int) 2) {r : Int32 × rS} (l1 : Int32) (l2 : Int32) (s0 : Int32) (S : rS) (hf : fX7_bodyType_b36 l1 l2 s0 S = some r) : rAW G X 3 (some (.int r.1), r.2) 36 [some (.ref G.2.2.2.1), some (.int l1), some (.int l2)] [.int s0, .ref G.2.2.2.1] S := by
  unfold fX7_bodyType_b36 at hf
  obtain ⟨q36, h36, hf⟩ := rob hf
  refine ra_callVi C dX7_bodyType_36 (mX7_fails h36) rfl tX7_l175 tX7_i_X7_fails tX7_s_X7_fails tX7_init tX7_c_X7_fails tX7_d_X7_fails (by decide) (by decide) (Nat.le_of_ble_eq_true rfl) ?_
  refine ra_if_eq C dX7_bodyType_39 (tgt := 44) (by decide) (fun c39 => ?_) (fun c39 => ?_)
  · replace hf := rif_p c39 hf
    refine ra_aload_n C dX7_bodyType_44 rfl rfl ?_
    refine ra_iconst C dX7_bodyType_45 (v := 0) (by decide) ?_
    refine ra_iload_n C dX7_bodyType_46 rfl rfl ?_
    refine ra_iconst C dX7_bodyType_47 (v := 0) (by decide) ?_
    refine ra_bipush C dX7_bodyType_48 (v := (-100)) (by decide) ?_
    refine ra_iload_n C dX7_bodyType_50 rfl rfl ?_
    refine ra_iconst C dX7_bodyType_51 (v := 0) (by decide) ?_
    obtain ⟨q52, h52, hf⟩ := rob hf
    refine ra_callVi C dX7_bodyType_52 (mX7_writes h52) rfl tX7_l279 tX7_i_X7_writes tX7_s_X7_writes tX7_init tX7_c_X7_writes tX7_d_X7_writes (by decide) (by decide) (Nat.le_of_ble_eq_true rfl) ?_
    obtain rfl := Option.some.inj hf
    exact ra_iret C dX7_bodyType_55
  · replace hf := rif_n c39 hf
    refine ra_iconst C dX7_bodyType_42 (v := 0) (by decide) ?_
    obtain rfl := Option.some.inj hf
    exact ra_iret C dX7_bodyType_43
set_option maxRecDepth 100000 in
set_option maxHeartbeats 4000000 in
theorem bX7_bodyType_b15 {G : rG} {X : rX} (C : rC G X 3 cX7_bodyType (some .int) 2) {r : Int32 × rS} (l1 : Int32) (l2 : Int32) (S : rS) (hf : fX7_bodyType_b15 l1 l2 S = some r) : rAW G X 3 (some (.int r.1), r.2) 15 [some (.ref G.2.2.2.1), some (.int l1), some (.int l2)] [.ref G.2.2.2.1] S := by
  unfold fX7_bodyType_b15 at hf
  refine ra_iconst C dX7_bodyType_15 (v := 1) (by decide) ?_
  refine ra_goto C dX7_bodyType_16 (tgt := 36) (by decide) ?_
  exact bX7_bodyType_b36 C _ _ _ _ hf
set_option maxRecDepth 100000 in
set_option maxHeartbeats 4000000 in
theorem bX7_bodyType {G : rG} {X : rX} (C : rC G X 3 cX7_bodyType (some .int) 2) (a0 : Int32) (a1 : Int32) (S : rS) {r : Int32 × rS} (hf : fX7_bodyType a0 a1 S = some r) : rAW G X 3 (some (.int r.1), r.2) 0 [some (.ref G.2.2.2.1), some (.int a0), some (.int a1)] [] S := by
  unfold fX7_bodyType at hf
  refine ra_aload_n C dX7_bodyType_0 rfl rfl ?_
  refine ra_iload_n C dX7_bodyType_1 rfl rfl ?_
  obtain ⟨q2, h2, hf⟩ := rob hf
  refine ra_callSi C dX7_bodyType_2 (mX7_isName h2) rfl tX7_l188 tX7_st_X7_isName tX7_init tX7_c_X7_isName tX7_d_X7_isName (by decide) (by decide) (Nat.le_of_ble_eq_true rfl) ?_
  refine ra_if_eq C dX7_bodyType_5 (tgt := 15) (by decide) (fun c5 => ?_) (fun c5 => ?_)
  · replace hf := rif_p c5 hf
    exact bX7_bodyType_b15 C _ _ _ hf
  · replace hf := rif_n c5 hf
    refine ra_iload_n C dX7_bodyType_8 rfl rfl ?_
    obtain ⟨q9, h9, hf⟩ := rob hf
    refine ra_callSi C dX7_bodyType_9 (mX7_isFrom h9) rfl tX7_l273 tX7_st_X7_isFrom tX7_init tX7_c_X7_isFrom tX7_d_X7_isFrom (by decide) (by decide) (Nat.le_of_ble_eq_true rfl) ?_
    refine ra_if_ne C dX7_bodyType_12 (tgt := 19) (by decide) (fun c12 => ?_) (fun c12 => ?_)
    · replace hf := rif_n c12 hf
      refine ra_aload_n C dX7_bodyType_19 rfl rfl ?_
      refine ra_bipush C dX7_bodyType_20 (v := 8) (by decide) ?_
      refine ra_iconst C dX7_bodyType_22 (v := 0) (by decide) ?_
      refine ra_iload_n C dX7_bodyType_23 rfl rfl ?_
      obtain ⟨q24, h24, hf⟩ := rob hf
      refine ra_callVi C dX7_bodyType_24 (mX7_findsBody h24) rfl tX7_l276 tX7_i_X7_findsBody tX7_s_X7_findsBody tX7_init tX7_c_X7_findsBody tX7_d_X7_findsBody (by decide) (by decide) (Nat.le_of_ble_eq_true rfl) ?_
      refine ra_iconst C dX7_bodyType_27 (v := (-1)) (by decide) ?_
      refine ra_icmp_eq C dX7_bodyType_28 (tgt := 35) (by decide) (fun c28 => ?_) (fun c28 => ?_)
      · replace hf := rif_p c28 hf
        refine ra_iconst C dX7_bodyType_35 (v := 0) (by decide) ?_
        exact bX7_bodyType_b36 C _ _ _ _ hf
      · replace hf := rif_n c28 hf
        refine ra_iconst C dX7_bodyType_31 (v := 2) (by decide) ?_
        refine ra_goto C dX7_bodyType_32 (tgt := 36) (by decide) ?_
        exact bX7_bodyType_b36 C _ _ _ _ hf
    · replace hf := rif_p c12 hf
      exact bX7_bodyType_b15 C _ _ _ hf
set_option maxRecDepth 100000 in
set_option maxHeartbeats 4000000 in
theorem mX7_bodyType {l : Launch} {G : rG} {a0 : Int32} {a1 : Int32} {S : rS} {r : Int32 × rS} (hf : fX7_bodyType a0 a1 S = some r) : rM l G 2 yX7_bodyType cX7_bodyType 3 (some .int) [.ref G.2.2.2.1, .int a0, .int a1] S (some (.int r.1), r.2) :=
  rM_of (lo0 := [some (.ref G.2.2.2.1), some (.int a0), some (.int a1)]) (by decide +kernel) rfl (Nat.le_of_ble_eq_true rfl) (by simp [Value.category]) rfl (fun X _ C => bX7_bodyType C a0 a1 S hf)
set_option maxRecDepth 100000 in
set_option maxHeartbeats 4000000 in
theorem bX7_isBodyTold_b31 {G : rG} {X : rX} (C : rC G X 2 cX7_isBodyTold (some .boolean) 2) {r : Int32 × rS} (s0 : Int32) (S : rS) (hf : fX7_isBodyTold_b31 s0 S = some r) : rAW G X 2 (some (.int r.1), r.2) 31 [none, none] [.int s0] S := by
  unfold fX7_isBodyTold_b31 at hf
  obtain ⟨rfl, hn⟩ := rbo_spec hf
  exact ra_zret C hn dX7_isBodyTold_31
set_option maxRecDepth 100000 in
set_option maxHeartbeats 4000000 in
theorem bX7_isBodyTold {G : rG} {X : rX} (C : rC G X 2 cX7_isBodyTold (some .boolean) 2) (a0 : Int32) (S : rS) {r : Int32 × rS} (hf : fX7_isBodyTold a0 S = some r) : rAW G X 2 (some (.int r.1), r.2) 0 [some (.ref G.2.2.2.1), some (.int a0)] [] S := by
  unfold fX7_isBodyTold at hf
  refine ra_iload_n C dX7_isBodyTold_0 rfl rfl ?_
  refine ra_if_lt C dX7_isBodyTold_1 (tgt := 12) (by decide) (fun c1 => ?_) (fun c1 => ?_)
  · replace hf := rif_p c1 hf
    refine ra_aload_n C dX7_isBodyTold_12 rfl rfl ?_
    refine ra_bipush C dX7_isBodyTold_13 (v := 8) (by decide) ?_
    refine ra_iconst C dX7_isBodyTold_15 (v := 0) (by decide) ?_
    refine ra_iconst C dX7_isBodyTold_16 (v := (-1)) (by decide) ?_
    refine ra_iload_n C dX7_isBodyTold_17 rfl rfl ?_
    refine ra_isub C dX7_isBodyTold_18 ?_
    obtain ⟨q19, h19, hf⟩ := rob hf
    refine ra_callVi C dX7_isBodyTold_19 (mX7_findsBody h19) rfl tX7_l276 tX7_i_X7_findsBody tX7_s_X7_findsBody tX7_init tX7_c_X7_findsBody tX7_d_X7_findsBody (by decide) (by decide) (Nat.le_of_ble_eq_true rfl) ?_
    refine ra_iconst C dX7_isBodyTold_22 (v := (-1)) (by decide) ?_
    refine ra_icmp_eq C dX7_isBodyTold_23 (tgt := 30) (by decide) (fun c23 => ?_) (fun c23 => ?_)
    · replace hf := rif_p c23 hf
      refine ra_iconst C dX7_isBodyTold_30 (v := 0) (by decide) ?_
      refine ra_mask [false, false] ?_
      exact bX7_isBodyTold_b31 C _ _ hf
    · replace hf := rif_n c23 hf
      refine ra_iconst C dX7_isBodyTold_26 (v := 1) (by decide) ?_
      refine ra_goto C dX7_isBodyTold_27 (tgt := 31) (by decide) ?_
      refine ra_mask [false, false] ?_
      exact bX7_isBodyTold_b31 C _ _ hf
  · replace hf := rif_n c1 hf
    refine ra_aload_n C dX7_isBodyTold_4 rfl rfl ?_
    refine ra_iload_n C dX7_isBodyTold_5 rfl rfl ?_
    obtain ⟨q6, h6, hf⟩ := rob hf
    refine ra_callVi C dX7_isBodyTold_6 (mX7_isType h6) rfl tX7_l171 tX7_i_X7_isType tX7_s_X7_isType tX7_init tX7_c_X7_isType tX7_d_X7_isType (by decide) (by decide) (Nat.le_of_ble_eq_true rfl) ?_
    refine ra_goto C dX7_isBodyTold_9 (tgt := 31) (by decide) ?_
    refine ra_mask [false, false] ?_
    exact bX7_isBodyTold_b31 C _ _ hf
set_option maxRecDepth 100000 in
set_option maxHeartbeats 4000000 in
theorem mX7_isBodyTold {l : Launch} {G : rG} {a0 : Int32} {S : rS} {r : Int32 × rS} (hf : fX7_isBodyTold a0 S = some r) : rM l G 2 yX7_isBodyTold cX7_isBodyTold 2 (some .boolean) [.ref G.2.2.2.1, .int a0] S (some (.int r.1), r.2) :=
  rM_of (lo0 := [some (.ref G.2.2.2.1), some (.int a0)]) (by decide +kernel) rfl (Nat.le_of_ble_eq_true rfl) (by simp [Value.category]) rfl (fun X _ C => bX7_isBodyTold C a0 S hf)
set_option maxRecDepth 100000 in
set_option maxHeartbeats 4000000 in
theorem bX7_bodyValue_b95 {G : rG} {X : rX} (C : rC G X 8 cX7_bodyValue (some .int) 3) {r : Int32 × rS} (l1 : Int32) (l2 : Int32) (l3 : Int32) (l4 : Int32) (l5 : Int32) (s0 : Int32) (S : rS) (hf : fX7_bodyValue_b95 l1 l2 l3 l4 l5 s0 S = some r) : rAW G X 8 (some (.int r.1), r.2) 95 [some (.ref G.2.2.2.1), some (.int l1), some (.int l2), some (.int l3), some (.int l4), some (.int l5), none, none] [.int s0, .ref G.2.2.2.1] S := by
  unfold fX7_bodyValue_b95 at hf
  obtain ⟨q95, h95, hf⟩ := rob hf
  refine ra_callVi C dX7_bodyValue_95 (mX7_fails h95) rfl tX7_l175 tX7_i_X7_fails tX7_s_X7_fails tX7_init tX7_c_X7_fails tX7_d_X7_fails (by decide) (by decide) (Nat.le_of_ble_eq_true rfl) ?_
  refine ra_if_eq C dX7_bodyValue_98 (tgt := 103) (by decide) (fun c98 => ?_) (fun c98 => ?_)
  · replace hf := rif_p c98 hf
    refine ra_aload_n C dX7_bodyValue_103 rfl rfl ?_
    refine ra_iconst C dX7_bodyValue_104 (v := 1) (by decide) ?_
    refine ra_iload_n C dX7_bodyValue_105 rfl rfl ?_
    refine ra_iload_n C dX7_bodyValue_106 rfl rfl ?_
    refine ra_iload_n C dX7_bodyValue_107 rfl rfl ?_
    refine ra_iload C dX7_bodyValue_108 rfl ?_
    refine ra_iload C dX7_bodyValue_110 rfl ?_
    obtain ⟨q112, h112, hf⟩ := rob hf
    refine ra_callVi C dX7_bodyValue_112 (mX7_writes h112) rfl tX7_l279 tX7_i_X7_writes tX7_s_X7_writes tX7_init tX7_c_X7_writes tX7_d_X7_writes (by decide) (by decide) (Nat.le_of_ble_eq_true rfl) ?_
    obtain rfl := Option.some.inj hf
    exact ra_iret C dX7_bodyValue_115
  · replace hf := rif_n c98 hf
    refine ra_iconst C dX7_bodyValue_101 (v := 0) (by decide) ?_
    obtain rfl := Option.some.inj hf
    exact ra_iret C dX7_bodyValue_102
set_option maxRecDepth 100000 in
set_option maxHeartbeats 4000000 in
theorem bX7_bodyValue_b57 {G : rG} {X : rX} (C : rC G X 8 cX7_bodyValue (some .int) 3) {r : Int32 × rS} (l1 : Int32) (l2 : Int32) (l3 : Int32) (l4 : Int32) (l5 : Int32) (l6 : Int32) (s0 : Int32) (S : rS) (hf : fX7_bodyValue_b57 l1 l2 l3 l4 l5 l6 s0 S = some r) : rAW G X 8 (some (.int r.1), r.2) 57 [some (.ref G.2.2.2.1), some (.int l1), some (.int l2), some (.int l3), some (.int l4), some (.int l5), some (.int l6), none] [.int s0] S := by
  unfold fX7_bodyValue_b57 at hf
  refine ra_istore C dX7_bodyValue_57 (by decide) ?_
  refine ra_aload_n C dX7_bodyValue_59 rfl rfl ?_
  refine ra_iload C dX7_bodyValue_60 rfl ?_
  refine ra_if_ne C dX7_bodyValue_62 (tgt := 69) (by decide) (fun c62 => ?_) (fun c62 => ?_)
  · replace hf := rif_n c62 hf
    refine ra_iload C dX7_bodyValue_69 rfl ?_
    refine ra_if_ne C dX7_bodyValue_71 (tgt := 78) (by decide) (fun c71 => ?_) (fun c71 => ?_)
    · replace hf := rif_n c71 hf
      refine ra_aload_n C dX7_bodyValue_78 rfl rfl ?_
      refine ra_bipush C dX7_bodyValue_79 (v := 8) (by decide) ?_
      refine ra_iconst C dX7_bodyValue_81 (v := 1) (by decide) ?_
      refine ra_iload_n C dX7_bodyValue_82 rfl rfl ?_
      obtain ⟨q83, h83, hf⟩ := rob hf
      refine ra_callVi C dX7_bodyValue_83 (mX7_findsBody h83) rfl tX7_l276 tX7_i_X7_findsBody tX7_s_X7_findsBody tX7_init tX7_c_X7_findsBody tX7_d_X7_findsBody (by decide) (by decide) (Nat.le_of_ble_eq_true rfl) ?_
      refine ra_iconst C dX7_bodyValue_86 (v := (-1)) (by decide) ?_
      refine ra_icmp_eq C dX7_bodyValue_87 (tgt := 94) (by decide) (fun c87 => ?_) (fun c87 => ?_)
      · replace hf := rif_p c87 hf
        refine ra_iconst C dX7_bodyValue_94 (v := 0) (by decide) ?_
        refine ra_mask [true, true, true, true, true, true, false, false] ?_
        exact bX7_bodyValue_b95 C _ _ _ _ _ _ _ hf
      · replace hf := rif_n c87 hf
        refine ra_iconst C dX7_bodyValue_90 (v := 3) (by decide) ?_
        refine ra_goto C dX7_bodyValue_91 (tgt := 95) (by decide) ?_
        refine ra_mask [true, true, true, true, true, true, false, false] ?_
        exact bX7_bodyValue_b95 C _ _ _ _ _ _ _ hf
    · replace hf := rif_p c71 hf
      refine ra_iconst C dX7_bodyValue_74 (v := 2) (by decide) ?_
      refine ra_goto C dX7_bodyValue_75 (tgt := 95) (by decide) ?_
      refine ra_mask [true, true, true, true, true, true, false, false] ?_
      exact bX7_bodyValue_b95 C _ _ _ _ _ _ _ hf
  · replace hf := rif_p c62 hf
    refine ra_iconst C dX7_bodyValue_65 (v := 1) (by decide) ?_
    refine ra_goto C dX7_bodyValue_66 (tgt := 95) (by decide) ?_
    refine ra_mask [true, true, true, true, true, true, false, false] ?_
    exact bX7_bodyValue_b95 C _ _ _ _ _ _ _ hf
set_option maxRecDepth 100000 in
set_option maxHeartbeats 4000000 in
theorem bX7_bodyValue_b56 {G : rG} {X : rX} (C : rC G X 8 cX7_bodyValue (some .int) 3) {r : Int32 × rS} (l1 : Int32) (l2 : Int32) (l3 : Int32) (l4 : Int32) (l5 : Int32) (l6 : Int32) (S : rS) (hf : fX7_bodyValue_b56 l1 l2 l3 l4 l5 l6 S = some r) : rAW G X 8 (some (.int r.1), r.2) 56 [some (.ref G.2.2.2.1), some (.int l1), some (.int l2), some (.int l3), some (.int l4), some (.int l5), some (.int l6), none] [] S := by
  unfold fX7_bodyValue_b56 at hf
  refine ra_iconst C dX7_bodyValue_56 (v := 0) (by decide) ?_
  exact bX7_bodyValue_b57 C _ _ _ _ _ _ _ _ hf
set_option maxRecDepth 100000 in
set_option maxHeartbeats 4000000 in
theorem bX7_bodyValue_b27 {G : rG} {X : rX} (C : rC G X 8 cX7_bodyValue (some .int) 3) {r : Int32 × rS} (l1 : Int32) (l2 : Int32) (l3 : Int32) (l4 : Int32) (l5 : Int32) (s0 : Int32) (S : rS) (hf : fX7_bodyValue_b27 l1 l2 l3 l4 l5 s0 S = some r) : rAW G X 8 (some (.int r.1), r.2) 27 [some (.ref G.2.2.2.1), some (.int l1), some (.int l2), some (.int l3), some (.int l4), some (.int l5), none, none] [.int s0] S := by
  unfold fX7_bodyValue_b27 at hf
  refine ra_istore C dX7_bodyValue_27 (by decide) ?_
  refine ra_iload_n C dX7_bodyValue_29 rfl rfl ?_
  obtain ⟨q30, h30, hf⟩ := rob hf
  refine ra_callSi C dX7_bodyValue_30 (mX7_isName h30) rfl tX7_l188 tX7_st_X7_isName tX7_init tX7_c_X7_isName tX7_d_X7_isName (by decide) (by decide) (Nat.le_of_ble_eq_true rfl) ?_
  refine ra_if_eq C dX7_bodyValue_33 (tgt := 56) (by decide) (fun c33 => ?_) (fun c33 => ?_)
  · replace hf := rif_p c33 hf
    exact bX7_bodyValue_b56 C _ _ _ _ _ _ _ hf
  · replace hf := rif_n c33 hf
    refine ra_iload C dX7_bodyValue_36 rfl ?_
    obtain ⟨q38, h38, hf⟩ := rob hf
    refine ra_callSi C dX7_bodyValue_38 (mX7_isFrom h38) rfl tX7_l273 tX7_st_X7_isFrom tX7_init tX7_c_X7_isFrom tX7_d_X7_isFrom (by decide) (by decide) (Nat.le_of_ble_eq_true rfl) ?_
    refine ra_if_eq C dX7_bodyValue_41 (tgt := 56) (by decide) (fun c41 => ?_) (fun c41 => ?_)
    · replace hf := rif_p c41 hf
      exact bX7_bodyValue_b56 C _ _ _ _ _ _ _ hf
    · replace hf := rif_n c41 hf
      refine ra_iload C dX7_bodyValue_44 rfl ?_
      obtain ⟨q46, h46, hf⟩ := rob hf
      refine ra_callSi C dX7_bodyValue_46 (mX7_isNumber h46) rfl tX7_l195 tX7_st_X7_isNumber tX7_init tX7_c_X7_isNumber tX7_d_X7_isNumber (by decide) (by decide) (Nat.le_of_ble_eq_true rfl) ?_
      refine ra_if_eq C dX7_bodyValue_49 (tgt := 56) (by decide) (fun c49 => ?_) (fun c49 => ?_)
      · replace hf := rif_p c49 hf
        exact bX7_bodyValue_b56 C _ _ _ _ _ _ _ hf
      · replace hf := rif_n c49 hf
        refine ra_iconst C dX7_bodyValue_52 (v := 1) (by decide) ?_
        refine ra_goto C dX7_bodyValue_53 (tgt := 57) (by decide) ?_
        exact bX7_bodyValue_b57 C _ _ _ _ _ _ _ _ hf
set_option maxRecDepth 100000 in
set_option maxHeartbeats 4000000 in
theorem bX7_bodyValue_b26 {G : rG} {X : rX} (C : rC G X 8 cX7_bodyValue (some .int) 3) {r : Int32 × rS} (l1 : Int32) (l2 : Int32) (l3 : Int32) (l4 : Int32) (l5 : Int32) (S : rS) (hf : fX7_bodyValue_b26 l1 l2 l3 l4 l5 S = some r) : rAW G X 8 (some (.int r.1), r.2) 26 [some (.ref G.2.2.2.1), some (.int l1), some (.int l2), some (.int l3), some (.int l4), some (.int l5), none, none] [] S := by
  unfold fX7_bodyValue_b26 at hf
  refine ra_iconst C dX7_bodyValue_26 (v := 0) (by decide) ?_
  exact bX7_bodyValue_b27 C _ _ _ _ _ _ _ hf
set_option maxRecDepth 100000 in
set_option maxHeartbeats 4000000 in
theorem bX7_bodyValue_b22 {G : rG} {X : rX} (C : rC G X 8 cX7_bodyValue (some .int) 3) {r : Int32 × rS} (l1 : Int32) (l2 : Int32) (l3 : Int32) (l4 : Int32) (l5 : Int32) (S : rS) (hf : fX7_bodyValue_b22 l1 l2 l3 l4 l5 S = some r) : rAW G X 8 (some (.int r.1), r.2) 22 [some (.ref G.2.2.2.1), some (.int l1), some (.int l2), some (.int l3), some (.int l4), some (.int l5), none, none] [] S := by
  unfold fX7_bodyValue_b22 at hf
  refine ra_iconst C dX7_bodyValue_22 (v := 1) (by decide) ?_
  refine ra_goto C dX7_bodyValue_23 (tgt := 27) (by decide) ?_
  exact bX7_bodyValue_b27 C _ _ _ _ _ _ _ hf
set_option maxRecDepth 100000 in
set_option maxHeartbeats 4000000 in
theorem bX7_bodyValue {G : rG} {X : rX} (C : rC G X 8 cX7_bodyValue (some .int) 3) (a0 : Int32) (a1 : Int32) (a2 : Int32) (a3 : Int32) (a4 : Int32) (S : rS) {r : Int32 × rS} (hf : fX7_bodyValue a0 a1 a2 a3 a4 S = some r) : rAW G X 8 (some (.int r.1), r.2) 0 [some (.ref G.2.2.2.1), some (.int a0), some (.int a1), some (.int a2), some (.int a3), some (.int a4), none, none] [] S := by
  unfold fX7_bodyValue at hf
  refine ra_aload_n C dX7_bodyValue_0 rfl rfl ?_
  refine ra_iload_n C dX7_bodyValue_1 rfl rfl ?_
  obtain ⟨q2, h2, hf⟩ := rob hf
  refine ra_callVi C dX7_bodyValue_2 (mX7_isBodyTold h2) rfl tX7_l283 tX7_i_X7_isBodyTold tX7_s_X7_isBodyTold tX7_init tX7_c_X7_isBodyTold tX7_d_X7_isBodyTold (by decide) (by decide) (Nat.le_of_ble_eq_true rfl) ?_
  refine ra_if_eq C dX7_bodyValue_5 (tgt := 26) (by decide) (fun c5 => ?_) (fun c5 => ?_)
  · replace hf := rif_p c5 hf
    exact bX7_bodyValue_b26 C _ _ _ _ _ _ hf
  · replace hf := rif_n c5 hf
    refine ra_iload_n C dX7_bodyValue_8 rfl rfl ?_
    refine ra_bipush C dX7_bodyValue_9 (v := (-100)) (by decide) ?_
    refine ra_icmp_eq C dX7_bodyValue_11 (tgt := 22) (by decide) (fun c11 => ?_) (fun c11 => ?_)
    · replace hf := rif_p c11 hf
      exact bX7_bodyValue_b22 C _ _ _ _ _ _ hf
    · replace hf := rif_n c11 hf
      refine ra_aload_n C dX7_bodyValue_14 rfl rfl ?_
      refine ra_iload_n C dX7_bodyValue_15 rfl rfl ?_
      obtain ⟨q16, h16, hf⟩ := rob hf
      refine ra_callVi C dX7_bodyValue_16 (mX7_isBodyTold h16) rfl tX7_l283 tX7_i_X7_isBodyTold tX7_s_X7_isBodyTold tX7_init tX7_c_X7_isBodyTold tX7_d_X7_isBodyTold (by decide) (by decide) (Nat.le_of_ble_eq_true rfl) ?_
      refine ra_if_eq C dX7_bodyValue_19 (tgt := 26) (by decide) (fun c19 => ?_) (fun c19 => ?_)
      · replace hf := rif_p c19 hf
        exact bX7_bodyValue_b26 C _ _ _ _ _ _ hf
      · replace hf := rif_n c19 hf
        exact bX7_bodyValue_b22 C _ _ _ _ _ _ hf
set_option maxRecDepth 100000 in
set_option maxHeartbeats 4000000 in
theorem mX7_bodyValue {l : Launch} {G : rG} {a0 : Int32} {a1 : Int32} {a2 : Int32} {a3 : Int32} {a4 : Int32} {S : rS} {r : Int32 × rS} (hf : fX7_bodyValue a0 a1 a2 a3 a4 S = some r) : rM l G 3 yX7_bodyValue cX7_bodyValue 8 (some .int) [.ref G.2.2.2.1, .int a0, .int a1, .int a2, .int a3, .int a4] S (some (.int r.1), r.2) :=
  rM_of (lo0 := [some (.ref G.2.2.2.1), some (.int a0), some (.int a1), some (.int a2), some (.int a3), some (.int a4), none, none]) (by decide +kernel) rfl (Nat.le_of_ble_eq_true rfl) (by simp [Value.category]) rfl (fun X _ C => bX7_bodyValue C a0 a1 a2 a3 a4 S hf)
set_option maxRecDepth 100000 in
set_option maxHeartbeats 4000000 in
theorem bX7_functor_b153_body {G : rG} {X : rX} (C : rC G X 9 cX7_functor (some .int) 2) {r : Int32 × rS} {rec153 : Int32 → Int32 → Int32 → Int32 → rS → Option (Int32 × rS)} (hrec153 : ∀ (l1 : Int32) (l2 : Int32) (l3 : Int32) (l6 : Int32) (S : rS), rec153 l1 l2 l3 l6 S = some r → rAW G X 9 (some (.int r.1), r.2) 153 [some (.ref G.2.2.2.1), some (.int l1), some (.int l2), some (.int l3), none, none, some (.int l6), none, none] [] S) (l1 : Int32) (l2 : Int32) (l3 : Int32) (l6 : Int32) (S : rS) (hf : fX7_functor_b153_body rec153 l1 l2 l3 l6 S = some r) : rAW G X 9 (some (.int r.1), r.2) 153 [some (.ref G.2.2.2.1), some (.int l1), some (.int l2), some (.int l3), none, none, some (.int l6), none, none] [] S := by
  unfold fX7_functor_b153_body at hf
  refine ra_iload C dX7_functor_153 rfl ?_
  refine ra_aload_n C dX7_functor_155 rfl rfl ?_
  refine ra_getR C dX7_functor_156 (k := 18) (by decide) rfl rX7_in tX7_f56 rfl ?_
  refine ra_bipush C dX7_functor_159 (v := 8) (by decide) ?_
  obtain ⟨x161, h161, hf⟩ := rob hf
  refine ra_iald C dX7_functor_161 h161 (by decide) rfl rfl ?_
  refine ra_icmp_ge C dX7_functor_162 (tgt := 275) (by decide) (fun c162 => ?_) (fun c162 => ?_)
  · replace hf := rif_p c162 hf
    refine ra_aload_n C dX7_functor_275 rfl rfl ?_
    refine ra_getR C dX7_functor_276 (k := 18) (by decide) rfl rX7_in tX7_f56 rfl ?_
    refine ra_aload_n C dX7_functor_279 rfl rfl ?_
    refine ra_getI C dX7_functor_280 (k := 17) (by decide) rfl rX7_in tX7_f286 rfl ?_
    refine ra_aload_n C dX7_functor_283 rfl rfl ?_
    refine ra_getR C dX7_functor_284 (k := 18) (by decide) rfl rX7_in tX7_f56 rfl ?_
    refine ra_bipush C dX7_functor_287 (v := 8) (by decide) ?_
    obtain ⟨x289, h289, hf⟩ := rob hf
    refine ra_iald C dX7_functor_289 h289 (by decide) rfl rfl ?_
    obtain ⟨S290, h290, hf⟩ := rob hf
    refine ra_iast C dX7_functor_290 h290 (by decide) rfl rfl ?_
    refine ra_aload_n C dX7_functor_291 rfl rfl ?_
    refine ra_getR C dX7_functor_292 (k := 18) (by decide) rfl rX7_in tX7_f56 rfl ?_
    refine ra_bipush C dX7_functor_295 (v := 8) (by decide) ?_
    refine ra_iconst C dX7_functor_297 (v := 0) (by decide) ?_
    obtain ⟨S298, h298, hf⟩ := rob hf
    refine ra_iast C dX7_functor_298 h298 (by decide) rfl rfl ?_
    refine ra_aload_n C dX7_functor_299 rfl rfl ?_
    refine ra_getR C dX7_functor_300 (k := 25) (by decide) rfl rX7_in tX7_f77 rfl ?_
    refine ra_aload_n C dX7_functor_303 rfl rfl ?_
    refine ra_getI C dX7_functor_304 (k := 17) (by decide) rfl rX7_in tX7_f286 rfl ?_
    refine ra_iload_n C dX7_functor_307 rfl rfl ?_
    obtain ⟨S308, h308, hf⟩ := rob hf
    refine ra_iast C dX7_functor_308 h308 (by decide) rfl rfl ?_
    refine ra_aload_n C dX7_functor_309 rfl rfl ?_
    refine ra_getR C dX7_functor_310 (k := 26) (by decide) rfl rX7_in tX7_f80 rfl ?_
    refine ra_aload_n C dX7_functor_313 rfl rfl ?_
    refine ra_getI C dX7_functor_314 (k := 17) (by decide) rfl rX7_in tX7_f286 rfl ?_
    refine ra_iload_n C dX7_functor_317 rfl rfl ?_
    obtain ⟨S318, h318, hf⟩ := rob hf
    refine ra_iast C dX7_functor_318 h318 (by decide) rfl rfl ?_
    refine ra_aload_n C dX7_functor_319 rfl rfl ?_
    refine ra_getR C dX7_functor_320 (k := 27) (by decide) rfl rX7_in tX7_f83 rfl ?_
    refine ra_aload_n C dX7_functor_323 rfl rfl ?_
    refine ra_getI C dX7_functor_324 (k := 17) (by decide) rfl rX7_in tX7_f286 rfl ?_
    refine ra_iload_n C dX7_functor_327 rfl rfl ?_
    obtain ⟨S328, h328, hf⟩ := rob hf
    refine ra_bast C dX7_functor_328 h328 (by decide) rfl rfl ?_
    refine ra_aload_n C dX7_functor_329 rfl rfl ?_
    refine ra_dup C dX7_functor_330 rfl ?_
    refine ra_getI C dX7_functor_331 (k := 17) (by decide) rfl rX7_in tX7_f286 rfl ?_
    refine ra_iconst C dX7_functor_334 (v := 1) (by decide) ?_
    refine ra_iadd C dX7_functor_335 ?_
    refine ra_putI C dX7_functor_336 (k := 17) (by decide) rfl rX7_in tX7_f286 rfl rfl (tyX7_ok 17 (by decide)) ?_
    refine ra_aload_n C dX7_functor_339 rfl rfl ?_
    refine ra_getI C dX7_functor_340 (k := 17) (by decide) rfl rX7_in tX7_f286 rfl ?_
    refine ra_iconst C dX7_functor_343 (v := 1) (by decide) ?_
    refine ra_isub C dX7_functor_344 ?_
    obtain rfl := Option.some.inj hf
    exact ra_iret C dX7_functor_345
  · replace hf := rif_n c162 hf
    refine ra_sipush C dX7_functor_165 (v := 160) (by decide) ?_
    refine ra_iload C dX7_functor_168 rfl ?_
    refine ra_iadd C dX7_functor_170 ?_
    refine ra_istore C dX7_functor_171 (by decide) ?_
    refine ra_bipush C dX7_functor_173 (v := 20) (by decide) ?_
    refine ra_aload_n C dX7_functor_175 rfl rfl ?_
    refine ra_getI C dX7_functor_176 (k := 17) (by decide) rfl rX7_in tX7_f286 rfl ?_
    refine ra_imul C dX7_functor_179 ?_
    refine ra_iload C dX7_functor_180 rfl ?_
    refine ra_iadd C dX7_functor_182 ?_
    refine ra_istore C dX7_functor_183 (by decide) ?_
    refine ra_aload_n C dX7_functor_185 rfl rfl ?_
    refine ra_getR C dX7_functor_186 (k := 19) (by decide) rfl rX7_in tX7_f59 rfl ?_
    refine ra_iload C dX7_functor_189 rfl ?_
    refine ra_aload_n C dX7_functor_191 rfl rfl ?_
    refine ra_getR C dX7_functor_192 (k := 19) (by decide) rfl rX7_in tX7_f59 rfl ?_
    refine ra_iload C dX7_functor_195 rfl ?_
    obtain ⟨x197, h197, hf⟩ := rob hf
    refine ra_iald C dX7_functor_197 h197 (by decide) rfl rfl ?_
    obtain ⟨S198, h198, hf⟩ := rob hf
    refine ra_iast C dX7_functor_198 h198 (by decide) rfl rfl ?_
    refine ra_aload_n C dX7_functor_199 rfl rfl ?_
    refine ra_getR C dX7_functor_200 (k := 20) (by decide) rfl rX7_in tX7_f62 rfl ?_
    refine ra_iload C dX7_functor_203 rfl ?_
    refine ra_aload_n C dX7_functor_205 rfl rfl ?_
    refine ra_getR C dX7_functor_206 (k := 20) (by decide) rfl rX7_in tX7_f62 rfl ?_
    refine ra_iload C dX7_functor_209 rfl ?_
    obtain ⟨x211, h211, hf⟩ := rob hf
    refine ra_iald C dX7_functor_211 h211 (by decide) rfl rfl ?_
    obtain ⟨S212, h212, hf⟩ := rob hf
    refine ra_iast C dX7_functor_212 h212 (by decide) rfl rfl ?_
    refine ra_aload_n C dX7_functor_213 rfl rfl ?_
    refine ra_getR C dX7_functor_214 (k := 21) (by decide) rfl rX7_in tX7_f65 rfl ?_
    refine ra_iload C dX7_functor_217 rfl ?_
    refine ra_aload_n C dX7_functor_219 rfl rfl ?_
    refine ra_getR C dX7_functor_220 (k := 21) (by decide) rfl rX7_in tX7_f65 rfl ?_
    refine ra_iload C dX7_functor_223 rfl ?_
    obtain ⟨x225, h225, hf⟩ := rob hf
    refine ra_iald C dX7_functor_225 h225 (by decide) rfl rfl ?_
    obtain ⟨S226, h226, hf⟩ := rob hf
    refine ra_iast C dX7_functor_226 h226 (by decide) rfl rfl ?_
    refine ra_aload_n C dX7_functor_227 rfl rfl ?_
    refine ra_getR C dX7_functor_228 (k := 22) (by decide) rfl rX7_in tX7_f68 rfl ?_
    refine ra_iload C dX7_functor_231 rfl ?_
    refine ra_aload_n C dX7_functor_233 rfl rfl ?_
    refine ra_getR C dX7_functor_234 (k := 22) (by decide) rfl rX7_in tX7_f68 rfl ?_
    refine ra_iload C dX7_functor_237 rfl ?_
    obtain ⟨x239, h239, hf⟩ := rob hf
    refine ra_iald C dX7_functor_239 h239 (by decide) rfl rfl ?_
    obtain ⟨S240, h240, hf⟩ := rob hf
    refine ra_iast C dX7_functor_240 h240 (by decide) rfl rfl ?_
    refine ra_aload_n C dX7_functor_241 rfl rfl ?_
    refine ra_getR C dX7_functor_242 (k := 23) (by decide) rfl rX7_in tX7_f71 rfl ?_
    refine ra_iload C dX7_functor_245 rfl ?_
    refine ra_aload_n C dX7_functor_247 rfl rfl ?_
    refine ra_getR C dX7_functor_248 (k := 23) (by decide) rfl rX7_in tX7_f71 rfl ?_
    refine ra_iload C dX7_functor_251 rfl ?_
    obtain ⟨x253, h253, hf⟩ := rob hf
    refine ra_iald C dX7_functor_253 h253 (by decide) rfl rfl ?_
    obtain ⟨S254, h254, hf⟩ := rob hf
    refine ra_iast C dX7_functor_254 h254 (by decide) rfl rfl ?_
    refine ra_aload_n C dX7_functor_255 rfl rfl ?_
    refine ra_getR C dX7_functor_256 (k := 24) (by decide) rfl rX7_in tX7_f74 rfl ?_
    refine ra_iload C dX7_functor_259 rfl ?_
    refine ra_aload_n C dX7_functor_261 rfl rfl ?_
    refine ra_getR C dX7_functor_262 (k := 24) (by decide) rfl rX7_in tX7_f74 rfl ?_
    refine ra_iload C dX7_functor_265 rfl ?_
    obtain ⟨x267, h267, hf⟩ := rob hf
    refine ra_iald C dX7_functor_267 h267 (by decide) rfl rfl ?_
    obtain ⟨S268, h268, hf⟩ := rob hf
    refine ra_iast C dX7_functor_268 h268 (by decide) rfl rfl ?_
    refine ra_iinc C dX7_functor_269 rfl (v := 1) (by decide) (by decide) ?_
    refine ra_goto C dX7_functor_272 (tgt := 153) (by decide) ?_
    refine ra_mask [true, true, true, true, false, false, true, false, false] ?_
    exact hrec153 _ _ _ _ _ hf
set_option maxRecDepth 100000 in
set_option maxHeartbeats 4000000 in
theorem bX7_functor_b153 {G : rG} {X : rX} (C : rC G X 9 cX7_functor (some .int) 2) {r : Int32 × rS} : ∀ (n : Nat) (l1 : Int32) (l2 : Int32) (l3 : Int32) (l6 : Int32) (S : rS), fX7_functor_b153 n l1 l2 l3 l6 S = some r → rAW G X 9 (some (.int r.1), r.2) 153 [some (.ref G.2.2.2.1), some (.int l1), some (.int l2), some (.int l3), none, none, some (.int l6), none, none] [] S := by
  intro n
  induction n with
  | zero => intro l1 l2 l3 l6 S hf; cases hf
  | succ n ih => intro l1 l2 l3 l6 S hf; exact bX7_functor_b153_body C (fun l1 l2 l3 l6 S h => ih l1 l2 l3 l6 S h) l1 l2 l3 l6 S hf
set_option maxRecDepth 100000 in
set_option maxHeartbeats 4000000 in
theorem bX7_functor_b142 {G : rG} {X : rX} (C : rC G X 9 cX7_functor (some .int) 2) {r : Int32 × rS} (l1 : Int32) (l2 : Int32) (l3 : Int32) (s0 : Int32) (S : rS) (hf : fX7_functor_b142 l1 l2 l3 s0 S = some r) : rAW G X 9 (some (.int r.1), r.2) 142 [some (.ref G.2.2.2.1), some (.int l1), some (.int l2), some (.int l3), none, none, none, none, none] [.int s0, .ref G.2.2.2.1] S := by
  unfold fX7_functor_b142 at hf
  obtain ⟨q142, h142, hf⟩ := rob hf
  refine ra_callVi C dX7_functor_142 (mX7_fails h142) rfl tX7_l175 tX7_i_X7_fails tX7_s_X7_fails tX7_init tX7_c_X7_fails tX7_d_X7_fails (by decide) (by decide) (Nat.le_of_ble_eq_true rfl) ?_
  refine ra_if_eq C dX7_functor_145 (tgt := 150) (by decide) (fun c145 => ?_) (fun c145 => ?_)
  · replace hf := rif_p c145 hf
    refine ra_iconst C dX7_functor_150 (v := 0) (by decide) ?_
    refine ra_istore C dX7_functor_151 (by decide) ?_
    exact bX7_functor_b153 C _ _ _ _ _ _ hf
  · replace hf := rif_n c145 hf
    refine ra_iconst C dX7_functor_148 (v := 0) (by decide) ?_
    obtain rfl := Option.some.inj hf
    exact ra_iret C dX7_functor_149
set_option maxRecDepth 100000 in
set_option maxHeartbeats 4000000 in
theorem bX7_functor_b122 {G : rG} {X : rX} (C : rC G X 9 cX7_functor (some .int) 2) {r : Int32 × rS} (l1 : Int32) (l2 : Int32) (l3 : Int32) (l4 : Int32) (l5 : Int32) (S : rS) (hf : fX7_functor_b122 l1 l2 l3 l4 l5 S = some r) : rAW G X 9 (some (.int r.1), r.2) 122 [some (.ref G.2.2.2.1), some (.int l1), some (.int l2), some (.int l3), some (.int l4), some (.int l5), none, none, none] [] S := by
  unfold fX7_functor_b122 at hf
  refine ra_aload_n C dX7_functor_122 rfl rfl ?_
  refine ra_iload C dX7_functor_123 rfl ?_
  refine ra_if_ne C dX7_functor_125 (tgt := 132) (by decide) (fun c125 => ?_) (fun c125 => ?_)
  · replace hf := rif_n c125 hf
    refine ra_iload C dX7_functor_132 rfl ?_
    refine ra_if_eq C dX7_functor_134 (tgt := 141) (by decide) (fun c134 => ?_) (fun c134 => ?_)
    · replace hf := rif_p c134 hf
      refine ra_iconst C dX7_functor_141 (v := 2) (by decide) ?_
      refine ra_mask [true, true, true, true, false, false, false, false, false] ?_
      exact bX7_functor_b142 C _ _ _ _ _ hf
    · replace hf := rif_n c134 hf
      refine ra_iconst C dX7_functor_137 (v := 0) (by decide) ?_
      refine ra_goto C dX7_functor_138 (tgt := 142) (by decide) ?_
      refine ra_mask [true, true, true, true, false, false, false, false, false] ?_
      exact bX7_functor_b142 C _ _ _ _ _ hf
  · replace hf := rif_p c125 hf
    refine ra_iconst C dX7_functor_128 (v := 1) (by decide) ?_
    refine ra_goto C dX7_functor_129 (tgt := 142) (by decide) ?_
    refine ra_mask [true, true, true, true, false, false, false, false, false] ?_
    exact bX7_functor_b142 C _ _ _ _ _ hf
set_option maxRecDepth 100000 in
set_option maxHeartbeats 4000000 in
theorem bX7_functor_b114 {G : rG} {X : rX} (C : rC G X 9 cX7_functor (some .int) 2) {r : Int32 × rS} {rec54 : Int32 → Int32 → Int32 → Int32 → Int32 → Int32 → rS → Option (Int32 × rS)} (hrec54 : ∀ (l1 : Int32) (l2 : Int32) (l3 : Int32) (l4 : Int32) (l5 : Int32) (l6 : Int32) (S : rS), rec54 l1 l2 l3 l4 l5 l6 S = some r → rAW G X 9 (some (.int r.1), r.2) 54 [some (.ref G.2.2.2.1), some (.int l1), some (.int l2), some (.int l3), some (.int l4), some (.int l5), some (.int l6), none, none] [] S) (l1 : Int32) (l2 : Int32) (l3 : Int32) (l4 : Int32) (l6 : Int32) (s0 : Int32) (S : rS) (hf : fX7_functor_b114 rec54 l1 l2 l3 l4 l6 s0 S = some r) : rAW G X 9 (some (.int r.1), r.2) 114 [some (.ref G.2.2.2.1), some (.int l1), some (.int l2), some (.int l3), some (.int l4), none, some (.int l6), none, none] [.int s0] S := by
  unfold fX7_functor_b114 at hf
  refine ra_istore C dX7_functor_114 (by decide) ?_
  refine ra_iinc C dX7_functor_116 rfl (v := 1) (by decide) (by decide) ?_
  refine ra_goto C dX7_functor_119 (tgt := 54) (by decide) ?_
  exact hrec54 _ _ _ _ _ _ _ hf
set_option maxRecDepth 100000 in
set_option maxHeartbeats 4000000 in
theorem bX7_functor_b109 {G : rG} {X : rX} (C : rC G X 9 cX7_functor (some .int) 2) {r : Int32 × rS} {rec54 : Int32 → Int32 → Int32 → Int32 → Int32 → Int32 → rS → Option (Int32 × rS)} (hrec54 : ∀ (l1 : Int32) (l2 : Int32) (l3 : Int32) (l4 : Int32) (l5 : Int32) (l6 : Int32) (S : rS), rec54 l1 l2 l3 l4 l5 l6 S = some r → rAW G X 9 (some (.int r.1), r.2) 54 [some (.ref G.2.2.2.1), some (.int l1), some (.int l2), some (.int l3), some (.int l4), some (.int l5), some (.int l6), none, none] [] S) (l1 : Int32) (l2 : Int32) (l3 : Int32) (l4 : Int32) (l6 : Int32) (S : rS) (hf : fX7_functor_b109 rec54 l1 l2 l3 l4 l6 S = some r) : rAW G X 9 (some (.int r.1), r.2) 109 [some (.ref G.2.2.2.1), some (.int l1), some (.int l2), some (.int l3), some (.int l4), none, some (.int l6), none, none] [] S := by
  unfold fX7_functor_b109 at hf
  refine ra_iconst C dX7_functor_109 (v := 1) (by decide) ?_
  refine ra_goto C dX7_functor_110 (tgt := 114) (by decide) ?_
  exact bX7_functor_b114 C hrec54 _ _ _ _ _ _ _ hf
set_option maxRecDepth 100000 in
set_option maxHeartbeats 4000000 in
theorem bX7_functor_b54_body {G : rG} {X : rX} (C : rC G X 9 cX7_functor (some .int) 2) {r : Int32 × rS} {rec54 : Int32 → Int32 → Int32 → Int32 → Int32 → Int32 → rS → Option (Int32 × rS)} (hrec54 : ∀ (l1 : Int32) (l2 : Int32) (l3 : Int32) (l4 : Int32) (l5 : Int32) (l6 : Int32) (S : rS), rec54 l1 l2 l3 l4 l5 l6 S = some r → rAW G X 9 (some (.int r.1), r.2) 54 [some (.ref G.2.2.2.1), some (.int l1), some (.int l2), some (.int l3), some (.int l4), some (.int l5), some (.int l6), none, none] [] S) (l1 : Int32) (l2 : Int32) (l3 : Int32) (l4 : Int32) (l5 : Int32) (l6 : Int32) (S : rS) (hf : fX7_functor_b54_body rec54 l1 l2 l3 l4 l5 l6 S = some r) : rAW G X 9 (some (.int r.1), r.2) 54 [some (.ref G.2.2.2.1), some (.int l1), some (.int l2), some (.int l3), some (.int l4), some (.int l5), some (.int l6), none, none] [] S := by
  unfold fX7_functor_b54_body at hf
  refine ra_iload C dX7_functor_54 rfl ?_
  refine ra_if_eq C dX7_functor_56 (tgt := 122) (by decide) (fun c56 => ?_) (fun c56 => ?_)
  · replace hf := rif_p c56 hf
    refine ra_mask [true, true, true, true, true, true, false, false, false] ?_
    exact bX7_functor_b122 C _ _ _ _ _ _ hf
  · replace hf := rif_n c56 hf
    refine ra_iload C dX7_functor_59 rfl ?_
    refine ra_sipush C dX7_functor_61 (v := 160) (by decide) ?_
    refine ra_aload_n C dX7_functor_64 rfl rfl ?_
    refine ra_getR C dX7_functor_65 (k := 18) (by decide) rfl rX7_in tX7_f56 rfl ?_
    refine ra_bipush C dX7_functor_68 (v := 8) (by decide) ?_
    obtain ⟨x70, h70, hf⟩ := rob hf
    refine ra_iald C dX7_functor_70 h70 (by decide) rfl rfl ?_
    refine ra_iadd C dX7_functor_71 ?_
    refine ra_icmp_ge C dX7_functor_72 (tgt := 122) (by decide) (fun c72 => ?_) (fun c72 => ?_)
    · replace hf := rif_p c72 hf
      refine ra_mask [true, true, true, true, true, true, false, false, false] ?_
      exact bX7_functor_b122 C _ _ _ _ _ _ hf
    · replace hf := rif_n c72 hf
      refine ra_aload_n C dX7_functor_75 rfl rfl ?_
      refine ra_getR C dX7_functor_76 (k := 23) (by decide) rfl rX7_in tX7_f71 rfl ?_
      refine ra_iload C dX7_functor_79 rfl ?_
      obtain ⟨x81, h81, hf⟩ := rob hf
      refine ra_iald C dX7_functor_81 h81 (by decide) rfl rfl ?_
      refine ra_iconst C dX7_functor_82 (v := (-1)) (by decide) ?_
      refine ra_icmp_eq C dX7_functor_83 (tgt := 109) (by decide) (fun c83 => ?_) (fun c83 => ?_)
      · replace hf := rif_p c83 hf
        refine ra_mask [true, true, true, true, true, false, true, false, false] ?_
        exact bX7_functor_b109 C hrec54 _ _ _ _ _ _ hf
      · replace hf := rif_n c83 hf
        refine ra_aload_n C dX7_functor_86 rfl rfl ?_
        refine ra_iload_n C dX7_functor_87 rfl rfl ?_
        refine ra_aload_n C dX7_functor_88 rfl rfl ?_
        refine ra_getR C dX7_functor_89 (k := 19) (by decide) rfl rX7_in tX7_f59 rfl ?_
        refine ra_iload C dX7_functor_92 rfl ?_
        obtain ⟨x94, h94, hf⟩ := rob hf
        refine ra_iald C dX7_functor_94 h94 (by decide) rfl rfl ?_
        refine ra_aload_n C dX7_functor_95 rfl rfl ?_
        refine ra_getR C dX7_functor_96 (k := 23) (by decide) rfl rX7_in tX7_f71 rfl ?_
        refine ra_iload C dX7_functor_99 rfl ?_
        obtain ⟨x101, h101, hf⟩ := rob hf
        refine ra_iald C dX7_functor_101 h101 (by decide) rfl rfl ?_
        obtain ⟨q102, h102, hf⟩ := rob hf
        refine ra_callVi C dX7_functor_102 (mX7_findsSpec h102) rfl tX7_l207 tX7_i_X7_findsSpec tX7_s_X7_findsSpec tX7_init tX7_c_X7_findsSpec tX7_d_X7_findsSpec (by decide) (by decide) (Nat.le_of_ble_eq_true rfl) ?_
        refine ra_iconst C dX7_functor_105 (v := (-1)) (by decide) ?_
        refine ra_icmp_eq C dX7_functor_106 (tgt := 113) (by decide) (fun c106 => ?_) (fun c106 => ?_)
        · replace hf := rif_p c106 hf
          refine ra_iconst C dX7_functor_113 (v := 0) (by decide) ?_
          refine ra_mask [true, true, true, true, true, false, true, false, false] ?_
          exact bX7_functor_b114 C hrec54 _ _ _ _ _ _ _ hf
        · replace hf := rif_n c106 hf
          refine ra_mask [true, true, true, true, true, false, true, false, false] ?_
          exact bX7_functor_b109 C hrec54 _ _ _ _ _ _ hf
set_option maxRecDepth 100000 in
set_option maxHeartbeats 4000000 in
theorem bX7_functor_b54 {G : rG} {X : rX} (C : rC G X 9 cX7_functor (some .int) 2) {r : Int32 × rS} : ∀ (n : Nat) (l1 : Int32) (l2 : Int32) (l3 : Int32) (l4 : Int32) (l5 : Int32) (l6 : Int32) (S : rS), fX7_functor_b54 n l1 l2 l3 l4 l5 l6 S = some r → rAW G X 9 (some (.int r.1), r.2) 54 [some (.ref G.2.2.2.1), some (.int l1), some (.int l2), some (.int l3), some (.int l4), some (.int l5), some (.int l6), none, none] [] S := by
  intro n
  induction n with
  | zero => intro l1 l2 l3 l4 l5 l6 S hf; cases hf
  | succ n ih => intro l1 l2 l3 l4 l5 l6 S hf; exact bX7_functor_b54_body C (fun l1 l2 l3 l4 l5 l6 S h => ih l1 l2 l3 l4 l5 l6 S h) l1 l2 l3 l4 l5 l6 S hf
set_option maxRecDepth 100000 in
set_option maxHeartbeats 4000000 in
theorem bX7_functor_b47 {G : rG} {X : rX} (C : rC G X 9 cX7_functor (some .int) 2) {r : Int32 × rS} (l1 : Int32) (l2 : Int32) (l3 : Int32) (l4 : Int32) (s0 : Int32) (S : rS) (hf : fX7_functor_b47 l1 l2 l3 l4 s0 S = some r) : rAW G X 9 (some (.int r.1), r.2) 47 [some (.ref G.2.2.2.1), some (.int l1), some (.int l2), some (.int l3), some (.int l4), none, none, none, none] [.int s0] S := by
  unfold fX7_functor_b47 at hf
  refine ra_istore C dX7_functor_47 (by decide) ?_
  refine ra_sipush C dX7_functor_49 (v := 160) (by decide) ?_
  refine ra_istore C dX7_functor_52 (by decide) ?_
  exact bX7_functor_b54 C _ _ _ _ _ _ _ _ hf
set_option maxRecDepth 100000 in
set_option maxHeartbeats 4000000 in
theorem bX7_functor_b46 {G : rG} {X : rX} (C : rC G X 9 cX7_functor (some .int) 2) {r : Int32 × rS} (l1 : Int32) (l2 : Int32) (l3 : Int32) (l4 : Int32) (S : rS) (hf : fX7_functor_b46 l1 l2 l3 l4 S = some r) : rAW G X 9 (some (.int r.1), r.2) 46 [some (.ref G.2.2.2.1), some (.int l1), some (.int l2), some (.int l3), some (.int l4), none, none, none, none] [] S := by
  unfold fX7_functor_b46 at hf
  refine ra_iconst C dX7_functor_46 (v := 0) (by decide) ?_
  exact bX7_functor_b47 C _ _ _ _ _ _ hf
set_option maxRecDepth 100000 in
set_option maxHeartbeats 4000000 in
theorem bX7_functor_b26 {G : rG} {X : rX} (C : rC G X 9 cX7_functor (some .int) 2) {r : Int32 × rS} (l1 : Int32) (l2 : Int32) (l3 : Int32) (s0 : Int32) (S : rS) (hf : fX7_functor_b26 l1 l2 l3 s0 S = some r) : rAW G X 9 (some (.int r.1), r.2) 26 [some (.ref G.2.2.2.1), some (.int l1), some (.int l2), some (.int l3), none, none, none, none, none] [.int s0] S := by
  unfold fX7_functor_b26 at hf
  refine ra_istore C dX7_functor_26 (by decide) ?_
  refine ra_iload C dX7_functor_28 rfl ?_
  refine ra_if_eq C dX7_functor_30 (tgt := 46) (by decide) (fun c30 => ?_) (fun c30 => ?_)
  · replace hf := rif_p c30 hf
    exact bX7_functor_b46 C _ _ _ _ _ hf
  · replace hf := rif_n c30 hf
    refine ra_aload_n C dX7_functor_33 rfl rfl ?_
    refine ra_getI C dX7_functor_34 (k := 17) (by decide) rfl rX7_in tX7_f286 rfl ?_
    refine ra_bipush C dX7_functor_37 (v := 8) (by decide) ?_
    refine ra_icmp_ge C dX7_functor_39 (tgt := 46) (by decide) (fun c39 => ?_) (fun c39 => ?_)
    · replace hf := rif_p c39 hf
      exact bX7_functor_b46 C _ _ _ _ _ hf
    · replace hf := rif_n c39 hf
      refine ra_iconst C dX7_functor_42 (v := 1) (by decide) ?_
      refine ra_goto C dX7_functor_43 (tgt := 47) (by decide) ?_
      exact bX7_functor_b47 C _ _ _ _ _ _ hf
set_option maxRecDepth 100000 in
set_option maxHeartbeats 4000000 in
theorem bX7_functor_b25 {G : rG} {X : rX} (C : rC G X 9 cX7_functor (some .int) 2) {r : Int32 × rS} (l1 : Int32) (l2 : Int32) (l3 : Int32) (S : rS) (hf : fX7_functor_b25 l1 l2 l3 S = some r) : rAW G X 9 (some (.int r.1), r.2) 25 [some (.ref G.2.2.2.1), some (.int l1), some (.int l2), some (.int l3), none, none, none, none, none] [] S := by
  unfold fX7_functor_b25 at hf
  refine ra_iconst C dX7_functor_25 (v := 0) (by decide) ?_
  exact bX7_functor_b26 C _ _ _ _ _ hf
set_option maxRecDepth 100000 in
set_option maxHeartbeats 4000000 in
theorem bX7_functor_b21 {G : rG} {X : rX} (C : rC G X 9 cX7_functor (some .int) 2) {r : Int32 × rS} (l1 : Int32) (l2 : Int32) (l3 : Int32) (S : rS) (hf : fX7_functor_b21 l1 l2 l3 S = some r) : rAW G X 9 (some (.int r.1), r.2) 21 [some (.ref G.2.2.2.1), some (.int l1), some (.int l2), some (.int l3), none, none, none, none, none] [] S := by
  unfold fX7_functor_b21 at hf
  refine ra_iconst C dX7_functor_21 (v := 1) (by decide) ?_
  refine ra_goto C dX7_functor_22 (tgt := 26) (by decide) ?_
  exact bX7_functor_b26 C _ _ _ _ _ hf
set_option maxRecDepth 100000 in
set_option maxHeartbeats 4000000 in
theorem bX7_functor {G : rG} {X : rX} (C : rC G X 9 cX7_functor (some .int) 2) (a0 : Int32) (a1 : Int32) (a2 : Int32) (S : rS) {r : Int32 × rS} (hf : fX7_functor a0 a1 a2 S = some r) : rAW G X 9 (some (.int r.1), r.2) 0 [some (.ref G.2.2.2.1), some (.int a0), some (.int a1), some (.int a2), none, none, none, none, none] [] S := by
  unfold fX7_functor at hf
  refine ra_aload_n C dX7_functor_0 rfl rfl ?_
  refine ra_iload_n C dX7_functor_1 rfl rfl ?_
  obtain ⟨q2, h2, hf⟩ := rob hf
  refine ra_callVi C dX7_functor_2 (mX7_isSignature h2) rfl tX7_l217 tX7_i_X7_isSignature tX7_s_X7_isSignature tX7_init tX7_c_X7_isSignature tX7_d_X7_isSignature (by decide) (by decide) (Nat.le_of_ble_eq_true rfl) ?_
  refine ra_if_eq C dX7_functor_5 (tgt := 25) (by decide) (fun c5 => ?_) (fun c5 => ?_)
  · replace hf := rif_p c5 hf
    exact bX7_functor_b25 C _ _ _ _ hf
  · replace hf := rif_n c5 hf
    refine ra_iload_n C dX7_functor_8 rfl rfl ?_
    refine ra_iconst C dX7_functor_9 (v := (-1)) (by decide) ?_
    refine ra_icmp_eq C dX7_functor_10 (tgt := 21) (by decide) (fun c10 => ?_) (fun c10 => ?_)
    · replace hf := rif_p c10 hf
      exact bX7_functor_b21 C _ _ _ _ hf
    · replace hf := rif_n c10 hf
      refine ra_aload_n C dX7_functor_13 rfl rfl ?_
      refine ra_iload_n C dX7_functor_14 rfl rfl ?_
      obtain ⟨q15, h15, hf⟩ := rob hf
      refine ra_callVi C dX7_functor_15 (mX7_isSignature h15) rfl tX7_l217 tX7_i_X7_isSignature tX7_s_X7_isSignature tX7_init tX7_c_X7_isSignature tX7_d_X7_isSignature (by decide) (by decide) (Nat.le_of_ble_eq_true rfl) ?_
      refine ra_if_eq C dX7_functor_18 (tgt := 25) (by decide) (fun c18 => ?_) (fun c18 => ?_)
      · replace hf := rif_p c18 hf
        exact bX7_functor_b25 C _ _ _ _ hf
      · replace hf := rif_n c18 hf
        exact bX7_functor_b21 C _ _ _ _ hf
set_option maxRecDepth 100000 in
set_option maxHeartbeats 4000000 in
theorem mX7_functor {l : Launch} {G : rG} {a0 : Int32} {a1 : Int32} {a2 : Int32} {S : rS} {r : Int32 × rS} (hf : fX7_functor a0 a1 a2 S = some r) : rM l G 2 yX7_functor cX7_functor 9 (some .int) [.ref G.2.2.2.1, .int a0, .int a1, .int a2] S (some (.int r.1), r.2) :=
  rM_of (lo0 := [some (.ref G.2.2.2.1), some (.int a0), some (.int a1), some (.int a2), none, none, none, none, none]) (by decide +kernel) rfl (Nat.le_of_ble_eq_true rfl) (by simp [Value.category]) rfl (fun X _ C => bX7_functor C a0 a1 a2 S hf)
set_option maxRecDepth 100000 in
set_option maxHeartbeats 4000000 in
theorem bX7_cut_b27 {G : rG} {X : rX} (C : rC G X 1 cX7_cut (some .int) 0) {r : Int32 × rS} (s0 : Int32) (S : rS) (hf : fX7_cut_b27 s0 S = some r) : rAW G X 1 (some (.int r.1), r.2) 27 [none] [.int s0] S := by
  unfold fX7_cut_b27 at hf
  obtain rfl := Option.some.inj hf
  exact ra_iret C dX7_cut_27
set_option maxRecDepth 100000 in
set_option maxHeartbeats 4000000 in
theorem bX7_cut {G : rG} {X : rX} (C : rC G X 1 cX7_cut (some .int) 0) (a0 : Int32) (S : rS) {r : Int32 × rS} (hf : fX7_cut a0 S = some r) : rAW G X 1 (some (.int r.1), r.2) 0 [some (.int a0)] [] S := by
  unfold fX7_cut at hf
  refine ra_iload_n C dX7_cut_0 rfl rfl ?_
  refine ra_sipush C dX7_cut_1 (v := 10000) (by decide) ?_
  refine ra_icmp_le C dX7_cut_4 (tgt := 13) (by decide) (fun c4 => ?_) (fun c4 => ?_)
  · replace hf := rif_p c4 hf
    refine ra_iload_n C dX7_cut_13 rfl rfl ?_
    refine ra_sipush C dX7_cut_14 (v := (-10000)) (by decide) ?_
    refine ra_icmp_ge C dX7_cut_17 (tgt := 26) (by decide) (fun c17 => ?_) (fun c17 => ?_)
    · replace hf := rif_p c17 hf
      refine ra_iload_n C dX7_cut_26 rfl rfl ?_
      refine ra_mask [false] ?_
      exact bX7_cut_b27 C _ _ hf
    · replace hf := rif_n c17 hf
      refine ra_sipush C dX7_cut_20 (v := (-10000)) (by decide) ?_
      refine ra_goto C dX7_cut_23 (tgt := 27) (by decide) ?_
      refine ra_mask [false] ?_
      exact bX7_cut_b27 C _ _ hf
  · replace hf := rif_n c4 hf
    refine ra_sipush C dX7_cut_7 (v := 10000) (by decide) ?_
    refine ra_goto C dX7_cut_10 (tgt := 27) (by decide) ?_
    refine ra_mask [false] ?_
    exact bX7_cut_b27 C _ _ hf
set_option maxRecDepth 100000 in
set_option maxHeartbeats 4000000 in
theorem mX7_cut {l : Launch} {G : rG} {a0 : Int32} {S : rS} {r : Int32 × rS} (hf : fX7_cut a0 S = some r) : rM l G 0 yX7_cut cX7_cut 1 (some .int) [.int a0] S (some (.int r.1), r.2) :=
  rM_of (lo0 := [some (.int a0)]) (by decide +kernel) rfl (Nat.le_of_ble_eq_true rfl) (by simp [Value.category]) rfl (fun X _ C => bX7_cut C a0 S hf)
set_option maxRecDepth 100000 in
set_option maxHeartbeats 4000000 in
theorem bX7_gives_b212 {G : rG} {X : rX} (C : rC G X 6 cX7_gives (some .int) 2) {r : Int32 × rS} {rec15 : Int32 → Int32 → Int32 → rS → Option (Int32 × rS)} (hrec15 : ∀ (l1 : Int32) (l2 : Int32) (l3 : Int32) (S : rS), rec15 l1 l2 l3 S = some r → rAW G X 6 (some (.int r.1), r.2) 15 [some (.ref G.2.2.2.1), some (.int l1), some (.int l2), some (.int l3), none, none] [] S) (l1 : Int32) (l2 : Int32) (l3 : Int32) (S : rS) (hf : fX7_gives_b212 rec15 l1 l2 l3 S = some r) : rAW G X 6 (some (.int r.1), r.2) 212 [some (.ref G.2.2.2.1), some (.int l1), some (.int l2), some (.int l3), none, none] [] S := by
  unfold fX7_gives_b212 at hf
  refine ra_iinc C dX7_gives_212 rfl (v := 1) (by decide) (by decide) ?_
  refine ra_goto C dX7_gives_215 (tgt := 15) (by decide) ?_
  exact hrec15 _ _ _ _ hf
set_option maxRecDepth 100000 in
set_option maxHeartbeats 4000000 in
theorem bX7_gives_b205 {G : rG} {X : rX} (C : rC G X 6 cX7_gives (some .int) 2) {r : Int32 × rS} {rec15 : Int32 → Int32 → Int32 → rS → Option (Int32 × rS)} (hrec15 : ∀ (l1 : Int32) (l2 : Int32) (l3 : Int32) (S : rS), rec15 l1 l2 l3 S = some r → rAW G X 6 (some (.int r.1), r.2) 15 [some (.ref G.2.2.2.1), some (.int l1), some (.int l2), some (.int l3), none, none] [] S) (l1 : Int32) (l2 : Int32) (l3 : Int32) (s0 : Int32) (s1 : Int32) (s2 : Int32) (s3 : Int32) (s4 : Int32) (s5 : Int32) (S : rS) (hf : fX7_gives_b205 rec15 l1 l2 l3 s0 s1 s2 s3 s4 s5 S = some r) : rAW G X 6 (some (.int r.1), r.2) 205 [some (.ref G.2.2.2.1), some (.int l1), some (.int l2), some (.int l3), none, none] [.int s0, .int s1, .int s2, .int s3, .int s4, .int s5, .ref G.2.2.2.1] S := by
  unfold fX7_gives_b205 at hf
  refine ra_iadd C dX7_gives_205 ?_
  obtain ⟨q206, h206, hf⟩ := rob hf
  refine ra_callSi C dX7_gives_206 (mX7_cut h206) rfl tX7_l289 tX7_st_X7_cut tX7_init tX7_c_X7_cut tX7_d_X7_cut (by decide) (by decide) (Nat.le_of_ble_eq_true rfl) ?_
  obtain ⟨q209, h209, hf⟩ := rob hf
  refine ra_callVv C dX7_gives_209 (mX7_puts h209) rfl tX7_l184 tX7_i_X7_puts tX7_s_X7_puts tX7_init tX7_c_X7_puts tX7_d_X7_puts (by decide) (by decide) (Nat.le_of_ble_eq_true rfl) ?_
  exact bX7_gives_b212 C hrec15 _ _ _ _ hf
set_option maxRecDepth 100000 in
set_option maxHeartbeats 4000000 in
theorem bX7_gives_b166 {G : rG} {X : rX} (C : rC G X 6 cX7_gives (some .int) 2) {r : Int32 × rS} {rec15 : Int32 → Int32 → Int32 → rS → Option (Int32 × rS)} (hrec15 : ∀ (l1 : Int32) (l2 : Int32) (l3 : Int32) (S : rS), rec15 l1 l2 l3 S = some r → rAW G X 6 (some (.int r.1), r.2) 15 [some (.ref G.2.2.2.1), some (.int l1), some (.int l2), some (.int l3), none, none] [] S) (l1 : Int32) (l2 : Int32) (l3 : Int32) (l4 : Int32) (s0 : Int32) (S : rS) (hf : fX7_gives_b166 rec15 l1 l2 l3 l4 s0 S = some r) : rAW G X 6 (some (.int r.1), r.2) 166 [some (.ref G.2.2.2.1), some (.int l1), some (.int l2), some (.int l3), some (.int l4), none] [.int s0] S := by
  unfold fX7_gives_b166 at hf
  refine ra_istore C dX7_gives_166 (by decide) ?_
  refine ra_aload_n C dX7_gives_168 rfl rfl ?_
  refine ra_aload_n C dX7_gives_169 rfl rfl ?_
  refine ra_getI C dX7_gives_170 (k := 4) (by decide) rfl rX7_in tX7_f198 rfl ?_
  refine ra_iconst C dX7_gives_173 (v := 1) (by decide) ?_
  refine ra_aload_n C dX7_gives_174 rfl rfl ?_
  refine ra_getR C dX7_gives_175 (k := 20) (by decide) rfl rX7_in tX7_f62 rfl ?_
  refine ra_iload_n C dX7_gives_178 rfl rfl ?_
  obtain ⟨x179, h179, hf⟩ := rob hf
  refine ra_iald C dX7_gives_179 h179 (by decide) rfl rfl ?_
  refine ra_iload C dX7_gives_180 rfl ?_
  refine ra_aload_n C dX7_gives_182 rfl rfl ?_
  refine ra_getR C dX7_gives_183 (k := 24) (by decide) rfl rX7_in tX7_f74 rfl ?_
  refine ra_iload_n C dX7_gives_186 rfl rfl ?_
  obtain ⟨x187, h187, hf⟩ := rob hf
  refine ra_iald C dX7_gives_187 h187 (by decide) rfl rfl ?_
  refine ra_iload C dX7_gives_188 rfl ?_
  refine ra_iconst C dX7_gives_190 (v := (-1)) (by decide) ?_
  refine ra_icmp_ne C dX7_gives_191 (tgt := 198) (by decide) (fun c191 => ?_) (fun c191 => ?_)
  · replace hf := rif_n c191 hf
    refine ra_aload_n C dX7_gives_198 rfl rfl ?_
    refine ra_getR C dX7_gives_199 (k := 9) (by decide) rfl rX7_in tX7_f35 rfl ?_
    refine ra_iload C dX7_gives_202 rfl ?_
    obtain ⟨x204, h204, hf⟩ := rob hf
    refine ra_iald C dX7_gives_204 h204 (by decide) rfl rfl ?_
    refine ra_mask [true, true, true, true, false, false] ?_
    exact bX7_gives_b205 C hrec15 _ _ _ _ _ _ _ _ _ _ hf
  · replace hf := rif_p c191 hf
    refine ra_iconst C dX7_gives_194 (v := 0) (by decide) ?_
    refine ra_goto C dX7_gives_195 (tgt := 205) (by decide) ?_
    refine ra_mask [true, true, true, true, false, false] ?_
    exact bX7_gives_b205 C hrec15 _ _ _ _ _ _ _ _ _ _ hf
set_option maxRecDepth 100000 in
set_option maxHeartbeats 4000000 in
theorem bX7_gives_b107 {G : rG} {X : rX} (C : rC G X 6 cX7_gives (some .int) 2) {r : Int32 × rS} {rec15 : Int32 → Int32 → Int32 → rS → Option (Int32 × rS)} (hrec15 : ∀ (l1 : Int32) (l2 : Int32) (l3 : Int32) (S : rS), rec15 l1 l2 l3 S = some r → rAW G X 6 (some (.int r.1), r.2) 15 [some (.ref G.2.2.2.1), some (.int l1), some (.int l2), some (.int l3), none, none] [] S) (l1 : Int32) (l2 : Int32) (l3 : Int32) (s0 : Int32) (s1 : Int32) (s2 : Int32) (s3 : Int32) (S : rS) (hf : fX7_gives_b107 rec15 l1 l2 l3 s0 s1 s2 s3 S = some r) : rAW G X 6 (some (.int r.1), r.2) 107 [some (.ref G.2.2.2.1), some (.int l1), some (.int l2), some (.int l3), none, none] [.int s0, .int s1, .int s2, .int s3, .ref G.2.2.2.1] S := by
  unfold fX7_gives_b107 at hf
  refine ra_iconst C dX7_gives_107 (v := 0) (by decide) ?_
  obtain ⟨q108, h108, hf⟩ := rob hf
  refine ra_callVv C dX7_gives_108 (mX7_puts h108) rfl tX7_l184 tX7_i_X7_puts tX7_s_X7_puts tX7_init tX7_c_X7_puts tX7_d_X7_puts (by decide) (by decide) (Nat.le_of_ble_eq_true rfl) ?_
  refine ra_goto C dX7_gives_111 (tgt := 212) (by decide) ?_
  exact bX7_gives_b212 C hrec15 _ _ _ _ hf
set_option maxRecDepth 100000 in
set_option maxHeartbeats 4000000 in
theorem bX7_gives_b61 {G : rG} {X : rX} (C : rC G X 6 cX7_gives (some .int) 2) {r : Int32 × rS} {rec15 : Int32 → Int32 → Int32 → rS → Option (Int32 × rS)} (hrec15 : ∀ (l1 : Int32) (l2 : Int32) (l3 : Int32) (S : rS), rec15 l1 l2 l3 S = some r → rAW G X 6 (some (.int r.1), r.2) 15 [some (.ref G.2.2.2.1), some (.int l1), some (.int l2), some (.int l3), none, none] [] S) (l1 : Int32) (l2 : Int32) (l3 : Int32) (s0 : Int32) (S : rS) (hf : fX7_gives_b61 rec15 l1 l2 l3 s0 S = some r) : rAW G X 6 (some (.int r.1), r.2) 61 [some (.ref G.2.2.2.1), some (.int l1), some (.int l2), some (.int l3), none, none] [.int s0] S := by
  unfold fX7_gives_b61 at hf
  refine ra_istore C dX7_gives_61 (by decide) ?_
  refine ra_aload_n C dX7_gives_63 rfl rfl ?_
  refine ra_getR C dX7_gives_64 (k := 19) (by decide) rfl rX7_in tX7_f59 rfl ?_
  refine ra_iload_n C dX7_gives_67 rfl rfl ?_
  obtain ⟨x68, h68, hf⟩ := rob hf
  refine ra_iald C dX7_gives_68 h68 (by decide) rfl rfl ?_
  refine ra_if_ne C dX7_gives_69 (tgt := 114) (by decide) (fun c69 => ?_) (fun c69 => ?_)
  · replace hf := rif_n c69 hf
    refine ra_aload_n C dX7_gives_114 rfl rfl ?_
    refine ra_aload_n C dX7_gives_115 rfl rfl ?_
    refine ra_getI C dX7_gives_116 (k := 4) (by decide) rfl rX7_in tX7_f198 rfl ?_
    refine ra_aload_n C dX7_gives_119 rfl rfl ?_
    refine ra_getR C dX7_gives_120 (k := 21) (by decide) rfl rX7_in tX7_f65 rfl ?_
    refine ra_iload_n C dX7_gives_123 rfl rfl ?_
    obtain ⟨x124, h124, hf⟩ := rob hf
    refine ra_iald C dX7_gives_124 h124 (by decide) rfl rfl ?_
    obtain ⟨q125, h125, hf⟩ := rob hf
    refine ra_callVi C dX7_gives_125 (mX7_meant h125) rfl tX7_l224 tX7_i_X7_meant tX7_s_X7_meant tX7_init tX7_c_X7_meant tX7_d_X7_meant (by decide) (by decide) (Nat.le_of_ble_eq_true rfl) ?_
    refine ra_istore C dX7_gives_128 (by decide) ?_
    refine ra_aload_n C dX7_gives_130 rfl rfl ?_
    refine ra_getR C dX7_gives_131 (k := 22) (by decide) rfl rX7_in tX7_f68 rfl ?_
    refine ra_iload_n C dX7_gives_134 rfl rfl ?_
    obtain ⟨x135, h135, hf⟩ := rob hf
    refine ra_iald C dX7_gives_135 h135 (by decide) rfl rfl ?_
    refine ra_bipush C dX7_gives_136 (v := (-100)) (by decide) ?_
    refine ra_icmp_ne C dX7_gives_138 (tgt := 146) (by decide) (fun c138 => ?_) (fun c138 => ?_)
    · replace hf := rif_n c138 hf
      refine ra_aload_n C dX7_gives_146 rfl rfl ?_
      refine ra_iload C dX7_gives_147 rfl ?_
      refine ra_aload_n C dX7_gives_149 rfl rfl ?_
      refine ra_aload_n C dX7_gives_150 rfl rfl ?_
      refine ra_getI C dX7_gives_151 (k := 4) (by decide) rfl rX7_in tX7_f198 rfl ?_
      refine ra_aload_n C dX7_gives_154 rfl rfl ?_
      refine ra_getR C dX7_gives_155 (k := 22) (by decide) rfl rX7_in tX7_f68 rfl ?_
      refine ra_iload_n C dX7_gives_158 rfl rfl ?_
      obtain ⟨x159, h159, hf⟩ := rob hf
      refine ra_iald C dX7_gives_159 h159 (by decide) rfl rfl ?_
      obtain ⟨q160, h160, hf⟩ := rob hf
      refine ra_callVi C dX7_gives_160 (mX7_meant h160) rfl tX7_l224 tX7_i_X7_meant tX7_s_X7_meant tX7_init tX7_c_X7_meant tX7_d_X7_meant (by decide) (by decide) (Nat.le_of_ble_eq_true rfl) ?_
      obtain ⟨q163, h163, hf⟩ := rob hf
      refine ra_callVi C dX7_gives_163 (mX7_arrowOf h163) rfl tX7_l178 tX7_i_X7_arrowOf tX7_s_X7_arrowOf tX7_init tX7_c_X7_arrowOf tX7_d_X7_arrowOf (by decide) (by decide) (Nat.le_of_ble_eq_true rfl) ?_
      refine ra_mask [true, true, true, true, true, false] ?_
      exact bX7_gives_b166 C hrec15 _ _ _ _ _ _ hf
    · replace hf := rif_p c138 hf
      refine ra_iload C dX7_gives_141 rfl ?_
      refine ra_goto C dX7_gives_143 (tgt := 166) (by decide) ?_
      refine ra_mask [true, true, true, true, true, false] ?_
      exact bX7_gives_b166 C hrec15 _ _ _ _ _ _ hf
  · replace hf := rif_p c69 hf
    refine ra_aload_n C dX7_gives_72 rfl rfl ?_
    refine ra_aload_n C dX7_gives_73 rfl rfl ?_
    refine ra_getI C dX7_gives_74 (k := 4) (by decide) rfl rX7_in tX7_f198 rfl ?_
    refine ra_iconst C dX7_gives_77 (v := 0) (by decide) ?_
    refine ra_aload_n C dX7_gives_78 rfl rfl ?_
    refine ra_getR C dX7_gives_79 (k := 20) (by decide) rfl rX7_in tX7_f62 rfl ?_
    refine ra_iload_n C dX7_gives_82 rfl rfl ?_
    obtain ⟨x83, h83, hf⟩ := rob hf
    refine ra_iald C dX7_gives_83 h83 (by decide) rfl rfl ?_
    refine ra_iload C dX7_gives_84 rfl ?_
    refine ra_iconst C dX7_gives_86 (v := (-1)) (by decide) ?_
    refine ra_icmp_ne C dX7_gives_87 (tgt := 100) (by decide) (fun c87 => ?_) (fun c87 => ?_)
    · replace hf := rif_n c87 hf
      refine ra_aload_n C dX7_gives_100 rfl rfl ?_
      refine ra_getR C dX7_gives_101 (k := 8) (by decide) rfl rX7_in tX7_f32 rfl ?_
      refine ra_iload C dX7_gives_104 rfl ?_
      obtain ⟨x106, h106, hf⟩ := rob hf
      refine ra_iald C dX7_gives_106 h106 (by decide) rfl rfl ?_
      refine ra_mask [true, true, true, true, false, false] ?_
      exact bX7_gives_b107 C hrec15 _ _ _ _ _ _ _ _ hf
    · replace hf := rif_p c87 hf
      refine ra_aload_n C dX7_gives_90 rfl rfl ?_
      refine ra_iconst C dX7_gives_91 (v := 1) (by decide) ?_
      refine ra_iconst C dX7_gives_92 (v := (-1)) (by decide) ?_
      refine ra_iconst C dX7_gives_93 (v := (-1)) (by decide) ?_
      obtain ⟨q94, h94, hf⟩ := rob hf
      refine ra_callVi C dX7_gives_94 (mX7_makesType h94) rfl tX7_l167 tX7_i_X7_makesType tX7_s_X7_makesType tX7_init tX7_c_X7_makesType tX7_d_X7_makesType (by decide) (by decide) (Nat.le_of_ble_eq_true rfl) ?_
      refine ra_goto C dX7_gives_97 (tgt := 107) (by decide) ?_
      refine ra_mask [true, true, true, true, false, false] ?_
      exact bX7_gives_b107 C hrec15 _ _ _ _ _ _ _ _ hf
set_option maxRecDepth 100000 in
set_option maxHeartbeats 4000000 in
theorem bX7_gives_b15_body {G : rG} {X : rX} (C : rC G X 6 cX7_gives (some .int) 2) {r : Int32 × rS} {rec15 : Int32 → Int32 → Int32 → rS → Option (Int32 × rS)} (hrec15 : ∀ (l1 : Int32) (l2 : Int32) (l3 : Int32) (S : rS), rec15 l1 l2 l3 S = some r → rAW G X 6 (some (.int r.1), r.2) 15 [some (.ref G.2.2.2.1), some (.int l1), some (.int l2), some (.int l3), none, none] [] S) (l1 : Int32) (l2 : Int32) (l3 : Int32) (S : rS) (hf : fX7_gives_b15_body rec15 l1 l2 l3 S = some r) : rAW G X 6 (some (.int r.1), r.2) 15 [some (.ref G.2.2.2.1), some (.int l1), some (.int l2), some (.int l3), none, none] [] S := by
  unfold fX7_gives_b15_body at hf
  refine ra_iload_n C dX7_gives_15 rfl rfl ?_
  refine ra_bipush C dX7_gives_16 (v := 20) (by decide) ?_
  refine ra_iload_n C dX7_gives_18 rfl rfl ?_
  refine ra_imul C dX7_gives_19 ?_
  refine ra_aload_n C dX7_gives_20 rfl rfl ?_
  refine ra_getR C dX7_gives_21 (k := 18) (by decide) rfl rX7_in tX7_f56 rfl ?_
  refine ra_iload_n C dX7_gives_24 rfl rfl ?_
  obtain ⟨x25, h25, hf⟩ := rob hf
  refine ra_iald C dX7_gives_25 h25 (by decide) rfl rfl ?_
  refine ra_iadd C dX7_gives_26 ?_
  refine ra_icmp_ge C dX7_gives_27 (tgt := 218) (by decide) (fun c27 => ?_) (fun c27 => ?_)
  · replace hf := rif_p c27 hf
    refine ra_aload_n C dX7_gives_218 rfl rfl ?_
    refine ra_dup C dX7_gives_219 rfl ?_
    refine ra_getI C dX7_gives_220 (k := 4) (by decide) rfl rX7_in tX7_f198 rfl ?_
    refine ra_iconst C dX7_gives_223 (v := 1) (by decide) ?_
    refine ra_iadd C dX7_gives_224 ?_
    refine ra_putI C dX7_gives_225 (k := 4) (by decide) rfl rX7_in tX7_f198 rfl rfl (tyX7_ok 4 (by decide)) ?_
    refine ra_aload_n C dX7_gives_228 rfl rfl ?_
    refine ra_getI C dX7_gives_229 (k := 4) (by decide) rfl rX7_in tX7_f198 rfl ?_
    refine ra_iconst C dX7_gives_232 (v := 1) (by decide) ?_
    refine ra_isub C dX7_gives_233 ?_
    obtain rfl := Option.some.inj hf
    exact ra_iret C dX7_gives_234
  · replace hf := rif_n c27 hf
    refine ra_aload_n C dX7_gives_30 rfl rfl ?_
    refine ra_getR C dX7_gives_31 (k := 23) (by decide) rfl rX7_in tX7_f71 rfl ?_
    refine ra_iload_n C dX7_gives_34 rfl rfl ?_
    obtain ⟨x35, h35, hf⟩ := rob hf
    refine ra_iald C dX7_gives_35 h35 (by decide) rfl rfl ?_
    refine ra_iconst C dX7_gives_36 (v := (-1)) (by decide) ?_
    refine ra_icmp_ne C dX7_gives_37 (tgt := 44) (by decide) (fun c37 => ?_) (fun c37 => ?_)
    · replace hf := rif_n c37 hf
      refine ra_aload_n C dX7_gives_44 rfl rfl ?_
      refine ra_iload_n C dX7_gives_45 rfl rfl ?_
      refine ra_aload_n C dX7_gives_46 rfl rfl ?_
      refine ra_getR C dX7_gives_47 (k := 19) (by decide) rfl rX7_in tX7_f59 rfl ?_
      refine ra_iload_n C dX7_gives_50 rfl rfl ?_
      obtain ⟨x51, h51, hf⟩ := rob hf
      refine ra_iald C dX7_gives_51 h51 (by decide) rfl rfl ?_
      refine ra_aload_n C dX7_gives_52 rfl rfl ?_
      refine ra_getR C dX7_gives_53 (k := 23) (by decide) rfl rX7_in tX7_f71 rfl ?_
      refine ra_iload_n C dX7_gives_56 rfl rfl ?_
      obtain ⟨x57, h57, hf⟩ := rob hf
      refine ra_iald C dX7_gives_57 h57 (by decide) rfl rfl ?_
      obtain ⟨q58, h58, hf⟩ := rob hf
      refine ra_callVi C dX7_gives_58 (mX7_findsItem h58) rfl tX7_l181 tX7_i_X7_findsItem tX7_s_X7_findsItem tX7_init tX7_c_X7_findsItem tX7_d_X7_findsItem (by decide) (by decide) (Nat.le_of_ble_eq_true rfl) ?_
      exact bX7_gives_b61 C hrec15 _ _ _ _ _ hf
    · replace hf := rif_p c37 hf
      refine ra_iconst C dX7_gives_40 (v := (-1)) (by decide) ?_
      refine ra_goto C dX7_gives_41 (tgt := 61) (by decide) ?_
      exact bX7_gives_b61 C hrec15 _ _ _ _ _ hf
set_option maxRecDepth 100000 in
set_option maxHeartbeats 4000000 in
theorem bX7_gives_b15 {G : rG} {X : rX} (C : rC G X 6 cX7_gives (some .int) 2) {r : Int32 × rS} : ∀ (n : Nat) (l1 : Int32) (l2 : Int32) (l3 : Int32) (S : rS), fX7_gives_b15 n l1 l2 l3 S = some r → rAW G X 6 (some (.int r.1), r.2) 15 [some (.ref G.2.2.2.1), some (.int l1), some (.int l2), some (.int l3), none, none] [] S := by
  intro n
  induction n with
  | zero => intro l1 l2 l3 S hf; cases hf
  | succ n ih => intro l1 l2 l3 S hf; exact bX7_gives_b15_body C (fun l1 l2 l3 S h => ih l1 l2 l3 S h) l1 l2 l3 S hf
set_option maxRecDepth 100000 in
set_option maxHeartbeats 4000000 in
theorem bX7_gives {G : rG} {X : rX} (C : rC G X 6 cX7_gives (some .int) 2) (a0 : Int32) (a1 : Int32) (S : rS) {r : Int32 × rS} (hf : fX7_gives a0 a1 S = some r) : rAW G X 6 (some (.int r.1), r.2) 0 [some (.ref G.2.2.2.1), some (.int a0), some (.int a1), none, none, none] [] S := by
  unfold fX7_gives at hf
  refine ra_aload_n C dX7_gives_0 rfl rfl ?_
  refine ra_getR C dX7_gives_1 (k := 5) (by decide) rfl rX7_in tX7_f23 rfl ?_
  refine ra_aload_n C dX7_gives_4 rfl rfl ?_
  refine ra_getI C dX7_gives_5 (k := 4) (by decide) rfl rX7_in tX7_f198 rfl ?_
  refine ra_iconst C dX7_gives_8 (v := 0) (by decide) ?_
  obtain ⟨S9, h9, hf⟩ := rob hf
  refine ra_iast C dX7_gives_9 h9 (by decide) rfl rfl ?_
  refine ra_bipush C dX7_gives_10 (v := 20) (by decide) ?_
  refine ra_iload_n C dX7_gives_12 rfl rfl ?_
  refine ra_imul C dX7_gives_13 ?_
  refine ra_istore_n C dX7_gives_14 rfl (by decide) ?_
  exact bX7_gives_b15 C _ _ _ _ _ hf
set_option maxRecDepth 100000 in
set_option maxHeartbeats 4000000 in
theorem mX7_gives {l : Launch} {G : rG} {a0 : Int32} {a1 : Int32} {S : rS} {r : Int32 × rS} (hf : fX7_gives a0 a1 S = some r) : rM l G 2 yX7_gives cX7_gives 6 (some .int) [.ref G.2.2.2.1, .int a0, .int a1] S (some (.int r.1), r.2) :=
  rM_of (lo0 := [some (.ref G.2.2.2.1), some (.int a0), some (.int a1), none, none, none]) (by decide +kernel) rfl (Nat.le_of_ble_eq_true rfl) (by simp [Value.category]) rfl (fun X _ C => bX7_gives C a0 a1 S hf)
set_option maxRecDepth 100000 in
set_option maxHeartbeats 4000000 in
theorem bX7_apply_b282 {G : rG} {X : rX} (C : rC G X 9 cX7_apply (some .int) 5) {r : Int32 × rS} (l4 : Int32) (l8 : Int32) (s0 : Int32) (S : rS) (hf : fX7_apply_b282 l4 l8 s0 S = some r) : rAW G X 9 (some (.int r.1), r.2) 282 [some (.ref G.2.2.2.1), none, none, none, some (.int l4), none, none, none, some (.int l8)] [.int s0, .ref G.2.2.2.1] S := by
  unfold fX7_apply_b282 at hf
  obtain ⟨q282, h282, hf⟩ := rob hf
  refine ra_callVi C dX7_apply_282 (mX7_fails h282) rfl tX7_l175 tX7_i_X7_fails tX7_s_X7_fails tX7_init tX7_c_X7_fails tX7_d_X7_fails (by decide) (by decide) (Nat.le_of_ble_eq_true rfl) ?_
  refine ra_if_eq C dX7_apply_285 (tgt := 290) (by decide) (fun c285 => ?_) (fun c285 => ?_)
  · replace hf := rif_p c285 hf
    refine ra_aload_n C dX7_apply_290 rfl rfl ?_
    refine ra_getR C dX7_apply_291 (k := 28) (by decide) rfl rX7_in tX7_f87 rfl ?_
    refine ra_iload C dX7_apply_294 rfl ?_
    refine ra_iload C dX7_apply_296 rfl ?_
    obtain ⟨S298, h298, hf⟩ := rob hf
    refine ra_iast C dX7_apply_298 h298 (by decide) rfl rfl ?_
    refine ra_iload C dX7_apply_299 rfl ?_
    obtain rfl := Option.some.inj hf
    exact ra_iret C dX7_apply_301
  · replace hf := rif_n c285 hf
    refine ra_iconst C dX7_apply_288 (v := 0) (by decide) ?_
    obtain rfl := Option.some.inj hf
    exact ra_iret C dX7_apply_289
set_option maxRecDepth 100000 in
set_option maxHeartbeats 4000000 in
theorem bX7_apply_b260 {G : rG} {X : rX} (C : rC G X 9 cX7_apply (some .int) 5) {r : Int32 × rS} (l3 : Int32) (l4 : Int32) (l7 : Int32) (l8 : Int32) (s0 : Int32) (S : rS) (hf : fX7_apply_b260 l3 l4 l7 l8 s0 S = some r) : rAW G X 9 (some (.int r.1), r.2) 260 [some (.ref G.2.2.2.1), none, none, some (.int l3), some (.int l4), none, none, some (.int l7), some (.int l8)] [.int s0, .ref G.2.2.2.1] S := by
  unfold fX7_apply_b260 at hf
  refine ra_putI C dX7_apply_260 (k := 4) (by decide) rfl rX7_in tX7_f198 rfl rfl (tyX7_ok 4 (by decide)) ?_
  refine ra_aload_n C dX7_apply_263 rfl rfl ?_
  refine ra_iload_n C dX7_apply_264 rfl rfl ?_
  refine ra_if_ne C dX7_apply_265 (tgt := 272) (by decide) (fun c265 => ?_) (fun c265 => ?_)
  · replace hf := rif_n c265 hf
    refine ra_iload C dX7_apply_272 rfl ?_
    refine ra_if_eq C dX7_apply_274 (tgt := 281) (by decide) (fun c274 => ?_) (fun c274 => ?_)
    · replace hf := rif_p c274 hf
      refine ra_iconst C dX7_apply_281 (v := 2) (by decide) ?_
      refine ra_mask [true, false, false, false, true, false, false, false, true] ?_
      exact bX7_apply_b282 C _ _ _ _ hf
    · replace hf := rif_n c274 hf
      refine ra_iconst C dX7_apply_277 (v := 0) (by decide) ?_
      refine ra_goto C dX7_apply_278 (tgt := 282) (by decide) ?_
      refine ra_mask [true, false, false, false, true, false, false, false, true] ?_
      exact bX7_apply_b282 C _ _ _ _ hf
  · replace hf := rif_p c265 hf
    refine ra_iconst C dX7_apply_268 (v := 1) (by decide) ?_
    refine ra_goto C dX7_apply_269 (tgt := 282) (by decide) ?_
    refine ra_mask [true, false, false, false, true, false, false, false, true] ?_
    exact bX7_apply_b282 C _ _ _ _ hf
set_option maxRecDepth 100000 in
set_option maxHeartbeats 4000000 in
theorem bX7_apply_b242 {G : rG} {X : rX} (C : rC G X 9 cX7_apply (some .int) 5) {r : Int32 × rS} (l3 : Int32) (l4 : Int32) (l6 : Int32) (l7 : Int32) (l8 : Int32) (s0 : Int32) (S : rS) (hf : fX7_apply_b242 l3 l4 l6 l7 l8 s0 S = some r) : rAW G X 9 (some (.int r.1), r.2) 242 [some (.ref G.2.2.2.1), none, none, some (.int l3), some (.int l4), none, some (.int l6), some (.int l7), some (.int l8)] [.int s0, .ref G.2.2.2.1] S := by
  unfold fX7_apply_b242 at hf
  refine ra_putI C dX7_apply_242 (k := 0) (by decide) rfl rX7_in tX7_f7 rfl rfl (tyX7_ok 0 (by decide)) ?_
  refine ra_aload_n C dX7_apply_245 rfl rfl ?_
  refine ra_iload C dX7_apply_246 rfl ?_
  refine ra_if_eq C dX7_apply_248 (tgt := 258) (by decide) (fun c248 => ?_) (fun c248 => ?_)
  · replace hf := rif_p c248 hf
    refine ra_iload C dX7_apply_258 rfl ?_
    refine ra_mask [true, false, false, true, true, false, false, true, true] ?_
    exact bX7_apply_b260 C _ _ _ _ _ _ hf
  · replace hf := rif_n c248 hf
    refine ra_aload_n C dX7_apply_251 rfl rfl ?_
    refine ra_getI C dX7_apply_252 (k := 4) (by decide) rfl rX7_in tX7_f198 rfl ?_
    refine ra_goto C dX7_apply_255 (tgt := 260) (by decide) ?_
    refine ra_mask [true, false, false, true, true, false, false, true, true] ?_
    exact bX7_apply_b260 C _ _ _ _ _ _ hf
set_option maxRecDepth 100000 in
set_option maxHeartbeats 4000000 in
theorem bX7_apply_b225 {G : rG} {X : rX} (C : rC G X 9 cX7_apply (some .int) 5) {r : Int32 × rS} (l3 : Int32) (l4 : Int32) (l5 : Int32) (l6 : Int32) (l8 : Int32) (s0 : Int32) (S : rS) (hf : fX7_apply_b225 l3 l4 l5 l6 l8 s0 S = some r) : rAW G X 9 (some (.int r.1), r.2) 225 [some (.ref G.2.2.2.1), none, none, some (.int l3), some (.int l4), some (.int l5), some (.int l6), none, some (.int l8)] [.int s0] S := by
  unfold fX7_apply_b225 at hf
  refine ra_istore C dX7_apply_225 (by decide) ?_
  refine ra_aload_n C dX7_apply_227 rfl rfl ?_
  refine ra_iload C dX7_apply_228 rfl ?_
  refine ra_if_eq C dX7_apply_230 (tgt := 240) (by decide) (fun c230 => ?_) (fun c230 => ?_)
  · replace hf := rif_p c230 hf
    refine ra_iload C dX7_apply_240 rfl ?_
    refine ra_mask [true, false, false, true, true, false, true, true, true] ?_
    exact bX7_apply_b242 C _ _ _ _ _ _ _ hf
  · replace hf := rif_n c230 hf
    refine ra_aload_n C dX7_apply_233 rfl rfl ?_
    refine ra_getI C dX7_apply_234 (k := 0) (by decide) rfl rX7_in tX7_f7 rfl ?_
    refine ra_goto C dX7_apply_237 (tgt := 242) (by decide) ?_
    refine ra_mask [true, false, false, true, true, false, true, true, true] ?_
    exact bX7_apply_b242 C _ _ _ _ _ _ _ hf
set_option maxRecDepth 100000 in
set_option maxHeartbeats 4000000 in
theorem bX7_apply_b224 {G : rG} {X : rX} (C : rC G X 9 cX7_apply (some .int) 5) {r : Int32 × rS} (l3 : Int32) (l4 : Int32) (l5 : Int32) (l6 : Int32) (l8 : Int32) (S : rS) (hf : fX7_apply_b224 l3 l4 l5 l6 l8 S = some r) : rAW G X 9 (some (.int r.1), r.2) 224 [some (.ref G.2.2.2.1), none, none, some (.int l3), some (.int l4), some (.int l5), some (.int l6), none, some (.int l8)] [] S := by
  unfold fX7_apply_b224 at hf
  refine ra_iconst C dX7_apply_224 (v := 0) (by decide) ?_
  exact bX7_apply_b225 C _ _ _ _ _ _ _ hf
set_option maxRecDepth 100000 in
set_option maxHeartbeats 4000000 in
theorem bX7_apply_b196 {G : rG} {X : rX} (C : rC G X 9 cX7_apply (some .int) 5) {r : Int32 × rS} (l3 : Int32) (l4 : Int32) (l5 : Int32) (l6 : Int32) (l7 : Int32) (l8 : Int32) (S : rS) (hf : fX7_apply_b196 l3 l4 l5 l6 l7 l8 S = some r) : rAW G X 9 (some (.int r.1), r.2) 196 [some (.ref G.2.2.2.1), none, none, some (.int l3), some (.int l4), some (.int l5), some (.int l6), some (.int l7), some (.int l8)] [] S := by
  unfold fX7_apply_b196 at hf
  refine ra_iload C dX7_apply_196 rfl ?_
  refine ra_if_eq C dX7_apply_198 (tgt := 224) (by decide) (fun c198 => ?_) (fun c198 => ?_)
  · replace hf := rif_p c198 hf
    refine ra_mask [true, false, false, true, true, true, true, false, true] ?_
    exact bX7_apply_b224 C _ _ _ _ _ _ hf
  · replace hf := rif_n c198 hf
    refine ra_aload_n C dX7_apply_201 rfl rfl ?_
    refine ra_getI C dX7_apply_202 (k := 0) (by decide) rfl rX7_in tX7_f7 rfl ?_
    refine ra_sipush C dX7_apply_205 (v := 200) (by decide) ?_
    refine ra_icmp_gt C dX7_apply_208 (tgt := 224) (by decide) (fun c208 => ?_) (fun c208 => ?_)
    · replace hf := rif_p c208 hf
      refine ra_mask [true, false, false, true, true, true, true, false, true] ?_
      exact bX7_apply_b224 C _ _ _ _ _ _ hf
    · replace hf := rif_n c208 hf
      refine ra_aload_n C dX7_apply_211 rfl rfl ?_
      refine ra_getI C dX7_apply_212 (k := 4) (by decide) rfl rX7_in tX7_f198 rfl ?_
      refine ra_bipush C dX7_apply_215 (v := 30) (by decide) ?_
      refine ra_icmp_gt C dX7_apply_217 (tgt := 224) (by decide) (fun c217 => ?_) (fun c217 => ?_)
      · replace hf := rif_p c217 hf
        refine ra_mask [true, false, false, true, true, true, true, false, true] ?_
        exact bX7_apply_b224 C _ _ _ _ _ _ hf
      · replace hf := rif_n c217 hf
        refine ra_iconst C dX7_apply_220 (v := 1) (by decide) ?_
        refine ra_goto C dX7_apply_221 (tgt := 225) (by decide) ?_
        refine ra_mask [true, false, false, true, true, true, true, false, true] ?_
        exact bX7_apply_b225 C _ _ _ _ _ _ _ hf
set_option maxRecDepth 100000 in
set_option maxHeartbeats 4000000 in
theorem bX7_apply_b194 {G : rG} {X : rX} (C : rC G X 9 cX7_apply (some .int) 5) {r : Int32 × rS} (l3 : Int32) (l4 : Int32) (l5 : Int32) (l6 : Int32) (l7 : Int32) (s0 : Int32) (S : rS) (hf : fX7_apply_b194 l3 l4 l5 l6 l7 s0 S = some r) : rAW G X 9 (some (.int r.1), r.2) 194 [some (.ref G.2.2.2.1), none, none, some (.int l3), some (.int l4), some (.int l5), some (.int l6), some (.int l7), none] [.int s0] S := by
  unfold fX7_apply_b194 at hf
  refine ra_istore C dX7_apply_194 (by decide) ?_
  exact bX7_apply_b196 C _ _ _ _ _ _ _ hf
set_option maxRecDepth 100000 in
set_option maxHeartbeats 4000000 in
theorem bX7_apply_b170 {G : rG} {X : rX} (C : rC G X 9 cX7_apply (some .int) 5) {r : Int32 × rS} (l1 : Int32) (l3 : Int32) (l4 : Int32) (l5 : Int32) (l6 : Int32) (l8 : Int32) (s0 : Int32) (S : rS) (hf : fX7_apply_b170 l1 l3 l4 l5 l6 l8 s0 S = some r) : rAW G X 9 (some (.int r.1), r.2) 170 [some (.ref G.2.2.2.1), some (.int l1), none, some (.int l3), some (.int l4), some (.int l5), some (.int l6), none, some (.int l8)] [.int s0] S := by
  unfold fX7_apply_b170 at hf
  refine ra_istore C dX7_apply_170 (by decide) ?_
  refine ra_iload C dX7_apply_172 rfl ?_
  refine ra_if_eq C dX7_apply_174 (tgt := 193) (by decide) (fun c174 => ?_) (fun c174 => ?_)
  · replace hf := rif_p c174 hf
    refine ra_iconst C dX7_apply_193 (v := (-1)) (by decide) ?_
    refine ra_mask [true, false, false, true, true, true, true, true, false] ?_
    exact bX7_apply_b194 C _ _ _ _ _ _ _ hf
  · replace hf := rif_n c174 hf
    refine ra_aload_n C dX7_apply_177 rfl rfl ?_
    refine ra_iconst C dX7_apply_178 (v := 0) (by decide) ?_
    refine ra_iload C dX7_apply_179 rfl ?_
    refine ra_aload_n C dX7_apply_181 rfl rfl ?_
    refine ra_getR C dX7_apply_182 (k := 26) (by decide) rfl rX7_in tX7_f80 rfl ?_
    refine ra_iload_n C dX7_apply_185 rfl rfl ?_
    obtain ⟨x186, h186, hf⟩ := rob hf
    refine ra_iald C dX7_apply_186 h186 (by decide) rfl rfl ?_
    obtain ⟨q187, h187, hf⟩ := rob hf
    refine ra_callVi C dX7_apply_187 (mX7_makes h187) rfl tX7_l260 tX7_i_X7_makes tX7_s_X7_makes tX7_init tX7_c_X7_makes tX7_d_X7_makes (by decide) (by decide) (Nat.le_of_ble_eq_true rfl) ?_
    refine ra_goto C dX7_apply_190 (tgt := 194) (by decide) ?_
    refine ra_mask [true, false, false, true, true, true, true, true, false] ?_
    exact bX7_apply_b194 C _ _ _ _ _ _ _ hf
set_option maxRecDepth 100000 in
set_option maxHeartbeats 4000000 in
theorem bX7_apply_b133 {G : rG} {X : rX} (C : rC G X 9 cX7_apply (some .int) 5) {r : Int32 × rS} (l1 : Int32) (l3 : Int32) (l4 : Int32) (l5 : Int32) (l6 : Int32) (l7 : Int32) (s0 : Int32) (S : rS) (hf : fX7_apply_b133 l1 l3 l4 l5 l6 l7 s0 S = some r) : rAW G X 9 (some (.int r.1), r.2) 133 [some (.ref G.2.2.2.1), some (.int l1), none, some (.int l3), some (.int l4), some (.int l5), some (.int l6), some (.int l7), none] [.int s0] S := by
  unfold fX7_apply_b133 at hf
  refine ra_istore C dX7_apply_133 (by decide) ?_
  refine ra_iload C dX7_apply_135 rfl ?_
  refine ra_if_eq C dX7_apply_137 (tgt := 196) (by decide) (fun c137 => ?_) (fun c137 => ?_)
  · replace hf := rif_p c137 hf
    refine ra_mask [true, false, false, true, true, true, true, true, true] ?_
    exact bX7_apply_b196 C _ _ _ _ _ _ _ hf
  · replace hf := rif_n c137 hf
    refine ra_aload_n C dX7_apply_140 rfl rfl ?_
    refine ra_getR C dX7_apply_141 (k := 26) (by decide) rfl rX7_in tX7_f80 rfl ?_
    refine ra_iload_n C dX7_apply_144 rfl rfl ?_
    obtain ⟨x145, h145, hf⟩ := rob hf
    refine ra_iald C dX7_apply_145 h145 (by decide) rfl rfl ?_
    refine ra_iconst C dX7_apply_146 (v := (-1)) (by decide) ?_
    refine ra_icmp_eq C dX7_apply_147 (tgt := 196) (by decide) (fun c147 => ?_) (fun c147 => ?_)
    · replace hf := rif_p c147 hf
      refine ra_mask [true, false, false, true, true, true, true, true, true] ?_
      exact bX7_apply_b196 C _ _ _ _ _ _ _ hf
    · replace hf := rif_n c147 hf
      refine ra_aload_n C dX7_apply_150 rfl rfl ?_
      refine ra_iload C dX7_apply_151 rfl ?_
      refine ra_aload_n C dX7_apply_153 rfl rfl ?_
      refine ra_getR C dX7_apply_154 (k := 26) (by decide) rfl rX7_in tX7_f80 rfl ?_
      refine ra_iload_n C dX7_apply_157 rfl rfl ?_
      obtain ⟨x158, h158, hf⟩ := rob hf
      refine ra_iald C dX7_apply_158 h158 (by decide) rfl rfl ?_
      obtain ⟨q159, h159, hf⟩ := rob hf
      refine ra_callVi C dX7_apply_159 (mX7_matchOf h159) rfl tX7_l233 tX7_i_X7_matchOf tX7_s_X7_matchOf tX7_init tX7_c_X7_matchOf tX7_d_X7_matchOf (by decide) (by decide) (Nat.le_of_ble_eq_true rfl) ?_
      refine ra_if_ne C dX7_apply_162 (tgt := 169) (by decide) (fun c162 => ?_) (fun c162 => ?_)
      · replace hf := rif_n c162 hf
        refine ra_iconst C dX7_apply_169 (v := 0) (by decide) ?_
        refine ra_mask [true, true, false, true, true, true, true, false, true] ?_
        exact bX7_apply_b170 C _ _ _ _ _ _ _ _ hf
      · replace hf := rif_p c162 hf
        refine ra_iconst C dX7_apply_165 (v := 1) (by decide) ?_
        refine ra_goto C dX7_apply_166 (tgt := 170) (by decide) ?_
        refine ra_mask [true, true, false, true, true, true, true, false, true] ?_
        exact bX7_apply_b170 C _ _ _ _ _ _ _ _ hf
set_option maxRecDepth 100000 in
set_option maxHeartbeats 4000000 in
theorem bX7_apply_b116 {G : rG} {X : rX} (C : rC G X 9 cX7_apply (some .int) 5) {r : Int32 × rS} (l1 : Int32) (l2 : Int32) (l3 : Int32) (l4 : Int32) (l5 : Int32) (l6 : Int32) (s0 : Int32) (S : rS) (hf : fX7_apply_b116 l1 l2 l3 l4 l5 l6 s0 S = some r) : rAW G X 9 (some (.int r.1), r.2) 116 [some (.ref G.2.2.2.1), some (.int l1), some (.int l2), some (.int l3), some (.int l4), some (.int l5), some (.int l6), none, none] [.int s0] S := by
  unfold fX7_apply_b116 at hf
  refine ra_istore C dX7_apply_116 (by decide) ?_
  refine ra_iload C dX7_apply_118 rfl ?_
  refine ra_if_eq C dX7_apply_120 (tgt := 132) (by decide) (fun c120 => ?_) (fun c120 => ?_)
  · replace hf := rif_p c120 hf
    refine ra_iconst C dX7_apply_132 (v := (-1)) (by decide) ?_
    refine ra_mask [true, true, false, true, true, true, true, true, false] ?_
    exact bX7_apply_b133 C _ _ _ _ _ _ _ _ hf
  · replace hf := rif_n c120 hf
    refine ra_aload_n C dX7_apply_123 rfl rfl ?_
    refine ra_iload_n C dX7_apply_124 rfl rfl ?_
    refine ra_iload_n C dX7_apply_125 rfl rfl ?_
    obtain ⟨q126, h126, hf⟩ := rob hf
    refine ra_callVi C dX7_apply_126 (mX7_gives h126) rfl tX7_l292 tX7_i_X7_gives tX7_s_X7_gives tX7_init tX7_c_X7_gives tX7_d_X7_gives (by decide) (by decide) (Nat.le_of_ble_eq_true rfl) ?_
    refine ra_goto C dX7_apply_129 (tgt := 133) (by decide) ?_
    refine ra_mask [true, true, false, true, true, true, true, true, false] ?_
    exact bX7_apply_b133 C _ _ _ _ _ _ _ _ hf
set_option maxRecDepth 100000 in
set_option maxHeartbeats 4000000 in
theorem bX7_apply_b115 {G : rG} {X : rX} (C : rC G X 9 cX7_apply (some .int) 5) {r : Int32 × rS} (l1 : Int32) (l2 : Int32) (l3 : Int32) (l4 : Int32) (l5 : Int32) (l6 : Int32) (S : rS) (hf : fX7_apply_b115 l1 l2 l3 l4 l5 l6 S = some r) : rAW G X 9 (some (.int r.1), r.2) 115 [some (.ref G.2.2.2.1), some (.int l1), some (.int l2), some (.int l3), some (.int l4), some (.int l5), some (.int l6), none, none] [] S := by
  unfold fX7_apply_b115 at hf
  refine ra_iconst C dX7_apply_115 (v := 0) (by decide) ?_
  exact bX7_apply_b116 C _ _ _ _ _ _ _ _ hf
set_option maxRecDepth 100000 in
set_option maxHeartbeats 4000000 in
theorem bX7_apply_b81 {G : rG} {X : rX} (C : rC G X 9 cX7_apply (some .int) 5) {r : Int32 × rS} (l1 : Int32) (l2 : Int32) (l3 : Int32) (l4 : Int32) (S : rS) (hf : fX7_apply_b81 l1 l2 l3 l4 S = some r) : rAW G X 9 (some (.int r.1), r.2) 81 [some (.ref G.2.2.2.1), some (.int l1), some (.int l2), some (.int l3), some (.int l4), none, none, none, none] [] S := by
  unfold fX7_apply_b81 at hf
  refine ra_aload_n C dX7_apply_81 rfl rfl ?_
  refine ra_getI C dX7_apply_82 (k := 0) (by decide) rfl rX7_in tX7_f7 rfl ?_
  refine ra_istore C dX7_apply_85 (by decide) ?_
  refine ra_aload_n C dX7_apply_87 rfl rfl ?_
  refine ra_getI C dX7_apply_88 (k := 4) (by decide) rfl rX7_in tX7_f198 rfl ?_
  refine ra_istore C dX7_apply_91 (by decide) ?_
  refine ra_iload_n C dX7_apply_93 rfl rfl ?_
  refine ra_if_eq C dX7_apply_94 (tgt := 115) (by decide) (fun c94 => ?_) (fun c94 => ?_)
  · replace hf := rif_p c94 hf
    exact bX7_apply_b115 C _ _ _ _ _ _ _ hf
  · replace hf := rif_n c94 hf
    refine ra_aload_n C dX7_apply_97 rfl rfl ?_
    refine ra_iload_n C dX7_apply_98 rfl rfl ?_
    refine ra_aload_n C dX7_apply_99 rfl rfl ?_
    refine ra_getR C dX7_apply_100 (k := 25) (by decide) rfl rX7_in tX7_f77 rfl ?_
    refine ra_iload_n C dX7_apply_103 rfl rfl ?_
    obtain ⟨x104, h104, hf⟩ := rob hf
    refine ra_iald C dX7_apply_104 h104 (by decide) rfl rfl ?_
    obtain ⟨q105, h105, hf⟩ := rob hf
    refine ra_callVi C dX7_apply_105 (mX7_matchOf h105) rfl tX7_l233 tX7_i_X7_matchOf tX7_s_X7_matchOf tX7_init tX7_c_X7_matchOf tX7_d_X7_matchOf (by decide) (by decide) (Nat.le_of_ble_eq_true rfl) ?_
    refine ra_if_ne C dX7_apply_108 (tgt := 115) (by decide) (fun c108 => ?_) (fun c108 => ?_)
    · replace hf := rif_n c108 hf
      exact bX7_apply_b115 C _ _ _ _ _ _ _ hf
    · replace hf := rif_p c108 hf
      refine ra_iconst C dX7_apply_111 (v := 1) (by decide) ?_
      refine ra_goto C dX7_apply_112 (tgt := 116) (by decide) ?_
      exact bX7_apply_b116 C _ _ _ _ _ _ _ _ hf
set_option maxRecDepth 100000 in
set_option maxHeartbeats 4000000 in
theorem bX7_apply_b42 {G : rG} {X : rX} (C : rC G X 9 cX7_apply (some .int) 5) {r : Int32 × rS} (l1 : Int32) (l2 : Int32) (l3 : Int32) (s0 : Int32) (S : rS) (hf : fX7_apply_b42 l1 l2 l3 s0 S = some r) : rAW G X 9 (some (.int r.1), r.2) 42 [some (.ref G.2.2.2.1), some (.int l1), some (.int l2), some (.int l3), none, none, none, none, none] [.int s0] S := by
  unfold fX7_apply_b42 at hf
  refine ra_istore C dX7_apply_42 (by decide) ?_
  refine ra_iload_n C dX7_apply_44 rfl rfl ?_
  refine ra_if_eq C dX7_apply_45 (tgt := 81) (by decide) (fun c45 => ?_) (fun c45 => ?_)
  · replace hf := rif_p c45 hf
    exact bX7_apply_b81 C _ _ _ _ _ hf
  · replace hf := rif_n c45 hf
    refine ra_aload_n C dX7_apply_48 rfl rfl ?_
    refine ra_getR C dX7_apply_49 (k := 27) (by decide) rfl rX7_in tX7_f83 rfl ?_
    refine ra_iload_n C dX7_apply_52 rfl rfl ?_
    obtain ⟨x53, h53, hf⟩ := rob hf
    refine ra_bald C dX7_apply_53 h53 (by decide) rfl rfl ?_
    refine ra_if_eq C dX7_apply_54 (tgt := 81) (by decide) (fun c54 => ?_) (fun c54 => ?_)
    · replace hf := rif_p c54 hf
      exact bX7_apply_b81 C _ _ _ _ _ hf
    · replace hf := rif_n c54 hf
      refine ra_aload_n C dX7_apply_57 rfl rfl ?_
      refine ra_getR C dX7_apply_58 (k := 28) (by decide) rfl rX7_in tX7_f87 rfl ?_
      refine ra_iload C dX7_apply_61 rfl ?_
      obtain ⟨x63, h63, hf⟩ := rob hf
      refine ra_iald C dX7_apply_63 h63 (by decide) rfl rfl ?_
      refine ra_iconst C dX7_apply_64 (v := (-1)) (by decide) ?_
      refine ra_icmp_eq C dX7_apply_65 (tgt := 81) (by decide) (fun c65 => ?_) (fun c65 => ?_)
      · replace hf := rif_p c65 hf
        exact bX7_apply_b81 C _ _ _ _ _ hf
      · replace hf := rif_n c65 hf
        refine ra_aload_n C dX7_apply_68 rfl rfl ?_
        refine ra_iconst C dX7_apply_69 (v := 0) (by decide) ?_
        refine ra_putI C dX7_apply_70 (k := 54) (by decide) rfl rX7_in tX7_f156 rfl rfl (tyX7_ok 54 (by decide)) ?_
        refine ra_aload_n C dX7_apply_73 rfl rfl ?_
        refine ra_getR C dX7_apply_74 (k := 28) (by decide) rfl rX7_in tX7_f87 rfl ?_
        refine ra_iload C dX7_apply_77 rfl ?_
        obtain ⟨x79, h79, hf⟩ := rob hf
        refine ra_iald C dX7_apply_79 h79 (by decide) rfl rfl ?_
        obtain rfl := Option.some.inj hf
        exact ra_iret C dX7_apply_80
set_option maxRecDepth 100000 in
set_option maxHeartbeats 4000000 in
theorem bX7_apply_b27 {G : rG} {X : rX} (C : rC G X 9 cX7_apply (some .int) 5) {r : Int32 × rS} (l1 : Int32) (l2 : Int32) (s0 : Int32) (S : rS) (hf : fX7_apply_b27 l1 l2 s0 S = some r) : rAW G X 9 (some (.int r.1), r.2) 27 [some (.ref G.2.2.2.1), some (.int l1), some (.int l2), none, none, none, none, none, none] [.int s0] S := by
  unfold fX7_apply_b27 at hf
  refine ra_istore_n C dX7_apply_27 rfl (by decide) ?_
  refine ra_iload_n C dX7_apply_28 rfl rfl ?_
  refine ra_if_eq C dX7_apply_29 (tgt := 41) (by decide) (fun c29 => ?_) (fun c29 => ?_)
  · replace hf := rif_p c29 hf
    refine ra_iconst C dX7_apply_41 (v := 0) (by decide) ?_
    exact bX7_apply_b42 C _ _ _ _ _ hf
  · replace hf := rif_n c29 hf
    refine ra_bipush C dX7_apply_32 (v := 30) (by decide) ?_
    refine ra_iload_n C dX7_apply_34 rfl rfl ?_
    refine ra_imul C dX7_apply_35 ?_
    refine ra_iload_n C dX7_apply_36 rfl rfl ?_
    refine ra_iadd C dX7_apply_37 ?_
    refine ra_goto C dX7_apply_38 (tgt := 42) (by decide) ?_
    exact bX7_apply_b42 C _ _ _ _ _ hf
set_option maxRecDepth 100000 in
set_option maxHeartbeats 4000000 in
theorem bX7_apply_b26 {G : rG} {X : rX} (C : rC G X 9 cX7_apply (some .int) 5) {r : Int32 × rS} (l1 : Int32) (l2 : Int32) (S : rS) (hf : fX7_apply_b26 l1 l2 S = some r) : rAW G X 9 (some (.int r.1), r.2) 26 [some (.ref G.2.2.2.1), some (.int l1), some (.int l2), none, none, none, none, none, none] [] S := by
  unfold fX7_apply_b26 at hf
  refine ra_iconst C dX7_apply_26 (v := 0) (by decide) ?_
  exact bX7_apply_b27 C _ _ _ _ hf
set_option maxRecDepth 100000 in
set_option maxHeartbeats 4000000 in
theorem bX7_apply {G : rG} {X : rX} (C : rC G X 9 cX7_apply (some .int) 5) (a0 : Int32) (a1 : Int32) (S : rS) {r : Int32 × rS} (hf : fX7_apply a0 a1 S = some r) : rAW G X 9 (some (.int r.1), r.2) 0 [some (.ref G.2.2.2.1), some (.int a0), some (.int a1), none, none, none, none, none, none] [] S := by
  unfold fX7_apply at hf
  refine ra_iload_n C dX7_apply_0 rfl rfl ?_
  refine ra_iconst C dX7_apply_1 (v := 0) (by decide) ?_
  refine ra_aload_n C dX7_apply_2 rfl rfl ?_
  refine ra_getI C dX7_apply_3 (k := 17) (by decide) rfl rX7_in tX7_f286 rfl ?_
  refine ra_iconst C dX7_apply_6 (v := 1) (by decide) ?_
  refine ra_isub C dX7_apply_7 ?_
  obtain ⟨q8, h8, hf⟩ := rob hf
  refine ra_callSi C dX7_apply_8 (mX7_isIn h8) rfl tX7_l159 tX7_st_X7_isIn tX7_init tX7_c_X7_isIn tX7_d_X7_isIn (by decide) (by decide) (Nat.le_of_ble_eq_true rfl) ?_
  refine ra_if_eq C dX7_apply_11 (tgt := 26) (by decide) (fun c11 => ?_) (fun c11 => ?_)
  · replace hf := rif_p c11 hf
    exact bX7_apply_b26 C _ _ _ hf
  · replace hf := rif_n c11 hf
    refine ra_aload_n C dX7_apply_14 rfl rfl ?_
    refine ra_iload_n C dX7_apply_15 rfl rfl ?_
    obtain ⟨q16, h16, hf⟩ := rob hf
    refine ra_callVi C dX7_apply_16 (mX7_isStructure h16) rfl tX7_l201 tX7_i_X7_isStructure tX7_s_X7_isStructure tX7_init tX7_c_X7_isStructure tX7_d_X7_isStructure (by decide) (by decide) (Nat.le_of_ble_eq_true rfl) ?_
    refine ra_if_eq C dX7_apply_19 (tgt := 26) (by decide) (fun c19 => ?_) (fun c19 => ?_)
    · replace hf := rif_p c19 hf
      exact bX7_apply_b26 C _ _ _ hf
    · replace hf := rif_n c19 hf
      refine ra_iconst C dX7_apply_22 (v := 1) (by decide) ?_
      refine ra_goto C dX7_apply_23 (tgt := 27) (by decide) ?_
      exact bX7_apply_b27 C _ _ _ _ hf
set_option maxRecDepth 100000 in
set_option maxHeartbeats 4000000 in
theorem mX7_apply {l : Launch} {G : rG} {a0 : Int32} {a1 : Int32} {S : rS} {r : Int32 × rS} (hf : fX7_apply a0 a1 S = some r) : rM l G 5 yX7_apply cX7_apply 9 (some .int) [.ref G.2.2.2.1, .int a0, .int a1] S (some (.int r.1), r.2) :=
  rM_of (lo0 := [some (.ref G.2.2.2.1), some (.int a0), some (.int a1), none, none, none, none, none, none]) (by decide +kernel) rfl (Nat.le_of_ble_eq_true rfl) (by simp [Value.category]) rfl (fun X _ C => bX7_apply C a0 a1 S hf)
