set_option maxRecDepth 100000 in
set_option maxHeartbeats 4000000 in
theorem bX7_isTold_b31 {G : rG} {X : rX} (C : rC G X 2 cX7_isTold (some .boolean) 2) {r : Int32 × rS} (s0 : Int32) (S : rS) (hf : fX7_isTold_b31 s0 S = some r) : rAW G X 2 (some (.int r.1), r.2) 31 [none, none] [.int s0] S := by
  unfold fX7_isTold_b31 at hf
  obtain ⟨rfl, hn⟩ := rbo_spec hf
  exact ra_zret C hn dX7_isTold_31
set_option maxRecDepth 100000 in
set_option maxHeartbeats 4000000 in
theorem bX7_isTold {G : rG} {X : rX} (C : rC G X 2 cX7_isTold (some .boolean) 2) (a0 : Int32) (S : rS) {r : Int32 × rS} (hf : fX7_isTold a0 S = some r) : rAW G X 2 (some (.int r.1), r.2) 0 [some (.ref G.2.2.2.1), some (.int a0)] [] S := by
  unfold fX7_isTold at hf
  refine ra_iload_n C dX7_isTold_0 rfl rfl ?_
  refine ra_if_lt C dX7_isTold_1 (tgt := 12) (by decide) (fun c1 => ?_) (fun c1 => ?_)
  · replace hf := rif_p c1 hf
    refine ra_aload_n C dX7_isTold_12 rfl rfl ?_
    refine ra_bipush C dX7_isTold_13 (v := 20) (by decide) ?_
    refine ra_iconst C dX7_isTold_15 (v := 0) (by decide) ?_
    refine ra_iconst C dX7_isTold_16 (v := (-1)) (by decide) ?_
    refine ra_iload_n C dX7_isTold_17 rfl rfl ?_
    refine ra_isub C dX7_isTold_18 ?_
    obtain ⟨q19, h19, hf⟩ := rob hf
    refine ra_callVi C dX7_isTold_19 (mX7_findsSpec h19) rfl tX7_l207 tX7_i_X7_findsSpec tX7_s_X7_findsSpec tX7_init tX7_c_X7_findsSpec tX7_d_X7_findsSpec (by decide) (by decide) (Nat.le_of_ble_eq_true rfl) ?_
    refine ra_iconst C dX7_isTold_22 (v := (-1)) (by decide) ?_
    refine ra_icmp_eq C dX7_isTold_23 (tgt := 30) (by decide) (fun c23 => ?_) (fun c23 => ?_)
    · replace hf := rif_p c23 hf
      refine ra_iconst C dX7_isTold_30 (v := 0) (by decide) ?_
      refine ra_mask [false, false] ?_
      exact bX7_isTold_b31 C _ _ hf
    · replace hf := rif_n c23 hf
      refine ra_iconst C dX7_isTold_26 (v := 1) (by decide) ?_
      refine ra_goto C dX7_isTold_27 (tgt := 31) (by decide) ?_
      refine ra_mask [false, false] ?_
      exact bX7_isTold_b31 C _ _ hf
  · replace hf := rif_n c1 hf
    refine ra_aload_n C dX7_isTold_4 rfl rfl ?_
    refine ra_iload_n C dX7_isTold_5 rfl rfl ?_
    obtain ⟨q6, h6, hf⟩ := rob hf
    refine ra_callVi C dX7_isTold_6 (mX7_isType h6) rfl tX7_l171 tX7_i_X7_isType tX7_s_X7_isType tX7_init tX7_c_X7_isType tX7_d_X7_isType (by decide) (by decide) (Nat.le_of_ble_eq_true rfl) ?_
    refine ra_goto C dX7_isTold_9 (tgt := 31) (by decide) ?_
    refine ra_mask [false, false] ?_
    exact bX7_isTold_b31 C _ _ hf
set_option maxRecDepth 100000 in
set_option maxHeartbeats 4000000 in
theorem mX7_isTold {l : Launch} {G : rG} {a0 : Int32} {S : rS} {r : Int32 × rS} (hf : fX7_isTold a0 S = some r) : rM l G 2 yX7_isTold cX7_isTold 2 (some .boolean) [.ref G.2.2.2.1, .int a0] S (some (.int r.1), r.2) :=
  rM_of (lo0 := [some (.ref G.2.2.2.1), some (.int a0)]) (by decide +kernel) rfl (Nat.le_of_ble_eq_true rfl) (by simp [Value.category]) rfl (fun X _ C => bX7_isTold C a0 S hf)
set_option maxRecDepth 100000 in
set_option maxHeartbeats 4000000 in
theorem bX7_specifies {G : rG} {X : rX} (C : rC G X 8 cX7_specifies none 0) (a0 : Int32) (a1 : Int32) (a2 : Int32) (a3 : Int32) (a4 : Int32) (a5 : Int32) (S : rS) {r : rS} (hf : fX7_specifies a0 a1 a2 a3 a4 a5 S = some r) : rAW G X 8 (none, r) 0 [some (.ref G.2.2.2.1), some (.int a0), some (.int a1), some (.int a2), some (.int a3), some (.int a4), some (.int a5), none] [] S := by
  unfold fX7_specifies at hf
  refine ra_bipush C dX7_specifies_0 (v := 60) (by decide) ?_
  refine ra_iload_n C dX7_specifies_2 rfl rfl ?_
  refine ra_imul C dX7_specifies_3 ?_
  refine ra_aload_n C dX7_specifies_4 rfl rfl ?_
  refine ra_getR C dX7_specifies_5 (k := 11) (by decide) rfl rX7_in tX7_f38 rfl ?_
  refine ra_iload_n C dX7_specifies_8 rfl rfl ?_
  obtain ⟨x9, h9, hf⟩ := rob hf
  refine ra_iald C dX7_specifies_9 h9 (by decide) rfl rfl ?_
  refine ra_iadd C dX7_specifies_10 ?_
  refine ra_istore C dX7_specifies_11 (by decide) ?_
  refine ra_aload_n C dX7_specifies_13 rfl rfl ?_
  refine ra_getR C dX7_specifies_14 (k := 13) (by decide) rfl rX7_in tX7_f44 rfl ?_
  refine ra_iload C dX7_specifies_17 rfl ?_
  refine ra_iload_n C dX7_specifies_19 rfl rfl ?_
  obtain ⟨S20, h20, hf⟩ := rob hf
  refine ra_iast C dX7_specifies_20 h20 (by decide) rfl rfl ?_
  refine ra_aload_n C dX7_specifies_21 rfl rfl ?_
  refine ra_getR C dX7_specifies_22 (k := 14) (by decide) rfl rX7_in tX7_f47 rfl ?_
  refine ra_iload C dX7_specifies_25 rfl ?_
  refine ra_iload_n C dX7_specifies_27 rfl rfl ?_
  obtain ⟨S28, h28, hf⟩ := rob hf
  refine ra_iast C dX7_specifies_28 h28 (by decide) rfl rfl ?_
  refine ra_aload_n C dX7_specifies_29 rfl rfl ?_
  refine ra_getR C dX7_specifies_30 (k := 15) (by decide) rfl rX7_in tX7_f50 rfl ?_
  refine ra_iload C dX7_specifies_33 rfl ?_
  refine ra_iload C dX7_specifies_35 rfl ?_
  obtain ⟨S37, h37, hf⟩ := rob hf
  refine ra_iast C dX7_specifies_37 h37 (by decide) rfl rfl ?_
  refine ra_aload_n C dX7_specifies_38 rfl rfl ?_
  refine ra_getR C dX7_specifies_39 (k := 16) (by decide) rfl rX7_in tX7_f53 rfl ?_
  refine ra_iload C dX7_specifies_42 rfl ?_
  refine ra_iload C dX7_specifies_44 rfl ?_
  obtain ⟨S46, h46, hf⟩ := rob hf
  refine ra_iast C dX7_specifies_46 h46 (by decide) rfl rfl ?_
  refine ra_aload_n C dX7_specifies_47 rfl rfl ?_
  refine ra_getR C dX7_specifies_48 (k := 11) (by decide) rfl rX7_in tX7_f38 rfl ?_
  refine ra_iload_n C dX7_specifies_51 rfl rfl ?_
  refine ra_dup2 C dX7_specifies_52 rfl rfl ?_
  obtain ⟨x53, h53, hf⟩ := rob hf
  refine ra_iald C dX7_specifies_53 h53 (by decide) rfl rfl ?_
  refine ra_iconst C dX7_specifies_54 (v := 1) (by decide) ?_
  refine ra_iadd C dX7_specifies_55 ?_
  obtain ⟨S56, h56, hf⟩ := rob hf
  refine ra_iast C dX7_specifies_56 h56 (by decide) rfl rfl ?_
  refine ra_aload_n C dX7_specifies_57 rfl rfl ?_
  refine ra_getR C dX7_specifies_58 (k := 12) (by decide) rfl rX7_in tX7_f41 rfl ?_
  refine ra_iload_n C dX7_specifies_61 rfl rfl ?_
  refine ra_dup2 C dX7_specifies_62 rfl rfl ?_
  obtain ⟨x63, h63, hf⟩ := rob hf
  refine ra_iald C dX7_specifies_63 h63 (by decide) rfl rfl ?_
  refine ra_iload C dX7_specifies_64 rfl ?_
  refine ra_iadd C dX7_specifies_66 ?_
  obtain ⟨S67, h67, hf⟩ := rob hf
  refine ra_iast C dX7_specifies_67 h67 (by decide) rfl rfl ?_
  obtain rfl := Option.some.inj hf
  exact ra_vret C dX7_specifies_68
set_option maxRecDepth 100000 in
set_option maxHeartbeats 4000000 in
theorem mX7_specifies {l : Launch} {G : rG} {a0 : Int32} {a1 : Int32} {a2 : Int32} {a3 : Int32} {a4 : Int32} {a5 : Int32} {S : rS} {r : rS} (hf : fX7_specifies a0 a1 a2 a3 a4 a5 S = some r) : rM l G 0 yX7_specifies cX7_specifies 8 none [.ref G.2.2.2.1, .int a0, .int a1, .int a2, .int a3, .int a4, .int a5] S (none, r) :=
  rM_of (lo0 := [some (.ref G.2.2.2.1), some (.int a0), some (.int a1), some (.int a2), some (.int a3), some (.int a4), some (.int a5), none]) (by decide +kernel) rfl (Nat.le_of_ble_eq_true rfl) (by simp [Value.category]) rfl (fun X _ C => bX7_specifies C a0 a1 a2 a3 a4 a5 S hf)
set_option maxRecDepth 100000 in
set_option maxHeartbeats 4000000 in
theorem bX7_specType_b69 {G : rG} {X : rX} (C : rC G X 4 cX7_specType (some .int) 3) {r : Int32 × rS} (l1 : Int32) (l2 : Int32) (s0 : Int32) (S : rS) (hf : fX7_specType_b69 l1 l2 s0 S = some r) : rAW G X 4 (some (.int r.1), r.2) 69 [some (.ref G.2.2.2.1), some (.int l1), some (.int l2), none] [.int s0, .ref G.2.2.2.1] S := by
  unfold fX7_specType_b69 at hf
  obtain ⟨q69, h69, hf⟩ := rob hf
  refine ra_callVi C dX7_specType_69 (mX7_fails h69) rfl tX7_l175 tX7_i_X7_fails tX7_s_X7_fails tX7_init tX7_c_X7_fails tX7_d_X7_fails (by decide) (by decide) (Nat.le_of_ble_eq_true rfl) ?_
  refine ra_if_eq C dX7_specType_72 (tgt := 77) (by decide) (fun c72 => ?_) (fun c72 => ?_)
  · replace hf := rif_p c72 hf
    refine ra_aload_n C dX7_specType_77 rfl rfl ?_
    refine ra_bipush C dX7_specType_78 (v := 20) (by decide) ?_
    refine ra_iconst C dX7_specType_80 (v := 0) (by decide) ?_
    refine ra_iload_n C dX7_specType_81 rfl rfl ?_
    refine ra_iload_n C dX7_specType_82 rfl rfl ?_
    refine ra_bipush C dX7_specType_83 (v := (-100)) (by decide) ?_
    refine ra_iconst C dX7_specType_85 (v := 1) (by decide) ?_
    obtain ⟨q86, h86, hf⟩ := rob hf
    refine ra_callVv C dX7_specType_86 (mX7_specifies h86) rfl tX7_l213 tX7_i_X7_specifies tX7_s_X7_specifies tX7_init tX7_c_X7_specifies tX7_d_X7_specifies (by decide) (by decide) (Nat.le_of_ble_eq_true rfl) ?_
    refine ra_aload_n C dX7_specType_89 rfl rfl ?_
    refine ra_getR C dX7_specType_90 (k := 11) (by decide) rfl rX7_in tX7_f38 rfl ?_
    refine ra_bipush C dX7_specType_93 (v := 20) (by decide) ?_
    obtain ⟨x95, h95, hf⟩ := rob hf
    refine ra_iald C dX7_specType_95 h95 (by decide) rfl rfl ?_
    obtain rfl := Option.some.inj hf
    exact ra_iret C dX7_specType_96
  · replace hf := rif_n c72 hf
    refine ra_iconst C dX7_specType_75 (v := 0) (by decide) ?_
    obtain rfl := Option.some.inj hf
    exact ra_iret C dX7_specType_76
set_option maxRecDepth 100000 in
set_option maxHeartbeats 4000000 in
theorem bX7_specType_b64 {G : rG} {X : rX} (C : rC G X 4 cX7_specType (some .int) 3) {r : Int32 × rS} (l1 : Int32) (l2 : Int32) (S : rS) (hf : fX7_specType_b64 l1 l2 S = some r) : rAW G X 4 (some (.int r.1), r.2) 64 [some (.ref G.2.2.2.1), some (.int l1), some (.int l2), none] [.ref G.2.2.2.1] S := by
  unfold fX7_specType_b64 at hf
  refine ra_iconst C dX7_specType_64 (v := 3) (by decide) ?_
  refine ra_goto C dX7_specType_65 (tgt := 69) (by decide) ?_
  exact bX7_specType_b69 C _ _ _ _ hf
set_option maxRecDepth 100000 in
set_option maxHeartbeats 4000000 in
theorem bX7_specType_b19 {G : rG} {X : rX} (C : rC G X 4 cX7_specType (some .int) 3) {r : Int32 × rS} (l1 : Int32) (l2 : Int32) (s0 : Int32) (S : rS) (hf : fX7_specType_b19 l1 l2 s0 S = some r) : rAW G X 4 (some (.int r.1), r.2) 19 [some (.ref G.2.2.2.1), some (.int l1), some (.int l2), none] [.int s0] S := by
  unfold fX7_specType_b19 at hf
  refine ra_istore_n C dX7_specType_19 rfl (by decide) ?_
  refine ra_aload_n C dX7_specType_20 rfl rfl ?_
  refine ra_iload_n C dX7_specType_21 rfl rfl ?_
  refine ra_if_ne C dX7_specType_22 (tgt := 29) (by decide) (fun c22 => ?_) (fun c22 => ?_)
  · replace hf := rif_n c22 hf
    refine ra_iload_n C dX7_specType_29 rfl rfl ?_
    obtain ⟨q30, h30, hf⟩ := rob hf
    refine ra_callSi C dX7_specType_30 (mX7_isName h30) rfl tX7_l188 tX7_st_X7_isName tX7_init tX7_c_X7_isName tX7_d_X7_isName (by decide) (by decide) (Nat.le_of_ble_eq_true rfl) ?_
    refine ra_if_ne C dX7_specType_33 (tgt := 40) (by decide) (fun c33 => ?_) (fun c33 => ?_)
    · replace hf := rif_n c33 hf
      refine ra_aload_n C dX7_specType_40 rfl rfl ?_
      refine ra_bipush C dX7_specType_41 (v := 20) (by decide) ?_
      refine ra_iconst C dX7_specType_43 (v := 0) (by decide) ?_
      refine ra_iload_n C dX7_specType_44 rfl rfl ?_
      obtain ⟨q45, h45, hf⟩ := rob hf
      refine ra_callVi C dX7_specType_45 (mX7_findsSpec h45) rfl tX7_l207 tX7_i_X7_findsSpec tX7_s_X7_findsSpec tX7_init tX7_c_X7_findsSpec tX7_d_X7_findsSpec (by decide) (by decide) (Nat.le_of_ble_eq_true rfl) ?_
      refine ra_iconst C dX7_specType_48 (v := (-1)) (by decide) ?_
      refine ra_icmp_ne C dX7_specType_49 (tgt := 64) (by decide) (fun c49 => ?_) (fun c49 => ?_)
      · replace hf := rif_n c49 hf
        refine ra_mask [true, true, true, false] ?_
        exact bX7_specType_b64 C _ _ _ hf
      · replace hf := rif_p c49 hf
        refine ra_aload_n C dX7_specType_52 rfl rfl ?_
        refine ra_getR C dX7_specType_53 (k := 12) (by decide) rfl rX7_in tX7_f41 rfl ?_
        refine ra_bipush C dX7_specType_56 (v := 20) (by decide) ?_
        obtain ⟨x58, h58, hf⟩ := rob hf
        refine ra_iald C dX7_specType_58 h58 (by decide) rfl rfl ?_
        refine ra_bipush C dX7_specType_59 (v := 60) (by decide) ?_
        refine ra_icmp_ne C dX7_specType_61 (tgt := 68) (by decide) (fun c61 => ?_) (fun c61 => ?_)
        · replace hf := rif_n c61 hf
          refine ra_iconst C dX7_specType_68 (v := 0) (by decide) ?_
          refine ra_mask [true, true, true, false] ?_
          exact bX7_specType_b69 C _ _ _ _ hf
        · replace hf := rif_p c61 hf
          refine ra_mask [true, true, true, false] ?_
          exact bX7_specType_b64 C _ _ _ hf
    · replace hf := rif_p c33 hf
      refine ra_iconst C dX7_specType_36 (v := 2) (by decide) ?_
      refine ra_goto C dX7_specType_37 (tgt := 69) (by decide) ?_
      refine ra_mask [true, true, true, false] ?_
      exact bX7_specType_b69 C _ _ _ _ hf
  · replace hf := rif_p c22 hf
    refine ra_iconst C dX7_specType_25 (v := 1) (by decide) ?_
    refine ra_goto C dX7_specType_26 (tgt := 69) (by decide) ?_
    refine ra_mask [true, true, true, false] ?_
    exact bX7_specType_b69 C _ _ _ _ hf
set_option maxRecDepth 100000 in
set_option maxHeartbeats 4000000 in
theorem bX7_specType_b14 {G : rG} {X : rX} (C : rC G X 4 cX7_specType (some .int) 3) {r : Int32 × rS} (l1 : Int32) (l2 : Int32) (S : rS) (hf : fX7_specType_b14 l1 l2 S = some r) : rAW G X 4 (some (.int r.1), r.2) 14 [some (.ref G.2.2.2.1), some (.int l1), some (.int l2), none] [] S := by
  unfold fX7_specType_b14 at hf
  refine ra_iconst C dX7_specType_14 (v := 1) (by decide) ?_
  refine ra_goto C dX7_specType_15 (tgt := 19) (by decide) ?_
  exact bX7_specType_b19 C _ _ _ _ hf
set_option maxRecDepth 100000 in
set_option maxHeartbeats 4000000 in
theorem bX7_specType {G : rG} {X : rX} (C : rC G X 4 cX7_specType (some .int) 3) (a0 : Int32) (a1 : Int32) (S : rS) {r : Int32 × rS} (hf : fX7_specType a0 a1 S = some r) : rAW G X 4 (some (.int r.1), r.2) 0 [some (.ref G.2.2.2.1), some (.int a0), some (.int a1), none] [] S := by
  unfold fX7_specType at hf
  refine ra_iload_n C dX7_specType_0 rfl rfl ?_
  refine ra_bipush C dX7_specType_1 (v := (-100)) (by decide) ?_
  refine ra_icmp_eq C dX7_specType_3 (tgt := 14) (by decide) (fun c3 => ?_) (fun c3 => ?_)
  · replace hf := rif_p c3 hf
    exact bX7_specType_b14 C _ _ _ hf
  · replace hf := rif_n c3 hf
    refine ra_aload_n C dX7_specType_6 rfl rfl ?_
    refine ra_iload_n C dX7_specType_7 rfl rfl ?_
    obtain ⟨q8, h8, hf⟩ := rob hf
    refine ra_callVi C dX7_specType_8 (mX7_isTold h8) rfl tX7_l210 tX7_i_X7_isTold tX7_s_X7_isTold tX7_init tX7_c_X7_isTold tX7_d_X7_isTold (by decide) (by decide) (Nat.le_of_ble_eq_true rfl) ?_
    refine ra_if_eq C dX7_specType_11 (tgt := 18) (by decide) (fun c11 => ?_) (fun c11 => ?_)
    · replace hf := rif_p c11 hf
      refine ra_iconst C dX7_specType_18 (v := 0) (by decide) ?_
      exact bX7_specType_b19 C _ _ _ _ hf
    · replace hf := rif_n c11 hf
      exact bX7_specType_b14 C _ _ _ hf
set_option maxRecDepth 100000 in
set_option maxHeartbeats 4000000 in
theorem mX7_specType {l : Launch} {G : rG} {a0 : Int32} {a1 : Int32} {S : rS} {r : Int32 × rS} (hf : fX7_specType a0 a1 S = some r) : rM l G 3 yX7_specType cX7_specType 4 (some .int) [.ref G.2.2.2.1, .int a0, .int a1] S (some (.int r.1), r.2) :=
  rM_of (lo0 := [some (.ref G.2.2.2.1), some (.int a0), some (.int a1), none]) (by decide +kernel) rfl (Nat.le_of_ble_eq_true rfl) (by simp [Value.category]) rfl (fun X _ C => bX7_specType C a0 a1 S hf)
set_option maxRecDepth 100000 in
set_option maxHeartbeats 4000000 in
theorem bX7_specValue_b79 {G : rG} {X : rX} (C : rC G X 5 cX7_specValue (some .int) 3) {r : Int32 × rS} (l1 : Int32) (l2 : Int32) (l3 : Int32) (s0 : Int32) (S : rS) (hf : fX7_specValue_b79 l1 l2 l3 s0 S = some r) : rAW G X 5 (some (.int r.1), r.2) 79 [some (.ref G.2.2.2.1), some (.int l1), some (.int l2), some (.int l3), none] [.int s0, .ref G.2.2.2.1] S := by
  unfold fX7_specValue_b79 at hf
  obtain ⟨q79, h79, hf⟩ := rob hf
  refine ra_callVi C dX7_specValue_79 (mX7_fails h79) rfl tX7_l175 tX7_i_X7_fails tX7_s_X7_fails tX7_init tX7_c_X7_fails tX7_d_X7_fails (by decide) (by decide) (Nat.le_of_ble_eq_true rfl) ?_
  refine ra_if_eq C dX7_specValue_82 (tgt := 87) (by decide) (fun c82 => ?_) (fun c82 => ?_)
  · replace hf := rif_p c82 hf
    refine ra_aload_n C dX7_specValue_87 rfl rfl ?_
    refine ra_bipush C dX7_specValue_88 (v := 20) (by decide) ?_
    refine ra_iconst C dX7_specValue_90 (v := 1) (by decide) ?_
    refine ra_iload_n C dX7_specValue_91 rfl rfl ?_
    refine ra_iload_n C dX7_specValue_92 rfl rfl ?_
    refine ra_iload_n C dX7_specValue_93 rfl rfl ?_
    refine ra_iconst C dX7_specValue_94 (v := 1) (by decide) ?_
    obtain ⟨q95, h95, hf⟩ := rob hf
    refine ra_callVv C dX7_specValue_95 (mX7_specifies h95) rfl tX7_l213 tX7_i_X7_specifies tX7_s_X7_specifies tX7_init tX7_c_X7_specifies tX7_d_X7_specifies (by decide) (by decide) (Nat.le_of_ble_eq_true rfl) ?_
    refine ra_aload_n C dX7_specValue_98 rfl rfl ?_
    refine ra_getR C dX7_specValue_99 (k := 11) (by decide) rfl rX7_in tX7_f38 rfl ?_
    refine ra_bipush C dX7_specValue_102 (v := 20) (by decide) ?_
    obtain ⟨x104, h104, hf⟩ := rob hf
    refine ra_iald C dX7_specValue_104 h104 (by decide) rfl rfl ?_
    obtain rfl := Option.some.inj hf
    exact ra_iret C dX7_specValue_105
  · replace hf := rif_n c82 hf
    refine ra_iconst C dX7_specValue_85 (v := 0) (by decide) ?_
    obtain rfl := Option.some.inj hf
    exact ra_iret C dX7_specValue_86
set_option maxRecDepth 100000 in
set_option maxHeartbeats 4000000 in
theorem bX7_specValue_b74 {G : rG} {X : rX} (C : rC G X 5 cX7_specValue (some .int) 3) {r : Int32 × rS} (l1 : Int32) (l2 : Int32) (l3 : Int32) (S : rS) (hf : fX7_specValue_b74 l1 l2 l3 S = some r) : rAW G X 5 (some (.int r.1), r.2) 74 [some (.ref G.2.2.2.1), some (.int l1), some (.int l2), some (.int l3), none] [.ref G.2.2.2.1] S := by
  unfold fX7_specValue_b74 at hf
  refine ra_iconst C dX7_specValue_74 (v := 3) (by decide) ?_
  refine ra_goto C dX7_specValue_75 (tgt := 79) (by decide) ?_
  exact bX7_specValue_b79 C _ _ _ _ _ hf
set_option maxRecDepth 100000 in
set_option maxHeartbeats 4000000 in
theorem bX7_specValue_b27 {G : rG} {X : rX} (C : rC G X 5 cX7_specValue (some .int) 3) {r : Int32 × rS} (l1 : Int32) (l2 : Int32) (l3 : Int32) (s0 : Int32) (S : rS) (hf : fX7_specValue_b27 l1 l2 l3 s0 S = some r) : rAW G X 5 (some (.int r.1), r.2) 27 [some (.ref G.2.2.2.1), some (.int l1), some (.int l2), some (.int l3), none] [.int s0] S := by
  unfold fX7_specValue_b27 at hf
  refine ra_istore C dX7_specValue_27 (by decide) ?_
  refine ra_aload_n C dX7_specValue_29 rfl rfl ?_
  refine ra_iload C dX7_specValue_30 rfl ?_
  refine ra_if_ne C dX7_specValue_32 (tgt := 39) (by decide) (fun c32 => ?_) (fun c32 => ?_)
  · replace hf := rif_n c32 hf
    refine ra_iload_n C dX7_specValue_39 rfl rfl ?_
    obtain ⟨q40, h40, hf⟩ := rob hf
    refine ra_callSi C dX7_specValue_40 (mX7_isName h40) rfl tX7_l188 tX7_st_X7_isName tX7_init tX7_c_X7_isName tX7_d_X7_isName (by decide) (by decide) (Nat.le_of_ble_eq_true rfl) ?_
    refine ra_if_ne C dX7_specValue_43 (tgt := 50) (by decide) (fun c43 => ?_) (fun c43 => ?_)
    · replace hf := rif_n c43 hf
      refine ra_aload_n C dX7_specValue_50 rfl rfl ?_
      refine ra_bipush C dX7_specValue_51 (v := 20) (by decide) ?_
      refine ra_iconst C dX7_specValue_53 (v := 1) (by decide) ?_
      refine ra_iload_n C dX7_specValue_54 rfl rfl ?_
      obtain ⟨q55, h55, hf⟩ := rob hf
      refine ra_callVi C dX7_specValue_55 (mX7_findsSpec h55) rfl tX7_l207 tX7_i_X7_findsSpec tX7_s_X7_findsSpec tX7_init tX7_c_X7_findsSpec tX7_d_X7_findsSpec (by decide) (by decide) (Nat.le_of_ble_eq_true rfl) ?_
      refine ra_iconst C dX7_specValue_58 (v := (-1)) (by decide) ?_
      refine ra_icmp_ne C dX7_specValue_59 (tgt := 74) (by decide) (fun c59 => ?_) (fun c59 => ?_)
      · replace hf := rif_n c59 hf
        refine ra_mask [true, true, true, true, false] ?_
        exact bX7_specValue_b74 C _ _ _ _ hf
      · replace hf := rif_p c59 hf
        refine ra_aload_n C dX7_specValue_62 rfl rfl ?_
        refine ra_getR C dX7_specValue_63 (k := 12) (by decide) rfl rX7_in tX7_f41 rfl ?_
        refine ra_bipush C dX7_specValue_66 (v := 20) (by decide) ?_
        obtain ⟨x68, h68, hf⟩ := rob hf
        refine ra_iald C dX7_specValue_68 h68 (by decide) rfl rfl ?_
        refine ra_bipush C dX7_specValue_69 (v := 60) (by decide) ?_
        refine ra_icmp_ne C dX7_specValue_71 (tgt := 78) (by decide) (fun c71 => ?_) (fun c71 => ?_)
        · replace hf := rif_n c71 hf
          refine ra_iconst C dX7_specValue_78 (v := 0) (by decide) ?_
          refine ra_mask [true, true, true, true, false] ?_
          exact bX7_specValue_b79 C _ _ _ _ _ hf
        · replace hf := rif_p c71 hf
          refine ra_mask [true, true, true, true, false] ?_
          exact bX7_specValue_b74 C _ _ _ _ hf
    · replace hf := rif_p c43 hf
      refine ra_iconst C dX7_specValue_46 (v := 2) (by decide) ?_
      refine ra_goto C dX7_specValue_47 (tgt := 79) (by decide) ?_
      refine ra_mask [true, true, true, true, false] ?_
      exact bX7_specValue_b79 C _ _ _ _ _ hf
  · replace hf := rif_p c32 hf
    refine ra_iconst C dX7_specValue_35 (v := 1) (by decide) ?_
    refine ra_goto C dX7_specValue_36 (tgt := 79) (by decide) ?_
    refine ra_mask [true, true, true, true, false] ?_
    exact bX7_specValue_b79 C _ _ _ _ _ hf
set_option maxRecDepth 100000 in
set_option maxHeartbeats 4000000 in
theorem bX7_specValue_b26 {G : rG} {X : rX} (C : rC G X 5 cX7_specValue (some .int) 3) {r : Int32 × rS} (l1 : Int32) (l2 : Int32) (l3 : Int32) (S : rS) (hf : fX7_specValue_b26 l1 l2 l3 S = some r) : rAW G X 5 (some (.int r.1), r.2) 26 [some (.ref G.2.2.2.1), some (.int l1), some (.int l2), some (.int l3), none] [] S := by
  unfold fX7_specValue_b26 at hf
  refine ra_iconst C dX7_specValue_26 (v := 0) (by decide) ?_
  exact bX7_specValue_b27 C _ _ _ _ _ hf
set_option maxRecDepth 100000 in
set_option maxHeartbeats 4000000 in
theorem bX7_specValue_b22 {G : rG} {X : rX} (C : rC G X 5 cX7_specValue (some .int) 3) {r : Int32 × rS} (l1 : Int32) (l2 : Int32) (l3 : Int32) (S : rS) (hf : fX7_specValue_b22 l1 l2 l3 S = some r) : rAW G X 5 (some (.int r.1), r.2) 22 [some (.ref G.2.2.2.1), some (.int l1), some (.int l2), some (.int l3), none] [] S := by
  unfold fX7_specValue_b22 at hf
  refine ra_iconst C dX7_specValue_22 (v := 1) (by decide) ?_
  refine ra_goto C dX7_specValue_23 (tgt := 27) (by decide) ?_
  exact bX7_specValue_b27 C _ _ _ _ _ hf
set_option maxRecDepth 100000 in
set_option maxHeartbeats 4000000 in
theorem bX7_specValue {G : rG} {X : rX} (C : rC G X 5 cX7_specValue (some .int) 3) (a0 : Int32) (a1 : Int32) (a2 : Int32) (S : rS) {r : Int32 × rS} (hf : fX7_specValue a0 a1 a2 S = some r) : rAW G X 5 (some (.int r.1), r.2) 0 [some (.ref G.2.2.2.1), some (.int a0), some (.int a1), some (.int a2), none] [] S := by
  unfold fX7_specValue at hf
  refine ra_aload_n C dX7_specValue_0 rfl rfl ?_
  refine ra_iload_n C dX7_specValue_1 rfl rfl ?_
  obtain ⟨q2, h2, hf⟩ := rob hf
  refine ra_callVi C dX7_specValue_2 (mX7_isTold h2) rfl tX7_l210 tX7_i_X7_isTold tX7_s_X7_isTold tX7_init tX7_c_X7_isTold tX7_d_X7_isTold (by decide) (by decide) (Nat.le_of_ble_eq_true rfl) ?_
  refine ra_if_eq C dX7_specValue_5 (tgt := 26) (by decide) (fun c5 => ?_) (fun c5 => ?_)
  · replace hf := rif_p c5 hf
    exact bX7_specValue_b26 C _ _ _ _ hf
  · replace hf := rif_n c5 hf
    refine ra_iload_n C dX7_specValue_8 rfl rfl ?_
    refine ra_bipush C dX7_specValue_9 (v := (-100)) (by decide) ?_
    refine ra_icmp_eq C dX7_specValue_11 (tgt := 22) (by decide) (fun c11 => ?_) (fun c11 => ?_)
    · replace hf := rif_p c11 hf
      exact bX7_specValue_b22 C _ _ _ _ hf
    · replace hf := rif_n c11 hf
      refine ra_aload_n C dX7_specValue_14 rfl rfl ?_
      refine ra_iload_n C dX7_specValue_15 rfl rfl ?_
      obtain ⟨q16, h16, hf⟩ := rob hf
      refine ra_callVi C dX7_specValue_16 (mX7_isTold h16) rfl tX7_l210 tX7_i_X7_isTold tX7_s_X7_isTold tX7_init tX7_c_X7_isTold tX7_d_X7_isTold (by decide) (by decide) (Nat.le_of_ble_eq_true rfl) ?_
      refine ra_if_eq C dX7_specValue_19 (tgt := 26) (by decide) (fun c19 => ?_) (fun c19 => ?_)
      · replace hf := rif_p c19 hf
        exact bX7_specValue_b26 C _ _ _ _ hf
      · replace hf := rif_n c19 hf
        exact bX7_specValue_b22 C _ _ _ _ hf
set_option maxRecDepth 100000 in
set_option maxHeartbeats 4000000 in
theorem mX7_specValue {l : Launch} {G : rG} {a0 : Int32} {a1 : Int32} {a2 : Int32} {S : rS} {r : Int32 × rS} (hf : fX7_specValue a0 a1 a2 S = some r) : rM l G 3 yX7_specValue cX7_specValue 5 (some .int) [.ref G.2.2.2.1, .int a0, .int a1, .int a2] S (some (.int r.1), r.2) :=
  rM_of (lo0 := [some (.ref G.2.2.2.1), some (.int a0), some (.int a1), some (.int a2), none]) (by decide +kernel) rfl (Nat.le_of_ble_eq_true rfl) (by simp [Value.category]) rfl (fun X _ C => bX7_specValue C a0 a1 a2 S hf)
set_option maxRecDepth 100000 in
set_option maxHeartbeats 4000000 in
theorem bX7_specPart_b76 {G : rG} {X : rX} (C : rC G X 5 cX7_specPart (some .int) 2) {r : Int32 × rS} (l1 : Int32) (l2 : Int32) (l4 : Int32) (s0 : Int32) (S : rS) (hf : fX7_specPart_b76 l1 l2 l4 s0 S = some r) : rAW G X 5 (some (.int r.1), r.2) 76 [some (.ref G.2.2.2.1), some (.int l1), some (.int l2), none, some (.int l4)] [.int s0, .ref G.2.2.2.1] S := by
  unfold fX7_specPart_b76 at hf
  obtain ⟨q76, h76, hf⟩ := rob hf
  refine ra_callVi C dX7_specPart_76 (mX7_fails h76) rfl tX7_l175 tX7_i_X7_fails tX7_s_X7_fails tX7_init tX7_c_X7_fails tX7_d_X7_fails (by decide) (by decide) (Nat.le_of_ble_eq_true rfl) ?_
  refine ra_if_eq C dX7_specPart_79 (tgt := 84) (by decide) (fun c79 => ?_) (fun c79 => ?_)
  · replace hf := rif_p c79 hf
    refine ra_aload_n C dX7_specPart_84 rfl rfl ?_
    refine ra_bipush C dX7_specPart_85 (v := 20) (by decide) ?_
    refine ra_iconst C dX7_specPart_87 (v := 2) (by decide) ?_
    refine ra_iload_n C dX7_specPart_88 rfl rfl ?_
    refine ra_iload_n C dX7_specPart_89 rfl rfl ?_
    refine ra_bipush C dX7_specPart_90 (v := (-100)) (by decide) ?_
    refine ra_iload C dX7_specPart_92 rfl ?_
    obtain ⟨q94, h94, hf⟩ := rob hf
    refine ra_callVv C dX7_specPart_94 (mX7_specifies h94) rfl tX7_l213 tX7_i_X7_specifies tX7_s_X7_specifies tX7_init tX7_c_X7_specifies tX7_d_X7_specifies (by decide) (by decide) (Nat.le_of_ble_eq_true rfl) ?_
    refine ra_aload_n C dX7_specPart_97 rfl rfl ?_
    refine ra_getR C dX7_specPart_98 (k := 11) (by decide) rfl rX7_in tX7_f38 rfl ?_
    refine ra_bipush C dX7_specPart_101 (v := 20) (by decide) ?_
    obtain ⟨x103, h103, hf⟩ := rob hf
    refine ra_iald C dX7_specPart_103 h103 (by decide) rfl rfl ?_
    obtain rfl := Option.some.inj hf
    exact ra_iret C dX7_specPart_104
  · replace hf := rif_n c79 hf
    refine ra_iconst C dX7_specPart_82 (v := 0) (by decide) ?_
    obtain rfl := Option.some.inj hf
    exact ra_iret C dX7_specPart_83
set_option maxRecDepth 100000 in
set_option maxHeartbeats 4000000 in
theorem bX7_specPart_b71 {G : rG} {X : rX} (C : rC G X 5 cX7_specPart (some .int) 2) {r : Int32 × rS} (l1 : Int32) (l2 : Int32) (l4 : Int32) (S : rS) (hf : fX7_specPart_b71 l1 l2 l4 S = some r) : rAW G X 5 (some (.int r.1), r.2) 71 [some (.ref G.2.2.2.1), some (.int l1), some (.int l2), none, some (.int l4)] [.ref G.2.2.2.1] S := by
  unfold fX7_specPart_b71 at hf
  refine ra_iconst C dX7_specPart_71 (v := 3) (by decide) ?_
  refine ra_goto C dX7_specPart_72 (tgt := 76) (by decide) ?_
  exact bX7_specPart_b76 C _ _ _ _ _ hf
set_option maxRecDepth 100000 in
set_option maxHeartbeats 4000000 in
theorem bX7_specPart_b22 {G : rG} {X : rX} (C : rC G X 5 cX7_specPart (some .int) 2) {r : Int32 × rS} (l1 : Int32) (l2 : Int32) (l3 : Int32) (s0 : Int32) (S : rS) (hf : fX7_specPart_b22 l1 l2 l3 s0 S = some r) : rAW G X 5 (some (.int r.1), r.2) 22 [some (.ref G.2.2.2.1), some (.int l1), some (.int l2), some (.int l3), none] [.int s0] S := by
  unfold fX7_specPart_b22 at hf
  refine ra_istore C dX7_specPart_22 (by decide) ?_
  refine ra_aload_n C dX7_specPart_24 rfl rfl ?_
  refine ra_iload_n C dX7_specPart_25 rfl rfl ?_
  refine ra_if_ne C dX7_specPart_26 (tgt := 33) (by decide) (fun c26 => ?_) (fun c26 => ?_)
  · replace hf := rif_n c26 hf
    refine ra_iload_n C dX7_specPart_33 rfl rfl ?_
    obtain ⟨q34, h34, hf⟩ := rob hf
    refine ra_callSi C dX7_specPart_34 (mX7_isName h34) rfl tX7_l188 tX7_st_X7_isName tX7_init tX7_c_X7_isName tX7_d_X7_isName (by decide) (by decide) (Nat.le_of_ble_eq_true rfl) ?_
    refine ra_if_ne C dX7_specPart_37 (tgt := 44) (by decide) (fun c37 => ?_) (fun c37 => ?_)
    · replace hf := rif_n c37 hf
      refine ra_aload_n C dX7_specPart_44 rfl rfl ?_
      refine ra_bipush C dX7_specPart_45 (v := 20) (by decide) ?_
      refine ra_iconst C dX7_specPart_47 (v := 2) (by decide) ?_
      refine ra_iload_n C dX7_specPart_48 rfl rfl ?_
      obtain ⟨q49, h49, hf⟩ := rob hf
      refine ra_callVi C dX7_specPart_49 (mX7_findsSpec h49) rfl tX7_l207 tX7_i_X7_findsSpec tX7_s_X7_findsSpec tX7_init tX7_c_X7_findsSpec tX7_d_X7_findsSpec (by decide) (by decide) (Nat.le_of_ble_eq_true rfl) ?_
      refine ra_iconst C dX7_specPart_52 (v := (-1)) (by decide) ?_
      refine ra_icmp_ne C dX7_specPart_53 (tgt := 71) (by decide) (fun c53 => ?_) (fun c53 => ?_)
      · replace hf := rif_n c53 hf
        refine ra_mask [true, true, true, false, true] ?_
        exact bX7_specPart_b71 C _ _ _ _ hf
      · replace hf := rif_p c53 hf
        refine ra_aload_n C dX7_specPart_56 rfl rfl ?_
        refine ra_getR C dX7_specPart_57 (k := 12) (by decide) rfl rX7_in tX7_f41 rfl ?_
        refine ra_bipush C dX7_specPart_60 (v := 20) (by decide) ?_
        obtain ⟨x62, h62, hf⟩ := rob hf
        refine ra_iald C dX7_specPart_62 h62 (by decide) rfl rfl ?_
        refine ra_iload C dX7_specPart_63 rfl ?_
        refine ra_iadd C dX7_specPart_65 ?_
        refine ra_bipush C dX7_specPart_66 (v := 60) (by decide) ?_
        refine ra_icmp_le C dX7_specPart_68 (tgt := 75) (by decide) (fun c68 => ?_) (fun c68 => ?_)
        · replace hf := rif_p c68 hf
          refine ra_iconst C dX7_specPart_75 (v := 0) (by decide) ?_
          refine ra_mask [true, true, true, false, true] ?_
          exact bX7_specPart_b76 C _ _ _ _ _ hf
        · replace hf := rif_n c68 hf
          refine ra_mask [true, true, true, false, true] ?_
          exact bX7_specPart_b71 C _ _ _ _ hf
    · replace hf := rif_p c37 hf
      refine ra_iconst C dX7_specPart_40 (v := 2) (by decide) ?_
      refine ra_goto C dX7_specPart_41 (tgt := 76) (by decide) ?_
      refine ra_mask [true, true, true, false, true] ?_
      exact bX7_specPart_b76 C _ _ _ _ _ hf
  · replace hf := rif_p c26 hf
    refine ra_iconst C dX7_specPart_29 (v := 1) (by decide) ?_
    refine ra_goto C dX7_specPart_30 (tgt := 76) (by decide) ?_
    refine ra_mask [true, true, true, false, true] ?_
    exact bX7_specPart_b76 C _ _ _ _ _ hf
set_option maxRecDepth 100000 in
set_option maxHeartbeats 4000000 in
theorem bX7_specPart {G : rG} {X : rX} (C : rC G X 5 cX7_specPart (some .int) 2) (a0 : Int32) (a1 : Int32) (S : rS) {r : Int32 × rS} (hf : fX7_specPart a0 a1 S = some r) : rAW G X 5 (some (.int r.1), r.2) 0 [some (.ref G.2.2.2.1), some (.int a0), some (.int a1), none, none] [] S := by
  unfold fX7_specPart at hf
  refine ra_aload_n C dX7_specPart_0 rfl rfl ?_
  refine ra_iload_n C dX7_specPart_1 rfl rfl ?_
  obtain ⟨q2, h2, hf⟩ := rob hf
  refine ra_callVi C dX7_specPart_2 (mX7_isSignature h2) rfl tX7_l217 tX7_i_X7_isSignature tX7_s_X7_isSignature tX7_init tX7_c_X7_isSignature tX7_d_X7_isSignature (by decide) (by decide) (Nat.le_of_ble_eq_true rfl) ?_
  refine ra_istore_n C dX7_specPart_5 rfl (by decide) ?_
  refine ra_iload_n C dX7_specPart_6 rfl rfl ?_
  refine ra_if_eq C dX7_specPart_7 (tgt := 21) (by decide) (fun c7 => ?_) (fun c7 => ?_)
  · replace hf := rif_p c7 hf
    refine ra_iconst C dX7_specPart_21 (v := 0) (by decide) ?_
    exact bX7_specPart_b22 C _ _ _ _ _ hf
  · replace hf := rif_n c7 hf
    refine ra_iconst C dX7_specPart_10 (v := 1) (by decide) ?_
    refine ra_aload_n C dX7_specPart_11 rfl rfl ?_
    refine ra_getR C dX7_specPart_12 (k := 12) (by decide) rfl rX7_in tX7_f41 rfl ?_
    refine ra_iload_n C dX7_specPart_15 rfl rfl ?_
    obtain ⟨x16, h16, hf⟩ := rob hf
    refine ra_iald C dX7_specPart_16 h16 (by decide) rfl rfl ?_
    refine ra_iadd C dX7_specPart_17 ?_
    refine ra_goto C dX7_specPart_18 (tgt := 22) (by decide) ?_
    exact bX7_specPart_b22 C _ _ _ _ _ hf
set_option maxRecDepth 100000 in
set_option maxHeartbeats 4000000 in
theorem mX7_specPart {l : Launch} {G : rG} {a0 : Int32} {a1 : Int32} {S : rS} {r : Int32 × rS} (hf : fX7_specPart a0 a1 S = some r) : rM l G 2 yX7_specPart cX7_specPart 5 (some .int) [.ref G.2.2.2.1, .int a0, .int a1] S (some (.int r.1), r.2) :=
  rM_of (lo0 := [some (.ref G.2.2.2.1), some (.int a0), some (.int a1), none, none]) (by decide +kernel) rfl (Nat.le_of_ble_eq_true rfl) (by simp [Value.category]) rfl (fun X _ C => bX7_specPart C a0 a1 S hf)
set_option maxRecDepth 100000 in
set_option maxHeartbeats 4000000 in
theorem bX7_weightOf_b27 {G : rG} {X : rX} (C : rC G X 2 cX7_weightOf (some .int) 0) {r : Int32 × rS} (s0 : Int32) (S : rS) (hf : fX7_weightOf_b27 s0 S = some r) : rAW G X 2 (some (.int r.1), r.2) 27 [none, none] [.int s0] S := by
  unfold fX7_weightOf_b27 at hf
  obtain rfl := Option.some.inj hf
  exact ra_iret C dX7_weightOf_27
set_option maxRecDepth 100000 in
set_option maxHeartbeats 4000000 in
theorem bX7_weightOf {G : rG} {X : rX} (C : rC G X 2 cX7_weightOf (some .int) 0) (a0 : Int32) (S : rS) {r : Int32 × rS} (hf : fX7_weightOf a0 S = some r) : rAW G X 2 (some (.int r.1), r.2) 0 [some (.ref G.2.2.2.1), some (.int a0)] [] S := by
  unfold fX7_weightOf at hf
  refine ra_aload_n C dX7_weightOf_0 rfl rfl ?_
  refine ra_getR C dX7_weightOf_1 (k := 13) (by decide) rfl rX7_in tX7_f44 rfl ?_
  refine ra_iload_n C dX7_weightOf_4 rfl rfl ?_
  obtain ⟨x5, h5, hf⟩ := rob hf
  refine ra_iald C dX7_weightOf_5 h5 (by decide) rfl rfl ?_
  refine ra_iconst C dX7_weightOf_6 (v := 2) (by decide) ?_
  refine ra_icmp_ne C dX7_weightOf_7 (tgt := 26) (by decide) (fun c7 => ?_) (fun c7 => ?_)
  · replace hf := rif_n c7 hf
    refine ra_iconst C dX7_weightOf_26 (v := 1) (by decide) ?_
    refine ra_mask [false, false] ?_
    exact bX7_weightOf_b27 C _ _ hf
  · replace hf := rif_p c7 hf
    refine ra_iconst C dX7_weightOf_10 (v := 1) (by decide) ?_
    refine ra_aload_n C dX7_weightOf_11 rfl rfl ?_
    refine ra_getR C dX7_weightOf_12 (k := 12) (by decide) rfl rX7_in tX7_f41 rfl ?_
    refine ra_aload_n C dX7_weightOf_15 rfl rfl ?_
    refine ra_getR C dX7_weightOf_16 (k := 15) (by decide) rfl rX7_in tX7_f50 rfl ?_
    refine ra_iload_n C dX7_weightOf_19 rfl rfl ?_
    obtain ⟨x20, h20, hf⟩ := rob hf
    refine ra_iald C dX7_weightOf_20 h20 (by decide) rfl rfl ?_
    obtain ⟨x21, h21, hf⟩ := rob hf
    refine ra_iald C dX7_weightOf_21 h21 (by decide) rfl rfl ?_
    refine ra_iadd C dX7_weightOf_22 ?_
    refine ra_goto C dX7_weightOf_23 (tgt := 27) (by decide) ?_
    refine ra_mask [false, false] ?_
    exact bX7_weightOf_b27 C _ _ hf
set_option maxRecDepth 100000 in
set_option maxHeartbeats 4000000 in
theorem mX7_weightOf {l : Launch} {G : rG} {a0 : Int32} {S : rS} {r : Int32 × rS} (hf : fX7_weightOf a0 S = some r) : rM l G 0 yX7_weightOf cX7_weightOf 2 (some .int) [.ref G.2.2.2.1, .int a0] S (some (.int r.1), r.2) :=
  rM_of (lo0 := [some (.ref G.2.2.2.1), some (.int a0)]) (by decide +kernel) rfl (Nat.le_of_ble_eq_true rfl) (by simp [Value.category]) rfl (fun X _ C => bX7_weightOf C a0 S hf)
set_option maxRecDepth 100000 in
set_option maxHeartbeats 4000000 in
theorem bX7_include_b129_body {G : rG} {X : rX} (C : rC G X 5 cX7_include (some .int) 2) {r : Int32 × rS} {rec129 : Int32 → Int32 → rS → Option (Int32 × rS)} (hrec129 : ∀ (l1 : Int32) (l4 : Int32) (S : rS), rec129 l1 l4 S = some r → rAW G X 5 (some (.int r.1), r.2) 129 [some (.ref G.2.2.2.1), some (.int l1), none, none, some (.int l4)] [] S) (l1 : Int32) (l4 : Int32) (S : rS) (hf : fX7_include_b129_body rec129 l1 l4 S = some r) : rAW G X 5 (some (.int r.1), r.2) 129 [some (.ref G.2.2.2.1), some (.int l1), none, none, some (.int l4)] [] S := by
  unfold fX7_include_b129_body at hf
  refine ra_iload C dX7_include_129 rfl ?_
  refine ra_bipush C dX7_include_131 (v := 60) (by decide) ?_
  refine ra_iload_n C dX7_include_133 rfl rfl ?_
  refine ra_imul C dX7_include_134 ?_
  refine ra_aload_n C dX7_include_135 rfl rfl ?_
  refine ra_getR C dX7_include_136 (k := 11) (by decide) rfl rX7_in tX7_f38 rfl ?_
  refine ra_iload_n C dX7_include_139 rfl rfl ?_
  obtain ⟨x140, h140, hf⟩ := rob hf
  refine ra_iald C dX7_include_140 h140 (by decide) rfl rfl ?_
  refine ra_iadd C dX7_include_141 ?_
  refine ra_icmp_ge C dX7_include_142 (tgt := 191) (by decide) (fun c142 => ?_) (fun c142 => ?_)
  · replace hf := rif_p c142 hf
    refine ra_aload_n C dX7_include_191 rfl rfl ?_
    refine ra_getR C dX7_include_192 (k := 11) (by decide) rfl rX7_in tX7_f38 rfl ?_
    refine ra_bipush C dX7_include_195 (v := 20) (by decide) ?_
    obtain ⟨x197, h197, hf⟩ := rob hf
    refine ra_iald C dX7_include_197 h197 (by decide) rfl rfl ?_
    obtain rfl := Option.some.inj hf
    exact ra_iret C dX7_include_198
  · replace hf := rif_n c142 hf
    refine ra_aload_n C dX7_include_145 rfl rfl ?_
    refine ra_bipush C dX7_include_146 (v := 20) (by decide) ?_
    refine ra_aload_n C dX7_include_148 rfl rfl ?_
    refine ra_getR C dX7_include_149 (k := 13) (by decide) rfl rX7_in tX7_f44 rfl ?_
    refine ra_iload C dX7_include_152 rfl ?_
    obtain ⟨x154, h154, hf⟩ := rob hf
    refine ra_iald C dX7_include_154 h154 (by decide) rfl rfl ?_
    refine ra_aload_n C dX7_include_155 rfl rfl ?_
    refine ra_getR C dX7_include_156 (k := 14) (by decide) rfl rX7_in tX7_f47 rfl ?_
    refine ra_iload C dX7_include_159 rfl ?_
    obtain ⟨x161, h161, hf⟩ := rob hf
    refine ra_iald C dX7_include_161 h161 (by decide) rfl rfl ?_
    refine ra_aload_n C dX7_include_162 rfl rfl ?_
    refine ra_getR C dX7_include_163 (k := 15) (by decide) rfl rX7_in tX7_f50 rfl ?_
    refine ra_iload C dX7_include_166 rfl ?_
    obtain ⟨x168, h168, hf⟩ := rob hf
    refine ra_iald C dX7_include_168 h168 (by decide) rfl rfl ?_
    refine ra_aload_n C dX7_include_169 rfl rfl ?_
    refine ra_getR C dX7_include_170 (k := 16) (by decide) rfl rX7_in tX7_f53 rfl ?_
    refine ra_iload C dX7_include_173 rfl ?_
    obtain ⟨x175, h175, hf⟩ := rob hf
    refine ra_iald C dX7_include_175 h175 (by decide) rfl rfl ?_
    refine ra_aload_n C dX7_include_176 rfl rfl ?_
    refine ra_iload C dX7_include_177 rfl ?_
    obtain ⟨q179, h179, hf⟩ := rob hf
    refine ra_callVi C dX7_include_179 (mX7_weightOf h179) rfl tX7_l220 tX7_i_X7_weightOf tX7_s_X7_weightOf tX7_init tX7_c_X7_weightOf tX7_d_X7_weightOf (by decide) (by decide) (Nat.le_of_ble_eq_true rfl) ?_
    obtain ⟨q182, h182, hf⟩ := rob hf
    refine ra_callVv C dX7_include_182 (mX7_specifies h182) rfl tX7_l213 tX7_i_X7_specifies tX7_s_X7_specifies tX7_init tX7_c_X7_specifies tX7_d_X7_specifies (by decide) (by decide) (Nat.le_of_ble_eq_true rfl) ?_
    refine ra_iinc C dX7_include_185 rfl (v := 1) (by decide) (by decide) ?_
    refine ra_goto C dX7_include_188 (tgt := 129) (by decide) ?_
    exact hrec129 _ _ _ hf
set_option maxRecDepth 100000 in
set_option maxHeartbeats 4000000 in
theorem bX7_include_b129 {G : rG} {X : rX} (C : rC G X 5 cX7_include (some .int) 2) {r : Int32 × rS} : ∀ (n : Nat) (l1 : Int32) (l4 : Int32) (S : rS), fX7_include_b129 n l1 l4 S = some r → rAW G X 5 (some (.int r.1), r.2) 129 [some (.ref G.2.2.2.1), some (.int l1), none, none, some (.int l4)] [] S := by
  intro n
  induction n with
  | zero => intro l1 l4 S hf; cases hf
  | succ n ih => intro l1 l4 S hf; exact bX7_include_b129_body C (fun l1 l4 S h => ih l1 l4 S h) l1 l4 S hf
set_option maxRecDepth 100000 in
set_option maxHeartbeats 4000000 in
theorem bX7_include_b115 {G : rG} {X : rX} (C : rC G X 5 cX7_include (some .int) 2) {r : Int32 × rS} (l1 : Int32) (s0 : Int32) (S : rS) (hf : fX7_include_b115 l1 s0 S = some r) : rAW G X 5 (some (.int r.1), r.2) 115 [some (.ref G.2.2.2.1), some (.int l1), none, none, none] [.int s0, .ref G.2.2.2.1] S := by
  unfold fX7_include_b115 at hf
  obtain ⟨q115, h115, hf⟩ := rob hf
  refine ra_callVi C dX7_include_115 (mX7_fails h115) rfl tX7_l175 tX7_i_X7_fails tX7_s_X7_fails tX7_init tX7_c_X7_fails tX7_d_X7_fails (by decide) (by decide) (Nat.le_of_ble_eq_true rfl) ?_
  refine ra_if_eq C dX7_include_118 (tgt := 123) (by decide) (fun c118 => ?_) (fun c118 => ?_)
  · replace hf := rif_p c118 hf
    refine ra_bipush C dX7_include_123 (v := 60) (by decide) ?_
    refine ra_iload_n C dX7_include_125 rfl rfl ?_
    refine ra_imul C dX7_include_126 ?_
    refine ra_istore C dX7_include_127 (by decide) ?_
    exact bX7_include_b129 C _ _ _ _ hf
  · replace hf := rif_n c118 hf
    refine ra_iconst C dX7_include_121 (v := 0) (by decide) ?_
    obtain rfl := Option.some.inj hf
    exact ra_iret C dX7_include_122
set_option maxRecDepth 100000 in
set_option maxHeartbeats 4000000 in
theorem bX7_include_b97 {G : rG} {X : rX} (C : rC G X 5 cX7_include (some .int) 2) {r : Int32 × rS} (l1 : Int32) (l2 : Int32) (l3 : Int32) (S : rS) (hf : fX7_include_b97 l1 l2 l3 S = some r) : rAW G X 5 (some (.int r.1), r.2) 97 [some (.ref G.2.2.2.1), some (.int l1), some (.int l2), some (.int l3), none] [] S := by
  unfold fX7_include_b97 at hf
  refine ra_aload_n C dX7_include_97 rfl rfl ?_
  refine ra_iload_n C dX7_include_98 rfl rfl ?_
  refine ra_if_ne C dX7_include_99 (tgt := 106) (by decide) (fun c99 => ?_) (fun c99 => ?_)
  · replace hf := rif_n c99 hf
    refine ra_iload_n C dX7_include_106 rfl rfl ?_
    refine ra_if_eq C dX7_include_107 (tgt := 114) (by decide) (fun c107 => ?_) (fun c107 => ?_)
    · replace hf := rif_p c107 hf
      refine ra_iconst C dX7_include_114 (v := 2) (by decide) ?_
      refine ra_mask [true, true, false, false, false] ?_
      exact bX7_include_b115 C _ _ _ hf
    · replace hf := rif_n c107 hf
      refine ra_iconst C dX7_include_110 (v := 0) (by decide) ?_
      refine ra_goto C dX7_include_111 (tgt := 115) (by decide) ?_
      refine ra_mask [true, true, false, false, false] ?_
      exact bX7_include_b115 C _ _ _ hf
  · replace hf := rif_p c99 hf
    refine ra_iconst C dX7_include_102 (v := 1) (by decide) ?_
    refine ra_goto C dX7_include_103 (tgt := 115) (by decide) ?_
    refine ra_mask [true, true, false, false, false] ?_
    exact bX7_include_b115 C _ _ _ hf
set_option maxRecDepth 100000 in
set_option maxHeartbeats 4000000 in
theorem bX7_include_b90 {G : rG} {X : rX} (C : rC G X 5 cX7_include (some .int) 2) {r : Int32 × rS} {rec41 : Int32 → Int32 → Int32 → Int32 → rS → Option (Int32 × rS)} (hrec41 : ∀ (l1 : Int32) (l2 : Int32) (l3 : Int32) (l4 : Int32) (S : rS), rec41 l1 l2 l3 l4 S = some r → rAW G X 5 (some (.int r.1), r.2) 41 [some (.ref G.2.2.2.1), some (.int l1), some (.int l2), some (.int l3), some (.int l4)] [] S) (l1 : Int32) (l2 : Int32) (l4 : Int32) (s0 : Int32) (S : rS) (hf : fX7_include_b90 rec41 l1 l2 l4 s0 S = some r) : rAW G X 5 (some (.int r.1), r.2) 90 [some (.ref G.2.2.2.1), some (.int l1), some (.int l2), none, some (.int l4)] [.int s0] S := by
  unfold fX7_include_b90 at hf
  refine ra_istore_n C dX7_include_90 rfl (by decide) ?_
  refine ra_iinc C dX7_include_91 rfl (v := 1) (by decide) (by decide) ?_
  refine ra_goto C dX7_include_94 (tgt := 41) (by decide) ?_
  exact hrec41 _ _ _ _ _ hf
set_option maxRecDepth 100000 in
set_option maxHeartbeats 4000000 in
theorem bX7_include_b41_body {G : rG} {X : rX} (C : rC G X 5 cX7_include (some .int) 2) {r : Int32 × rS} {rec41 : Int32 → Int32 → Int32 → Int32 → rS → Option (Int32 × rS)} (hrec41 : ∀ (l1 : Int32) (l2 : Int32) (l3 : Int32) (l4 : Int32) (S : rS), rec41 l1 l2 l3 l4 S = some r → rAW G X 5 (some (.int r.1), r.2) 41 [some (.ref G.2.2.2.1), some (.int l1), some (.int l2), some (.int l3), some (.int l4)] [] S) (l1 : Int32) (l2 : Int32) (l3 : Int32) (l4 : Int32) (S : rS) (hf : fX7_include_b41_body rec41 l1 l2 l3 l4 S = some r) : rAW G X 5 (some (.int r.1), r.2) 41 [some (.ref G.2.2.2.1), some (.int l1), some (.int l2), some (.int l3), some (.int l4)] [] S := by
  unfold fX7_include_b41_body at hf
  refine ra_iload_n C dX7_include_41 rfl rfl ?_
  refine ra_if_eq C dX7_include_42 (tgt := 97) (by decide) (fun c42 => ?_) (fun c42 => ?_)
  · replace hf := rif_p c42 hf
    refine ra_mask [true, true, true, true, false] ?_
    exact bX7_include_b97 C _ _ _ _ hf
  · replace hf := rif_n c42 hf
    refine ra_iload C dX7_include_45 rfl ?_
    refine ra_bipush C dX7_include_47 (v := 60) (by decide) ?_
    refine ra_iload_n C dX7_include_49 rfl rfl ?_
    refine ra_imul C dX7_include_50 ?_
    refine ra_aload_n C dX7_include_51 rfl rfl ?_
    refine ra_getR C dX7_include_52 (k := 11) (by decide) rfl rX7_in tX7_f38 rfl ?_
    refine ra_iload_n C dX7_include_55 rfl rfl ?_
    obtain ⟨x56, h56, hf⟩ := rob hf
    refine ra_iald C dX7_include_56 h56 (by decide) rfl rfl ?_
    refine ra_iadd C dX7_include_57 ?_
    refine ra_icmp_ge C dX7_include_58 (tgt := 97) (by decide) (fun c58 => ?_) (fun c58 => ?_)
    · replace hf := rif_p c58 hf
      refine ra_mask [true, true, true, true, false] ?_
      exact bX7_include_b97 C _ _ _ _ hf
    · replace hf := rif_n c58 hf
      refine ra_aload_n C dX7_include_61 rfl rfl ?_
      refine ra_bipush C dX7_include_62 (v := 20) (by decide) ?_
      refine ra_aload_n C dX7_include_64 rfl rfl ?_
      refine ra_getR C dX7_include_65 (k := 13) (by decide) rfl rX7_in tX7_f44 rfl ?_
      refine ra_iload C dX7_include_68 rfl ?_
      obtain ⟨x70, h70, hf⟩ := rob hf
      refine ra_iald C dX7_include_70 h70 (by decide) rfl rfl ?_
      refine ra_aload_n C dX7_include_71 rfl rfl ?_
      refine ra_getR C dX7_include_72 (k := 14) (by decide) rfl rX7_in tX7_f47 rfl ?_
      refine ra_iload C dX7_include_75 rfl ?_
      obtain ⟨x77, h77, hf⟩ := rob hf
      refine ra_iald C dX7_include_77 h77 (by decide) rfl rfl ?_
      obtain ⟨q78, h78, hf⟩ := rob hf
      refine ra_callVi C dX7_include_78 (mX7_findsSpec h78) rfl tX7_l207 tX7_i_X7_findsSpec tX7_s_X7_findsSpec tX7_init tX7_c_X7_findsSpec tX7_d_X7_findsSpec (by decide) (by decide) (Nat.le_of_ble_eq_true rfl) ?_
      refine ra_iconst C dX7_include_81 (v := (-1)) (by decide) ?_
      refine ra_icmp_ne C dX7_include_82 (tgt := 89) (by decide) (fun c82 => ?_) (fun c82 => ?_)
      · replace hf := rif_n c82 hf
        refine ra_iconst C dX7_include_89 (v := 0) (by decide) ?_
        refine ra_mask [true, true, true, false, true] ?_
        exact bX7_include_b90 C hrec41 _ _ _ _ _ hf
      · replace hf := rif_p c82 hf
        refine ra_iconst C dX7_include_85 (v := 1) (by decide) ?_
        refine ra_goto C dX7_include_86 (tgt := 90) (by decide) ?_
        refine ra_mask [true, true, true, false, true] ?_
        exact bX7_include_b90 C hrec41 _ _ _ _ _ hf
set_option maxRecDepth 100000 in
set_option maxHeartbeats 4000000 in
theorem bX7_include_b41 {G : rG} {X : rX} (C : rC G X 5 cX7_include (some .int) 2) {r : Int32 × rS} : ∀ (n : Nat) (l1 : Int32) (l2 : Int32) (l3 : Int32) (l4 : Int32) (S : rS), fX7_include_b41 n l1 l2 l3 l4 S = some r → rAW G X 5 (some (.int r.1), r.2) 41 [some (.ref G.2.2.2.1), some (.int l1), some (.int l2), some (.int l3), some (.int l4)] [] S := by
  intro n
  induction n with
  | zero => intro l1 l2 l3 l4 S hf; cases hf
  | succ n ih => intro l1 l2 l3 l4 S hf; exact bX7_include_b41_body C (fun l1 l2 l3 l4 S h => ih l1 l2 l3 l4 S h) l1 l2 l3 l4 S hf
set_option maxRecDepth 100000 in
set_option maxHeartbeats 4000000 in
theorem bX7_include_b34 {G : rG} {X : rX} (C : rC G X 5 cX7_include (some .int) 2) {r : Int32 × rS} (l1 : Int32) (l2 : Int32) (s0 : Int32) (S : rS) (hf : fX7_include_b34 l1 l2 s0 S = some r) : rAW G X 5 (some (.int r.1), r.2) 34 [some (.ref G.2.2.2.1), some (.int l1), some (.int l2), none, none] [.int s0] S := by
  unfold fX7_include_b34 at hf
  refine ra_istore_n C dX7_include_34 rfl (by decide) ?_
  refine ra_bipush C dX7_include_35 (v := 60) (by decide) ?_
  refine ra_iload_n C dX7_include_37 rfl rfl ?_
  refine ra_imul C dX7_include_38 ?_
  refine ra_istore C dX7_include_39 (by decide) ?_
  exact bX7_include_b41 C _ _ _ _ _ _ hf
set_option maxRecDepth 100000 in
set_option maxHeartbeats 4000000 in
theorem bX7_include_b33 {G : rG} {X : rX} (C : rC G X 5 cX7_include (some .int) 2) {r : Int32 × rS} (l1 : Int32) (l2 : Int32) (S : rS) (hf : fX7_include_b33 l1 l2 S = some r) : rAW G X 5 (some (.int r.1), r.2) 33 [some (.ref G.2.2.2.1), some (.int l1), some (.int l2), none, none] [] S := by
  unfold fX7_include_b33 at hf
  refine ra_iconst C dX7_include_33 (v := 0) (by decide) ?_
  exact bX7_include_b34 C _ _ _ _ hf
set_option maxRecDepth 100000 in
set_option maxHeartbeats 4000000 in
theorem bX7_include {G : rG} {X : rX} (C : rC G X 5 cX7_include (some .int) 2) (a0 : Int32) (S : rS) {r : Int32 × rS} (hf : fX7_include a0 S = some r) : rAW G X 5 (some (.int r.1), r.2) 0 [some (.ref G.2.2.2.1), some (.int a0), none, none, none] [] S := by
  unfold fX7_include at hf
  refine ra_aload_n C dX7_include_0 rfl rfl ?_
  refine ra_iload_n C dX7_include_1 rfl rfl ?_
  obtain ⟨q2, h2, hf⟩ := rob hf
  refine ra_callVi C dX7_include_2 (mX7_isSignature h2) rfl tX7_l217 tX7_i_X7_isSignature tX7_s_X7_isSignature tX7_init tX7_c_X7_isSignature tX7_d_X7_isSignature (by decide) (by decide) (Nat.le_of_ble_eq_true rfl) ?_
  refine ra_istore_n C dX7_include_5 rfl (by decide) ?_
  refine ra_iload_n C dX7_include_6 rfl rfl ?_
  refine ra_if_eq C dX7_include_7 (tgt := 33) (by decide) (fun c7 => ?_) (fun c7 => ?_)
  · replace hf := rif_p c7 hf
    exact bX7_include_b33 C _ _ _ hf
  · replace hf := rif_n c7 hf
    refine ra_aload_n C dX7_include_10 rfl rfl ?_
    refine ra_getR C dX7_include_11 (k := 12) (by decide) rfl rX7_in tX7_f41 rfl ?_
    refine ra_bipush C dX7_include_14 (v := 20) (by decide) ?_
    obtain ⟨x16, h16, hf⟩ := rob hf
    refine ra_iald C dX7_include_16 h16 (by decide) rfl rfl ?_
    refine ra_aload_n C dX7_include_17 rfl rfl ?_
    refine ra_getR C dX7_include_18 (k := 12) (by decide) rfl rX7_in tX7_f41 rfl ?_
    refine ra_iload_n C dX7_include_21 rfl rfl ?_
    obtain ⟨x22, h22, hf⟩ := rob hf
    refine ra_iald C dX7_include_22 h22 (by decide) rfl rfl ?_
    refine ra_iadd C dX7_include_23 ?_
    refine ra_bipush C dX7_include_24 (v := 60) (by decide) ?_
    refine ra_icmp_gt C dX7_include_26 (tgt := 33) (by decide) (fun c26 => ?_) (fun c26 => ?_)
    · replace hf := rif_p c26 hf
      exact bX7_include_b33 C _ _ _ hf
    · replace hf := rif_n c26 hf
      refine ra_iconst C dX7_include_29 (v := 1) (by decide) ?_
      refine ra_goto C dX7_include_30 (tgt := 34) (by decide) ?_
      exact bX7_include_b34 C _ _ _ _ hf
set_option maxRecDepth 100000 in
set_option maxHeartbeats 4000000 in
theorem mX7_include {l : Launch} {G : rG} {a0 : Int32} {S : rS} {r : Int32 × rS} (hf : fX7_include a0 S = some r) : rM l G 2 yX7_include cX7_include 5 (some .int) [.ref G.2.2.2.1, .int a0] S (some (.int r.1), r.2) :=
  rM_of (lo0 := [some (.ref G.2.2.2.1), some (.int a0), none, none, none]) (by decide +kernel) rfl (Nat.le_of_ble_eq_true rfl) (by simp [Value.category]) rfl (fun X _ C => bX7_include C a0 S hf)
set_option maxRecDepth 100000 in
set_option maxHeartbeats 4000000 in
theorem bX7_signature_b27_body {G : rG} {X : rX} (C : rC G X 2 cX7_signature (some .int) 1) {r : Int32 × rS} {rec27 : Int32 → rS → Option (Int32 × rS)} (hrec27 : ∀ (l1 : Int32) (S : rS), rec27 l1 S = some r → rAW G X 2 (some (.int r.1), r.2) 27 [some (.ref G.2.2.2.1), some (.int l1)] [] S) (l1 : Int32) (S : rS) (hf : fX7_signature_b27_body rec27 l1 S = some r) : rAW G X 2 (some (.int r.1), r.2) 27 [some (.ref G.2.2.2.1), some (.int l1)] [] S := by
  unfold fX7_signature_b27_body at hf
  refine ra_iload_n C dX7_signature_27 rfl rfl ?_
  refine ra_sipush C dX7_signature_28 (v := 1200) (by decide) ?_
  refine ra_aload_n C dX7_signature_31 rfl rfl ?_
  refine ra_getR C dX7_signature_32 (k := 11) (by decide) rfl rX7_in tX7_f38 rfl ?_
  refine ra_bipush C dX7_signature_35 (v := 20) (by decide) ?_
  obtain ⟨x37, h37, hf⟩ := rob hf
  refine ra_iald C dX7_signature_37 h37 (by decide) rfl rfl ?_
  refine ra_iadd C dX7_signature_38 ?_
  refine ra_icmp_ge C dX7_signature_39 (tgt := 85) (by decide) (fun c39 => ?_) (fun c39 => ?_)
  · replace hf := rif_p c39 hf
    refine ra_aload_n C dX7_signature_85 rfl rfl ?_
    refine ra_getR C dX7_signature_86 (k := 11) (by decide) rfl rX7_in tX7_f38 rfl ?_
    refine ra_bipush C dX7_signature_89 (v := 20) (by decide) ?_
    refine ra_iconst C dX7_signature_91 (v := 0) (by decide) ?_
    obtain ⟨S92, h92, hf⟩ := rob hf
    refine ra_iast C dX7_signature_92 h92 (by decide) rfl rfl ?_
    refine ra_aload_n C dX7_signature_93 rfl rfl ?_
    refine ra_getR C dX7_signature_94 (k := 12) (by decide) rfl rX7_in tX7_f41 rfl ?_
    refine ra_bipush C dX7_signature_97 (v := 20) (by decide) ?_
    refine ra_iconst C dX7_signature_99 (v := 0) (by decide) ?_
    obtain ⟨S100, h100, hf⟩ := rob hf
    refine ra_iast C dX7_signature_100 h100 (by decide) rfl rfl ?_
    refine ra_aload_n C dX7_signature_101 rfl rfl ?_
    refine ra_dup C dX7_signature_102 rfl ?_
    refine ra_getI C dX7_signature_103 (k := 10) (by decide) rfl rX7_in tX7_f204 rfl ?_
    refine ra_iconst C dX7_signature_106 (v := 1) (by decide) ?_
    refine ra_iadd C dX7_signature_107 ?_
    refine ra_putI C dX7_signature_108 (k := 10) (by decide) rfl rX7_in tX7_f204 rfl rfl (tyX7_ok 10 (by decide)) ?_
    refine ra_aload_n C dX7_signature_111 rfl rfl ?_
    refine ra_getI C dX7_signature_112 (k := 10) (by decide) rfl rX7_in tX7_f204 rfl ?_
    refine ra_iconst C dX7_signature_115 (v := 1) (by decide) ?_
    refine ra_isub C dX7_signature_116 ?_
    obtain rfl := Option.some.inj hf
    exact ra_iret C dX7_signature_117
  · replace hf := rif_n c39 hf
    refine ra_aload_n C dX7_signature_42 rfl rfl ?_
    refine ra_aload_n C dX7_signature_43 rfl rfl ?_
    refine ra_getI C dX7_signature_44 (k := 10) (by decide) rfl rX7_in tX7_f204 rfl ?_
    refine ra_aload_n C dX7_signature_47 rfl rfl ?_
    refine ra_getR C dX7_signature_48 (k := 13) (by decide) rfl rX7_in tX7_f44 rfl ?_
    refine ra_iload_n C dX7_signature_51 rfl rfl ?_
    obtain ⟨x52, h52, hf⟩ := rob hf
    refine ra_iald C dX7_signature_52 h52 (by decide) rfl rfl ?_
    refine ra_aload_n C dX7_signature_53 rfl rfl ?_
    refine ra_getR C dX7_signature_54 (k := 14) (by decide) rfl rX7_in tX7_f47 rfl ?_
    refine ra_iload_n C dX7_signature_57 rfl rfl ?_
    obtain ⟨x58, h58, hf⟩ := rob hf
    refine ra_iald C dX7_signature_58 h58 (by decide) rfl rfl ?_
    refine ra_aload_n C dX7_signature_59 rfl rfl ?_
    refine ra_getR C dX7_signature_60 (k := 15) (by decide) rfl rX7_in tX7_f50 rfl ?_
    refine ra_iload_n C dX7_signature_63 rfl rfl ?_
    obtain ⟨x64, h64, hf⟩ := rob hf
    refine ra_iald C dX7_signature_64 h64 (by decide) rfl rfl ?_
    refine ra_aload_n C dX7_signature_65 rfl rfl ?_
    refine ra_getR C dX7_signature_66 (k := 16) (by decide) rfl rX7_in tX7_f53 rfl ?_
    refine ra_iload_n C dX7_signature_69 rfl rfl ?_
    obtain ⟨x70, h70, hf⟩ := rob hf
    refine ra_iald C dX7_signature_70 h70 (by decide) rfl rfl ?_
    refine ra_aload_n C dX7_signature_71 rfl rfl ?_
    refine ra_iload_n C dX7_signature_72 rfl rfl ?_
    obtain ⟨q73, h73, hf⟩ := rob hf
    refine ra_callVi C dX7_signature_73 (mX7_weightOf h73) rfl tX7_l220 tX7_i_X7_weightOf tX7_s_X7_weightOf tX7_init tX7_c_X7_weightOf tX7_d_X7_weightOf (by decide) (by decide) (Nat.le_of_ble_eq_true rfl) ?_
    obtain ⟨q76, h76, hf⟩ := rob hf
    refine ra_callVv C dX7_signature_76 (mX7_specifies h76) rfl tX7_l213 tX7_i_X7_specifies tX7_s_X7_specifies tX7_init tX7_c_X7_specifies tX7_d_X7_specifies (by decide) (by decide) (Nat.le_of_ble_eq_true rfl) ?_
    refine ra_iinc C dX7_signature_79 rfl (v := 1) (by decide) (by decide) ?_
    refine ra_goto C dX7_signature_82 (tgt := 27) (by decide) ?_
    exact hrec27 _ _ hf
set_option maxRecDepth 100000 in
set_option maxHeartbeats 4000000 in
theorem bX7_signature_b27 {G : rG} {X : rX} (C : rC G X 2 cX7_signature (some .int) 1) {r : Int32 × rS} : ∀ (n : Nat) (l1 : Int32) (S : rS), fX7_signature_b27 n l1 S = some r → rAW G X 2 (some (.int r.1), r.2) 27 [some (.ref G.2.2.2.1), some (.int l1)] [] S := by
  intro n
  induction n with
  | zero => intro l1 S hf; cases hf
  | succ n ih => intro l1 S hf; exact bX7_signature_b27_body C (fun l1 S h => ih l1 S h) l1 S hf
set_option maxRecDepth 100000 in
set_option maxHeartbeats 4000000 in
theorem bX7_signature_b15 {G : rG} {X : rX} (C : rC G X 2 cX7_signature (some .int) 1) {r : Int32 × rS} (s0 : Int32) (S : rS) (hf : fX7_signature_b15 s0 S = some r) : rAW G X 2 (some (.int r.1), r.2) 15 [some (.ref G.2.2.2.1), none] [.int s0, .ref G.2.2.2.1] S := by
  unfold fX7_signature_b15 at hf
  obtain ⟨q15, h15, hf⟩ := rob hf
  refine ra_callVi C dX7_signature_15 (mX7_fails h15) rfl tX7_l175 tX7_i_X7_fails tX7_s_X7_fails tX7_init tX7_c_X7_fails tX7_d_X7_fails (by decide) (by decide) (Nat.le_of_ble_eq_true rfl) ?_
  refine ra_if_eq C dX7_signature_18 (tgt := 23) (by decide) (fun c18 => ?_) (fun c18 => ?_)
  · replace hf := rif_p c18 hf
    refine ra_sipush C dX7_signature_23 (v := 1200) (by decide) ?_
    refine ra_istore_n C dX7_signature_26 rfl (by decide) ?_
    exact bX7_signature_b27 C _ _ _ hf
  · replace hf := rif_n c18 hf
    refine ra_iconst C dX7_signature_21 (v := 0) (by decide) ?_
    obtain rfl := Option.some.inj hf
    exact ra_iret C dX7_signature_22
set_option maxRecDepth 100000 in
set_option maxHeartbeats 4000000 in
theorem bX7_signature {G : rG} {X : rX} (C : rC G X 2 cX7_signature (some .int) 1) (S : rS) {r : Int32 × rS} (hf : fX7_signature  S = some r) : rAW G X 2 (some (.int r.1), r.2) 0 [some (.ref G.2.2.2.1), none] [] S := by
  unfold fX7_signature at hf
  refine ra_aload_n C dX7_signature_0 rfl rfl ?_
  refine ra_aload_n C dX7_signature_1 rfl rfl ?_
  refine ra_getI C dX7_signature_2 (k := 10) (by decide) rfl rX7_in tX7_f204 rfl ?_
  refine ra_bipush C dX7_signature_5 (v := 20) (by decide) ?_
  refine ra_icmp_ne C dX7_signature_7 (tgt := 14) (by decide) (fun c7 => ?_) (fun c7 => ?_)
  · replace hf := rif_n c7 hf
    refine ra_iconst C dX7_signature_14 (v := 0) (by decide) ?_
    exact bX7_signature_b15 C _ _ hf
  · replace hf := rif_p c7 hf
    refine ra_iconst C dX7_signature_10 (v := 1) (by decide) ?_
    refine ra_goto C dX7_signature_11 (tgt := 15) (by decide) ?_
    exact bX7_signature_b15 C _ _ hf
set_option maxRecDepth 100000 in
set_option maxHeartbeats 4000000 in
theorem mX7_signature {l : Launch} {G : rG} {S : rS} {r : Int32 × rS} (hf : fX7_signature  S = some r) : rM l G 1 yX7_signature cX7_signature 2 (some .int) [.ref G.2.2.2.1] S (some (.int r.1), r.2) :=
  rM_of (lo0 := [some (.ref G.2.2.2.1), none]) (by decide +kernel) rfl (Nat.le_of_ble_eq_true rfl) (by simp [Value.category]) rfl (fun X _ C => bX7_signature C  S hf)
set_option maxRecDepth 100000 in
set_option maxHeartbeats 4000000 in
theorem bX7_with_b249 {G : rG} {X : rX} (C : rC G X 11 cX7_with (some .int) 2) {r : Int32 × rS} {rec92 : Int32 → Int32 → Int32 → Int32 → Int32 → Int32 → rS → Option (Int32 × rS)} (hrec92 : ∀ (l1 : Int32) (l2 : Int32) (l3 : Int32) (l4 : Int32) (l5 : Int32) (l7 : Int32) (S : rS), rec92 l1 l2 l3 l4 l5 l7 S = some r → rAW G X 11 (some (.int r.1), r.2) 92 [some (.ref G.2.2.2.1), some (.int l1), some (.int l2), some (.int l3), some (.int l4), some (.int l5), none, some (.int l7), none, none, none] [] S) (l1 : Int32) (l2 : Int32) (l3 : Int32) (l4 : Int32) (l5 : Int32) (l7 : Int32) (S : rS) (hf : fX7_with_b249 rec92 l1 l2 l3 l4 l5 l7 S = some r) : rAW G X 11 (some (.int r.1), r.2) 249 [some (.ref G.2.2.2.1), some (.int l1), some (.int l2), some (.int l3), some (.int l4), some (.int l5), none, some (.int l7), none, none, none] [] S := by
  unfold fX7_with_b249 at hf
  refine ra_iinc C dX7_with_249 rfl (v := 1) (by decide) (by decide) ?_
  refine ra_goto C dX7_with_252 (tgt := 92) (by decide) ?_
  exact hrec92 _ _ _ _ _ _ _ hf
set_option maxRecDepth 100000 in
set_option maxHeartbeats 4000000 in
theorem bX7_with_b217 {G : rG} {X : rX} (C : rC G X 11 cX7_with (some .int) 2) {r : Int32 × rS} {rec92 : Int32 → Int32 → Int32 → Int32 → Int32 → Int32 → rS → Option (Int32 × rS)} (hrec92 : ∀ (l1 : Int32) (l2 : Int32) (l3 : Int32) (l4 : Int32) (l5 : Int32) (l7 : Int32) (S : rS), rec92 l1 l2 l3 l4 l5 l7 S = some r → rAW G X 11 (some (.int r.1), r.2) 92 [some (.ref G.2.2.2.1), some (.int l1), some (.int l2), some (.int l3), some (.int l4), some (.int l5), none, some (.int l7), none, none, none] [] S) (l1 : Int32) (l2 : Int32) (l3 : Int32) (l4 : Int32) (l5 : Int32) (l7 : Int32) (l9 : Int32) (l10 : Int32) (S : rS) (hf : fX7_with_b217 rec92 l1 l2 l3 l4 l5 l7 l9 l10 S = some r) : rAW G X 11 (some (.int r.1), r.2) 217 [some (.ref G.2.2.2.1), some (.int l1), some (.int l2), some (.int l3), some (.int l4), some (.int l5), none, some (.int l7), none, some (.int l9), some (.int l10)] [] S := by
  unfold fX7_with_b217 at hf
  refine ra_aload_n C dX7_with_217 rfl rfl ?_
  refine ra_aload_n C dX7_with_218 rfl rfl ?_
  refine ra_getI C dX7_with_219 (k := 10) (by decide) rfl rX7_in tX7_f204 rfl ?_
  refine ra_aload_n C dX7_with_222 rfl rfl ?_
  refine ra_getR C dX7_with_223 (k := 13) (by decide) rfl rX7_in tX7_f44 rfl ?_
  refine ra_iload C dX7_with_226 rfl ?_
  obtain ⟨x228, h228, hf⟩ := rob hf
  refine ra_iald C dX7_with_228 h228 (by decide) rfl rfl ?_
  refine ra_aload_n C dX7_with_229 rfl rfl ?_
  refine ra_getR C dX7_with_230 (k := 14) (by decide) rfl rX7_in tX7_f47 rfl ?_
  refine ra_iload C dX7_with_233 rfl ?_
  obtain ⟨x235, h235, hf⟩ := rob hf
  refine ra_iald C dX7_with_235 h235 (by decide) rfl rfl ?_
  refine ra_iload C dX7_with_236 rfl ?_
  refine ra_iload C dX7_with_238 rfl ?_
  refine ra_aload_n C dX7_with_240 rfl rfl ?_
  refine ra_iload C dX7_with_241 rfl ?_
  obtain ⟨q243, h243, hf⟩ := rob hf
  refine ra_callVi C dX7_with_243 (mX7_weightOf h243) rfl tX7_l220 tX7_i_X7_weightOf tX7_s_X7_weightOf tX7_init tX7_c_X7_weightOf tX7_d_X7_weightOf (by decide) (by decide) (Nat.le_of_ble_eq_true rfl) ?_
  obtain ⟨q246, h246, hf⟩ := rob hf
  refine ra_callVv C dX7_with_246 (mX7_specifies h246) rfl tX7_l213 tX7_i_X7_specifies tX7_s_X7_specifies tX7_init tX7_c_X7_specifies tX7_d_X7_specifies (by decide) (by decide) (Nat.le_of_ble_eq_true rfl) ?_
  refine ra_mask [true, true, true, true, true, true, false, true, false, false, false] ?_
  exact bX7_with_b249 C hrec92 _ _ _ _ _ _ _ hf
set_option maxRecDepth 100000 in
set_option maxHeartbeats 4000000 in
theorem bX7_with_b203 {G : rG} {X : rX} (C : rC G X 11 cX7_with (some .int) 2) {r : Int32 × rS} {rec92 : Int32 → Int32 → Int32 → Int32 → Int32 → Int32 → rS → Option (Int32 × rS)} (hrec92 : ∀ (l1 : Int32) (l2 : Int32) (l3 : Int32) (l4 : Int32) (l5 : Int32) (l7 : Int32) (S : rS), rec92 l1 l2 l3 l4 l5 l7 S = some r → rAW G X 11 (some (.int r.1), r.2) 92 [some (.ref G.2.2.2.1), some (.int l1), some (.int l2), some (.int l3), some (.int l4), some (.int l5), none, some (.int l7), none, none, none] [] S) (l1 : Int32) (l2 : Int32) (l3 : Int32) (l4 : Int32) (l5 : Int32) (l7 : Int32) (l9 : Int32) (s0 : Int32) (S : rS) (hf : fX7_with_b203 rec92 l1 l2 l3 l4 l5 l7 l9 s0 S = some r) : rAW G X 11 (some (.int r.1), r.2) 203 [some (.ref G.2.2.2.1), some (.int l1), some (.int l2), some (.int l3), some (.int l4), some (.int l5), none, some (.int l7), none, some (.int l9), none] [.int s0] S := by
  unfold fX7_with_b203 at hf
  refine ra_istore C dX7_with_203 (by decide) ?_
  refine ra_iload C dX7_with_205 rfl ?_
  refine ra_iload C dX7_with_207 rfl ?_
  refine ra_icmp_ne C dX7_with_209 (tgt := 217) (by decide) (fun c209 => ?_) (fun c209 => ?_)
  · replace hf := rif_n c209 hf
    exact bX7_with_b217 C hrec92 _ _ _ _ _ _ _ _ _ hf
  · replace hf := rif_p c209 hf
    refine ra_iload C dX7_with_212 rfl ?_
    refine ra_if_ne C dX7_with_214 (tgt := 249) (by decide) (fun c214 => ?_) (fun c214 => ?_)
    · replace hf := rif_n c214 hf
      refine ra_mask [true, true, true, true, true, true, false, true, false, false, false] ?_
      exact bX7_with_b249 C hrec92 _ _ _ _ _ _ _ hf
    · replace hf := rif_p c214 hf
      exact bX7_with_b217 C hrec92 _ _ _ _ _ _ _ _ _ hf
set_option maxRecDepth 100000 in
set_option maxHeartbeats 4000000 in
theorem bX7_with_b196 {G : rG} {X : rX} (C : rC G X 11 cX7_with (some .int) 2) {r : Int32 × rS} {rec92 : Int32 → Int32 → Int32 → Int32 → Int32 → Int32 → rS → Option (Int32 × rS)} (hrec92 : ∀ (l1 : Int32) (l2 : Int32) (l3 : Int32) (l4 : Int32) (l5 : Int32) (l7 : Int32) (S : rS), rec92 l1 l2 l3 l4 l5 l7 S = some r → rAW G X 11 (some (.int r.1), r.2) 92 [some (.ref G.2.2.2.1), some (.int l1), some (.int l2), some (.int l3), some (.int l4), some (.int l5), none, some (.int l7), none, none, none] [] S) (l1 : Int32) (l2 : Int32) (l3 : Int32) (l4 : Int32) (l5 : Int32) (l7 : Int32) (l9 : Int32) (S : rS) (hf : fX7_with_b196 rec92 l1 l2 l3 l4 l5 l7 l9 S = some r) : rAW G X 11 (some (.int r.1), r.2) 196 [some (.ref G.2.2.2.1), some (.int l1), some (.int l2), some (.int l3), some (.int l4), some (.int l5), none, some (.int l7), none, some (.int l9), none] [] S := by
  unfold fX7_with_b196 at hf
  refine ra_aload_n C dX7_with_196 rfl rfl ?_
  refine ra_getR C dX7_with_197 (k := 16) (by decide) rfl rX7_in tX7_f53 rfl ?_
  refine ra_iload C dX7_with_200 rfl ?_
  obtain ⟨x202, h202, hf⟩ := rob hf
  refine ra_iald C dX7_with_202 h202 (by decide) rfl rfl ?_
  exact bX7_with_b203 C hrec92 _ _ _ _ _ _ _ _ _ hf
set_option maxRecDepth 100000 in
set_option maxHeartbeats 4000000 in
theorem bX7_with_b167 {G : rG} {X : rX} (C : rC G X 11 cX7_with (some .int) 2) {r : Int32 × rS} {rec92 : Int32 → Int32 → Int32 → Int32 → Int32 → Int32 → rS → Option (Int32 × rS)} (hrec92 : ∀ (l1 : Int32) (l2 : Int32) (l3 : Int32) (l4 : Int32) (l5 : Int32) (l7 : Int32) (S : rS), rec92 l1 l2 l3 l4 l5 l7 S = some r → rAW G X 11 (some (.int r.1), r.2) 92 [some (.ref G.2.2.2.1), some (.int l1), some (.int l2), some (.int l3), some (.int l4), some (.int l5), none, some (.int l7), none, none, none] [] S) (l1 : Int32) (l2 : Int32) (l3 : Int32) (l4 : Int32) (l5 : Int32) (l7 : Int32) (l8 : Int32) (s0 : Int32) (S : rS) (hf : fX7_with_b167 rec92 l1 l2 l3 l4 l5 l7 l8 s0 S = some r) : rAW G X 11 (some (.int r.1), r.2) 167 [some (.ref G.2.2.2.1), some (.int l1), some (.int l2), some (.int l3), some (.int l4), some (.int l5), none, some (.int l7), some (.int l8), none, none] [.int s0] S := by
  unfold fX7_with_b167 at hf
  refine ra_istore C dX7_with_167 (by decide) ?_
  refine ra_iload C dX7_with_169 rfl ?_
  refine ra_if_eq C dX7_with_171 (tgt := 196) (by decide) (fun c171 => ?_) (fun c171 => ?_)
  · replace hf := rif_p c171 hf
    refine ra_mask [true, true, true, true, true, true, false, true, false, true, false] ?_
    exact bX7_with_b196 C hrec92 _ _ _ _ _ _ _ _ hf
  · replace hf := rif_n c171 hf
    refine ra_iload C dX7_with_174 rfl ?_
    refine ra_if_ne C dX7_with_176 (tgt := 196) (by decide) (fun c176 => ?_) (fun c176 => ?_)
    · replace hf := rif_n c176 hf
      refine ra_mask [true, true, true, true, true, true, false, true, false, true, false] ?_
      exact bX7_with_b196 C hrec92 _ _ _ _ _ _ _ _ hf
    · replace hf := rif_p c176 hf
      refine ra_aload_n C dX7_with_179 rfl rfl ?_
      refine ra_getR C dX7_with_180 (k := 16) (by decide) rfl rX7_in tX7_f53 rfl ?_
      refine ra_iload C dX7_with_183 rfl ?_
      obtain ⟨x185, h185, hf⟩ := rob hf
      refine ra_iald C dX7_with_185 h185 (by decide) rfl rfl ?_
      refine ra_iconst C dX7_with_186 (v := (-1)) (by decide) ?_
      refine ra_iload_n C dX7_with_187 rfl rfl ?_
      refine ra_isub C dX7_with_188 ?_
      refine ra_icmp_ne C dX7_with_189 (tgt := 196) (by decide) (fun c189 => ?_) (fun c189 => ?_)
      · replace hf := rif_n c189 hf
        refine ra_mask [true, true, true, true, true, true, false, true, false, true, false] ?_
        exact bX7_with_b196 C hrec92 _ _ _ _ _ _ _ _ hf
      · replace hf := rif_p c189 hf
        refine ra_iload_n C dX7_with_192 rfl rfl ?_
        refine ra_goto C dX7_with_193 (tgt := 203) (by decide) ?_
        refine ra_mask [true, true, true, true, true, true, false, true, false, true, false] ?_
        exact bX7_with_b203 C hrec92 _ _ _ _ _ _ _ _ _ hf
set_option maxRecDepth 100000 in
set_option maxHeartbeats 4000000 in
theorem bX7_with_b156 {G : rG} {X : rX} (C : rC G X 11 cX7_with (some .int) 2) {r : Int32 × rS} {rec92 : Int32 → Int32 → Int32 → Int32 → Int32 → Int32 → rS → Option (Int32 × rS)} (hrec92 : ∀ (l1 : Int32) (l2 : Int32) (l3 : Int32) (l4 : Int32) (l5 : Int32) (l7 : Int32) (S : rS), rec92 l1 l2 l3 l4 l5 l7 S = some r → rAW G X 11 (some (.int r.1), r.2) 92 [some (.ref G.2.2.2.1), some (.int l1), some (.int l2), some (.int l3), some (.int l4), some (.int l5), none, some (.int l7), none, none, none] [] S) (l1 : Int32) (l2 : Int32) (l3 : Int32) (l4 : Int32) (l5 : Int32) (l7 : Int32) (l8 : Int32) (S : rS) (hf : fX7_with_b156 rec92 l1 l2 l3 l4 l5 l7 l8 S = some r) : rAW G X 11 (some (.int r.1), r.2) 156 [some (.ref G.2.2.2.1), some (.int l1), some (.int l2), some (.int l3), some (.int l4), some (.int l5), none, some (.int l7), some (.int l8), none, none] [] S := by
  unfold fX7_with_b156 at hf
  refine ra_iload_n C dX7_with_156 rfl rfl ?_
  refine ra_goto C dX7_with_157 (tgt := 167) (by decide) ?_
  exact bX7_with_b167 C hrec92 _ _ _ _ _ _ _ _ _ hf
set_option maxRecDepth 100000 in
set_option maxHeartbeats 4000000 in
theorem bX7_with_b160 {G : rG} {X : rX} (C : rC G X 11 cX7_with (some .int) 2) {r : Int32 × rS} {rec92 : Int32 → Int32 → Int32 → Int32 → Int32 → Int32 → rS → Option (Int32 × rS)} (hrec92 : ∀ (l1 : Int32) (l2 : Int32) (l3 : Int32) (l4 : Int32) (l5 : Int32) (l7 : Int32) (S : rS), rec92 l1 l2 l3 l4 l5 l7 S = some r → rAW G X 11 (some (.int r.1), r.2) 92 [some (.ref G.2.2.2.1), some (.int l1), some (.int l2), some (.int l3), some (.int l4), some (.int l5), none, some (.int l7), none, none, none] [] S) (l1 : Int32) (l2 : Int32) (l3 : Int32) (l4 : Int32) (l5 : Int32) (l7 : Int32) (l8 : Int32) (S : rS) (hf : fX7_with_b160 rec92 l1 l2 l3 l4 l5 l7 l8 S = some r) : rAW G X 11 (some (.int r.1), r.2) 160 [some (.ref G.2.2.2.1), some (.int l1), some (.int l2), some (.int l3), some (.int l4), some (.int l5), none, some (.int l7), some (.int l8), none, none] [] S := by
  unfold fX7_with_b160 at hf
  refine ra_aload_n C dX7_with_160 rfl rfl ?_
  refine ra_getR C dX7_with_161 (k := 15) (by decide) rfl rX7_in tX7_f50 rfl ?_
  refine ra_iload C dX7_with_164 rfl ?_
  obtain ⟨x166, h166, hf⟩ := rob hf
  refine ra_iald C dX7_with_166 h166 (by decide) rfl rfl ?_
  exact bX7_with_b167 C hrec92 _ _ _ _ _ _ _ _ _ hf
set_option maxRecDepth 100000 in
set_option maxHeartbeats 4000000 in
theorem bX7_with_b124 {G : rG} {X : rX} (C : rC G X 11 cX7_with (some .int) 2) {r : Int32 × rS} {rec92 : Int32 → Int32 → Int32 → Int32 → Int32 → Int32 → rS → Option (Int32 × rS)} (hrec92 : ∀ (l1 : Int32) (l2 : Int32) (l3 : Int32) (l4 : Int32) (l5 : Int32) (l7 : Int32) (S : rS), rec92 l1 l2 l3 l4 l5 l7 S = some r → rAW G X 11 (some (.int r.1), r.2) 92 [some (.ref G.2.2.2.1), some (.int l1), some (.int l2), some (.int l3), some (.int l4), some (.int l5), none, some (.int l7), none, none, none] [] S) (l1 : Int32) (l2 : Int32) (l3 : Int32) (l4 : Int32) (l5 : Int32) (l7 : Int32) (s0 : Int32) (S : rS) (hf : fX7_with_b124 rec92 l1 l2 l3 l4 l5 l7 s0 S = some r) : rAW G X 11 (some (.int r.1), r.2) 124 [some (.ref G.2.2.2.1), some (.int l1), some (.int l2), some (.int l3), some (.int l4), some (.int l5), none, some (.int l7), none, none, none] [.int s0] S := by
  unfold fX7_with_b124 at hf
  refine ra_istore C dX7_with_124 (by decide) ?_
  refine ra_iload C dX7_with_126 rfl ?_
  refine ra_iload C dX7_with_128 rfl ?_
  refine ra_icmp_eq C dX7_with_130 (tgt := 156) (by decide) (fun c130 => ?_) (fun c130 => ?_)
  · replace hf := rif_p c130 hf
    exact bX7_with_b156 C hrec92 _ _ _ _ _ _ _ _ hf
  · replace hf := rif_n c130 hf
    refine ra_iload C dX7_with_133 rfl ?_
    refine ra_if_eq C dX7_with_135 (tgt := 160) (by decide) (fun c135 => ?_) (fun c135 => ?_)
    · replace hf := rif_p c135 hf
      exact bX7_with_b160 C hrec92 _ _ _ _ _ _ _ _ hf
    · replace hf := rif_n c135 hf
      refine ra_iload C dX7_with_138 rfl ?_
      refine ra_if_ne C dX7_with_140 (tgt := 160) (by decide) (fun c140 => ?_) (fun c140 => ?_)
      · replace hf := rif_n c140 hf
        exact bX7_with_b160 C hrec92 _ _ _ _ _ _ _ _ hf
      · replace hf := rif_p c140 hf
        refine ra_aload_n C dX7_with_143 rfl rfl ?_
        refine ra_getR C dX7_with_144 (k := 15) (by decide) rfl rX7_in tX7_f50 rfl ?_
        refine ra_iload C dX7_with_147 rfl ?_
        obtain ⟨x149, h149, hf⟩ := rob hf
        refine ra_iald C dX7_with_149 h149 (by decide) rfl rfl ?_
        refine ra_iconst C dX7_with_150 (v := (-1)) (by decide) ?_
        refine ra_iload_n C dX7_with_151 rfl rfl ?_
        refine ra_isub C dX7_with_152 ?_
        refine ra_icmp_ne C dX7_with_153 (tgt := 160) (by decide) (fun c153 => ?_) (fun c153 => ?_)
        · replace hf := rif_n c153 hf
          exact bX7_with_b160 C hrec92 _ _ _ _ _ _ _ _ hf
        · replace hf := rif_p c153 hf
          exact bX7_with_b156 C hrec92 _ _ _ _ _ _ _ _ hf
set_option maxRecDepth 100000 in
set_option maxHeartbeats 4000000 in
theorem bX7_with_b92_body {G : rG} {X : rX} (C : rC G X 11 cX7_with (some .int) 2) {r : Int32 × rS} {rec92 : Int32 → Int32 → Int32 → Int32 → Int32 → Int32 → rS → Option (Int32 × rS)} (hrec92 : ∀ (l1 : Int32) (l2 : Int32) (l3 : Int32) (l4 : Int32) (l5 : Int32) (l7 : Int32) (S : rS), rec92 l1 l2 l3 l4 l5 l7 S = some r → rAW G X 11 (some (.int r.1), r.2) 92 [some (.ref G.2.2.2.1), some (.int l1), some (.int l2), some (.int l3), some (.int l4), some (.int l5), none, some (.int l7), none, none, none] [] S) (l1 : Int32) (l2 : Int32) (l3 : Int32) (l4 : Int32) (l5 : Int32) (l7 : Int32) (S : rS) (hf : fX7_with_b92_body rec92 l1 l2 l3 l4 l5 l7 S = some r) : rAW G X 11 (some (.int r.1), r.2) 92 [some (.ref G.2.2.2.1), some (.int l1), some (.int l2), some (.int l3), some (.int l4), some (.int l5), none, some (.int l7), none, none, none] [] S := by
  unfold fX7_with_b92_body at hf
  refine ra_iload C dX7_with_92 rfl ?_
  refine ra_bipush C dX7_with_94 (v := 60) (by decide) ?_
  refine ra_iload_n C dX7_with_96 rfl rfl ?_
  refine ra_imul C dX7_with_97 ?_
  refine ra_aload_n C dX7_with_98 rfl rfl ?_
  refine ra_getR C dX7_with_99 (k := 11) (by decide) rfl rX7_in tX7_f38 rfl ?_
  refine ra_iload_n C dX7_with_102 rfl rfl ?_
  obtain ⟨x103, h103, hf⟩ := rob hf
  refine ra_iald C dX7_with_103 h103 (by decide) rfl rfl ?_
  refine ra_iadd C dX7_with_104 ?_
  refine ra_icmp_ge C dX7_with_105 (tgt := 255) (by decide) (fun c105 => ?_) (fun c105 => ?_)
  · replace hf := rif_p c105 hf
    refine ra_aload_n C dX7_with_255 rfl rfl ?_
    refine ra_dup C dX7_with_256 rfl ?_
    refine ra_getI C dX7_with_257 (k := 10) (by decide) rfl rX7_in tX7_f204 rfl ?_
    refine ra_iconst C dX7_with_260 (v := 1) (by decide) ?_
    refine ra_iadd C dX7_with_261 ?_
    refine ra_putI C dX7_with_262 (k := 10) (by decide) rfl rX7_in tX7_f204 rfl rfl (tyX7_ok 10 (by decide)) ?_
    refine ra_aload_n C dX7_with_265 rfl rfl ?_
    refine ra_getI C dX7_with_266 (k := 10) (by decide) rfl rX7_in tX7_f204 rfl ?_
    refine ra_iconst C dX7_with_269 (v := 1) (by decide) ?_
    refine ra_isub C dX7_with_270 ?_
    obtain rfl := Option.some.inj hf
    exact ra_iret C dX7_with_271
  · replace hf := rif_n c105 hf
    refine ra_aload_n C dX7_with_108 rfl rfl ?_
    refine ra_getR C dX7_with_109 (k := 13) (by decide) rfl rX7_in tX7_f44 rfl ?_
    refine ra_iload C dX7_with_112 rfl ?_
    obtain ⟨x114, h114, hf⟩ := rob hf
    refine ra_iald C dX7_with_114 h114 (by decide) rfl rfl ?_
    refine ra_iconst C dX7_with_115 (v := 2) (by decide) ?_
    refine ra_icmp_ne C dX7_with_116 (tgt := 123) (by decide) (fun c116 => ?_) (fun c116 => ?_)
    · replace hf := rif_n c116 hf
      refine ra_iconst C dX7_with_123 (v := 0) (by decide) ?_
      exact bX7_with_b124 C hrec92 _ _ _ _ _ _ _ _ hf
    · replace hf := rif_p c116 hf
      refine ra_iconst C dX7_with_119 (v := 1) (by decide) ?_
      refine ra_goto C dX7_with_120 (tgt := 124) (by decide) ?_
      exact bX7_with_b124 C hrec92 _ _ _ _ _ _ _ _ hf
set_option maxRecDepth 100000 in
set_option maxHeartbeats 4000000 in
theorem bX7_with_b92 {G : rG} {X : rX} (C : rC G X 11 cX7_with (some .int) 2) {r : Int32 × rS} : ∀ (n : Nat) (l1 : Int32) (l2 : Int32) (l3 : Int32) (l4 : Int32) (l5 : Int32) (l7 : Int32) (S : rS), fX7_with_b92 n l1 l2 l3 l4 l5 l7 S = some r → rAW G X 11 (some (.int r.1), r.2) 92 [some (.ref G.2.2.2.1), some (.int l1), some (.int l2), some (.int l3), some (.int l4), some (.int l5), none, some (.int l7), none, none, none] [] S := by
  intro n
  induction n with
  | zero => intro l1 l2 l3 l4 l5 l7 S hf; cases hf
  | succ n ih => intro l1 l2 l3 l4 l5 l7 S hf; exact bX7_with_b92_body C (fun l1 l2 l3 l4 l5 l7 S h => ih l1 l2 l3 l4 l5 l7 S h) l1 l2 l3 l4 l5 l7 S hf
set_option maxRecDepth 100000 in
set_option maxHeartbeats 4000000 in
theorem bX7_with_b78 {G : rG} {X : rX} (C : rC G X 11 cX7_with (some .int) 2) {r : Int32 × rS} (l1 : Int32) (l2 : Int32) (l3 : Int32) (l4 : Int32) (l5 : Int32) (s0 : Int32) (S : rS) (hf : fX7_with_b78 l1 l2 l3 l4 l5 s0 S = some r) : rAW G X 11 (some (.int r.1), r.2) 78 [some (.ref G.2.2.2.1), some (.int l1), some (.int l2), some (.int l3), some (.int l4), some (.int l5), none, none, none, none, none] [.int s0, .ref G.2.2.2.1] S := by
  unfold fX7_with_b78 at hf
  obtain ⟨q78, h78, hf⟩ := rob hf
  refine ra_callVi C dX7_with_78 (mX7_fails h78) rfl tX7_l175 tX7_i_X7_fails tX7_s_X7_fails tX7_init tX7_c_X7_fails tX7_d_X7_fails (by decide) (by decide) (Nat.le_of_ble_eq_true rfl) ?_
  refine ra_if_eq C dX7_with_81 (tgt := 86) (by decide) (fun c81 => ?_) (fun c81 => ?_)
  · replace hf := rif_p c81 hf
    refine ra_bipush C dX7_with_86 (v := 60) (by decide) ?_
    refine ra_iload_n C dX7_with_88 rfl rfl ?_
    refine ra_imul C dX7_with_89 ?_
    refine ra_istore C dX7_with_90 (by decide) ?_
    exact bX7_with_b92 C _ _ _ _ _ _ _ _ hf
  · replace hf := rif_n c81 hf
    refine ra_iconst C dX7_with_84 (v := 0) (by decide) ?_
    obtain rfl := Option.some.inj hf
    exact ra_iret C dX7_with_85
set_option maxRecDepth 100000 in
set_option maxHeartbeats 4000000 in
theorem bX7_with_b52 {G : rG} {X : rX} (C : rC G X 11 cX7_with (some .int) 2) {r : Int32 × rS} (l1 : Int32) (l2 : Int32) (l3 : Int32) (l4 : Int32) (l5 : Int32) (s0 : Int32) (S : rS) (hf : fX7_with_b52 l1 l2 l3 l4 l5 s0 S = some r) : rAW G X 11 (some (.int r.1), r.2) 52 [some (.ref G.2.2.2.1), some (.int l1), some (.int l2), some (.int l3), some (.int l4), some (.int l5), none, none, none, none, none] [.int s0] S := by
  unfold fX7_with_b52 at hf
  refine ra_istore C dX7_with_52 (by decide) ?_
  refine ra_aload_n C dX7_with_54 rfl rfl ?_
  refine ra_iload C dX7_with_55 rfl ?_
  refine ra_if_ne C dX7_with_57 (tgt := 64) (by decide) (fun c57 => ?_) (fun c57 => ?_)
  · replace hf := rif_n c57 hf
    refine ra_aload_n C dX7_with_64 rfl rfl ?_
    refine ra_getI C dX7_with_65 (k := 10) (by decide) rfl rX7_in tX7_f204 rfl ?_
    refine ra_bipush C dX7_with_68 (v := 20) (by decide) ?_
    refine ra_icmp_ne C dX7_with_70 (tgt := 77) (by decide) (fun c70 => ?_) (fun c70 => ?_)
    · replace hf := rif_n c70 hf
      refine ra_iconst C dX7_with_77 (v := 0) (by decide) ?_
      refine ra_mask [true, true, true, true, true, true, false, false, false, false, false] ?_
      exact bX7_with_b78 C _ _ _ _ _ _ _ hf
    · replace hf := rif_p c70 hf
      refine ra_iconst C dX7_with_73 (v := 2) (by decide) ?_
      refine ra_goto C dX7_with_74 (tgt := 78) (by decide) ?_
      refine ra_mask [true, true, true, true, true, true, false, false, false, false, false] ?_
      exact bX7_with_b78 C _ _ _ _ _ _ _ hf
  · replace hf := rif_p c57 hf
    refine ra_iconst C dX7_with_60 (v := 1) (by decide) ?_
    refine ra_goto C dX7_with_61 (tgt := 78) (by decide) ?_
    refine ra_mask [true, true, true, true, true, true, false, false, false, false, false] ?_
    exact bX7_with_b78 C _ _ _ _ _ _ _ hf
set_option maxRecDepth 100000 in
set_option maxHeartbeats 4000000 in
theorem bX7_with_b51 {G : rG} {X : rX} (C : rC G X 11 cX7_with (some .int) 2) {r : Int32 × rS} (l1 : Int32) (l2 : Int32) (l3 : Int32) (l4 : Int32) (l5 : Int32) (S : rS) (hf : fX7_with_b51 l1 l2 l3 l4 l5 S = some r) : rAW G X 11 (some (.int r.1), r.2) 51 [some (.ref G.2.2.2.1), some (.int l1), some (.int l2), some (.int l3), some (.int l4), some (.int l5), none, none, none, none, none] [] S := by
  unfold fX7_with_b51 at hf
  refine ra_iconst C dX7_with_51 (v := 0) (by decide) ?_
  exact bX7_with_b52 C _ _ _ _ _ _ _ hf
set_option maxRecDepth 100000 in
set_option maxHeartbeats 4000000 in
theorem bX7_with_b27 {G : rG} {X : rX} (C : rC G X 11 cX7_with (some .int) 2) {r : Int32 × rS} (l1 : Int32) (l2 : Int32) (l3 : Int32) (l4 : Int32) (s0 : Int32) (S : rS) (hf : fX7_with_b27 l1 l2 l3 l4 s0 S = some r) : rAW G X 11 (some (.int r.1), r.2) 27 [some (.ref G.2.2.2.1), some (.int l1), some (.int l2), some (.int l3), some (.int l4), none, none, none, none, none, none] [.int s0] S := by
  unfold fX7_with_b27 at hf
  refine ra_istore C dX7_with_27 (by decide) ?_
  refine ra_iload C dX7_with_29 rfl ?_
  refine ra_iconst C dX7_with_31 (v := (-1)) (by decide) ?_
  refine ra_icmp_eq C dX7_with_32 (tgt := 51) (by decide) (fun c32 => ?_) (fun c32 => ?_)
  · replace hf := rif_p c32 hf
    exact bX7_with_b51 C _ _ _ _ _ _ hf
  · replace hf := rif_n c32 hf
    refine ra_aload_n C dX7_with_35 rfl rfl ?_
    refine ra_getR C dX7_with_36 (k := 15) (by decide) rfl rX7_in tX7_f50 rfl ?_
    refine ra_iload C dX7_with_39 rfl ?_
    obtain ⟨x41, h41, hf⟩ := rob hf
    refine ra_iald C dX7_with_41 h41 (by decide) rfl rfl ?_
    refine ra_bipush C dX7_with_42 (v := (-100)) (by decide) ?_
    refine ra_icmp_ne C dX7_with_44 (tgt := 51) (by decide) (fun c44 => ?_) (fun c44 => ?_)
    · replace hf := rif_n c44 hf
      exact bX7_with_b51 C _ _ _ _ _ _ hf
    · replace hf := rif_p c44 hf
      refine ra_iconst C dX7_with_47 (v := 1) (by decide) ?_
      refine ra_goto C dX7_with_48 (tgt := 52) (by decide) ?_
      exact bX7_with_b52 C _ _ _ _ _ _ _ hf
set_option maxRecDepth 100000 in
set_option maxHeartbeats 4000000 in
theorem bX7_with_b26 {G : rG} {X : rX} (C : rC G X 11 cX7_with (some .int) 2) {r : Int32 × rS} (l1 : Int32) (l2 : Int32) (l3 : Int32) (l4 : Int32) (S : rS) (hf : fX7_with_b26 l1 l2 l3 l4 S = some r) : rAW G X 11 (some (.int r.1), r.2) 26 [some (.ref G.2.2.2.1), some (.int l1), some (.int l2), some (.int l3), some (.int l4), none, none, none, none, none, none] [] S := by
  unfold fX7_with_b26 at hf
  refine ra_iconst C dX7_with_26 (v := (-1)) (by decide) ?_
  exact bX7_with_b27 C _ _ _ _ _ _ hf
set_option maxRecDepth 100000 in
set_option maxHeartbeats 4000000 in
theorem bX7_with {G : rG} {X : rX} (C : rC G X 11 cX7_with (some .int) 2) (a0 : Int32) (a1 : Int32) (a2 : Int32) (a3 : Int32) (S : rS) {r : Int32 × rS} (hf : fX7_with a0 a1 a2 a3 S = some r) : rAW G X 11 (some (.int r.1), r.2) 0 [some (.ref G.2.2.2.1), some (.int a0), some (.int a1), some (.int a2), some (.int a3), none, none, none, none, none, none] [] S := by
  unfold fX7_with at hf
  refine ra_aload_n C dX7_with_0 rfl rfl ?_
  refine ra_iload_n C dX7_with_1 rfl rfl ?_
  obtain ⟨q2, h2, hf⟩ := rob hf
  refine ra_callVi C dX7_with_2 (mX7_isSignature h2) rfl tX7_l217 tX7_i_X7_isSignature tX7_s_X7_isSignature tX7_init tX7_c_X7_isSignature tX7_d_X7_isSignature (by decide) (by decide) (Nat.le_of_ble_eq_true rfl) ?_
  refine ra_if_eq C dX7_with_5 (tgt := 26) (by decide) (fun c5 => ?_) (fun c5 => ?_)
  · replace hf := rif_p c5 hf
    exact bX7_with_b26 C _ _ _ _ _ hf
  · replace hf := rif_n c5 hf
    refine ra_aload_n C dX7_with_8 rfl rfl ?_
    refine ra_iload_n C dX7_with_9 rfl rfl ?_
    obtain ⟨q10, h10, hf⟩ := rob hf
    refine ra_callVi C dX7_with_10 (mX7_isType h10) rfl tX7_l171 tX7_i_X7_isType tX7_s_X7_isType tX7_init tX7_c_X7_isType tX7_d_X7_isType (by decide) (by decide) (Nat.le_of_ble_eq_true rfl) ?_
    refine ra_if_eq C dX7_with_13 (tgt := 26) (by decide) (fun c13 => ?_) (fun c13 => ?_)
    · replace hf := rif_p c13 hf
      exact bX7_with_b26 C _ _ _ _ _ hf
    · replace hf := rif_n c13 hf
      refine ra_aload_n C dX7_with_16 rfl rfl ?_
      refine ra_iload_n C dX7_with_17 rfl rfl ?_
      refine ra_iconst C dX7_with_18 (v := 0) (by decide) ?_
      refine ra_iload_n C dX7_with_19 rfl rfl ?_
      obtain ⟨q20, h20, hf⟩ := rob hf
      refine ra_callVi C dX7_with_20 (mX7_findsSpec h20) rfl tX7_l207 tX7_i_X7_findsSpec tX7_s_X7_findsSpec tX7_init tX7_c_X7_findsSpec tX7_d_X7_findsSpec (by decide) (by decide) (Nat.le_of_ble_eq_true rfl) ?_
      refine ra_goto C dX7_with_23 (tgt := 27) (by decide) ?_
      exact bX7_with_b27 C _ _ _ _ _ _ hf
set_option maxRecDepth 100000 in
set_option maxHeartbeats 4000000 in
theorem mX7_with {l : Launch} {G : rG} {a0 : Int32} {a1 : Int32} {a2 : Int32} {a3 : Int32} {S : rS} {r : Int32 × rS} (hf : fX7_with a0 a1 a2 a3 S = some r) : rM l G 2 yX7_with cX7_with 11 (some .int) [.ref G.2.2.2.1, .int a0, .int a1, .int a2, .int a3] S (some (.int r.1), r.2) :=
  rM_of (lo0 := [some (.ref G.2.2.2.1), some (.int a0), some (.int a1), some (.int a2), some (.int a3), none, none, none, none, none, none]) (by decide +kernel) rfl (Nat.le_of_ble_eq_true rfl) (by simp [Value.category]) rfl (fun X _ C => bX7_with C a0 a1 a2 a3 S hf)
set_option maxRecDepth 100000 in
set_option maxHeartbeats 4000000 in
theorem bX7_specs_b30 {G : rG} {X : rX} (C : rC G X 2 cX7_specs (some .int) 2) {r : Int32 × rS} (s0 : Int32) (S : rS) (hf : fX7_specs_b30 s0 S = some r) : rAW G X 2 (some (.int r.1), r.2) 30 [none, none] [.int s0] S := by
  unfold fX7_specs_b30 at hf
  obtain rfl := Option.some.inj hf
  exact ra_iret C dX7_specs_30
set_option maxRecDepth 100000 in
set_option maxHeartbeats 4000000 in
theorem bX7_specs_b14 {G : rG} {X : rX} (C : rC G X 2 cX7_specs (some .int) 2) {r : Int32 × rS} (l1 : Int32) (s0 : Int32) (S : rS) (hf : fX7_specs_b14 l1 s0 S = some r) : rAW G X 2 (some (.int r.1), r.2) 14 [some (.ref G.2.2.2.1), some (.int l1)] [.int s0, .ref G.2.2.2.1] S := by
  unfold fX7_specs_b14 at hf
  obtain ⟨q14, h14, hf⟩ := rob hf
  refine ra_callVi C dX7_specs_14 (mX7_fails h14) rfl tX7_l175 tX7_i_X7_fails tX7_s_X7_fails tX7_init tX7_c_X7_fails tX7_d_X7_fails (by decide) (by decide) (Nat.le_of_ble_eq_true rfl) ?_
  refine ra_if_eq C dX7_specs_17 (tgt := 24) (by decide) (fun c17 => ?_) (fun c17 => ?_)
  · replace hf := rif_p c17 hf
    refine ra_aload_n C dX7_specs_24 rfl rfl ?_
    refine ra_getR C dX7_specs_25 (k := 11) (by decide) rfl rX7_in tX7_f38 rfl ?_
    refine ra_iload_n C dX7_specs_28 rfl rfl ?_
    obtain ⟨x29, h29, hf⟩ := rob hf
    refine ra_iald C dX7_specs_29 h29 (by decide) rfl rfl ?_
    refine ra_mask [false, false] ?_
    exact bX7_specs_b30 C _ _ hf
  · replace hf := rif_n c17 hf
    refine ra_iconst C dX7_specs_20 (v := 0) (by decide) ?_
    refine ra_goto C dX7_specs_21 (tgt := 30) (by decide) ?_
    refine ra_mask [false, false] ?_
    exact bX7_specs_b30 C _ _ hf
set_option maxRecDepth 100000 in
set_option maxHeartbeats 4000000 in
theorem bX7_specs {G : rG} {X : rX} (C : rC G X 2 cX7_specs (some .int) 2) (a0 : Int32) (S : rS) {r : Int32 × rS} (hf : fX7_specs a0 S = some r) : rAW G X 2 (some (.int r.1), r.2) 0 [some (.ref G.2.2.2.1), some (.int a0)] [] S := by
  unfold fX7_specs at hf
  refine ra_aload_n C dX7_specs_0 rfl rfl ?_
  refine ra_aload_n C dX7_specs_1 rfl rfl ?_
  refine ra_iload_n C dX7_specs_2 rfl rfl ?_
  obtain ⟨q3, h3, hf⟩ := rob hf
  refine ra_callVi C dX7_specs_3 (mX7_isSignature h3) rfl tX7_l217 tX7_i_X7_isSignature tX7_s_X7_isSignature tX7_init tX7_c_X7_isSignature tX7_d_X7_isSignature (by decide) (by decide) (Nat.le_of_ble_eq_true rfl) ?_
  refine ra_if_eq C dX7_specs_6 (tgt := 13) (by decide) (fun c6 => ?_) (fun c6 => ?_)
  · replace hf := rif_p c6 hf
    refine ra_iconst C dX7_specs_13 (v := 1) (by decide) ?_
    exact bX7_specs_b14 C _ _ _ hf
  · replace hf := rif_n c6 hf
    refine ra_iconst C dX7_specs_9 (v := 0) (by decide) ?_
    refine ra_goto C dX7_specs_10 (tgt := 14) (by decide) ?_
    exact bX7_specs_b14 C _ _ _ hf
set_option maxRecDepth 100000 in
set_option maxHeartbeats 4000000 in
theorem mX7_specs {l : Launch} {G : rG} {a0 : Int32} {S : rS} {r : Int32 × rS} (hf : fX7_specs a0 S = some r) : rM l G 2 yX7_specs cX7_specs 2 (some .int) [.ref G.2.2.2.1, .int a0] S (some (.int r.1), r.2) :=
  rM_of (lo0 := [some (.ref G.2.2.2.1), some (.int a0)]) (by decide +kernel) rfl (Nat.le_of_ble_eq_true rfl) (by simp [Value.category]) rfl (fun X _ C => bX7_specs C a0 S hf)
set_option maxRecDepth 100000 in
set_option maxHeartbeats 4000000 in
theorem bX7_meant_b31 {G : rG} {X : rX} (C : rC G X 4 cX7_meant (some .int) 1) {r : Int32 × rS} (s0 : Int32) (S : rS) (hf : fX7_meant_b31 s0 S = some r) : rAW G X 4 (some (.int r.1), r.2) 31 [none, none, none, none] [.int s0] S := by
  unfold fX7_meant_b31 at hf
  obtain rfl := Option.some.inj hf
  exact ra_iret C dX7_meant_31
set_option maxRecDepth 100000 in
set_option maxHeartbeats 4000000 in
theorem bX7_meant {G : rG} {X : rX} (C : rC G X 4 cX7_meant (some .int) 1) (a0 : Int32) (a1 : Int32) (S : rS) {r : Int32 × rS} (hf : fX7_meant a0 a1 S = some r) : rAW G X 4 (some (.int r.1), r.2) 0 [some (.ref G.2.2.2.1), some (.int a0), some (.int a1), none] [] S := by
  unfold fX7_meant at hf
  refine ra_iload_n C dX7_meant_0 rfl rfl ?_
  refine ra_if_lt C dX7_meant_1 (tgt := 6) (by decide) (fun c1 => ?_) (fun c1 => ?_)
  · replace hf := rif_p c1 hf
    refine ra_aload_n C dX7_meant_6 rfl rfl ?_
    refine ra_iload_n C dX7_meant_7 rfl rfl ?_
    refine ra_iconst C dX7_meant_8 (v := 0) (by decide) ?_
    refine ra_iconst C dX7_meant_9 (v := (-1)) (by decide) ?_
    refine ra_iload_n C dX7_meant_10 rfl rfl ?_
    refine ra_isub C dX7_meant_11 ?_
    obtain ⟨q12, h12, hf⟩ := rob hf
    refine ra_callVi C dX7_meant_12 (mX7_findsItem h12) rfl tX7_l181 tX7_i_X7_findsItem tX7_s_X7_findsItem tX7_init tX7_c_X7_findsItem tX7_d_X7_findsItem (by decide) (by decide) (Nat.le_of_ble_eq_true rfl) ?_
    refine ra_istore_n C dX7_meant_15 rfl (by decide) ?_
    refine ra_iload_n C dX7_meant_16 rfl rfl ?_
    refine ra_iconst C dX7_meant_17 (v := (-1)) (by decide) ?_
    refine ra_icmp_ne C dX7_meant_18 (tgt := 25) (by decide) (fun c18 => ?_) (fun c18 => ?_)
    · replace hf := rif_n c18 hf
      refine ra_aload_n C dX7_meant_25 rfl rfl ?_
      refine ra_getR C dX7_meant_26 (k := 8) (by decide) rfl rX7_in tX7_f32 rfl ?_
      refine ra_iload_n C dX7_meant_29 rfl rfl ?_
      obtain ⟨x30, h30, hf⟩ := rob hf
      refine ra_iald C dX7_meant_30 h30 (by decide) rfl rfl ?_
      refine ra_mask [false, false, false, false] ?_
      exact bX7_meant_b31 C _ _ hf
    · replace hf := rif_p c18 hf
      refine ra_iconst C dX7_meant_21 (v := (-1)) (by decide) ?_
      refine ra_goto C dX7_meant_22 (tgt := 31) (by decide) ?_
      refine ra_mask [false, false, false, false] ?_
      exact bX7_meant_b31 C _ _ hf
  · replace hf := rif_n c1 hf
    refine ra_iload_n C dX7_meant_4 rfl rfl ?_
    obtain rfl := Option.some.inj hf
    exact ra_iret C dX7_meant_5
set_option maxRecDepth 100000 in
set_option maxHeartbeats 4000000 in
theorem mX7_meant {l : Launch} {G : rG} {a0 : Int32} {a1 : Int32} {S : rS} {r : Int32 × rS} (hf : fX7_meant a0 a1 S = some r) : rM l G 1 yX7_meant cX7_meant 4 (some .int) [.ref G.2.2.2.1, .int a0, .int a1] S (some (.int r.1), r.2) :=
  rM_of (lo0 := [some (.ref G.2.2.2.1), some (.int a0), some (.int a1), none]) (by decide +kernel) rfl (Nat.le_of_ble_eq_true rfl) (by simp [Value.category]) rfl (fun X _ C => bX7_meant C a0 a1 S hf)
set_option maxRecDepth 100000 in
set_option maxHeartbeats 4000000 in
theorem bX7_misfit_b225 {G : rG} {X : rX} (C : rC G X 6 cX7_misfit (some .int) 2) {r : Int32 × rS} (s0 : Int32) (S : rS) (hf : fX7_misfit_b225 s0 S = some r) : rAW G X 6 (some (.int r.1), r.2) 225 [none, none, none, none, none, none] [.int s0] S := by
  unfold fX7_misfit_b225 at hf
  obtain rfl := Option.some.inj hf
  exact ra_iret C dX7_misfit_225
set_option maxRecDepth 100000 in
set_option maxHeartbeats 4000000 in
theorem bX7_misfit_b224 {G : rG} {X : rX} (C : rC G X 6 cX7_misfit (some .int) 2) {r : Int32 × rS} (S : rS) (hf : fX7_misfit_b224  S = some r) : rAW G X 6 (some (.int r.1), r.2) 224 [none, none, none, none, none, none] [] S := by
  unfold fX7_misfit_b224 at hf
  refine ra_iconst C dX7_misfit_224 (v := 4) (by decide) ?_
  exact bX7_misfit_b225 C _ _ hf
set_option maxRecDepth 100000 in
set_option maxHeartbeats 4000000 in
theorem bX7_misfit_b175 {G : rG} {X : rX} (C : rC G X 6 cX7_misfit (some .int) 2) {r : Int32 × rS} (s0 : Int32) (S : rS) (hf : fX7_misfit_b175 s0 S = some r) : rAW G X 6 (some (.int r.1), r.2) 175 [none, none, none, none, none, none] [.int s0] S := by
  unfold fX7_misfit_b175 at hf
  obtain rfl := Option.some.inj hf
  exact ra_iret C dX7_misfit_175
set_option maxRecDepth 100000 in
set_option maxHeartbeats 4000000 in
theorem bX7_misfit_b138 {G : rG} {X : rX} (C : rC G X 6 cX7_misfit (some .int) 2) {r : Int32 × rS} (s0 : Int32) (S : rS) (hf : fX7_misfit_b138 s0 S = some r) : rAW G X 6 (some (.int r.1), r.2) 138 [none, none, none, none, none, none] [.int s0] S := by
  unfold fX7_misfit_b138 at hf
  obtain rfl := Option.some.inj hf
  exact ra_iret C dX7_misfit_138
set_option maxRecDepth 100000 in
set_option maxHeartbeats 4000000 in
theorem bX7_misfit_b133 {G : rG} {X : rX} (C : rC G X 6 cX7_misfit (some .int) 2) {r : Int32 × rS} (S : rS) (hf : fX7_misfit_b133  S = some r) : rAW G X 6 (some (.int r.1), r.2) 133 [none, none, none, none, none, none] [] S := by
  unfold fX7_misfit_b133 at hf
  refine ra_iconst C dX7_misfit_133 (v := 0) (by decide) ?_
  refine ra_goto C dX7_misfit_134 (tgt := 138) (by decide) ?_
  exact bX7_misfit_b138 C _ _ hf
set_option maxRecDepth 100000 in
set_option maxHeartbeats 4000000 in
theorem bX7_misfit_b96 {G : rG} {X : rX} (C : rC G X 6 cX7_misfit (some .int) 2) {r : Int32 × rS} (s0 : Int32) (S : rS) (hf : fX7_misfit_b96 s0 S = some r) : rAW G X 6 (some (.int r.1), r.2) 96 [none, none, none, none, none, none] [.int s0] S := by
  unfold fX7_misfit_b96 at hf
  obtain rfl := Option.some.inj hf
  exact ra_iret C dX7_misfit_96
set_option maxRecDepth 100000 in
set_option maxHeartbeats 4000000 in
theorem bX7_misfit_b51 {G : rG} {X : rX} (C : rC G X 6 cX7_misfit (some .int) 2) {r : Int32 × rS} (s0 : Int32) (S : rS) (hf : fX7_misfit_b51 s0 S = some r) : rAW G X 6 (some (.int r.1), r.2) 51 [none, none, none, none, none, none] [.int s0] S := by
  unfold fX7_misfit_b51 at hf
  obtain rfl := Option.some.inj hf
  exact ra_iret C dX7_misfit_51
set_option maxRecDepth 100000 in
set_option maxHeartbeats 4000000 in
theorem bX7_misfit {G : rG} {X : rX} (C : rC G X 6 cX7_misfit (some .int) 2) (a0 : Int32) (a1 : Int32) (S : rS) {r : Int32 × rS} (hf : fX7_misfit a0 a1 S = some r) : rAW G X 6 (some (.int r.1), r.2) 0 [some (.ref G.2.2.2.1), some (.int a0), some (.int a1), none, none, none] [] S := by
  unfold fX7_misfit at hf
  refine ra_aload_n C dX7_misfit_0 rfl rfl ?_
  refine ra_iload_n C dX7_misfit_1 rfl rfl ?_
  refine ra_aload_n C dX7_misfit_2 rfl rfl ?_
  refine ra_getR C dX7_misfit_3 (k := 13) (by decide) rfl rX7_in tX7_f44 rfl ?_
  refine ra_iload_n C dX7_misfit_6 rfl rfl ?_
  obtain ⟨x7, h7, hf⟩ := rob hf
  refine ra_iald C dX7_misfit_7 h7 (by decide) rfl rfl ?_
  refine ra_aload_n C dX7_misfit_8 rfl rfl ?_
  refine ra_getR C dX7_misfit_9 (k := 14) (by decide) rfl rX7_in tX7_f47 rfl ?_
  refine ra_iload_n C dX7_misfit_12 rfl rfl ?_
  obtain ⟨x13, h13, hf⟩ := rob hf
  refine ra_iald C dX7_misfit_13 h13 (by decide) rfl rfl ?_
  obtain ⟨q14, h14, hf⟩ := rob hf
  refine ra_callVi C dX7_misfit_14 (mX7_findsItem h14) rfl tX7_l181 tX7_i_X7_findsItem tX7_s_X7_findsItem tX7_init tX7_c_X7_findsItem tX7_d_X7_findsItem (by decide) (by decide) (Nat.le_of_ble_eq_true rfl) ?_
  refine ra_istore_n C dX7_misfit_17 rfl (by decide) ?_
  refine ra_iload_n C dX7_misfit_18 rfl rfl ?_
  refine ra_iconst C dX7_misfit_19 (v := (-1)) (by decide) ?_
  refine ra_icmp_ne C dX7_misfit_20 (tgt := 52) (by decide) (fun c20 => ?_) (fun c20 => ?_)
  · replace hf := rif_n c20 hf
    refine ra_aload_n C dX7_misfit_52 rfl rfl ?_
    refine ra_getR C dX7_misfit_53 (k := 8) (by decide) rfl rX7_in tX7_f32 rfl ?_
    refine ra_iload_n C dX7_misfit_56 rfl rfl ?_
    obtain ⟨x57, h57, hf⟩ := rob hf
    refine ra_iald C dX7_misfit_57 h57 (by decide) rfl rfl ?_
    refine ra_istore C dX7_misfit_58 (by decide) ?_
    refine ra_aload_n C dX7_misfit_60 rfl rfl ?_
    refine ra_getR C dX7_misfit_61 (k := 13) (by decide) rfl rX7_in tX7_f44 rfl ?_
    refine ra_iload_n C dX7_misfit_64 rfl rfl ?_
    obtain ⟨x65, h65, hf⟩ := rob hf
    refine ra_iald C dX7_misfit_65 h65 (by decide) rfl rfl ?_
    refine ra_iconst C dX7_misfit_66 (v := 2) (by decide) ?_
    refine ra_icmp_ne C dX7_misfit_67 (tgt := 97) (by decide) (fun c67 => ?_) (fun c67 => ?_)
    · replace hf := rif_n c67 hf
      refine ra_aload_n C dX7_misfit_97 rfl rfl ?_
      refine ra_getR C dX7_misfit_98 (k := 13) (by decide) rfl rX7_in tX7_f44 rfl ?_
      refine ra_iload_n C dX7_misfit_101 rfl rfl ?_
      obtain ⟨x102, h102, hf⟩ := rob hf
      refine ra_iald C dX7_misfit_102 h102 (by decide) rfl rfl ?_
      refine ra_if_ne C dX7_misfit_103 (tgt := 139) (by decide) (fun c103 => ?_) (fun c103 => ?_)
      · replace hf := rif_n c103 hf
        refine ra_aload_n C dX7_misfit_139 rfl rfl ?_
        refine ra_iload_n C dX7_misfit_140 rfl rfl ?_
        refine ra_aload_n C dX7_misfit_141 rfl rfl ?_
        refine ra_getR C dX7_misfit_142 (k := 15) (by decide) rfl rX7_in tX7_f50 rfl ?_
        refine ra_iload_n C dX7_misfit_145 rfl rfl ?_
        obtain ⟨x146, h146, hf⟩ := rob hf
        refine ra_iald C dX7_misfit_146 h146 (by decide) rfl rfl ?_
        obtain ⟨q147, h147, hf⟩ := rob hf
        refine ra_callVi C dX7_misfit_147 (mX7_meant h147) rfl tX7_l224 tX7_i_X7_meant tX7_s_X7_meant tX7_init tX7_c_X7_meant tX7_d_X7_meant (by decide) (by decide) (Nat.le_of_ble_eq_true rfl) ?_
        refine ra_istore C dX7_misfit_150 (by decide) ?_
        refine ra_aload_n C dX7_misfit_152 rfl rfl ?_
        refine ra_getR C dX7_misfit_153 (k := 16) (by decide) rfl rX7_in tX7_f53 rfl ?_
        refine ra_iload_n C dX7_misfit_156 rfl rfl ?_
        obtain ⟨x157, h157, hf⟩ := rob hf
        refine ra_iald C dX7_misfit_157 h157 (by decide) rfl rfl ?_
        refine ra_bipush C dX7_misfit_158 (v := (-100)) (by decide) ?_
        refine ra_icmp_ne C dX7_misfit_160 (tgt := 176) (by decide) (fun c160 => ?_) (fun c160 => ?_)
        · replace hf := rif_n c160 hf
          refine ra_aload_n C dX7_misfit_176 rfl rfl ?_
          refine ra_getR C dX7_misfit_177 (k := 1) (by decide) rfl rX7_in tX7_f13 rfl ?_
          refine ra_iload C dX7_misfit_180 rfl ?_
          obtain ⟨x182, h182, hf⟩ := rob hf
          refine ra_iald C dX7_misfit_182 h182 (by decide) rfl rfl ?_
          refine ra_iconst C dX7_misfit_183 (v := 2) (by decide) ?_
          refine ra_icmp_ne C dX7_misfit_184 (tgt := 224) (by decide) (fun c184 => ?_) (fun c184 => ?_)
          · replace hf := rif_n c184 hf
            refine ra_mask [false, false, false, false, false, false] ?_
            exact bX7_misfit_b224 C  _ hf
          · replace hf := rif_p c184 hf
            refine ra_aload_n C dX7_misfit_187 rfl rfl ?_
            refine ra_getR C dX7_misfit_188 (k := 2) (by decide) rfl rX7_in tX7_f17 rfl ?_
            refine ra_iload C dX7_misfit_191 rfl ?_
            obtain ⟨x193, h193, hf⟩ := rob hf
            refine ra_iald C dX7_misfit_193 h193 (by decide) rfl rfl ?_
            refine ra_iload C dX7_misfit_194 rfl ?_
            refine ra_icmp_ne C dX7_misfit_196 (tgt := 224) (by decide) (fun c196 => ?_) (fun c196 => ?_)
            · replace hf := rif_n c196 hf
              refine ra_mask [false, false, false, false, false, false] ?_
              exact bX7_misfit_b224 C  _ hf
            · replace hf := rif_p c196 hf
              refine ra_aload_n C dX7_misfit_199 rfl rfl ?_
              refine ra_getR C dX7_misfit_200 (k := 3) (by decide) rfl rX7_in tX7_f20 rfl ?_
              refine ra_iload C dX7_misfit_203 rfl ?_
              obtain ⟨x205, h205, hf⟩ := rob hf
              refine ra_iald C dX7_misfit_205 h205 (by decide) rfl rfl ?_
              refine ra_aload_n C dX7_misfit_206 rfl rfl ?_
              refine ra_iload_n C dX7_misfit_207 rfl rfl ?_
              refine ra_aload_n C dX7_misfit_208 rfl rfl ?_
              refine ra_getR C dX7_misfit_209 (k := 16) (by decide) rfl rX7_in tX7_f53 rfl ?_
              refine ra_iload_n C dX7_misfit_212 rfl rfl ?_
              obtain ⟨x213, h213, hf⟩ := rob hf
              refine ra_iald C dX7_misfit_213 h213 (by decide) rfl rfl ?_
              obtain ⟨q214, h214, hf⟩ := rob hf
              refine ra_callVi C dX7_misfit_214 (mX7_meant h214) rfl tX7_l224 tX7_i_X7_meant tX7_s_X7_meant tX7_init tX7_c_X7_meant tX7_d_X7_meant (by decide) (by decide) (Nat.le_of_ble_eq_true rfl) ?_
              refine ra_icmp_ne C dX7_misfit_217 (tgt := 224) (by decide) (fun c217 => ?_) (fun c217 => ?_)
              · replace hf := rif_n c217 hf
                refine ra_mask [false, false, false, false, false, false] ?_
                exact bX7_misfit_b224 C  _ hf
              · replace hf := rif_p c217 hf
                refine ra_iconst C dX7_misfit_220 (v := 0) (by decide) ?_
                refine ra_goto C dX7_misfit_221 (tgt := 225) (by decide) ?_
                refine ra_mask [false, false, false, false, false, false] ?_
                exact bX7_misfit_b225 C _ _ hf
        · replace hf := rif_p c160 hf
          refine ra_iload C dX7_misfit_163 rfl ?_
          refine ra_iload C dX7_misfit_165 rfl ?_
          refine ra_icmp_ne C dX7_misfit_167 (tgt := 174) (by decide) (fun c167 => ?_) (fun c167 => ?_)
          · replace hf := rif_n c167 hf
            refine ra_iconst C dX7_misfit_174 (v := 4) (by decide) ?_
            refine ra_mask [false, false, false, false, false, false] ?_
            exact bX7_misfit_b175 C _ _ hf
          · replace hf := rif_p c167 hf
            refine ra_iconst C dX7_misfit_170 (v := 0) (by decide) ?_
            refine ra_goto C dX7_misfit_171 (tgt := 175) (by decide) ?_
            refine ra_mask [false, false, false, false, false, false] ?_
            exact bX7_misfit_b175 C _ _ hf
      · replace hf := rif_p c103 hf
        refine ra_aload_n C dX7_misfit_106 rfl rfl ?_
        refine ra_getR C dX7_misfit_107 (k := 15) (by decide) rfl rX7_in tX7_f50 rfl ?_
        refine ra_iload_n C dX7_misfit_110 rfl rfl ?_
        obtain ⟨x111, h111, hf⟩ := rob hf
        refine ra_iald C dX7_misfit_111 h111 (by decide) rfl rfl ?_
        refine ra_bipush C dX7_misfit_112 (v := (-100)) (by decide) ?_
        refine ra_icmp_eq C dX7_misfit_114 (tgt := 133) (by decide) (fun c114 => ?_) (fun c114 => ?_)
        · replace hf := rif_p c114 hf
          refine ra_mask [false, false, false, false, false, false] ?_
          exact bX7_misfit_b133 C  _ hf
        · replace hf := rif_n c114 hf
          refine ra_aload_n C dX7_misfit_117 rfl rfl ?_
          refine ra_iload_n C dX7_misfit_118 rfl rfl ?_
          refine ra_aload_n C dX7_misfit_119 rfl rfl ?_
          refine ra_getR C dX7_misfit_120 (k := 15) (by decide) rfl rX7_in tX7_f50 rfl ?_
          refine ra_iload_n C dX7_misfit_123 rfl rfl ?_
          obtain ⟨x124, h124, hf⟩ := rob hf
          refine ra_iald C dX7_misfit_124 h124 (by decide) rfl rfl ?_
          obtain ⟨q125, h125, hf⟩ := rob hf
          refine ra_callVi C dX7_misfit_125 (mX7_meant h125) rfl tX7_l224 tX7_i_X7_meant tX7_s_X7_meant tX7_init tX7_c_X7_meant tX7_d_X7_meant (by decide) (by decide) (Nat.le_of_ble_eq_true rfl) ?_
          refine ra_iload C dX7_misfit_128 rfl ?_
          refine ra_icmp_ne C dX7_misfit_130 (tgt := 137) (by decide) (fun c130 => ?_) (fun c130 => ?_)
          · replace hf := rif_n c130 hf
            refine ra_iconst C dX7_misfit_137 (v := 2) (by decide) ?_
            refine ra_mask [false, false, false, false, false, false] ?_
            exact bX7_misfit_b138 C _ _ hf
          · replace hf := rif_p c130 hf
            refine ra_mask [false, false, false, false, false, false] ?_
            exact bX7_misfit_b133 C  _ hf
    · replace hf := rif_p c67 hf
      refine ra_aload_n C dX7_misfit_70 rfl rfl ?_
      refine ra_getR C dX7_misfit_71 (k := 52) (by decide) rfl rX7_in tX7_f150 rfl ?_
      refine ra_bipush C dX7_misfit_74 (v := 20) (by decide) ?_
      refine ra_iload C dX7_misfit_76 rfl ?_
      refine ra_imul C dX7_misfit_78 ?_
      refine ra_aload_n C dX7_misfit_79 rfl rfl ?_
      refine ra_getR C dX7_misfit_80 (k := 15) (by decide) rfl rX7_in tX7_f50 rfl ?_
      refine ra_iload_n C dX7_misfit_83 rfl rfl ?_
      obtain ⟨x84, h84, hf⟩ := rob hf
      refine ra_iald C dX7_misfit_84 h84 (by decide) rfl rfl ?_
      refine ra_iadd C dX7_misfit_85 ?_
      obtain ⟨x86, h86, hf⟩ := rob hf
      refine ra_iald C dX7_misfit_86 h86 (by decide) rfl rfl ?_
      refine ra_if_ne C dX7_misfit_87 (tgt := 94) (by decide) (fun c87 => ?_) (fun c87 => ?_)
      · replace hf := rif_n c87 hf
        refine ra_bipush C dX7_misfit_94 (v := 6) (by decide) ?_
        refine ra_mask [false, false, false, false, false, false] ?_
        exact bX7_misfit_b96 C _ _ hf
      · replace hf := rif_p c87 hf
        refine ra_iconst C dX7_misfit_90 (v := 0) (by decide) ?_
        refine ra_goto C dX7_misfit_91 (tgt := 96) (by decide) ?_
        refine ra_mask [false, false, false, false, false, false] ?_
        exact bX7_misfit_b96 C _ _ hf
  · replace hf := rif_p c20 hf
    refine ra_aload_n C dX7_misfit_23 rfl rfl ?_
    refine ra_getR C dX7_misfit_24 (k := 13) (by decide) rfl rX7_in tX7_f44 rfl ?_
    refine ra_iload_n C dX7_misfit_27 rfl rfl ?_
    obtain ⟨x28, h28, hf⟩ := rob hf
    refine ra_iald C dX7_misfit_28 h28 (by decide) rfl rfl ?_
    refine ra_if_ne C dX7_misfit_29 (tgt := 36) (by decide) (fun c29 => ?_) (fun c29 => ?_)
    · replace hf := rif_n c29 hf
      refine ra_aload_n C dX7_misfit_36 rfl rfl ?_
      refine ra_getR C dX7_misfit_37 (k := 13) (by decide) rfl rX7_in tX7_f44 rfl ?_
      refine ra_iload_n C dX7_misfit_40 rfl rfl ?_
      obtain ⟨x41, h41, hf⟩ := rob hf
      refine ra_iald C dX7_misfit_41 h41 (by decide) rfl rfl ?_
      refine ra_iconst C dX7_misfit_42 (v := 1) (by decide) ?_
      refine ra_icmp_ne C dX7_misfit_43 (tgt := 50) (by decide) (fun c43 => ?_) (fun c43 => ?_)
      · replace hf := rif_n c43 hf
        refine ra_iconst C dX7_misfit_50 (v := 5) (by decide) ?_
        refine ra_mask [false, false, false, false, false, false] ?_
        exact bX7_misfit_b51 C _ _ hf
      · replace hf := rif_p c43 hf
        refine ra_iconst C dX7_misfit_46 (v := 3) (by decide) ?_
        refine ra_goto C dX7_misfit_47 (tgt := 51) (by decide) ?_
        refine ra_mask [false, false, false, false, false, false] ?_
        exact bX7_misfit_b51 C _ _ hf
    · replace hf := rif_p c29 hf
      refine ra_iconst C dX7_misfit_32 (v := 1) (by decide) ?_
      refine ra_goto C dX7_misfit_33 (tgt := 51) (by decide) ?_
      refine ra_mask [false, false, false, false, false, false] ?_
      exact bX7_misfit_b51 C _ _ hf
set_option maxRecDepth 100000 in
set_option maxHeartbeats 4000000 in
theorem mX7_misfit {l : Launch} {G : rG} {a0 : Int32} {a1 : Int32} {S : rS} {r : Int32 × rS} (hf : fX7_misfit a0 a1 S = some r) : rM l G 2 yX7_misfit cX7_misfit 6 (some .int) [.ref G.2.2.2.1, .int a0, .int a1] S (some (.int r.1), r.2) :=
  rM_of (lo0 := [some (.ref G.2.2.2.1), some (.int a0), some (.int a1), none, none, none]) (by decide +kernel) rfl (Nat.le_of_ble_eq_true rfl) (by simp [Value.category]) rfl (fun X _ C => bX7_misfit C a0 a1 S hf)
