set_option maxRecDepth 100000 in
set_option maxHeartbeats 4000000 in
theorem bX7_pack_b54 {G : rG} {X : rX} (C : rC G X 4 cX7_pack (some .int) 5) {r : Int32 × rS} (l1 : Int32) (l2 : Int32) (s0 : Int32) (S : rS) (hf : fX7_pack_b54 l1 l2 s0 S = some r) : rAW G X 4 (some (.int r.1), r.2) 54 [some (.ref G.2.2.2.1), some (.int l1), some (.int l2), none] [.int s0, .ref G.2.2.2.1] S := by
  unfold fX7_pack_b54 at hf
  obtain ⟨q54, h54, hf⟩ := rob hf
  refine ra_callVi C dX7_pack_54 (mX7_fails h54) rfl tX7_l175 tX7_i_X7_fails tX7_s_X7_fails tX7_init tX7_c_X7_fails tX7_d_X7_fails (by decide) (by decide) (Nat.le_of_ble_eq_true rfl) ?_
  refine ra_if_eq C dX7_pack_57 (tgt := 62) (by decide) (fun c57 => ?_) (fun c57 => ?_)
  · replace hf := rif_p c57 hf
    refine ra_aload_n C dX7_pack_62 rfl rfl ?_
    refine ra_getR C dX7_pack_63 (k := 30) (by decide) rfl rX7_in tX7_f90 rfl ?_
    refine ra_aload_n C dX7_pack_66 rfl rfl ?_
    refine ra_getI C dX7_pack_67 (k := 29) (by decide) rfl rX7_in tX7_f295 rfl ?_
    refine ra_iload_n C dX7_pack_70 rfl rfl ?_
    obtain ⟨S71, h71, hf⟩ := rob hf
    refine ra_iast C dX7_pack_71 h71 (by decide) rfl rfl ?_
    refine ra_aload_n C dX7_pack_72 rfl rfl ?_
    refine ra_getR C dX7_pack_73 (k := 31) (by decide) rfl rX7_in tX7_f93 rfl ?_
    refine ra_aload_n C dX7_pack_76 rfl rfl ?_
    refine ra_getI C dX7_pack_77 (k := 29) (by decide) rfl rX7_in tX7_f295 rfl ?_
    refine ra_iload_n C dX7_pack_80 rfl rfl ?_
    obtain ⟨S81, h81, hf⟩ := rob hf
    refine ra_iast C dX7_pack_81 h81 (by decide) rfl rfl ?_
    refine ra_aload_n C dX7_pack_82 rfl rfl ?_
    refine ra_dup C dX7_pack_83 rfl ?_
    refine ra_getI C dX7_pack_84 (k := 29) (by decide) rfl rX7_in tX7_f295 rfl ?_
    refine ra_iconst C dX7_pack_87 (v := 1) (by decide) ?_
    refine ra_iadd C dX7_pack_88 ?_
    refine ra_putI C dX7_pack_89 (k := 29) (by decide) rfl rX7_in tX7_f295 rfl rfl (tyX7_ok 29 (by decide)) ?_
    refine ra_aload_n C dX7_pack_92 rfl rfl ?_
    refine ra_getI C dX7_pack_93 (k := 29) (by decide) rfl rX7_in tX7_f295 rfl ?_
    refine ra_iconst C dX7_pack_96 (v := 1) (by decide) ?_
    refine ra_isub C dX7_pack_97 ?_
    obtain rfl := Option.some.inj hf
    exact ra_iret C dX7_pack_98
  · replace hf := rif_n c57 hf
    refine ra_iconst C dX7_pack_60 (v := 0) (by decide) ?_
    obtain rfl := Option.some.inj hf
    exact ra_iret C dX7_pack_61
set_option maxRecDepth 100000 in
set_option maxHeartbeats 4000000 in
theorem bX7_pack_b49 {G : rG} {X : rX} (C : rC G X 4 cX7_pack (some .int) 5) {r : Int32 × rS} (l1 : Int32) (l2 : Int32) (S : rS) (hf : fX7_pack_b49 l1 l2 S = some r) : rAW G X 4 (some (.int r.1), r.2) 49 [some (.ref G.2.2.2.1), some (.int l1), some (.int l2), none] [.ref G.2.2.2.1] S := by
  unfold fX7_pack_b49 at hf
  refine ra_iconst C dX7_pack_49 (v := 2) (by decide) ?_
  refine ra_goto C dX7_pack_50 (tgt := 54) (by decide) ?_
  exact bX7_pack_b54 C _ _ _ _ hf
set_option maxRecDepth 100000 in
set_option maxHeartbeats 4000000 in
theorem bX7_pack_b21 {G : rG} {X : rX} (C : rC G X 4 cX7_pack (some .int) 5) {r : Int32 × rS} (l1 : Int32) (l2 : Int32) (s0 : Int32) (S : rS) (hf : fX7_pack_b21 l1 l2 s0 S = some r) : rAW G X 4 (some (.int r.1), r.2) 21 [some (.ref G.2.2.2.1), some (.int l1), some (.int l2), none] [.int s0] S := by
  unfold fX7_pack_b21 at hf
  refine ra_istore_n C dX7_pack_21 rfl (by decide) ?_
  refine ra_aload_n C dX7_pack_22 rfl rfl ?_
  refine ra_iload_n C dX7_pack_23 rfl rfl ?_
  refine ra_if_ne C dX7_pack_24 (tgt := 31) (by decide) (fun c24 => ?_) (fun c24 => ?_)
  · replace hf := rif_n c24 hf
    refine ra_aload_n C dX7_pack_31 rfl rfl ?_
    refine ra_getI C dX7_pack_32 (k := 29) (by decide) rfl rX7_in tX7_f295 rfl ?_
    refine ra_bipush C dX7_pack_35 (v := 10) (by decide) ?_
    refine ra_icmp_eq C dX7_pack_37 (tgt := 49) (by decide) (fun c37 => ?_) (fun c37 => ?_)
    · replace hf := rif_p c37 hf
      refine ra_mask [true, true, true, false] ?_
      exact bX7_pack_b49 C _ _ _ hf
    · replace hf := rif_n c37 hf
      refine ra_aload_n C dX7_pack_40 rfl rfl ?_
      refine ra_iload_n C dX7_pack_41 rfl rfl ?_
      refine ra_iload_n C dX7_pack_42 rfl rfl ?_
      obtain ⟨q43, h43, hf⟩ := rob hf
      refine ra_callVi C dX7_pack_43 (mX7_matchOf h43) rfl tX7_l233 tX7_i_X7_matchOf tX7_s_X7_matchOf tX7_init tX7_c_X7_matchOf tX7_d_X7_matchOf (by decide) (by decide) (Nat.le_of_ble_eq_true rfl) ?_
      refine ra_if_eq C dX7_pack_46 (tgt := 53) (by decide) (fun c46 => ?_) (fun c46 => ?_)
      · replace hf := rif_p c46 hf
        refine ra_iconst C dX7_pack_53 (v := 0) (by decide) ?_
        refine ra_mask [true, true, true, false] ?_
        exact bX7_pack_b54 C _ _ _ _ hf
      · replace hf := rif_n c46 hf
        refine ra_mask [true, true, true, false] ?_
        exact bX7_pack_b49 C _ _ _ hf
  · replace hf := rif_p c24 hf
    refine ra_iconst C dX7_pack_27 (v := 1) (by decide) ?_
    refine ra_goto C dX7_pack_28 (tgt := 54) (by decide) ?_
    refine ra_mask [true, true, true, false] ?_
    exact bX7_pack_b54 C _ _ _ _ hf
set_option maxRecDepth 100000 in
set_option maxHeartbeats 4000000 in
theorem bX7_pack_b20 {G : rG} {X : rX} (C : rC G X 4 cX7_pack (some .int) 5) {r : Int32 × rS} (l1 : Int32) (l2 : Int32) (S : rS) (hf : fX7_pack_b20 l1 l2 S = some r) : rAW G X 4 (some (.int r.1), r.2) 20 [some (.ref G.2.2.2.1), some (.int l1), some (.int l2), none] [] S := by
  unfold fX7_pack_b20 at hf
  refine ra_iconst C dX7_pack_20 (v := 0) (by decide) ?_
  exact bX7_pack_b21 C _ _ _ _ hf
set_option maxRecDepth 100000 in
set_option maxHeartbeats 4000000 in
theorem bX7_pack {G : rG} {X : rX} (C : rC G X 4 cX7_pack (some .int) 5) (a0 : Int32) (a1 : Int32) (S : rS) {r : Int32 × rS} (hf : fX7_pack a0 a1 S = some r) : rAW G X 4 (some (.int r.1), r.2) 0 [some (.ref G.2.2.2.1), some (.int a0), some (.int a1), none] [] S := by
  unfold fX7_pack at hf
  refine ra_aload_n C dX7_pack_0 rfl rfl ?_
  refine ra_iload_n C dX7_pack_1 rfl rfl ?_
  obtain ⟨q2, h2, hf⟩ := rob hf
  refine ra_callVi C dX7_pack_2 (mX7_isStructure h2) rfl tX7_l201 tX7_i_X7_isStructure tX7_s_X7_isStructure tX7_init tX7_c_X7_isStructure tX7_d_X7_isStructure (by decide) (by decide) (Nat.le_of_ble_eq_true rfl) ?_
  refine ra_if_eq C dX7_pack_5 (tgt := 20) (by decide) (fun c5 => ?_) (fun c5 => ?_)
  · replace hf := rif_p c5 hf
    exact bX7_pack_b20 C _ _ _ hf
  · replace hf := rif_n c5 hf
    refine ra_aload_n C dX7_pack_8 rfl rfl ?_
    refine ra_iload_n C dX7_pack_9 rfl rfl ?_
    obtain ⟨q10, h10, hf⟩ := rob hf
    refine ra_callVi C dX7_pack_10 (mX7_isSignature h10) rfl tX7_l217 tX7_i_X7_isSignature tX7_s_X7_isSignature tX7_init tX7_c_X7_isSignature tX7_d_X7_isSignature (by decide) (by decide) (Nat.le_of_ble_eq_true rfl) ?_
    refine ra_if_eq C dX7_pack_13 (tgt := 20) (by decide) (fun c13 => ?_) (fun c13 => ?_)
    · replace hf := rif_p c13 hf
      exact bX7_pack_b20 C _ _ _ hf
    · replace hf := rif_n c13 hf
      refine ra_iconst C dX7_pack_16 (v := 1) (by decide) ?_
      refine ra_goto C dX7_pack_17 (tgt := 21) (by decide) ?_
      exact bX7_pack_b21 C _ _ _ _ hf
set_option maxRecDepth 100000 in
set_option maxHeartbeats 4000000 in
theorem mX7_pack {l : Launch} {G : rG} {a0 : Int32} {a1 : Int32} {S : rS} {r : Int32 × rS} (hf : fX7_pack a0 a1 S = some r) : rM l G 5 yX7_pack cX7_pack 4 (some .int) [.ref G.2.2.2.1, .int a0, .int a1] S (some (.int r.1), r.2) :=
  rM_of (lo0 := [some (.ref G.2.2.2.1), some (.int a0), some (.int a1), none]) (by decide +kernel) rfl (Nat.le_of_ble_eq_true rfl) (by simp [Value.category]) rfl (fun X _ C => bX7_pack C a0 a1 S hf)
set_option maxRecDepth 100000 in
set_option maxHeartbeats 4000000 in
theorem bX7_unpack_b43 {G : rG} {X : rX} (C : rC G X 3 cX7_unpack (some .int) 6) {r : Int32 × rS} (s0 : Int32) (S : rS) (hf : fX7_unpack_b43 s0 S = some r) : rAW G X 3 (some (.int r.1), r.2) 43 [none, none, none] [.int s0] S := by
  unfold fX7_unpack_b43 at hf
  obtain rfl := Option.some.inj hf
  exact ra_iret C dX7_unpack_43
set_option maxRecDepth 100000 in
set_option maxHeartbeats 4000000 in
theorem bX7_unpack {G : rG} {X : rX} (C : rC G X 3 cX7_unpack (some .int) 6) (a0 : Int32) (S : rS) {r : Int32 × rS} (hf : fX7_unpack a0 S = some r) : rAW G X 3 (some (.int r.1), r.2) 0 [some (.ref G.2.2.2.1), some (.int a0), none] [] S := by
  unfold fX7_unpack at hf
  refine ra_iload_n C dX7_unpack_0 rfl rfl ?_
  refine ra_iconst C dX7_unpack_1 (v := 0) (by decide) ?_
  refine ra_aload_n C dX7_unpack_2 rfl rfl ?_
  refine ra_getI C dX7_unpack_3 (k := 29) (by decide) rfl rX7_in tX7_f295 rfl ?_
  refine ra_iconst C dX7_unpack_6 (v := 1) (by decide) ?_
  refine ra_isub C dX7_unpack_7 ?_
  obtain ⟨q8, h8, hf⟩ := rob hf
  refine ra_callSi C dX7_unpack_8 (mX7_isIn h8) rfl tX7_l159 tX7_st_X7_isIn tX7_init tX7_c_X7_isIn tX7_d_X7_isIn (by decide) (by decide) (Nat.le_of_ble_eq_true rfl) ?_
  refine ra_istore_n C dX7_unpack_11 rfl (by decide) ?_
  refine ra_iload_n C dX7_unpack_12 rfl rfl ?_
  refine ra_if_eq C dX7_unpack_13 (tgt := 36) (by decide) (fun c13 => ?_) (fun c13 => ?_)
  · replace hf := rif_p c13 hf
    refine ra_aload_n C dX7_unpack_36 rfl rfl ?_
    refine ra_iconst C dX7_unpack_37 (v := 0) (by decide) ?_
    refine ra_iconst C dX7_unpack_38 (v := (-1)) (by decide) ?_
    refine ra_iconst C dX7_unpack_39 (v := (-1)) (by decide) ?_
    obtain ⟨q40, h40, hf⟩ := rob hf
    refine ra_callVi C dX7_unpack_40 (mX7_seals h40) rfl tX7_l267 tX7_i_X7_seals tX7_s_X7_seals tX7_init tX7_c_X7_seals tX7_d_X7_seals (by decide) (by decide) (Nat.le_of_ble_eq_true rfl) ?_
    refine ra_mask [false, false, false] ?_
    exact bX7_unpack_b43 C _ _ hf
  · replace hf := rif_n c13 hf
    refine ra_aload_n C dX7_unpack_16 rfl rfl ?_
    refine ra_iconst C dX7_unpack_17 (v := 0) (by decide) ?_
    refine ra_aload_n C dX7_unpack_18 rfl rfl ?_
    refine ra_getR C dX7_unpack_19 (k := 30) (by decide) rfl rX7_in tX7_f90 rfl ?_
    refine ra_iload_n C dX7_unpack_22 rfl rfl ?_
    obtain ⟨x23, h23, hf⟩ := rob hf
    refine ra_iald C dX7_unpack_23 h23 (by decide) rfl rfl ?_
    refine ra_aload_n C dX7_unpack_24 rfl rfl ?_
    refine ra_getR C dX7_unpack_25 (k := 31) (by decide) rfl rX7_in tX7_f93 rfl ?_
    refine ra_iload_n C dX7_unpack_28 rfl rfl ?_
    obtain ⟨x29, h29, hf⟩ := rob hf
    refine ra_iald C dX7_unpack_29 h29 (by decide) rfl rfl ?_
    obtain ⟨q30, h30, hf⟩ := rob hf
    refine ra_callVi C dX7_unpack_30 (mX7_seals h30) rfl tX7_l267 tX7_i_X7_seals tX7_s_X7_seals tX7_init tX7_c_X7_seals tX7_d_X7_seals (by decide) (by decide) (Nat.le_of_ble_eq_true rfl) ?_
    refine ra_goto C dX7_unpack_33 (tgt := 43) (by decide) ?_
    refine ra_mask [false, false, false] ?_
    exact bX7_unpack_b43 C _ _ hf
set_option maxRecDepth 100000 in
set_option maxHeartbeats 4000000 in
theorem mX7_unpack {l : Launch} {G : rG} {a0 : Int32} {S : rS} {r : Int32 × rS} (hf : fX7_unpack a0 S = some r) : rM l G 6 yX7_unpack cX7_unpack 3 (some .int) [.ref G.2.2.2.1, .int a0] S (some (.int r.1), r.2) :=
  rM_of (lo0 := [some (.ref G.2.2.2.1), some (.int a0), none]) (by decide +kernel) rfl (Nat.le_of_ble_eq_true rfl) (by simp [Value.category]) rfl (fun X _ C => bX7_unpack C a0 S hf)
set_option maxRecDepth 100000 in
set_option maxHeartbeats 4000000 in
theorem bX7_unit_b52 {G : rG} {X : rX} (C : rC G X 5 cX7_unit (some .int) 2) {r : Int32 × rS} (l1 : Int32) (l2 : Int32) (l3 : Int32) (s0 : Int32) (S : rS) (hf : fX7_unit_b52 l1 l2 l3 s0 S = some r) : rAW G X 5 (some (.int r.1), r.2) 52 [some (.ref G.2.2.2.1), some (.int l1), some (.int l2), some (.int l3), none] [.int s0, .ref G.2.2.2.1] S := by
  unfold fX7_unit_b52 at hf
  obtain ⟨q52, h52, hf⟩ := rob hf
  refine ra_callVi C dX7_unit_52 (mX7_fails h52) rfl tX7_l175 tX7_i_X7_fails tX7_s_X7_fails tX7_init tX7_c_X7_fails tX7_d_X7_fails (by decide) (by decide) (Nat.le_of_ble_eq_true rfl) ?_
  refine ra_if_eq C dX7_unit_55 (tgt := 60) (by decide) (fun c55 => ?_) (fun c55 => ?_)
  · replace hf := rif_p c55 hf
    refine ra_aload_n C dX7_unit_60 rfl rfl ?_
    refine ra_getR C dX7_unit_61 (k := 33) (by decide) rfl rX7_in tX7_f96 rfl ?_
    refine ra_aload_n C dX7_unit_64 rfl rfl ?_
    refine ra_getI C dX7_unit_65 (k := 32) (by decide) rfl rX7_in tX7_f298 rfl ?_
    refine ra_iload_n C dX7_unit_68 rfl rfl ?_
    obtain ⟨S69, h69, hf⟩ := rob hf
    refine ra_iast C dX7_unit_69 h69 (by decide) rfl rfl ?_
    refine ra_aload_n C dX7_unit_70 rfl rfl ?_
    refine ra_getR C dX7_unit_71 (k := 34) (by decide) rfl rX7_in tX7_f99 rfl ?_
    refine ra_aload_n C dX7_unit_74 rfl rfl ?_
    refine ra_getI C dX7_unit_75 (k := 32) (by decide) rfl rX7_in tX7_f298 rfl ?_
    refine ra_iload_n C dX7_unit_78 rfl rfl ?_
    obtain ⟨S79, h79, hf⟩ := rob hf
    refine ra_iast C dX7_unit_79 h79 (by decide) rfl rfl ?_
    refine ra_aload_n C dX7_unit_80 rfl rfl ?_
    refine ra_getR C dX7_unit_81 (k := 35) (by decide) rfl rX7_in tX7_f102 rfl ?_
    refine ra_aload_n C dX7_unit_84 rfl rfl ?_
    refine ra_getI C dX7_unit_85 (k := 32) (by decide) rfl rX7_in tX7_f298 rfl ?_
    refine ra_iload_n C dX7_unit_88 rfl rfl ?_
    obtain ⟨S89, h89, hf⟩ := rob hf
    refine ra_bast C dX7_unit_89 h89 (by decide) rfl rfl ?_
    refine ra_aload_n C dX7_unit_90 rfl rfl ?_
    refine ra_dup C dX7_unit_91 rfl ?_
    refine ra_getI C dX7_unit_92 (k := 32) (by decide) rfl rX7_in tX7_f298 rfl ?_
    refine ra_iconst C dX7_unit_95 (v := 1) (by decide) ?_
    refine ra_iadd C dX7_unit_96 ?_
    refine ra_putI C dX7_unit_97 (k := 32) (by decide) rfl rX7_in tX7_f298 rfl rfl (tyX7_ok 32 (by decide)) ?_
    refine ra_aload_n C dX7_unit_100 rfl rfl ?_
    refine ra_getI C dX7_unit_101 (k := 32) (by decide) rfl rX7_in tX7_f298 rfl ?_
    refine ra_iconst C dX7_unit_104 (v := 1) (by decide) ?_
    refine ra_isub C dX7_unit_105 ?_
    obtain rfl := Option.some.inj hf
    exact ra_iret C dX7_unit_106
  · replace hf := rif_n c55 hf
    refine ra_iconst C dX7_unit_58 (v := 0) (by decide) ?_
    obtain rfl := Option.some.inj hf
    exact ra_iret C dX7_unit_59
set_option maxRecDepth 100000 in
set_option maxHeartbeats 4000000 in
theorem bX7_unit_b26 {G : rG} {X : rX} (C : rC G X 5 cX7_unit (some .int) 2) {r : Int32 × rS} (l1 : Int32) (l2 : Int32) (l3 : Int32) (s0 : Int32) (S : rS) (hf : fX7_unit_b26 l1 l2 l3 s0 S = some r) : rAW G X 5 (some (.int r.1), r.2) 26 [some (.ref G.2.2.2.1), some (.int l1), some (.int l2), some (.int l3), none] [.int s0] S := by
  unfold fX7_unit_b26 at hf
  refine ra_istore C dX7_unit_26 (by decide) ?_
  refine ra_aload_n C dX7_unit_28 rfl rfl ?_
  refine ra_iload C dX7_unit_29 rfl ?_
  refine ra_if_ne C dX7_unit_31 (tgt := 38) (by decide) (fun c31 => ?_) (fun c31 => ?_)
  · replace hf := rif_n c31 hf
    refine ra_aload_n C dX7_unit_38 rfl rfl ?_
    refine ra_getI C dX7_unit_39 (k := 32) (by decide) rfl rX7_in tX7_f298 rfl ?_
    refine ra_bipush C dX7_unit_42 (v := 8) (by decide) ?_
    refine ra_icmp_ne C dX7_unit_44 (tgt := 51) (by decide) (fun c44 => ?_) (fun c44 => ?_)
    · replace hf := rif_n c44 hf
      refine ra_iconst C dX7_unit_51 (v := 0) (by decide) ?_
      refine ra_mask [true, true, true, true, false] ?_
      exact bX7_unit_b52 C _ _ _ _ _ hf
    · replace hf := rif_p c44 hf
      refine ra_iconst C dX7_unit_47 (v := 2) (by decide) ?_
      refine ra_goto C dX7_unit_48 (tgt := 52) (by decide) ?_
      refine ra_mask [true, true, true, true, false] ?_
      exact bX7_unit_b52 C _ _ _ _ _ hf
  · replace hf := rif_p c31 hf
    refine ra_iconst C dX7_unit_34 (v := 1) (by decide) ?_
    refine ra_goto C dX7_unit_35 (tgt := 52) (by decide) ?_
    refine ra_mask [true, true, true, true, false] ?_
    exact bX7_unit_b52 C _ _ _ _ _ hf
set_option maxRecDepth 100000 in
set_option maxHeartbeats 4000000 in
theorem bX7_unit_b25 {G : rG} {X : rX} (C : rC G X 5 cX7_unit (some .int) 2) {r : Int32 × rS} (l1 : Int32) (l2 : Int32) (l3 : Int32) (S : rS) (hf : fX7_unit_b25 l1 l2 l3 S = some r) : rAW G X 5 (some (.int r.1), r.2) 25 [some (.ref G.2.2.2.1), some (.int l1), some (.int l2), some (.int l3), none] [] S := by
  unfold fX7_unit_b25 at hf
  refine ra_iconst C dX7_unit_25 (v := 0) (by decide) ?_
  exact bX7_unit_b26 C _ _ _ _ _ hf
set_option maxRecDepth 100000 in
set_option maxHeartbeats 4000000 in
theorem bX7_unit {G : rG} {X : rX} (C : rC G X 5 cX7_unit (some .int) 2) (a0 : Int32) (a1 : Int32) (a2 : Int32) (S : rS) {r : Int32 × rS} (hf : fX7_unit a0 a1 a2 S = some r) : rAW G X 5 (some (.int r.1), r.2) 0 [some (.ref G.2.2.2.1), some (.int a0), some (.int a1), some (.int a2), none] [] S := by
  unfold fX7_unit at hf
  refine ra_aload_n C dX7_unit_0 rfl rfl ?_
  refine ra_iload_n C dX7_unit_1 rfl rfl ?_
  obtain ⟨q2, h2, hf⟩ := rob hf
  refine ra_callVi C dX7_unit_2 (mX7_isSignature h2) rfl tX7_l217 tX7_i_X7_isSignature tX7_s_X7_isSignature tX7_init tX7_c_X7_isSignature tX7_d_X7_isSignature (by decide) (by decide) (Nat.le_of_ble_eq_true rfl) ?_
  refine ra_if_eq C dX7_unit_5 (tgt := 25) (by decide) (fun c5 => ?_) (fun c5 => ?_)
  · replace hf := rif_p c5 hf
    exact bX7_unit_b25 C _ _ _ _ hf
  · replace hf := rif_n c5 hf
    refine ra_iload_n C dX7_unit_8 rfl rfl ?_
    refine ra_if_lt C dX7_unit_9 (tgt := 25) (by decide) (fun c9 => ?_) (fun c9 => ?_)
    · replace hf := rif_p c9 hf
      exact bX7_unit_b25 C _ _ _ _ hf
    · replace hf := rif_n c9 hf
      refine ra_iload_n C dX7_unit_12 rfl rfl ?_
      refine ra_aload_n C dX7_unit_13 rfl rfl ?_
      refine ra_getI C dX7_unit_14 (k := 32) (by decide) rfl rX7_in tX7_f298 rfl ?_
      refine ra_ishr C dX7_unit_17 ?_
      refine ra_if_ne C dX7_unit_18 (tgt := 25) (by decide) (fun c18 => ?_) (fun c18 => ?_)
      · replace hf := rif_n c18 hf
        exact bX7_unit_b25 C _ _ _ _ hf
      · replace hf := rif_p c18 hf
        refine ra_iconst C dX7_unit_21 (v := 1) (by decide) ?_
        refine ra_goto C dX7_unit_22 (tgt := 26) (by decide) ?_
        exact bX7_unit_b26 C _ _ _ _ _ hf
set_option maxRecDepth 100000 in
set_option maxHeartbeats 4000000 in
theorem mX7_unit {l : Launch} {G : rG} {a0 : Int32} {a1 : Int32} {a2 : Int32} {S : rS} {r : Int32 × rS} (hf : fX7_unit a0 a1 a2 S = some r) : rM l G 2 yX7_unit cX7_unit 5 (some .int) [.ref G.2.2.2.1, .int a0, .int a1, .int a2] S (some (.int r.1), r.2) :=
  rM_of (lo0 := [some (.ref G.2.2.2.1), some (.int a0), some (.int a1), some (.int a2), none]) (by decide +kernel) rfl (Nat.le_of_ble_eq_true rfl) (by simp [Value.category]) rfl (fun X _ C => bX7_unit C a0 a1 a2 S hf)
set_option maxRecDepth 100000 in
set_option maxHeartbeats 4000000 in
theorem bX7_isUnit {G : rG} {X : rX} (C : rC G X 2 cX7_isUnit (some .boolean) 1) (a0 : Int32) (S : rS) {r : Int32 × rS} (hf : fX7_isUnit a0 S = some r) : rAW G X 2 (some (.int r.1), r.2) 0 [some (.ref G.2.2.2.1), some (.int a0)] [] S := by
  unfold fX7_isUnit at hf
  refine ra_iload_n C dX7_isUnit_0 rfl rfl ?_
  refine ra_iconst C dX7_isUnit_1 (v := 0) (by decide) ?_
  refine ra_aload_n C dX7_isUnit_2 rfl rfl ?_
  refine ra_getI C dX7_isUnit_3 (k := 32) (by decide) rfl rX7_in tX7_f298 rfl ?_
  refine ra_iconst C dX7_isUnit_6 (v := 1) (by decide) ?_
  refine ra_isub C dX7_isUnit_7 ?_
  obtain ⟨q8, h8, hf⟩ := rob hf
  refine ra_callSi C dX7_isUnit_8 (mX7_isIn h8) rfl tX7_l159 tX7_st_X7_isIn tX7_init tX7_c_X7_isIn tX7_d_X7_isIn (by decide) (by decide) (Nat.le_of_ble_eq_true rfl) ?_
  obtain ⟨rfl, hn⟩ := rbo_spec hf
  exact ra_zret C hn dX7_isUnit_11
set_option maxRecDepth 100000 in
set_option maxHeartbeats 4000000 in
theorem mX7_isUnit {l : Launch} {G : rG} {a0 : Int32} {S : rS} {r : Int32 × rS} (hf : fX7_isUnit a0 S = some r) : rM l G 1 yX7_isUnit cX7_isUnit 2 (some .boolean) [.ref G.2.2.2.1, .int a0] S (some (.int r.1), r.2) :=
  rM_of (lo0 := [some (.ref G.2.2.2.1), some (.int a0)]) (by decide +kernel) rfl (Nat.le_of_ble_eq_true rfl) (by simp [Value.category]) rfl (fun X _ C => bX7_isUnit C a0 S hf)
set_option maxRecDepth 100000 in
set_option maxHeartbeats 4000000 in
theorem bX7_change_b55 {G : rG} {X : rX} (C : rC G X 3 cX7_change (some .int) 2) {r : Int32 × rS} (l1 : Int32) (s0 : Int32) (s1 : Int32) (S : rS) (hf : fX7_change_b55 l1 s0 s1 S = some r) : rAW G X 3 (some (.int r.1), r.2) 55 [some (.ref G.2.2.2.1), some (.int l1), none] [.int s0, .int s1, .ref (G.2.2.2.2 33)] S := by
  unfold fX7_change_b55 at hf
  obtain ⟨S55, h55, hf⟩ := rob hf
  refine ra_iast C dX7_change_55 h55 (by decide) rfl rfl ?_
  refine ra_aload_n C dX7_change_56 rfl rfl ?_
  refine ra_getR C dX7_change_57 (k := 36) (by decide) rfl rX7_in tX7_f105 rfl ?_
  refine ra_iload_n C dX7_change_60 rfl rfl ?_
  refine ra_dup2 C dX7_change_61 rfl rfl ?_
  obtain ⟨x62, h62, hf⟩ := rob hf
  refine ra_iald C dX7_change_62 h62 (by decide) rfl rfl ?_
  refine ra_iconst C dX7_change_63 (v := 1) (by decide) ?_
  refine ra_iadd C dX7_change_64 ?_
  obtain ⟨S65, h65, hf⟩ := rob hf
  refine ra_iast C dX7_change_65 h65 (by decide) rfl rfl ?_
  refine ra_aload_n C dX7_change_66 rfl rfl ?_
  refine ra_getR C dX7_change_67 (k := 36) (by decide) rfl rX7_in tX7_f105 rfl ?_
  refine ra_iload_n C dX7_change_70 rfl rfl ?_
  obtain ⟨x71, h71, hf⟩ := rob hf
  refine ra_iald C dX7_change_71 h71 (by decide) rfl rfl ?_
  obtain rfl := Option.some.inj hf
  exact ra_iret C dX7_change_72
set_option maxRecDepth 100000 in
set_option maxHeartbeats 4000000 in
theorem bX7_change_b27 {G : rG} {X : rX} (C : rC G X 3 cX7_change (some .int) 2) {r : Int32 × rS} (l1 : Int32) (l2 : Int32) (s0 : Int32) (S : rS) (hf : fX7_change_b27 l1 l2 s0 S = some r) : rAW G X 3 (some (.int r.1), r.2) 27 [some (.ref G.2.2.2.1), some (.int l1), some (.int l2)] [.int s0, .ref G.2.2.2.1] S := by
  unfold fX7_change_b27 at hf
  obtain ⟨q27, h27, hf⟩ := rob hf
  refine ra_callVi C dX7_change_27 (mX7_fails h27) rfl tX7_l175 tX7_i_X7_fails tX7_s_X7_fails tX7_init tX7_c_X7_fails tX7_d_X7_fails (by decide) (by decide) (Nat.le_of_ble_eq_true rfl) ?_
  refine ra_if_eq C dX7_change_30 (tgt := 35) (by decide) (fun c30 => ?_) (fun c30 => ?_)
  · replace hf := rif_p c30 hf
    refine ra_aload_n C dX7_change_35 rfl rfl ?_
    refine ra_getR C dX7_change_36 (k := 33) (by decide) rfl rX7_in tX7_f96 rfl ?_
    refine ra_iload_n C dX7_change_39 rfl rfl ?_
    refine ra_iload_n C dX7_change_40 rfl rfl ?_
    refine ra_iconst C dX7_change_41 (v := (-1)) (by decide) ?_
    refine ra_icmp_ne C dX7_change_42 (tgt := 54) (by decide) (fun c42 => ?_) (fun c42 => ?_)
    · replace hf := rif_n c42 hf
      refine ra_iload_n C dX7_change_54 rfl rfl ?_
      refine ra_mask [true, true, false] ?_
      exact bX7_change_b55 C _ _ _ _ hf
    · replace hf := rif_p c42 hf
      refine ra_aload_n C dX7_change_45 rfl rfl ?_
      refine ra_getR C dX7_change_46 (k := 33) (by decide) rfl rX7_in tX7_f96 rfl ?_
      refine ra_iload_n C dX7_change_49 rfl rfl ?_
      obtain ⟨x50, h50, hf⟩ := rob hf
      refine ra_iald C dX7_change_50 h50 (by decide) rfl rfl ?_
      refine ra_goto C dX7_change_51 (tgt := 55) (by decide) ?_
      refine ra_mask [true, true, false] ?_
      exact bX7_change_b55 C _ _ _ _ hf
  · replace hf := rif_n c30 hf
    refine ra_iconst C dX7_change_33 (v := 0) (by decide) ?_
    obtain rfl := Option.some.inj hf
    exact ra_iret C dX7_change_34
set_option maxRecDepth 100000 in
set_option maxHeartbeats 4000000 in
theorem bX7_change_b26 {G : rG} {X : rX} (C : rC G X 3 cX7_change (some .int) 2) {r : Int32 × rS} (l1 : Int32) (l2 : Int32) (S : rS) (hf : fX7_change_b26 l1 l2 S = some r) : rAW G X 3 (some (.int r.1), r.2) 26 [some (.ref G.2.2.2.1), some (.int l1), some (.int l2)] [.ref G.2.2.2.1] S := by
  unfold fX7_change_b26 at hf
  refine ra_iconst C dX7_change_26 (v := 1) (by decide) ?_
  exact bX7_change_b27 C _ _ _ _ hf
set_option maxRecDepth 100000 in
set_option maxHeartbeats 4000000 in
theorem bX7_change_b22 {G : rG} {X : rX} (C : rC G X 3 cX7_change (some .int) 2) {r : Int32 × rS} (l1 : Int32) (l2 : Int32) (S : rS) (hf : fX7_change_b22 l1 l2 S = some r) : rAW G X 3 (some (.int r.1), r.2) 22 [some (.ref G.2.2.2.1), some (.int l1), some (.int l2)] [.ref G.2.2.2.1] S := by
  unfold fX7_change_b22 at hf
  refine ra_iconst C dX7_change_22 (v := 0) (by decide) ?_
  refine ra_goto C dX7_change_23 (tgt := 27) (by decide) ?_
  exact bX7_change_b27 C _ _ _ _ hf
set_option maxRecDepth 100000 in
set_option maxHeartbeats 4000000 in
theorem bX7_change {G : rG} {X : rX} (C : rC G X 3 cX7_change (some .int) 2) (a0 : Int32) (a1 : Int32) (S : rS) {r : Int32 × rS} (hf : fX7_change a0 a1 S = some r) : rAW G X 3 (some (.int r.1), r.2) 0 [some (.ref G.2.2.2.1), some (.int a0), some (.int a1)] [] S := by
  unfold fX7_change at hf
  refine ra_aload_n C dX7_change_0 rfl rfl ?_
  refine ra_aload_n C dX7_change_1 rfl rfl ?_
  refine ra_iload_n C dX7_change_2 rfl rfl ?_
  obtain ⟨q3, h3, hf⟩ := rob hf
  refine ra_callVi C dX7_change_3 (mX7_isUnit h3) rfl tX7_l301 tX7_i_X7_isUnit tX7_s_X7_isUnit tX7_init tX7_c_X7_isUnit tX7_d_X7_isUnit (by decide) (by decide) (Nat.le_of_ble_eq_true rfl) ?_
  refine ra_if_eq C dX7_change_6 (tgt := 26) (by decide) (fun c6 => ?_) (fun c6 => ?_)
  · replace hf := rif_p c6 hf
    exact bX7_change_b26 C _ _ _ hf
  · replace hf := rif_n c6 hf
    refine ra_iload_n C dX7_change_9 rfl rfl ?_
    refine ra_iconst C dX7_change_10 (v := (-1)) (by decide) ?_
    refine ra_icmp_eq C dX7_change_11 (tgt := 22) (by decide) (fun c11 => ?_) (fun c11 => ?_)
    · replace hf := rif_p c11 hf
      exact bX7_change_b22 C _ _ _ hf
    · replace hf := rif_n c11 hf
      refine ra_aload_n C dX7_change_14 rfl rfl ?_
      refine ra_iload_n C dX7_change_15 rfl rfl ?_
      obtain ⟨q16, h16, hf⟩ := rob hf
      refine ra_callVi C dX7_change_16 (mX7_isSignature h16) rfl tX7_l217 tX7_i_X7_isSignature tX7_s_X7_isSignature tX7_init tX7_c_X7_isSignature tX7_d_X7_isSignature (by decide) (by decide) (Nat.le_of_ble_eq_true rfl) ?_
      refine ra_if_eq C dX7_change_19 (tgt := 26) (by decide) (fun c19 => ?_) (fun c19 => ?_)
      · replace hf := rif_p c19 hf
        exact bX7_change_b26 C _ _ _ hf
      · replace hf := rif_n c19 hf
        exact bX7_change_b22 C _ _ _ hf
set_option maxRecDepth 100000 in
set_option maxHeartbeats 4000000 in
theorem mX7_change {l : Launch} {G : rG} {a0 : Int32} {a1 : Int32} {S : rS} {r : Int32 × rS} (hf : fX7_change a0 a1 S = some r) : rM l G 2 yX7_change cX7_change 3 (some .int) [.ref G.2.2.2.1, .int a0, .int a1] S (some (.int r.1), r.2) :=
  rM_of (lo0 := [some (.ref G.2.2.2.1), some (.int a0), some (.int a1)]) (by decide +kernel) rfl (Nat.le_of_ble_eq_true rfl) (by simp [Value.category]) rfl (fun X _ C => bX7_change C a0 a1 S hf)
set_option maxRecDepth 100000 in
set_option maxHeartbeats 4000000 in
theorem bX7_isStale_b119 {G : rG} {X : rX} (C : rC G X 5 cX7_isStale (some .boolean) 0) {r : Int32 × rS} {rec32 : Int32 → Int32 → Int32 → rS → Option (Int32 × rS)} (hrec32 : ∀ (l1 : Int32) (l2 : Int32) (l3 : Int32) (S : rS), rec32 l1 l2 l3 S = some r → rAW G X 5 (some (.int r.1), r.2) 32 [some (.ref G.2.2.2.1), some (.int l1), some (.int l2), some (.int l3), none] [] S) (l1 : Int32) (l2 : Int32) (l3 : Int32) (S : rS) (hf : fX7_isStale_b119 rec32 l1 l2 l3 S = some r) : rAW G X 5 (some (.int r.1), r.2) 119 [some (.ref G.2.2.2.1), some (.int l1), some (.int l2), some (.int l3), none] [] S := by
  unfold fX7_isStale_b119 at hf
  refine ra_iinc C dX7_isStale_119 rfl (v := 1) (by decide) (by decide) ?_
  refine ra_goto C dX7_isStale_122 (tgt := 32) (by decide) ?_
  exact hrec32 _ _ _ _ hf
set_option maxRecDepth 100000 in
set_option maxHeartbeats 4000000 in
theorem bX7_isStale_b118 {G : rG} {X : rX} (C : rC G X 5 cX7_isStale (some .boolean) 0) {r : Int32 × rS} {rec32 : Int32 → Int32 → Int32 → rS → Option (Int32 × rS)} (hrec32 : ∀ (l1 : Int32) (l2 : Int32) (l3 : Int32) (S : rS), rec32 l1 l2 l3 S = some r → rAW G X 5 (some (.int r.1), r.2) 32 [some (.ref G.2.2.2.1), some (.int l1), some (.int l2), some (.int l3), none] [] S) (l1 : Int32) (l3 : Int32) (s0 : Int32) (S : rS) (hf : fX7_isStale_b118 rec32 l1 l3 s0 S = some r) : rAW G X 5 (some (.int r.1), r.2) 118 [some (.ref G.2.2.2.1), some (.int l1), none, some (.int l3), none] [.int s0] S := by
  unfold fX7_isStale_b118 at hf
  refine ra_istore_n C dX7_isStale_118 rfl (by decide) ?_
  exact bX7_isStale_b119 C hrec32 _ _ _ _ hf
set_option maxRecDepth 100000 in
set_option maxHeartbeats 4000000 in
theorem bX7_isStale_b113 {G : rG} {X : rX} (C : rC G X 5 cX7_isStale (some .boolean) 0) {r : Int32 × rS} {rec32 : Int32 → Int32 → Int32 → rS → Option (Int32 × rS)} (hrec32 : ∀ (l1 : Int32) (l2 : Int32) (l3 : Int32) (S : rS), rec32 l1 l2 l3 S = some r → rAW G X 5 (some (.int r.1), r.2) 32 [some (.ref G.2.2.2.1), some (.int l1), some (.int l2), some (.int l3), none] [] S) (l1 : Int32) (l3 : Int32) (S : rS) (hf : fX7_isStale_b113 rec32 l1 l3 S = some r) : rAW G X 5 (some (.int r.1), r.2) 113 [some (.ref G.2.2.2.1), some (.int l1), none, some (.int l3), none] [] S := by
  unfold fX7_isStale_b113 at hf
  refine ra_iconst C dX7_isStale_113 (v := 1) (by decide) ?_
  refine ra_goto C dX7_isStale_114 (tgt := 118) (by decide) ?_
  exact bX7_isStale_b118 C hrec32 _ _ _ _ hf
set_option maxRecDepth 100000 in
set_option maxHeartbeats 4000000 in
theorem bX7_isStale_b117 {G : rG} {X : rX} (C : rC G X 5 cX7_isStale (some .boolean) 0) {r : Int32 × rS} {rec32 : Int32 → Int32 → Int32 → rS → Option (Int32 × rS)} (hrec32 : ∀ (l1 : Int32) (l2 : Int32) (l3 : Int32) (S : rS), rec32 l1 l2 l3 S = some r → rAW G X 5 (some (.int r.1), r.2) 32 [some (.ref G.2.2.2.1), some (.int l1), some (.int l2), some (.int l3), none] [] S) (l1 : Int32) (l3 : Int32) (S : rS) (hf : fX7_isStale_b117 rec32 l1 l3 S = some r) : rAW G X 5 (some (.int r.1), r.2) 117 [some (.ref G.2.2.2.1), some (.int l1), none, some (.int l3), none] [] S := by
  unfold fX7_isStale_b117 at hf
  refine ra_iconst C dX7_isStale_117 (v := 0) (by decide) ?_
  exact bX7_isStale_b118 C hrec32 _ _ _ _ hf
set_option maxRecDepth 100000 in
set_option maxHeartbeats 4000000 in
theorem bX7_isStale_b32_body {G : rG} {X : rX} (C : rC G X 5 cX7_isStale (some .boolean) 0) {r : Int32 × rS} {rec32 : Int32 → Int32 → Int32 → rS → Option (Int32 × rS)} (hrec32 : ∀ (l1 : Int32) (l2 : Int32) (l3 : Int32) (S : rS), rec32 l1 l2 l3 S = some r → rAW G X 5 (some (.int r.1), r.2) 32 [some (.ref G.2.2.2.1), some (.int l1), some (.int l2), some (.int l3), none] [] S) (l1 : Int32) (l2 : Int32) (l3 : Int32) (S : rS) (hf : fX7_isStale_b32_body rec32 l1 l2 l3 S = some r) : rAW G X 5 (some (.int r.1), r.2) 32 [some (.ref G.2.2.2.1), some (.int l1), some (.int l2), some (.int l3), none] [] S := by
  unfold fX7_isStale_b32_body at hf
  refine ra_iload_n C dX7_isStale_32 rfl rfl ?_
  refine ra_iload_n C dX7_isStale_33 rfl rfl ?_
  refine ra_icmp_ge C dX7_isStale_34 (tgt := 125) (by decide) (fun c34 => ?_) (fun c34 => ?_)
  · replace hf := rif_p c34 hf
    refine ra_iload_n C dX7_isStale_125 rfl rfl ?_
    obtain ⟨rfl, hn⟩ := rbo_spec hf
    exact ra_zret C hn dX7_isStale_126
  · replace hf := rif_n c34 hf
    refine ra_bipush C dX7_isStale_37 (v := 8) (by decide) ?_
    refine ra_iload_n C dX7_isStale_39 rfl rfl ?_
    refine ra_imul C dX7_isStale_40 ?_
    refine ra_iload_n C dX7_isStale_41 rfl rfl ?_
    refine ra_iadd C dX7_isStale_42 ?_
    refine ra_istore C dX7_isStale_43 (by decide) ?_
    refine ra_iload_n C dX7_isStale_45 rfl rfl ?_
    refine ra_if_ne C dX7_isStale_46 (tgt := 119) (by decide) (fun c46 => ?_) (fun c46 => ?_)
    · replace hf := rif_n c46 hf
      refine ra_mask [true, true, true, true, false] ?_
      exact bX7_isStale_b119 C hrec32 _ _ _ _ hf
    · replace hf := rif_p c46 hf
      refine ra_aload_n C dX7_isStale_49 rfl rfl ?_
      refine ra_getR C dX7_isStale_50 (k := 34) (by decide) rfl rX7_in tX7_f99 rfl ?_
      refine ra_iload_n C dX7_isStale_53 rfl rfl ?_
      obtain ⟨x54, h54, hf⟩ := rob hf
      refine ra_iald C dX7_isStale_54 h54 (by decide) rfl rfl ?_
      refine ra_iload_n C dX7_isStale_55 rfl rfl ?_
      refine ra_ishr C dX7_isStale_56 ?_
      refine ra_iconst C dX7_isStale_57 (v := 1) (by decide) ?_
      refine ra_iand C dX7_isStale_58 ?_
      refine ra_iconst C dX7_isStale_59 (v := 1) (by decide) ?_
      refine ra_icmp_ne C dX7_isStale_60 (tgt := 119) (by decide) (fun c60 => ?_) (fun c60 => ?_)
      · replace hf := rif_n c60 hf
        refine ra_mask [true, true, true, true, false] ?_
        exact bX7_isStale_b119 C hrec32 _ _ _ _ hf
      · replace hf := rif_p c60 hf
        refine ra_aload_n C dX7_isStale_63 rfl rfl ?_
        refine ra_getR C dX7_isStale_64 (k := 53) (by decide) rfl rX7_in tX7_f153 rfl ?_
        refine ra_bipush C dX7_isStale_67 (v := 20) (by decide) ?_
        refine ra_aload_n C dX7_isStale_69 rfl rfl ?_
        refine ra_getR C dX7_isStale_70 (k := 33) (by decide) rfl rX7_in tX7_f96 rfl ?_
        refine ra_iload_n C dX7_isStale_73 rfl rfl ?_
        obtain ⟨x74, h74, hf⟩ := rob hf
        refine ra_iald C dX7_isStale_74 h74 (by decide) rfl rfl ?_
        refine ra_imul C dX7_isStale_75 ?_
        refine ra_aload_n C dX7_isStale_76 rfl rfl ?_
        refine ra_getR C dX7_isStale_77 (k := 39) (by decide) rfl rX7_in tX7_f114 rfl ?_
        refine ra_iload C dX7_isStale_80 rfl ?_
        obtain ⟨x82, h82, hf⟩ := rob hf
        refine ra_iald C dX7_isStale_82 h82 (by decide) rfl rfl ?_
        refine ra_iadd C dX7_isStale_83 ?_
        obtain ⟨x84, h84, hf⟩ := rob hf
        refine ra_bald C dX7_isStale_84 h84 (by decide) rfl rfl ?_
        refine ra_if_eq C dX7_isStale_85 (tgt := 113) (by decide) (fun c85 => ?_) (fun c85 => ?_)
        · replace hf := rif_p c85 hf
          refine ra_mask [true, true, false, true, false] ?_
          exact bX7_isStale_b113 C hrec32 _ _ _ hf
        · replace hf := rif_n c85 hf
          refine ra_aload_n C dX7_isStale_88 rfl rfl ?_
          refine ra_getR C dX7_isStale_89 (k := 35) (by decide) rfl rX7_in tX7_f102 rfl ?_
          refine ra_iload_n C dX7_isStale_92 rfl rfl ?_
          obtain ⟨x93, h93, hf⟩ := rob hf
          refine ra_bald C dX7_isStale_93 h93 (by decide) rfl rfl ?_
          refine ra_if_eq C dX7_isStale_94 (tgt := 117) (by decide) (fun c94 => ?_) (fun c94 => ?_)
          · replace hf := rif_p c94 hf
            refine ra_mask [true, true, false, true, false] ?_
            exact bX7_isStale_b117 C hrec32 _ _ _ hf
          · replace hf := rif_n c94 hf
            refine ra_aload_n C dX7_isStale_97 rfl rfl ?_
            refine ra_getR C dX7_isStale_98 (k := 36) (by decide) rfl rX7_in tX7_f105 rfl ?_
            refine ra_iload_n C dX7_isStale_101 rfl rfl ?_
            obtain ⟨x102, h102, hf⟩ := rob hf
            refine ra_iald C dX7_isStale_102 h102 (by decide) rfl rfl ?_
            refine ra_aload_n C dX7_isStale_103 rfl rfl ?_
            refine ra_getR C dX7_isStale_104 (k := 40) (by decide) rfl rX7_in tX7_f117 rfl ?_
            refine ra_iload C dX7_isStale_107 rfl ?_
            obtain ⟨x109, h109, hf⟩ := rob hf
            refine ra_iald C dX7_isStale_109 h109 (by decide) rfl rfl ?_
            refine ra_icmp_eq C dX7_isStale_110 (tgt := 117) (by decide) (fun c110 => ?_) (fun c110 => ?_)
            · replace hf := rif_p c110 hf
              refine ra_mask [true, true, false, true, false] ?_
              exact bX7_isStale_b117 C hrec32 _ _ _ hf
            · replace hf := rif_n c110 hf
              refine ra_mask [true, true, false, true, false] ?_
              exact bX7_isStale_b113 C hrec32 _ _ _ hf
set_option maxRecDepth 100000 in
set_option maxHeartbeats 4000000 in
theorem bX7_isStale_b32 {G : rG} {X : rX} (C : rC G X 5 cX7_isStale (some .boolean) 0) {r : Int32 × rS} : ∀ (n : Nat) (l1 : Int32) (l2 : Int32) (l3 : Int32) (S : rS), fX7_isStale_b32 n l1 l2 l3 S = some r → rAW G X 5 (some (.int r.1), r.2) 32 [some (.ref G.2.2.2.1), some (.int l1), some (.int l2), some (.int l3), none] [] S := by
  intro n
  induction n with
  | zero => intro l1 l2 l3 S hf; cases hf
  | succ n ih => intro l1 l2 l3 S hf; exact bX7_isStale_b32_body C (fun l1 l2 l3 S h => ih l1 l2 l3 S h) l1 l2 l3 S hf
set_option maxRecDepth 100000 in
set_option maxHeartbeats 4000000 in
theorem bX7_isStale_b29 {G : rG} {X : rX} (C : rC G X 5 cX7_isStale (some .boolean) 0) {r : Int32 × rS} (l1 : Int32) (s0 : Int32) (S : rS) (hf : fX7_isStale_b29 l1 s0 S = some r) : rAW G X 5 (some (.int r.1), r.2) 29 [some (.ref G.2.2.2.1), some (.int l1), none, none, none] [.int s0] S := by
  unfold fX7_isStale_b29 at hf
  refine ra_istore_n C dX7_isStale_29 rfl (by decide) ?_
  refine ra_iconst C dX7_isStale_30 (v := 0) (by decide) ?_
  refine ra_istore_n C dX7_isStale_31 rfl (by decide) ?_
  exact bX7_isStale_b32 C _ _ _ _ _ hf
set_option maxRecDepth 100000 in
set_option maxHeartbeats 4000000 in
theorem bX7_isStale_b24 {G : rG} {X : rX} (C : rC G X 5 cX7_isStale (some .boolean) 0) {r : Int32 × rS} (l1 : Int32) (S : rS) (hf : fX7_isStale_b24 l1 S = some r) : rAW G X 5 (some (.int r.1), r.2) 24 [some (.ref G.2.2.2.1), some (.int l1), none, none, none] [] S := by
  unfold fX7_isStale_b24 at hf
  refine ra_iconst C dX7_isStale_24 (v := 1) (by decide) ?_
  refine ra_goto C dX7_isStale_25 (tgt := 29) (by decide) ?_
  exact bX7_isStale_b29 C _ _ _ hf
set_option maxRecDepth 100000 in
set_option maxHeartbeats 4000000 in
theorem bX7_isStale {G : rG} {X : rX} (C : rC G X 5 cX7_isStale (some .boolean) 0) (a0 : Int32) (S : rS) {r : Int32 × rS} (hf : fX7_isStale a0 S = some r) : rAW G X 5 (some (.int r.1), r.2) 0 [some (.ref G.2.2.2.1), some (.int a0), none, none, none] [] S := by
  unfold fX7_isStale at hf
  refine ra_aload_n C dX7_isStale_0 rfl rfl ?_
  refine ra_getR C dX7_isStale_1 (k := 37) (by decide) rfl rX7_in tX7_f108 rfl ?_
  refine ra_iload_n C dX7_isStale_4 rfl rfl ?_
  obtain ⟨x5, h5, hf⟩ := rob hf
  refine ra_bald C dX7_isStale_5 h5 (by decide) rfl rfl ?_
  refine ra_if_eq C dX7_isStale_6 (tgt := 24) (by decide) (fun c6 => ?_) (fun c6 => ?_)
  · replace hf := rif_p c6 hf
    exact bX7_isStale_b24 C _ _ hf
  · replace hf := rif_n c6 hf
    refine ra_aload_n C dX7_isStale_9 rfl rfl ?_
    refine ra_getR C dX7_isStale_10 (k := 38) (by decide) rfl rX7_in tX7_f111 rfl ?_
    refine ra_iload_n C dX7_isStale_13 rfl rfl ?_
    obtain ⟨x14, h14, hf⟩ := rob hf
    refine ra_iald C dX7_isStale_14 h14 (by decide) rfl rfl ?_
    refine ra_aload_n C dX7_isStale_15 rfl rfl ?_
    refine ra_getR C dX7_isStale_16 (k := 36) (by decide) rfl rX7_in tX7_f105 rfl ?_
    refine ra_iload_n C dX7_isStale_19 rfl rfl ?_
    obtain ⟨x20, h20, hf⟩ := rob hf
    refine ra_iald C dX7_isStale_20 h20 (by decide) rfl rfl ?_
    refine ra_icmp_eq C dX7_isStale_21 (tgt := 28) (by decide) (fun c21 => ?_) (fun c21 => ?_)
    · replace hf := rif_p c21 hf
      refine ra_iconst C dX7_isStale_28 (v := 0) (by decide) ?_
      exact bX7_isStale_b29 C _ _ _ hf
    · replace hf := rif_n c21 hf
      exact bX7_isStale_b24 C _ _ hf
set_option maxRecDepth 100000 in
set_option maxHeartbeats 4000000 in
theorem mX7_isStale {l : Launch} {G : rG} {a0 : Int32} {S : rS} {r : Int32 × rS} (hf : fX7_isStale a0 S = some r) : rM l G 0 yX7_isStale cX7_isStale 5 (some .boolean) [.ref G.2.2.2.1, .int a0] S (some (.int r.1), r.2) :=
  rM_of (lo0 := [some (.ref G.2.2.2.1), some (.int a0), none, none, none]) (by decide +kernel) rfl (Nat.le_of_ble_eq_true rfl) (by simp [Value.category]) rfl (fun X _ C => bX7_isStale C a0 S hf)
set_option maxRecDepth 100000 in
set_option maxHeartbeats 4000000 in
theorem bX7_stales_b32 {G : rG} {X : rX} (C : rC G X 3 cX7_stales (some .int) 1) {r : Int32 × rS} {rec8 : Int32 → Int32 → rS → Option (Int32 × rS)} (hrec8 : ∀ (l1 : Int32) (l2 : Int32) (S : rS), rec8 l1 l2 S = some r → rAW G X 3 (some (.int r.1), r.2) 8 [some (.ref G.2.2.2.1), some (.int l1), some (.int l2)] [] S) (l2 : Int32) (s0 : Int32) (s1 : Int32) (S : rS) (hf : fX7_stales_b32 rec8 l2 s0 s1 S = some r) : rAW G X 3 (some (.int r.1), r.2) 32 [some (.ref G.2.2.2.1), none, some (.int l2)] [.int s0, .int s1] S := by
  unfold fX7_stales_b32 at hf
  refine ra_ior C dX7_stales_32 ?_
  refine ra_istore_n C dX7_stales_33 rfl (by decide) ?_
  refine ra_iinc C dX7_stales_34 rfl (v := 1) (by decide) (by decide) ?_
  refine ra_goto C dX7_stales_37 (tgt := 8) (by decide) ?_
  exact hrec8 _ _ _ hf
set_option maxRecDepth 100000 in
set_option maxHeartbeats 4000000 in
theorem bX7_stales_b8_body {G : rG} {X : rX} (C : rC G X 3 cX7_stales (some .int) 1) {r : Int32 × rS} {rec8 : Int32 → Int32 → rS → Option (Int32 × rS)} (hrec8 : ∀ (l1 : Int32) (l2 : Int32) (S : rS), rec8 l1 l2 S = some r → rAW G X 3 (some (.int r.1), r.2) 8 [some (.ref G.2.2.2.1), some (.int l1), some (.int l2)] [] S) (l1 : Int32) (l2 : Int32) (S : rS) (hf : fX7_stales_b8_body rec8 l1 l2 S = some r) : rAW G X 3 (some (.int r.1), r.2) 8 [some (.ref G.2.2.2.1), some (.int l1), some (.int l2)] [] S := by
  unfold fX7_stales_b8_body at hf
  refine ra_iload_n C dX7_stales_8 rfl rfl ?_
  refine ra_aload_n C dX7_stales_9 rfl rfl ?_
  refine ra_getI C dX7_stales_10 (k := 32) (by decide) rfl rX7_in tX7_f298 rfl ?_
  refine ra_icmp_ge C dX7_stales_13 (tgt := 40) (by decide) (fun c13 => ?_) (fun c13 => ?_)
  · replace hf := rif_p c13 hf
    refine ra_iload_n C dX7_stales_40 rfl rfl ?_
    obtain rfl := Option.some.inj hf
    exact ra_iret C dX7_stales_41
  · replace hf := rif_n c13 hf
    refine ra_iload_n C dX7_stales_16 rfl rfl ?_
    refine ra_aload_n C dX7_stales_17 rfl rfl ?_
    refine ra_iload_n C dX7_stales_18 rfl rfl ?_
    obtain ⟨q19, h19, hf⟩ := rob hf
    refine ra_callVi C dX7_stales_19 (mX7_isStale h19) rfl tX7_l304 tX7_i_X7_isStale tX7_s_X7_isStale tX7_init tX7_c_X7_isStale tX7_d_X7_isStale (by decide) (by decide) (Nat.le_of_ble_eq_true rfl) ?_
    refine ra_if_eq C dX7_stales_22 (tgt := 31) (by decide) (fun c22 => ?_) (fun c22 => ?_)
    · replace hf := rif_p c22 hf
      refine ra_iconst C dX7_stales_31 (v := 0) (by decide) ?_
      refine ra_mask [true, false, true] ?_
      exact bX7_stales_b32 C hrec8 _ _ _ _ hf
    · replace hf := rif_n c22 hf
      refine ra_iconst C dX7_stales_25 (v := 1) (by decide) ?_
      refine ra_iload_n C dX7_stales_26 rfl rfl ?_
      refine ra_ishl C dX7_stales_27 ?_
      refine ra_goto C dX7_stales_28 (tgt := 32) (by decide) ?_
      refine ra_mask [true, false, true] ?_
      exact bX7_stales_b32 C hrec8 _ _ _ _ hf
set_option maxRecDepth 100000 in
set_option maxHeartbeats 4000000 in
theorem bX7_stales_b8 {G : rG} {X : rX} (C : rC G X 3 cX7_stales (some .int) 1) {r : Int32 × rS} : ∀ (n : Nat) (l1 : Int32) (l2 : Int32) (S : rS), fX7_stales_b8 n l1 l2 S = some r → rAW G X 3 (some (.int r.1), r.2) 8 [some (.ref G.2.2.2.1), some (.int l1), some (.int l2)] [] S := by
  intro n
  induction n with
  | zero => intro l1 l2 S hf; cases hf
  | succ n ih => intro l1 l2 S hf; exact bX7_stales_b8_body C (fun l1 l2 S h => ih l1 l2 S h) l1 l2 S hf
set_option maxRecDepth 100000 in
set_option maxHeartbeats 4000000 in
theorem bX7_stales {G : rG} {X : rX} (C : rC G X 3 cX7_stales (some .int) 1) (S : rS) {r : Int32 × rS} (hf : fX7_stales  S = some r) : rAW G X 3 (some (.int r.1), r.2) 0 [some (.ref G.2.2.2.1), none, none] [] S := by
  unfold fX7_stales at hf
  refine ra_aload_n C dX7_stales_0 rfl rfl ?_
  obtain ⟨q1, h1, hf⟩ := rob hf
  refine ra_callVv C dX7_stales_1 (mX7_compares h1) rfl tX7_l270 tX7_i_X7_compares tX7_s_X7_compares tX7_init tX7_c_X7_compares tX7_d_X7_compares (by decide) (by decide) (Nat.le_of_ble_eq_true rfl) ?_
  refine ra_iconst C dX7_stales_4 (v := 0) (by decide) ?_
  refine ra_istore_n C dX7_stales_5 rfl (by decide) ?_
  refine ra_iconst C dX7_stales_6 (v := 0) (by decide) ?_
  refine ra_istore_n C dX7_stales_7 rfl (by decide) ?_
  exact bX7_stales_b8 C _ _ _ _ hf
set_option maxRecDepth 100000 in
set_option maxHeartbeats 4000000 in
theorem mX7_stales {l : Launch} {G : rG} {S : rS} {r : Int32 × rS} (hf : fX7_stales  S = some r) : rM l G 1 yX7_stales cX7_stales 3 (some .int) [.ref G.2.2.2.1] S (some (.int r.1), r.2) :=
  rM_of (lo0 := [some (.ref G.2.2.2.1), none, none]) (by decide +kernel) rfl (Nat.le_of_ble_eq_true rfl) (by simp [Value.category]) rfl (fun X _ C => bX7_stales C  S hf)
set_option maxRecDepth 100000 in
set_option maxHeartbeats 4000000 in
theorem bX7_stale {G : rG} {X : rX} (C : rC G X 1 cX7_stale (some .int) 2) (S : rS) {r : Int32 × rS} (hf : fX7_stale  S = some r) : rAW G X 1 (some (.int r.1), r.2) 0 [some (.ref G.2.2.2.1)] [] S := by
  unfold fX7_stale at hf
  refine ra_aload_n C dX7_stale_0 rfl rfl ?_
  refine ra_iconst C dX7_stale_1 (v := 0) (by decide) ?_
  refine ra_putI C dX7_stale_2 (k := 54) (by decide) rfl rX7_in tX7_f156 rfl rfl (tyX7_ok 54 (by decide)) ?_
  refine ra_aload_n C dX7_stale_5 rfl rfl ?_
  obtain ⟨q6, h6, hf⟩ := rob hf
  refine ra_callVi C dX7_stale_6 (mX7_stales h6) rfl tX7_l307 tX7_i_X7_stales tX7_s_X7_stales tX7_init tX7_c_X7_stales tX7_d_X7_stales (by decide) (by decide) (Nat.le_of_ble_eq_true rfl) ?_
  obtain rfl := Option.some.inj hf
  exact ra_iret C dX7_stale_9
set_option maxRecDepth 100000 in
set_option maxHeartbeats 4000000 in
theorem mX7_stale {l : Launch} {G : rG} {S : rS} {r : Int32 × rS} (hf : fX7_stale  S = some r) : rM l G 2 yX7_stale cX7_stale 1 (some .int) [.ref G.2.2.2.1] S (some (.int r.1), r.2) :=
  rM_of (lo0 := [some (.ref G.2.2.2.1)]) (by decide +kernel) rfl (Nat.le_of_ble_eq_true rfl) (by simp [Value.category]) rfl (fun X _ C => bX7_stale C  S hf)
set_option maxRecDepth 100000 in
set_option maxHeartbeats 4000000 in
theorem bX7_build_b106 {G : rG} {X : rX} (C : rC G X 5 cX7_build (some .int) 2) {r : Int32 × rS} {rec14 : Int32 → Int32 → Int32 → rS → Option (Int32 × rS)} (hrec14 : ∀ (l1 : Int32) (l2 : Int32) (l3 : Int32) (S : rS), rec14 l1 l2 l3 S = some r → rAW G X 5 (some (.int r.1), r.2) 14 [some (.ref G.2.2.2.1), some (.int l1), some (.int l2), some (.int l3), none] [] S) (l1 : Int32) (l2 : Int32) (l3 : Int32) (S : rS) (hf : fX7_build_b106 rec14 l1 l2 l3 S = some r) : rAW G X 5 (some (.int r.1), r.2) 106 [some (.ref G.2.2.2.1), some (.int l1), some (.int l2), some (.int l3), none] [] S := by
  unfold fX7_build_b106 at hf
  refine ra_iinc C dX7_build_106 rfl (v := 1) (by decide) (by decide) ?_
  refine ra_goto C dX7_build_109 (tgt := 14) (by decide) ?_
  exact hrec14 _ _ _ _ hf
set_option maxRecDepth 100000 in
set_option maxHeartbeats 4000000 in
theorem bX7_build_b53_body {G : rG} {X : rX} (C : rC G X 5 cX7_build (some .int) 2) {r : Int32 × rS} {rec53 : Int32 → Int32 → Int32 → Int32 → rS → Option (Int32 × rS)} (hrec53 : ∀ (l1 : Int32) (l2 : Int32) (l3 : Int32) (l4 : Int32) (S : rS), rec53 l1 l2 l3 l4 S = some r → rAW G X 5 (some (.int r.1), r.2) 53 [some (.ref G.2.2.2.1), some (.int l1), some (.int l2), some (.int l3), some (.int l4)] [] S) {rec14 : Int32 → Int32 → Int32 → rS → Option (Int32 × rS)} (hrec14 : ∀ (l1 : Int32) (l2 : Int32) (l3 : Int32) (S : rS), rec14 l1 l2 l3 S = some r → rAW G X 5 (some (.int r.1), r.2) 14 [some (.ref G.2.2.2.1), some (.int l1), some (.int l2), some (.int l3), none] [] S) (l1 : Int32) (l2 : Int32) (l3 : Int32) (l4 : Int32) (S : rS) (hf : fX7_build_b53_body rec53 rec14 l1 l2 l3 l4 S = some r) : rAW G X 5 (some (.int r.1), r.2) 53 [some (.ref G.2.2.2.1), some (.int l1), some (.int l2), some (.int l3), some (.int l4)] [] S := by
  unfold fX7_build_b53_body at hf
  refine ra_iload C dX7_build_53 rfl ?_
  refine ra_iload_n C dX7_build_55 rfl rfl ?_
  refine ra_icmp_ge C dX7_build_56 (tgt := 103) (by decide) (fun c56 => ?_) (fun c56 => ?_)
  · replace hf := rif_p c56 hf
    refine ra_iinc C dX7_build_103 rfl (v := 1) (by decide) (by decide) ?_
    refine ra_mask [true, true, true, true, false] ?_
    exact bX7_build_b106 C hrec14 _ _ _ _ hf
  · replace hf := rif_n c56 hf
    refine ra_aload_n C dX7_build_59 rfl rfl ?_
    refine ra_getR C dX7_build_60 (k := 39) (by decide) rfl rX7_in tX7_f114 rfl ?_
    refine ra_bipush C dX7_build_63 (v := 8) (by decide) ?_
    refine ra_iload_n C dX7_build_65 rfl rfl ?_
    refine ra_imul C dX7_build_66 ?_
    refine ra_iload C dX7_build_67 rfl ?_
    refine ra_iadd C dX7_build_69 ?_
    refine ra_aload_n C dX7_build_70 rfl rfl ?_
    refine ra_getR C dX7_build_71 (k := 33) (by decide) rfl rX7_in tX7_f96 rfl ?_
    refine ra_iload C dX7_build_74 rfl ?_
    obtain ⟨x76, h76, hf⟩ := rob hf
    refine ra_iald C dX7_build_76 h76 (by decide) rfl rfl ?_
    obtain ⟨S77, h77, hf⟩ := rob hf
    refine ra_iast C dX7_build_77 h77 (by decide) rfl rfl ?_
    refine ra_aload_n C dX7_build_78 rfl rfl ?_
    refine ra_getR C dX7_build_79 (k := 40) (by decide) rfl rX7_in tX7_f117 rfl ?_
    refine ra_bipush C dX7_build_82 (v := 8) (by decide) ?_
    refine ra_iload_n C dX7_build_84 rfl rfl ?_
    refine ra_imul C dX7_build_85 ?_
    refine ra_iload C dX7_build_86 rfl ?_
    refine ra_iadd C dX7_build_88 ?_
    refine ra_aload_n C dX7_build_89 rfl rfl ?_
    refine ra_getR C dX7_build_90 (k := 36) (by decide) rfl rX7_in tX7_f105 rfl ?_
    refine ra_iload C dX7_build_93 rfl ?_
    obtain ⟨x95, h95, hf⟩ := rob hf
    refine ra_iald C dX7_build_95 h95 (by decide) rfl rfl ?_
    obtain ⟨S96, h96, hf⟩ := rob hf
    refine ra_iast C dX7_build_96 h96 (by decide) rfl rfl ?_
    refine ra_iinc C dX7_build_97 rfl (v := 1) (by decide) (by decide) ?_
    refine ra_goto C dX7_build_100 (tgt := 53) (by decide) ?_
    exact hrec53 _ _ _ _ _ hf
set_option maxRecDepth 100000 in
set_option maxHeartbeats 4000000 in
theorem bX7_build_b53 {G : rG} {X : rX} (C : rC G X 5 cX7_build (some .int) 2) {r : Int32 × rS} {rec14 : Int32 → Int32 → Int32 → rS → Option (Int32 × rS)} (hrec14 : ∀ (l1 : Int32) (l2 : Int32) (l3 : Int32) (S : rS), rec14 l1 l2 l3 S = some r → rAW G X 5 (some (.int r.1), r.2) 14 [some (.ref G.2.2.2.1), some (.int l1), some (.int l2), some (.int l3), none] [] S) : ∀ (n : Nat) (l1 : Int32) (l2 : Int32) (l3 : Int32) (l4 : Int32) (S : rS), fX7_build_b53 rec14 n l1 l2 l3 l4 S = some r → rAW G X 5 (some (.int r.1), r.2) 53 [some (.ref G.2.2.2.1), some (.int l1), some (.int l2), some (.int l3), some (.int l4)] [] S := by
  intro n
  induction n with
  | zero => intro l1 l2 l3 l4 S hf; cases hf
  | succ n ih => intro l1 l2 l3 l4 S hf; exact bX7_build_b53_body C (fun l1 l2 l3 l4 S h => ih l1 l2 l3 l4 S h) hrec14 l1 l2 l3 l4 S hf
set_option maxRecDepth 100000 in
set_option maxHeartbeats 4000000 in
theorem bX7_build_b14_body {G : rG} {X : rX} (C : rC G X 5 cX7_build (some .int) 2) {r : Int32 × rS} {rec14 : Int32 → Int32 → Int32 → rS → Option (Int32 × rS)} (hrec14 : ∀ (l1 : Int32) (l2 : Int32) (l3 : Int32) (S : rS), rec14 l1 l2 l3 S = some r → rAW G X 5 (some (.int r.1), r.2) 14 [some (.ref G.2.2.2.1), some (.int l1), some (.int l2), some (.int l3), none] [] S) (l1 : Int32) (l2 : Int32) (l3 : Int32) (S : rS) (hf : fX7_build_b14_body rec14 l1 l2 l3 S = some r) : rAW G X 5 (some (.int r.1), r.2) 14 [some (.ref G.2.2.2.1), some (.int l1), some (.int l2), some (.int l3), none] [] S := by
  unfold fX7_build_b14_body at hf
  refine ra_iload_n C dX7_build_14 rfl rfl ?_
  refine ra_aload_n C dX7_build_15 rfl rfl ?_
  refine ra_getI C dX7_build_16 (k := 32) (by decide) rfl rX7_in tX7_f298 rfl ?_
  refine ra_icmp_ge C dX7_build_19 (tgt := 112) (by decide) (fun c19 => ?_) (fun c19 => ?_)
  · replace hf := rif_p c19 hf
    refine ra_iload_n C dX7_build_112 rfl rfl ?_
    obtain rfl := Option.some.inj hf
    exact ra_iret C dX7_build_113
  · replace hf := rif_n c19 hf
    refine ra_iload_n C dX7_build_22 rfl rfl ?_
    refine ra_iload_n C dX7_build_23 rfl rfl ?_
    refine ra_ishr C dX7_build_24 ?_
    refine ra_iconst C dX7_build_25 (v := 1) (by decide) ?_
    refine ra_iand C dX7_build_26 ?_
    refine ra_iconst C dX7_build_27 (v := 1) (by decide) ?_
    refine ra_icmp_ne C dX7_build_28 (tgt := 106) (by decide) (fun c28 => ?_) (fun c28 => ?_)
    · replace hf := rif_n c28 hf
      exact bX7_build_b106 C hrec14 _ _ _ _ hf
    · replace hf := rif_p c28 hf
      refine ra_aload_n C dX7_build_31 rfl rfl ?_
      refine ra_getR C dX7_build_32 (k := 37) (by decide) rfl rX7_in tX7_f108 rfl ?_
      refine ra_iload_n C dX7_build_35 rfl rfl ?_
      refine ra_iconst C dX7_build_36 (v := 1) (by decide) ?_
      obtain ⟨S37, h37, hf⟩ := rob hf
      refine ra_bast C dX7_build_37 h37 (by decide) rfl rfl ?_
      refine ra_aload_n C dX7_build_38 rfl rfl ?_
      refine ra_getR C dX7_build_39 (k := 38) (by decide) rfl rX7_in tX7_f111 rfl ?_
      refine ra_iload_n C dX7_build_42 rfl rfl ?_
      refine ra_aload_n C dX7_build_43 rfl rfl ?_
      refine ra_getR C dX7_build_44 (k := 36) (by decide) rfl rX7_in tX7_f105 rfl ?_
      refine ra_iload_n C dX7_build_47 rfl rfl ?_
      obtain ⟨x48, h48, hf⟩ := rob hf
      refine ra_iald C dX7_build_48 h48 (by decide) rfl rfl ?_
      obtain ⟨S49, h49, hf⟩ := rob hf
      refine ra_iast C dX7_build_49 h49 (by decide) rfl rfl ?_
      refine ra_iconst C dX7_build_50 (v := 0) (by decide) ?_
      refine ra_istore C dX7_build_51 (by decide) ?_
      exact bX7_build_b53 C hrec14 _ _ _ _ _ _ hf
set_option maxRecDepth 100000 in
set_option maxHeartbeats 4000000 in
theorem bX7_build_b14 {G : rG} {X : rX} (C : rC G X 5 cX7_build (some .int) 2) {r : Int32 × rS} : ∀ (n : Nat) (l1 : Int32) (l2 : Int32) (l3 : Int32) (S : rS), fX7_build_b14 n l1 l2 l3 S = some r → rAW G X 5 (some (.int r.1), r.2) 14 [some (.ref G.2.2.2.1), some (.int l1), some (.int l2), some (.int l3), none] [] S := by
  intro n
  induction n with
  | zero => intro l1 l2 l3 S hf; cases hf
  | succ n ih => intro l1 l2 l3 S hf; exact bX7_build_b14_body C (fun l1 l2 l3 S h => ih l1 l2 l3 S h) l1 l2 l3 S hf
set_option maxRecDepth 100000 in
set_option maxHeartbeats 4000000 in
theorem bX7_build {G : rG} {X : rX} (C : rC G X 5 cX7_build (some .int) 2) (S : rS) {r : Int32 × rS} (hf : fX7_build  S = some r) : rAW G X 5 (some (.int r.1), r.2) 0 [some (.ref G.2.2.2.1), none, none, none, none] [] S := by
  unfold fX7_build at hf
  refine ra_aload_n C dX7_build_0 rfl rfl ?_
  refine ra_iconst C dX7_build_1 (v := 0) (by decide) ?_
  refine ra_putI C dX7_build_2 (k := 54) (by decide) rfl rX7_in tX7_f156 rfl rfl (tyX7_ok 54 (by decide)) ?_
  refine ra_aload_n C dX7_build_5 rfl rfl ?_
  obtain ⟨q6, h6, hf⟩ := rob hf
  refine ra_callVi C dX7_build_6 (mX7_stales h6) rfl tX7_l307 tX7_i_X7_stales tX7_s_X7_stales tX7_init tX7_c_X7_stales tX7_d_X7_stales (by decide) (by decide) (Nat.le_of_ble_eq_true rfl) ?_
  refine ra_istore_n C dX7_build_9 rfl (by decide) ?_
  refine ra_iconst C dX7_build_10 (v := 0) (by decide) ?_
  refine ra_istore_n C dX7_build_11 rfl (by decide) ?_
  refine ra_iconst C dX7_build_12 (v := 0) (by decide) ?_
  refine ra_istore_n C dX7_build_13 rfl (by decide) ?_
  exact bX7_build_b14 C _ _ _ _ _ hf
set_option maxRecDepth 100000 in
set_option maxHeartbeats 4000000 in
theorem mX7_build {l : Launch} {G : rG} {S : rS} {r : Int32 × rS} (hf : fX7_build  S = some r) : rM l G 2 yX7_build cX7_build 5 (some .int) [.ref G.2.2.2.1] S (some (.int r.1), r.2) :=
  rM_of (lo0 := [some (.ref G.2.2.2.1), none, none, none, none]) (by decide +kernel) rfl (Nat.le_of_ble_eq_true rfl) (by simp [Value.category]) rfl (fun X _ C => bX7_build C  S hf)
