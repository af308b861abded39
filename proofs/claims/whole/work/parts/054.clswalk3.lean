set_option maxRecDepth 100000 in
set_option maxHeartbeats 4000000 in
theorem bX6_items {G : cG} {X : rX} {z0 : cS} {w : Int32 ⊕ Nat} {z' : cS} {A B : Nat} (C : cC G X z0 RX6 3 cX6_items (some .int) 6 A B) (o : Nat) (a0 : Int32) (z : cS) {kc ks ra rb : Nat} (hf : fX6_items o a0 z = some (w, z', ra, rb)) (ha : A = kc + ra) (hb : B = ks + rb) : cAW true G X z0 (cOi w, z', A, B) 3 0 [some (va_rf (some o)), some (.int a0), none] [] z kc ks := by
  unfold fX6_items at hf
  refine ca_aload_n C dX6_items_0 rfl rfl ?_
  obtain ⟨x1, h1, hf⟩ := rob hf
  refine ca_getR C dX6_items_1 tcX6_f23 rfl rfl h1 ?_
  refine ca_iload_n C dX6_items_4 rfl rfl ?_
  obtain ⟨c5, hc5, hf⟩ := rob hf
  obtain ⟨q5, h5, hf⟩ := rob hf
  refine ca_callV C dX6_items_5 (mX3_at (cC_tr C) h5) (crc_spec hc5) vw3 (by decide) rfl tX6_l103 tI_X3_at tS_X3_at tZ3 tC_X3_at tH_X3_at (by omega) (by decide) (cs1_sum cs1_nil (Nat.le_of_ble_eq_true rfl)) (by omega) (by omega) ?_
  refine ca_astore_n C dX6_items_8 rfl (by decide) ?_
  refine ca_aload_n C dX6_items_9 rfl rfl ?_
  refine ca_ifnonnull C dX6_items_10 (tgt := 23) (by decide) (fun c10 => ?_) (fun c10 => ?_)
  · replace hf := rif_n c10 hf
    refine ca_aload_n C dX6_items_23 rfl rfl ?_
    obtain ⟨q24, hq24, hf⟩ := rob hf
    obtain ⟨x24, h24, hf⟩ := rob hf
    refine ca_getI C dX6_items_24 tcX6_f116 rfl hq24 h24 ?_
    cases hf
    exact ca_iret C dX6_items_27 (by omega) (by omega)
  · replace hf := rif_p c10 hf
    cases hf
    exact ca_throw C dX6_items_13 dX6_items_16 dX6_items_17 dX6_items_19 dX6_items_22 cfit0 tX6_k111 tX6_e0 tX6_t113 tX6_w115 tX6_g111_115 (by omega) (cs1_sum cs1_nil (Nat.le_of_ble_eq_true rfl)) (by omega) (by omega)
set_option maxRecDepth 100000 in
set_option maxHeartbeats 4000000 in
theorem mX6_items {l : Launch} (hl : l.stackTraces = false) {G : cG} {o : Nat} {a0 : Int32} {z : cS} {w : Int32 ⊕ Nat} {z' : cS} {A B : Nat} (hf : fX6_items o a0 z = some (w, z', A, B)) : cMx l G 6 yX6_items cX6_items 3 (some .int) [.ref o, .int a0] z (cOi w, z', A, B) :=
  cMx_of (lo0 := [some (va_rf (some o)), some (.int a0), none]) (by decide +kernel) rfl (cs1_q (cs1_i cs1_nil)) (Nat.le_of_ble_eq_true rfl) rfl hl (fun X hX C => bX6_items C o a0 z (kc := 0) (ks := 0) hf (Nat.zero_add _).symm (Nat.zero_add _).symm)
set_option maxRecDepth 100000 in
set_option maxHeartbeats 4000000 in
theorem bX6_needPlace {G : cG} {X : rX} {z0 : cS} {w : Unit ⊕ Nat} {z' : cS} {A B : Nat} (C : cC G X z0 RX6 3 cX6_needPlace none 6 A B) (a0 : Option Nat) (a1 : Int32) (a2 : Int32) (z : cS) {kc ks ra rb : Nat} (hf : fX6_needPlace a0 a1 a2 z = some (w, z', ra, rb)) (ha : A = kc + ra) (hb : B = ks + rb) : cAW true G X z0 (cOv w, z', A, B) 3 0 [some (va_rf a0), some (.int a1), some (.int a2)] [] z kc ks := by
  unfold fX6_needPlace at hf
  refine ca_aload_n C dX6_needPlace_0 rfl rfl ?_
  refine ca_iload_n C dX6_needPlace_1 rfl rfl ?_
  refine ca_iload_n C dX6_needPlace_2 rfl rfl ?_
  obtain ⟨c3, hc3, hf⟩ := rob hf
  obtain ⟨q3, h3, hf⟩ := rob hf
  refine ca_callV C dX6_needPlace_3 (mX2_placeOf (cC_tr C) h3) (crc_spec hc3) vw2 (by decide) rfl tX6_l131 tI_X2_placeOf tS_X2_placeOf tZ2 tC_X2_placeOf tH_X2_placeOf (by omega) (by decide) (cs1_sum cs1_nil (Nat.le_of_ble_eq_true rfl)) (by omega) (by omega) ?_
  refine ca_iconst C dX6_needPlace_6 (v := (-1)) (by decide) ?_
  refine ca_icmp_eq C dX6_needPlace_7 (tgt := 21) (by decide) (fun c7 => ?_) (fun c7 => ?_)
  · replace hf := rif_p c7 hf
    cases hf
    exact ca_vret C dX6_needPlace_21 (by omega) (by omega)
  · replace hf := rif_n c7 hf
    cases hf
    exact ca_throwW C dX6_needPlace_10 dX6_needPlace_13 dX6_needPlace_14 dX6_needPlace_17 dX6_needPlace_20 cfit2 tX6_k67 tX6_e2 tX6_t351 tX6_w71 tX6_g67_71 (by omega) (cs1_sum cs1_nil (Nat.le_of_ble_eq_true rfl)) (by omega) (by omega)
set_option maxRecDepth 100000 in
set_option maxHeartbeats 4000000 in
theorem mX6_needPlace {l : Launch} (hl : l.stackTraces = false) {G : cG} {a0 : Option Nat} {a1 : Int32} {a2 : Int32} {z : cS} {w : Unit ⊕ Nat} {z' : cS} {A B : Nat} (hf : fX6_needPlace a0 a1 a2 z = some (w, z', A, B)) : cMx l G 6 yX6_needPlace cX6_needPlace 3 none [va_rf a0, .int a1, .int a2] z (cOv w, z', A, B) :=
  cMx_of (lo0 := [some (va_rf a0), some (.int a1), some (.int a2)]) (by decide +kernel) rfl (cs1_r (cs1_i (cs1_i cs1_nil))) (Nat.le_of_ble_eq_true rfl) rfl hl (fun X hX C => bX6_needPlace C a0 a1 a2 z (kc := 0) (ks := 0) hf (Nat.zero_add _).symm (Nat.zero_add _).symm)
set_option maxRecDepth 100000 in
set_option maxHeartbeats 4000000 in
theorem bX6_needRoomForSpecs {G : cG} {X : rX} {z0 : cS} {w : Unit ⊕ Nat} {z' : cS} {A B : Nat} (C : cC G X z0 RX6 2 cX6_needRoomForSpecs none 6 A B) (o : Nat) (a0 : Int32) (z : cS) {kc ks ra rb : Nat} (hf : fX6_needRoomForSpecs o a0 z = some (w, z', ra, rb)) (ha : A = kc + ra) (hb : B = ks + rb) : cAW true G X z0 (cOv w, z', A, B) 2 0 [some (va_rf (some o)), some (.int a0)] [] z kc ks := by
  unfold fX6_needRoomForSpecs at hf
  refine ca_aload_n C dX6_needRoomForSpecs_0 rfl rfl ?_
  obtain ⟨x1, h1, hf⟩ := rob hf
  refine ca_getR C dX6_needRoomForSpecs_1 tcX6_f35 rfl rfl h1 ?_
  obtain ⟨q4, hq4, hf⟩ := rob hf
  obtain ⟨x4, h4, hf⟩ := rob hf
  refine ca_getI C dX6_needRoomForSpecs_4 tcX6_f154 rfl hq4 h4 ?_
  refine ca_iload_n C dX6_needRoomForSpecs_7 rfl rfl ?_
  refine ca_iadd C dX6_needRoomForSpecs_8 ?_
  refine ca_bipush C dX6_needRoomForSpecs_9 (v := 60) (by decide) ?_
  refine ca_icmp_le C dX6_needRoomForSpecs_11 (tgt := 24) (by decide) (fun c11 => ?_) (fun c11 => ?_)
  · replace hf := rif_p c11 hf
    cases hf
    exact ca_vret C dX6_needRoomForSpecs_24 (by omega) (by omega)
  · replace hf := rif_n c11 hf
    cases hf
    exact ca_throw C dX6_needRoomForSpecs_14 dX6_needRoomForSpecs_17 dX6_needRoomForSpecs_18 dX6_needRoomForSpecs_20 dX6_needRoomForSpecs_23 cfit2 tX6_k67 tX6_e2 tX6_t181 tX6_w71 tX6_g67_71 (by omega) (cs1_sum cs1_nil (Nat.le_of_ble_eq_true rfl)) (by omega) (by omega)
set_option maxRecDepth 100000 in
set_option maxHeartbeats 4000000 in
theorem mX6_needRoomForSpecs {l : Launch} (hl : l.stackTraces = false) {G : cG} {o : Nat} {a0 : Int32} {z : cS} {w : Unit ⊕ Nat} {z' : cS} {A B : Nat} (hf : fX6_needRoomForSpecs o a0 z = some (w, z', A, B)) : cMx l G 6 yX6_needRoomForSpecs cX6_needRoomForSpecs 2 none [.ref o, .int a0] z (cOv w, z', A, B) :=
  cMx_of (lo0 := [some (va_rf (some o)), some (.int a0)]) (by decide +kernel) rfl (cs1_q (cs1_i cs1_nil)) (Nat.le_of_ble_eq_true rfl) rfl hl (fun X hX C => bX6_needRoomForSpecs C o a0 z (kc := 0) (ks := 0) hf (Nat.zero_add _).symm (Nat.zero_add _).symm)
set_option maxRecDepth 100000 in
set_option maxHeartbeats 4000000 in
theorem bX6_needTold_b32 {G : cG} {X : rX} {z0 : cS} {w : Unit ⊕ Nat} {z' : cS} {A B : Nat} (C : cC G X z0 RX6 4 cX6_needTold none 6 A B) (o : Nat) (s0 : Int32) (z : cS) {kc ks ra rb : Nat} (hf : fX6_needTold_b32 o s0 z = some (w, z', ra, rb)) (ha : A = kc + ra) (hb : B = ks + rb) : cAW true G X z0 (cOv w, z', A, B) 4 32 [none, none, none, none] [.int s0] z kc ks := by
  unfold fX6_needTold_b32 at hf
  refine ca_istore_n C dX6_needTold_32 rfl (by decide) ?_
  refine ca_iload_n C dX6_needTold_33 rfl rfl ?_
  refine ca_if_ne C dX6_needTold_34 (tgt := 48) (by decide) (fun c34 => ?_) (fun c34 => ?_)
  · replace hf := rif_n c34 hf
    cases hf
    exact ca_vret C dX6_needTold_48 (by omega) (by omega)
  · replace hf := rif_p c34 hf
    cases hf
    exact ca_throwW C dX6_needTold_37 dX6_needTold_40 dX6_needTold_41 dX6_needTold_44 dX6_needTold_47 cfit0 tX6_k111 tX6_e0 tX6_t345 tX6_w115 tX6_g111_115 (by omega) (cs1_sum cs1_nil (Nat.le_of_ble_eq_true rfl)) (by omega) (by omega)
set_option maxRecDepth 100000 in
set_option maxHeartbeats 4000000 in
theorem bX6_needTold {G : cG} {X : rX} {z0 : cS} {w : Unit ⊕ Nat} {z' : cS} {A B : Nat} (C : cC G X z0 RX6 4 cX6_needTold none 6 A B) (o : Nat) (a0 : Option Nat) (a1 : Int32) (z : cS) {kc ks ra rb : Nat} (hf : fX6_needTold o a0 a1 z = some (w, z', ra, rb)) (ha : A = kc + ra) (hb : B = ks + rb) : cAW true G X z0 (cOv w, z', A, B) 4 0 [some (va_rf (some o)), some (va_rf a0), some (.int a1), none] [] z kc ks := by
  unfold fX6_needTold at hf
  refine ca_iload_n C dX6_needTold_0 rfl rfl ?_
  refine ca_if_ge C dX6_needTold_1 (tgt := 24) (by decide) (fun c1 => ?_) (fun c1 => ?_)
  · replace hf := rif_p c1 hf
    refine ca_aload_n C dX6_needTold_24 rfl rfl ?_
    obtain ⟨x25, h25, hf⟩ := rob hf
    refine ca_getR C dX6_needTold_25 tcX6_f12 rfl rfl h25 ?_
    refine ca_iload_n C dX6_needTold_28 rfl rfl ?_
    obtain ⟨c29, hc29, hf⟩ := rob hf
    obtain ⟨q29, h29, hf⟩ := rob hf
    refine ca_callV C dX6_needTold_29 (mX4_has (cC_tr C) h29) (crc_spec hc29) vw4 (by decide) rfl tX6_l338 tI_X4_has tS_X4_has tZ4 tC_X4_has tH_X4_has (by omega) (by decide) (cs1_sum cs1_nil (Nat.le_of_ble_eq_true rfl)) (by omega) (by omega) ?_
    refine ca_mask [false, false, false, false] ?_
    exact bX6_needTold_b32 C o _ _ hf (by omega) (by omega)
  · replace hf := rif_n c1 hf
    refine ca_aload_n C dX6_needTold_4 rfl rfl ?_
    refine ca_iconst C dX6_needTold_5 (v := 0) (by decide) ?_
    refine ca_iconst C dX6_needTold_6 (v := (-1)) (by decide) ?_
    refine ca_iload_n C dX6_needTold_7 rfl rfl ?_
    refine ca_isub C dX6_needTold_8 ?_
    obtain ⟨c9, hc9, hf⟩ := rob hf
    obtain ⟨q9, h9, hf⟩ := rob hf
    refine ca_callV C dX6_needTold_9 (mX2_placeOf (cC_tr C) h9) (crc_spec hc9) vw2 (by decide) rfl tX6_l131 tI_X2_placeOf tS_X2_placeOf tZ2 tC_X2_placeOf tH_X2_placeOf (by omega) (by decide) (cs1_sum cs1_nil (Nat.le_of_ble_eq_true rfl)) (by omega) (by omega) ?_
    refine ca_iconst C dX6_needTold_12 (v := (-1)) (by decide) ?_
    refine ca_icmp_eq C dX6_needTold_13 (tgt := 20) (by decide) (fun c13 => ?_) (fun c13 => ?_)
    · replace hf := rif_p c13 hf
      refine ca_iconst C dX6_needTold_20 (v := 0) (by decide) ?_
      refine ca_goto C dX6_needTold_21 (tgt := 32) (by decide) ?_
      refine ca_mask [false, false, false, false] ?_
      exact bX6_needTold_b32 C o _ _ hf (by omega) (by omega)
    · replace hf := rif_n c13 hf
      refine ca_iconst C dX6_needTold_16 (v := 1) (by decide) ?_
      refine ca_goto C dX6_needTold_17 (tgt := 32) (by decide) ?_
      refine ca_mask [false, false, false, false] ?_
      exact bX6_needTold_b32 C o _ _ hf (by omega) (by omega)
set_option maxRecDepth 100000 in
set_option maxHeartbeats 4000000 in
theorem mX6_needTold {l : Launch} (hl : l.stackTraces = false) {G : cG} {o : Nat} {a0 : Option Nat} {a1 : Int32} {z : cS} {w : Unit ⊕ Nat} {z' : cS} {A B : Nat} (hf : fX6_needTold o a0 a1 z = some (w, z', A, B)) : cMx l G 6 yX6_needTold cX6_needTold 4 none [.ref o, va_rf a0, .int a1] z (cOv w, z', A, B) :=
  cMx_of (lo0 := [some (va_rf (some o)), some (va_rf a0), some (.int a1), none]) (by decide +kernel) rfl (cs1_q (cs1_r (cs1_i cs1_nil))) (Nat.le_of_ble_eq_true rfl) rfl hl (fun X hX C => bX6_needTold C o a0 a1 z (kc := 0) (ks := 0) hf (Nat.zero_add _).symm (Nat.zero_add _).symm)
set_option maxRecDepth 100000 in
set_option maxHeartbeats 4000000 in
theorem bX6_specType_b15 {G : cG} {X : rX} {z0 : cS} {w : Int32 ⊕ Nat} {z' : cS} {A B : Nat} (C : cC G X z0 RX6 3 cX6_specType (some .int) 7 A B) (o : Nat) (l1 : Int32) (l2 : Int32) (z : cS) {kc ks ra rb : Nat} (hf : fX6_specType_b15 o l1 l2 z = some (w, z', ra, rb)) (ha : A = kc + ra) (hb : B = ks + rb) : cAW true G X z0 (cOi w, z', A, B) 3 15 [some (va_rf (some o)), some (.int l1), some (.int l2)] [] z kc ks := by
  unfold fX6_specType_b15 at hf
  refine ca_iload_n C dX6_specType_15 rfl rfl ?_
  rcases tbind_spec hf with ⟨e16, h16, rfl⟩ | ⟨v16, z16, ra16, rb16, sa16, sb16, h16, hg16, rfl, rfl⟩
  · exact ca_callXSt C dX6_specType_16 (mX6_needName (cC_tr C) h16) rfl tX6_m89 tT_X6_needName tZ6 tC_X6_needName tH_X6_needName (by omega) (by decide) (cs1_sum cs1_nil (Nat.le_of_ble_eq_true rfl)) (by omega) (by omega)
  replace hf := hg16
  refine ca_callXSr C dX6_specType_16 (mX6_needName (cC_tr C) h16) rfl tX6_m89 tT_X6_needName tZ6 tC_X6_needName tH_X6_needName (by omega) (by decide) (cs1_sum cs1_nil (Nat.le_of_ble_eq_true rfl)) (by omega) (by omega) ?_
  refine ca_aload_n C dX6_specType_19 rfl rfl ?_
  obtain ⟨x20, h20, hf⟩ := rob hf
  refine ca_getR C dX6_specType_20 tcX6_f35 rfl rfl h20 ?_
  refine ca_iconst C dX6_specType_23 (v := 0) (by decide) ?_
  refine ca_iload_n C dX6_specType_24 rfl rfl ?_
  rcases tbind_spec hf with ⟨e25, h25, rfl⟩ | ⟨v25, z25, ra25, rb25, sa25, sb25, h25, hg25, rfl, rfl⟩
  · exact ca_callXSt C dX6_specType_25 (mX6_needPlace (cC_tr C) h25) rfl tX6_m147 tT_X6_needPlace tZ6 tC_X6_needPlace tH_X6_needPlace (by omega) (by decide) (cs1_sum cs1_nil (Nat.le_of_ble_eq_true rfl)) (by omega) (by omega)
  replace hf := hg25
  refine ca_callXSr C dX6_specType_25 (mX6_needPlace (cC_tr C) h25) rfl tX6_m147 tT_X6_needPlace tZ6 tC_X6_needPlace tH_X6_needPlace (by omega) (by decide) (cs1_sum cs1_nil (Nat.le_of_ble_eq_true rfl)) (by omega) (by omega) ?_
  refine ca_aload_n C dX6_specType_28 rfl rfl ?_
  refine ca_iconst C dX6_specType_29 (v := 1) (by decide) ?_
  obtain ⟨c30, hc30, hf⟩ := rob hf
  rcases tbind_spec hf with ⟨e30, h30, rfl⟩ | ⟨v30, z30, ra30, rb30, sa30, sb30, h30, hg30, rfl, rfl⟩
  · exact ca_callXt C dX6_specType_30 (mX6_needRoomForSpecs (cC_tr C) h30) (crc_spec hc30) vw6 (by decide) rfl tX6_m151 tI_X6_needRoomForSpecs tS_X6_needRoomForSpecs tZ6 tC_X6_needRoomForSpecs tH_X6_needRoomForSpecs (by omega) (by decide) (cs1_sum cs1_nil (Nat.le_of_ble_eq_true rfl)) (by omega) (by omega)
  replace hf := hg30
  refine ca_callXr C dX6_specType_30 (mX6_needRoomForSpecs (cC_tr C) h30) (crc_spec hc30) vw6 (by decide) rfl tX6_m151 tI_X6_needRoomForSpecs tS_X6_needRoomForSpecs tZ6 tC_X6_needRoomForSpecs tH_X6_needRoomForSpecs (by omega) (by decide) (cs1_sum cs1_nil (Nat.le_of_ble_eq_true rfl)) (by omega) (by omega) ?_
  refine ca_aload_n C dX6_specType_33 rfl rfl ?_
  obtain ⟨x34, h34, hf⟩ := rob hf
  refine ca_getR C dX6_specType_34 tcX6_f35 rfl rfl h34 ?_
  refine ca_iconst C dX6_specType_37 (v := 0) (by decide) ?_
  refine ca_iload_n C dX6_specType_38 rfl rfl ?_
  refine ca_iload_n C dX6_specType_39 rfl rfl ?_
  refine ca_bipush C dX6_specType_40 (v := (-100)) (by decide) ?_
  refine ca_iconst C dX6_specType_42 (v := 0) (by decide) ?_
  refine ca_iconst C dX6_specType_43 (v := (-1)) (by decide) ?_
  obtain ⟨c44, hc44, hf⟩ := rob hf
  obtain ⟨q44, h44, hf⟩ := rob hf
  refine ca_callV C dX6_specType_44 (mX2_add (cC_tr C) h44) (crc_spec hc44) vw2 (by decide) rfl tX6_l139 tI_X2_add tS_X2_add tZ2 tC_X2_add tH_X2_add (by omega) (by decide) (cs1_sum cs1_nil (Nat.le_of_ble_eq_true rfl)) (by omega) (by omega) ?_
  refine ca_aload_n C dX6_specType_47 rfl rfl ?_
  obtain ⟨x48, h48, hf⟩ := rob hf
  refine ca_getR C dX6_specType_48 tcX6_f35 rfl rfl h48 ?_
  refine ca_dup C dX6_specType_51 (va_rf_cat _) ?_
  obtain ⟨q52, hq52, hf⟩ := rob hf
  obtain ⟨x52, h52, hf⟩ := rob hf
  refine ca_getI C dX6_specType_52 tcX6_f154 rfl hq52 h52 ?_
  refine ca_iconst C dX6_specType_55 (v := 1) (by decide) ?_
  refine ca_iadd C dX6_specType_56 ?_
  obtain ⟨q57, hq57, hf⟩ := rob hf
  obtain ⟨z57, h57, hf⟩ := rob hf
  refine ca_putI C dX6_specType_57 tcX6_f154 nX2_2 rfl tI2_2 hq57 h57 ?_
  refine ca_aload_n C dX6_specType_60 rfl rfl ?_
  obtain ⟨x61, h61, hf⟩ := rob hf
  refine ca_getR C dX6_specType_61 tcX6_f35 rfl rfl h61 ?_
  obtain ⟨q64, hq64, hf⟩ := rob hf
  obtain ⟨x64, h64, hf⟩ := rob hf
  refine ca_getI C dX6_specType_64 tcX6_f116 rfl hq64 h64 ?_
  cases hf
  exact ca_iret C dX6_specType_67 (by omega) (by omega)
set_option maxRecDepth 100000 in
set_option maxHeartbeats 4000000 in
theorem bX6_specType {G : cG} {X : rX} {z0 : cS} {w : Int32 ⊕ Nat} {z' : cS} {A B : Nat} (C : cC G X z0 RX6 3 cX6_specType (some .int) 7 A B) (o : Nat) (a0 : Int32) (a1 : Int32) (z : cS) {kc ks ra rb : Nat} (hf : fX6_specType o a0 a1 z = some (w, z', ra, rb)) (ha : A = kc + ra) (hb : B = ks + rb) : cAW true G X z0 (cOi w, z', A, B) 3 0 [some (va_rf (some o)), some (.int a0), some (.int a1)] [] z kc ks := by
  unfold fX6_specType at hf
  refine ca_iload_n C dX6_specType_0 rfl rfl ?_
  refine ca_bipush C dX6_specType_1 (v := (-100)) (by decide) ?_
  refine ca_icmp_eq C dX6_specType_3 (tgt := 15) (by decide) (fun c3 => ?_) (fun c3 => ?_)
  · replace hf := rif_p c3 hf
    exact bX6_specType_b15 C o _ _ _ hf (by omega) (by omega)
  · replace hf := rif_n c3 hf
    refine ca_aload_n C dX6_specType_6 rfl rfl ?_
    refine ca_aload_n C dX6_specType_7 rfl rfl ?_
    obtain ⟨x8, h8, hf⟩ := rob hf
    refine ca_getR C dX6_specType_8 tcX6_f35 rfl rfl h8 ?_
    refine ca_iload_n C dX6_specType_11 rfl rfl ?_
    obtain ⟨c12, hc12, hf⟩ := rob hf
    rcases tbind_spec hf with ⟨e12, h12, rfl⟩ | ⟨v12, z12, ra12, rb12, sa12, sb12, h12, hg12, rfl, rfl⟩
    · exact ca_callXt C dX6_specType_12 (mX6_needTold (cC_tr C) h12) (crc_spec hc12) vw6 (by decide) rfl tX6_m143 tI_X6_needTold tS_X6_needTold tZ6 tC_X6_needTold tH_X6_needTold (by omega) (by decide) (cs1_sum cs1_nil (Nat.le_of_ble_eq_true rfl)) (by omega) (by omega)
    replace hf := hg12
    refine ca_callXr C dX6_specType_12 (mX6_needTold (cC_tr C) h12) (crc_spec hc12) vw6 (by decide) rfl tX6_m143 tI_X6_needTold tS_X6_needTold tZ6 tC_X6_needTold tH_X6_needTold (by omega) (by decide) (cs1_sum cs1_nil (Nat.le_of_ble_eq_true rfl)) (by omega) (by omega) ?_
    exact bX6_specType_b15 C o _ _ _ hf (by omega) (by omega)
set_option maxRecDepth 100000 in
set_option maxHeartbeats 4000000 in
theorem mX6_specType {l : Launch} (hl : l.stackTraces = false) {G : cG} {o : Nat} {a0 : Int32} {a1 : Int32} {z : cS} {w : Int32 ⊕ Nat} {z' : cS} {A B : Nat} (hf : fX6_specType o a0 a1 z = some (w, z', A, B)) : cMx l G 7 yX6_specType cX6_specType 3 (some .int) [.ref o, .int a0, .int a1] z (cOi w, z', A, B) :=
  cMx_of (lo0 := [some (va_rf (some o)), some (.int a0), some (.int a1)]) (by decide +kernel) rfl (cs1_q (cs1_i (cs1_i cs1_nil))) (Nat.le_of_ble_eq_true rfl) rfl hl (fun X hX C => bX6_specType C o a0 a1 z (kc := 0) (ks := 0) hf (Nat.zero_add _).symm (Nat.zero_add _).symm)
set_option maxRecDepth 100000 in
set_option maxHeartbeats 4000000 in
theorem bX6_specValue_b24 {G : cG} {X : rX} {z0 : cS} {w : Int32 ⊕ Nat} {z' : cS} {A B : Nat} (C : cC G X z0 RX6 4 cX6_specValue (some .int) 7 A B) (o : Nat) (l1 : Int32) (l2 : Int32) (l3 : Int32) (z : cS) {kc ks ra rb : Nat} (hf : fX6_specValue_b24 o l1 l2 l3 z = some (w, z', ra, rb)) (ha : A = kc + ra) (hb : B = ks + rb) : cAW true G X z0 (cOi w, z', A, B) 4 24 [some (va_rf (some o)), some (.int l1), some (.int l2), some (.int l3)] [] z kc ks := by
  unfold fX6_specValue_b24 at hf
  refine ca_iload_n C dX6_specValue_24 rfl rfl ?_
  rcases tbind_spec hf with ⟨e25, h25, rfl⟩ | ⟨v25, z25, ra25, rb25, sa25, sb25, h25, hg25, rfl, rfl⟩
  · exact ca_callXSt C dX6_specValue_25 (mX6_needName (cC_tr C) h25) rfl tX6_m89 tT_X6_needName tZ6 tC_X6_needName tH_X6_needName (by omega) (by decide) (cs1_sum cs1_nil (Nat.le_of_ble_eq_true rfl)) (by omega) (by omega)
  replace hf := hg25
  refine ca_callXSr C dX6_specValue_25 (mX6_needName (cC_tr C) h25) rfl tX6_m89 tT_X6_needName tZ6 tC_X6_needName tH_X6_needName (by omega) (by decide) (cs1_sum cs1_nil (Nat.le_of_ble_eq_true rfl)) (by omega) (by omega) ?_
  refine ca_aload_n C dX6_specValue_28 rfl rfl ?_
  obtain ⟨x29, h29, hf⟩ := rob hf
  refine ca_getR C dX6_specValue_29 tcX6_f35 rfl rfl h29 ?_
  refine ca_iconst C dX6_specValue_32 (v := 1) (by decide) ?_
  refine ca_iload_n C dX6_specValue_33 rfl rfl ?_
  rcases tbind_spec hf with ⟨e34, h34, rfl⟩ | ⟨v34, z34, ra34, rb34, sa34, sb34, h34, hg34, rfl, rfl⟩
  · exact ca_callXSt C dX6_specValue_34 (mX6_needPlace (cC_tr C) h34) rfl tX6_m147 tT_X6_needPlace tZ6 tC_X6_needPlace tH_X6_needPlace (by omega) (by decide) (cs1_sum cs1_nil (Nat.le_of_ble_eq_true rfl)) (by omega) (by omega)
  replace hf := hg34
  refine ca_callXSr C dX6_specValue_34 (mX6_needPlace (cC_tr C) h34) rfl tX6_m147 tT_X6_needPlace tZ6 tC_X6_needPlace tH_X6_needPlace (by omega) (by decide) (cs1_sum cs1_nil (Nat.le_of_ble_eq_true rfl)) (by omega) (by omega) ?_
  refine ca_aload_n C dX6_specValue_37 rfl rfl ?_
  refine ca_iconst C dX6_specValue_38 (v := 1) (by decide) ?_
  obtain ⟨c39, hc39, hf⟩ := rob hf
  rcases tbind_spec hf with ⟨e39, h39, rfl⟩ | ⟨v39, z39, ra39, rb39, sa39, sb39, h39, hg39, rfl, rfl⟩
  · exact ca_callXt C dX6_specValue_39 (mX6_needRoomForSpecs (cC_tr C) h39) (crc_spec hc39) vw6 (by decide) rfl tX6_m151 tI_X6_needRoomForSpecs tS_X6_needRoomForSpecs tZ6 tC_X6_needRoomForSpecs tH_X6_needRoomForSpecs (by omega) (by decide) (cs1_sum cs1_nil (Nat.le_of_ble_eq_true rfl)) (by omega) (by omega)
  replace hf := hg39
  refine ca_callXr C dX6_specValue_39 (mX6_needRoomForSpecs (cC_tr C) h39) (crc_spec hc39) vw6 (by decide) rfl tX6_m151 tI_X6_needRoomForSpecs tS_X6_needRoomForSpecs tZ6 tC_X6_needRoomForSpecs tH_X6_needRoomForSpecs (by omega) (by decide) (cs1_sum cs1_nil (Nat.le_of_ble_eq_true rfl)) (by omega) (by omega) ?_
  refine ca_aload_n C dX6_specValue_42 rfl rfl ?_
  obtain ⟨x43, h43, hf⟩ := rob hf
  refine ca_getR C dX6_specValue_43 tcX6_f35 rfl rfl h43 ?_
  refine ca_iconst C dX6_specValue_46 (v := 1) (by decide) ?_
  refine ca_iload_n C dX6_specValue_47 rfl rfl ?_
  refine ca_iload_n C dX6_specValue_48 rfl rfl ?_
  refine ca_iload_n C dX6_specValue_49 rfl rfl ?_
  refine ca_iconst C dX6_specValue_50 (v := 0) (by decide) ?_
  refine ca_iconst C dX6_specValue_51 (v := (-1)) (by decide) ?_
  obtain ⟨c52, hc52, hf⟩ := rob hf
  obtain ⟨q52, h52, hf⟩ := rob hf
  refine ca_callV C dX6_specValue_52 (mX2_add (cC_tr C) h52) (crc_spec hc52) vw2 (by decide) rfl tX6_l139 tI_X2_add tS_X2_add tZ2 tC_X2_add tH_X2_add (by omega) (by decide) (cs1_sum cs1_nil (Nat.le_of_ble_eq_true rfl)) (by omega) (by omega) ?_
  refine ca_aload_n C dX6_specValue_55 rfl rfl ?_
  obtain ⟨x56, h56, hf⟩ := rob hf
  refine ca_getR C dX6_specValue_56 tcX6_f35 rfl rfl h56 ?_
  refine ca_dup C dX6_specValue_59 (va_rf_cat _) ?_
  obtain ⟨q60, hq60, hf⟩ := rob hf
  obtain ⟨x60, h60, hf⟩ := rob hf
  refine ca_getI C dX6_specValue_60 tcX6_f154 rfl hq60 h60 ?_
  refine ca_iconst C dX6_specValue_63 (v := 1) (by decide) ?_
  refine ca_iadd C dX6_specValue_64 ?_
  obtain ⟨q65, hq65, hf⟩ := rob hf
  obtain ⟨z65, h65, hf⟩ := rob hf
  refine ca_putI C dX6_specValue_65 tcX6_f154 nX2_2 rfl tI2_2 hq65 h65 ?_
  refine ca_aload_n C dX6_specValue_68 rfl rfl ?_
  obtain ⟨x69, h69, hf⟩ := rob hf
  refine ca_getR C dX6_specValue_69 tcX6_f35 rfl rfl h69 ?_
  obtain ⟨q72, hq72, hf⟩ := rob hf
  obtain ⟨x72, h72, hf⟩ := rob hf
  refine ca_getI C dX6_specValue_72 tcX6_f116 rfl hq72 h72 ?_
  cases hf
  exact ca_iret C dX6_specValue_75 (by omega) (by omega)
set_option maxRecDepth 100000 in
set_option maxHeartbeats 4000000 in
theorem bX6_specValue {G : cG} {X : rX} {z0 : cS} {w : Int32 ⊕ Nat} {z' : cS} {A B : Nat} (C : cC G X z0 RX6 4 cX6_specValue (some .int) 7 A B) (o : Nat) (a0 : Int32) (a1 : Int32) (a2 : Int32) (z : cS) {kc ks ra rb : Nat} (hf : fX6_specValue o a0 a1 a2 z = some (w, z', ra, rb)) (ha : A = kc + ra) (hb : B = ks + rb) : cAW true G X z0 (cOi w, z', A, B) 4 0 [some (va_rf (some o)), some (.int a0), some (.int a1), some (.int a2)] [] z kc ks := by
  unfold fX6_specValue at hf
  refine ca_aload_n C dX6_specValue_0 rfl rfl ?_
  refine ca_aload_n C dX6_specValue_1 rfl rfl ?_
  obtain ⟨x2, h2, hf⟩ := rob hf
  refine ca_getR C dX6_specValue_2 tcX6_f35 rfl rfl h2 ?_
  refine ca_iload_n C dX6_specValue_5 rfl rfl ?_
  obtain ⟨c6, hc6, hf⟩ := rob hf
  rcases tbind_spec hf with ⟨e6, h6, rfl⟩ | ⟨v6, z6, ra6, rb6, sa6, sb6, h6, hg6, rfl, rfl⟩
  · exact ca_callXt C dX6_specValue_6 (mX6_needTold (cC_tr C) h6) (crc_spec hc6) vw6 (by decide) rfl tX6_m143 tI_X6_needTold tS_X6_needTold tZ6 tC_X6_needTold tH_X6_needTold (by omega) (by decide) (cs1_sum cs1_nil (Nat.le_of_ble_eq_true rfl)) (by omega) (by omega)
  replace hf := hg6
  refine ca_callXr C dX6_specValue_6 (mX6_needTold (cC_tr C) h6) (crc_spec hc6) vw6 (by decide) rfl tX6_m143 tI_X6_needTold tS_X6_needTold tZ6 tC_X6_needTold tH_X6_needTold (by omega) (by decide) (cs1_sum cs1_nil (Nat.le_of_ble_eq_true rfl)) (by omega) (by omega) ?_
  refine ca_iload_n C dX6_specValue_9 rfl rfl ?_
  refine ca_bipush C dX6_specValue_10 (v := (-100)) (by decide) ?_
  refine ca_icmp_eq C dX6_specValue_12 (tgt := 24) (by decide) (fun c12 => ?_) (fun c12 => ?_)
  · replace hf := rif_p c12 hf
    exact bX6_specValue_b24 C o _ _ _ _ hf (by omega) (by omega)
  · replace hf := rif_n c12 hf
    refine ca_aload_n C dX6_specValue_15 rfl rfl ?_
    refine ca_aload_n C dX6_specValue_16 rfl rfl ?_
    obtain ⟨x17, h17, hf⟩ := rob hf
    refine ca_getR C dX6_specValue_17 tcX6_f35 rfl rfl h17 ?_
    refine ca_iload_n C dX6_specValue_20 rfl rfl ?_
    obtain ⟨c21, hc21, hf⟩ := rob hf
    rcases tbind_spec hf with ⟨e21, h21, rfl⟩ | ⟨v21, z21, ra21, rb21, sa21, sb21, h21, hg21, rfl, rfl⟩
    · exact ca_callXt C dX6_specValue_21 (mX6_needTold (cC_tr C) h21) (crc_spec hc21) vw6 (by decide) rfl tX6_m143 tI_X6_needTold tS_X6_needTold tZ6 tC_X6_needTold tH_X6_needTold (by omega) (by decide) (cs1_sum cs1_nil (Nat.le_of_ble_eq_true rfl)) (by omega) (by omega)
    replace hf := hg21
    refine ca_callXr C dX6_specValue_21 (mX6_needTold (cC_tr C) h21) (crc_spec hc21) vw6 (by decide) rfl tX6_m143 tI_X6_needTold tS_X6_needTold tZ6 tC_X6_needTold tH_X6_needTold (by omega) (by decide) (cs1_sum cs1_nil (Nat.le_of_ble_eq_true rfl)) (by omega) (by omega) ?_
    exact bX6_specValue_b24 C o _ _ _ _ hf (by omega) (by omega)
set_option maxRecDepth 100000 in
set_option maxHeartbeats 4000000 in
theorem mX6_specValue {l : Launch} (hl : l.stackTraces = false) {G : cG} {o : Nat} {a0 : Int32} {a1 : Int32} {a2 : Int32} {z : cS} {w : Int32 ⊕ Nat} {z' : cS} {A B : Nat} (hf : fX6_specValue o a0 a1 a2 z = some (w, z', A, B)) : cMx l G 7 yX6_specValue cX6_specValue 4 (some .int) [.ref o, .int a0, .int a1, .int a2] z (cOi w, z', A, B) :=
  cMx_of (lo0 := [some (va_rf (some o)), some (.int a0), some (.int a1), some (.int a2)]) (by decide +kernel) rfl (cs1_q (cs1_i (cs1_i (cs1_i cs1_nil)))) (Nat.le_of_ble_eq_true rfl) rfl hl (fun X hX C => bX6_specValue C o a0 a1 a2 z (kc := 0) (ks := 0) hf (Nat.zero_add _).symm (Nat.zero_add _).symm)
set_option maxRecDepth 100000 in
set_option maxHeartbeats 4000000 in
theorem bX6_specPart {G : cG} {X : rX} {z0 : cS} {w : Int32 ⊕ Nat} {z' : cS} {A B : Nat} (C : cC G X z0 RX6 4 cX6_specPart (some .int) 7 A B) (o : Nat) (a0 : Int32) (a1 : Int32) (z : cS) {kc ks ra rb : Nat} (hf : fX6_specPart o a0 a1 z = some (w, z', ra, rb)) (ha : A = kc + ra) (hb : B = ks + rb) : cAW true G X z0 (cOi w, z', A, B) 4 0 [some (va_rf (some o)), some (.int a0), some (.int a1), none] [] z kc ks := by
  unfold fX6_specPart at hf
  refine ca_aload_n C dX6_specPart_0 rfl rfl ?_
  obtain ⟨x1, h1, hf⟩ := rob hf
  refine ca_getR C dX6_specPart_1 tcX6_f27 rfl rfl h1 ?_
  refine ca_iload_n C dX6_specPart_4 rfl rfl ?_
  obtain ⟨c5, hc5, hf⟩ := rob hf
  obtain ⟨q5, h5, hf⟩ := rob hf
  refine ca_callV C dX6_specPart_5 (mX3_at (cC_tr C) h5) (crc_spec hc5) vw3 (by decide) rfl tX6_l103 tI_X3_at tS_X3_at tZ3 tC_X3_at tH_X3_at (by omega) (by decide) (cs1_sum cs1_nil (Nat.le_of_ble_eq_true rfl)) (by omega) (by omega) ?_
  refine ca_astore_n C dX6_specPart_8 rfl (by decide) ?_
  refine ca_aload_n C dX6_specPart_9 rfl rfl ?_
  refine ca_ifnonnull C dX6_specPart_10 (tgt := 23) (by decide) (fun c10 => ?_) (fun c10 => ?_)
  · replace hf := rif_n c10 hf
    refine ca_iload_n C dX6_specPart_23 rfl rfl ?_
    rcases tbind_spec hf with ⟨e24, h24, rfl⟩ | ⟨v24, z24, ra24, rb24, sa24, sb24, h24, hg24, rfl, rfl⟩
    · exact ca_callXSt C dX6_specPart_24 (mX6_needName (cC_tr C) h24) rfl tX6_m89 tT_X6_needName tZ6 tC_X6_needName tH_X6_needName (by omega) (by decide) (cs1_sum cs1_nil (Nat.le_of_ble_eq_true rfl)) (by omega) (by omega)
    replace hf := hg24
    refine ca_callXSr C dX6_specPart_24 (mX6_needName (cC_tr C) h24) rfl tX6_m89 tT_X6_needName tZ6 tC_X6_needName tH_X6_needName (by omega) (by decide) (cs1_sum cs1_nil (Nat.le_of_ble_eq_true rfl)) (by omega) (by omega) ?_
    refine ca_aload_n C dX6_specPart_27 rfl rfl ?_
    obtain ⟨x28, h28, hf⟩ := rob hf
    refine ca_getR C dX6_specPart_28 tcX6_f35 rfl rfl h28 ?_
    refine ca_iconst C dX6_specPart_31 (v := 2) (by decide) ?_
    refine ca_iload_n C dX6_specPart_32 rfl rfl ?_
    rcases tbind_spec hf with ⟨e33, h33, rfl⟩ | ⟨v33, z33, ra33, rb33, sa33, sb33, h33, hg33, rfl, rfl⟩
    · exact ca_callXSt C dX6_specPart_33 (mX6_needPlace (cC_tr C) h33) rfl tX6_m147 tT_X6_needPlace tZ6 tC_X6_needPlace tH_X6_needPlace (by omega) (by decide) (cs1_sum cs1_nil (Nat.le_of_ble_eq_true rfl)) (by omega) (by omega)
    replace hf := hg33
    refine ca_callXSr C dX6_specPart_33 (mX6_needPlace (cC_tr C) h33) rfl tX6_m147 tT_X6_needPlace tZ6 tC_X6_needPlace tH_X6_needPlace (by omega) (by decide) (cs1_sum cs1_nil (Nat.le_of_ble_eq_true rfl)) (by omega) (by omega) ?_
    refine ca_aload_n C dX6_specPart_36 rfl rfl ?_
    refine ca_iconst C dX6_specPart_37 (v := 1) (by decide) ?_
    refine ca_aload_n C dX6_specPart_38 rfl rfl ?_
    obtain ⟨q39, hq39, hf⟩ := rob hf
    obtain ⟨x39, h39, hf⟩ := rob hf
    refine ca_getI C dX6_specPart_39 tcX6_f154 rfl hq39 h39 ?_
    refine ca_iadd C dX6_specPart_42 ?_
    obtain ⟨c43, hc43, hf⟩ := rob hf
    rcases tbind_spec hf with ⟨e43, h43, rfl⟩ | ⟨v43, z43, ra43, rb43, sa43, sb43, h43, hg43, rfl, rfl⟩
    · exact ca_callXt C dX6_specPart_43 (mX6_needRoomForSpecs (cC_tr C) h43) (crc_spec hc43) vw6 (by decide) rfl tX6_m151 tI_X6_needRoomForSpecs tS_X6_needRoomForSpecs tZ6 tC_X6_needRoomForSpecs tH_X6_needRoomForSpecs (by omega) (by decide) (cs1_sum cs1_nil (Nat.le_of_ble_eq_true rfl)) (by omega) (by omega)
    replace hf := hg43
    refine ca_callXr C dX6_specPart_43 (mX6_needRoomForSpecs (cC_tr C) h43) (crc_spec hc43) vw6 (by decide) rfl tX6_m151 tI_X6_needRoomForSpecs tS_X6_needRoomForSpecs tZ6 tC_X6_needRoomForSpecs tH_X6_needRoomForSpecs (by omega) (by decide) (cs1_sum cs1_nil (Nat.le_of_ble_eq_true rfl)) (by omega) (by omega) ?_
    refine ca_aload_n C dX6_specPart_46 rfl rfl ?_
    obtain ⟨x47, h47, hf⟩ := rob hf
    refine ca_getR C dX6_specPart_47 tcX6_f35 rfl rfl h47 ?_
    refine ca_iconst C dX6_specPart_50 (v := 2) (by decide) ?_
    refine ca_iload_n C dX6_specPart_51 rfl rfl ?_
    refine ca_iload_n C dX6_specPart_52 rfl rfl ?_
    refine ca_bipush C dX6_specPart_53 (v := (-100)) (by decide) ?_
    refine ca_iconst C dX6_specPart_55 (v := 0) (by decide) ?_
    refine ca_iconst C dX6_specPart_56 (v := (-1)) (by decide) ?_
    obtain ⟨c57, hc57, hf⟩ := rob hf
    obtain ⟨q57, h57, hf⟩ := rob hf
    refine ca_callV C dX6_specPart_57 (mX2_add (cC_tr C) h57) (crc_spec hc57) vw2 (by decide) rfl tX6_l139 tI_X2_add tS_X2_add tZ2 tC_X2_add tH_X2_add (by omega) (by decide) (cs1_sum cs1_nil (Nat.le_of_ble_eq_true rfl)) (by omega) (by omega) ?_
    refine ca_aload_n C dX6_specPart_60 rfl rfl ?_
    obtain ⟨x61, h61, hf⟩ := rob hf
    refine ca_getR C dX6_specPart_61 tcX6_f35 rfl rfl h61 ?_
    refine ca_dup C dX6_specPart_64 (va_rf_cat _) ?_
    obtain ⟨q65, hq65, hf⟩ := rob hf
    obtain ⟨x65, h65, hf⟩ := rob hf
    refine ca_getI C dX6_specPart_65 tcX6_f154 rfl hq65 h65 ?_
    refine ca_iconst C dX6_specPart_68 (v := 1) (by decide) ?_
    refine ca_aload_n C dX6_specPart_69 rfl rfl ?_
    obtain ⟨q70, hq70, hf⟩ := rob hf
    obtain ⟨x70, h70, hf⟩ := rob hf
    refine ca_getI C dX6_specPart_70 tcX6_f154 rfl hq70 h70 ?_
    refine ca_iadd C dX6_specPart_73 ?_
    refine ca_iadd C dX6_specPart_74 ?_
    obtain ⟨q75, hq75, hf⟩ := rob hf
    obtain ⟨z75, h75, hf⟩ := rob hf
    refine ca_putI C dX6_specPart_75 tcX6_f154 nX2_2 rfl tI2_2 hq75 h75 ?_
    refine ca_aload_n C dX6_specPart_78 rfl rfl ?_
    obtain ⟨x79, h79, hf⟩ := rob hf
    refine ca_getR C dX6_specPart_79 tcX6_f35 rfl rfl h79 ?_
    refine ca_dup C dX6_specPart_82 (va_rf_cat _) ?_
    obtain ⟨q83, hq83, hf⟩ := rob hf
    obtain ⟨x83, h83, hf⟩ := rob hf
    refine ca_getI C dX6_specPart_83 tcX6_f159 rfl hq83 h83 ?_
    refine ca_iconst C dX6_specPart_86 (v := 1) (by decide) ?_
    refine ca_aload_n C dX6_specPart_87 rfl rfl ?_
    obtain ⟨q88, hq88, hf⟩ := rob hf
    obtain ⟨x88, h88, hf⟩ := rob hf
    refine ca_getI C dX6_specPart_88 tcX6_f159 rfl hq88 h88 ?_
    refine ca_iadd C dX6_specPart_91 ?_
    refine ca_iadd C dX6_specPart_92 ?_
    obtain ⟨q93, hq93, hf⟩ := rob hf
    obtain ⟨z93, h93, hf⟩ := rob hf
    refine ca_putI C dX6_specPart_93 tcX6_f159 nX2_3 rfl tI2_3 hq93 h93 ?_
    refine ca_aload_n C dX6_specPart_96 rfl rfl ?_
    obtain ⟨x97, h97, hf⟩ := rob hf
    refine ca_getR C dX6_specPart_97 tcX6_f35 rfl rfl h97 ?_
    obtain ⟨q100, hq100, hf⟩ := rob hf
    obtain ⟨x100, h100, hf⟩ := rob hf
    refine ca_getI C dX6_specPart_100 tcX6_f116 rfl hq100 h100 ?_
    cases hf
    exact ca_iret C dX6_specPart_103 (by omega) (by omega)
  · replace hf := rif_p c10 hf
    cases hf
    exact ca_throw C dX6_specPart_13 dX6_specPart_16 dX6_specPart_17 dX6_specPart_19 dX6_specPart_22 cfit0 tX6_k111 tX6_e0 tX6_t157 tX6_w115 tX6_g111_115 (by omega) (cs1_sum cs1_nil (Nat.le_of_ble_eq_true rfl)) (by omega) (by omega)
set_option maxRecDepth 100000 in
set_option maxHeartbeats 4000000 in
theorem mX6_specPart {l : Launch} (hl : l.stackTraces = false) {G : cG} {o : Nat} {a0 : Int32} {a1 : Int32} {z : cS} {w : Int32 ⊕ Nat} {z' : cS} {A B : Nat} (hf : fX6_specPart o a0 a1 z = some (w, z', A, B)) : cMx l G 7 yX6_specPart cX6_specPart 4 (some .int) [.ref o, .int a0, .int a1] z (cOi w, z', A, B) :=
  cMx_of (lo0 := [some (va_rf (some o)), some (.int a0), some (.int a1), none]) (by decide +kernel) rfl (cs1_q (cs1_i (cs1_i cs1_nil))) (Nat.le_of_ble_eq_true rfl) rfl hl (fun X hX C => bX6_specPart C o a0 a1 z (kc := 0) (ks := 0) hf (Nat.zero_add _).symm (Nat.zero_add _).symm)
set_option maxRecDepth 100000 in
set_option maxHeartbeats 4000000 in
theorem bX6_include_b25_body {G : cG} {X : rX} {z0 : cS} {w : Int32 ⊕ Nat} {z' : cS} {A B : Nat} (C : cC G X z0 RX6 4 cX6_include (some .int) 7 A B) (o : Nat) {rec25 : Option Nat → Int32 → cS → Option ((Int32 ⊕ Nat) × cS × Nat × Nat)} (hrec25 : ∀ (l2 : Option Nat) (l3 : Int32) (z : cS) (kc ks ra rb : Nat), rec25 l2 l3 z = some (w, z', ra, rb) → A = kc + ra → B = ks + rb → cAW true G X z0 (cOi w, z', A, B) 4 25 [some (va_rf (some o)), none, some (va_rf l2), some (.int l3)] [] z kc ks) (l2 : Option Nat) (l3 : Int32) (z : cS) {kc ks ra rb : Nat} (hf : fX6_include_b25_body o rec25 l2 l3 z = some (w, z', ra, rb)) (ha : A = kc + ra) (hb : B = ks + rb) : cAW true G X z0 (cOi w, z', A, B) 4 25 [some (va_rf (some o)), none, some (va_rf l2), some (.int l3)] [] z kc ks := by
  unfold fX6_include_b25_body at hf
  refine ca_iload_n C dX6_include_25 rfl rfl ?_
  refine ca_aload_n C dX6_include_26 rfl rfl ?_
  obtain ⟨q27, hq27, hf⟩ := rob hf
  obtain ⟨x27, h27, hf⟩ := rob hf
  refine ca_getI C dX6_include_27 tcX6_f116 rfl hq27 h27 ?_
  refine ca_icmp_ge C dX6_include_30 (tgt := 58) (by decide) (fun c30 => ?_) (fun c30 => ?_)
  · replace hf := rif_p c30 hf
    refine ca_aload_n C dX6_include_58 rfl rfl ?_
    refine ca_aload_n C dX6_include_59 rfl rfl ?_
    obtain ⟨q60, hq60, hf⟩ := rob hf
    obtain ⟨x60, h60, hf⟩ := rob hf
    refine ca_getI C dX6_include_60 tcX6_f154 rfl hq60 h60 ?_
    obtain ⟨c63, hc63, hf⟩ := rob hf
    rcases tbind_spec hf with ⟨e63, h63, rfl⟩ | ⟨v63, z63, ra63, rb63, sa63, sb63, h63, hg63, rfl, rfl⟩
    · exact ca_callXt C dX6_include_63 (mX6_needRoomForSpecs (cC_tr C) h63) (crc_spec hc63) vw6 (by decide) rfl tX6_m151 tI_X6_needRoomForSpecs tS_X6_needRoomForSpecs tZ6 tC_X6_needRoomForSpecs tH_X6_needRoomForSpecs (by omega) (by decide) (cs1_sum cs1_nil (Nat.le_of_ble_eq_true rfl)) (by omega) (by omega)
    replace hf := hg63
    refine ca_callXr C dX6_include_63 (mX6_needRoomForSpecs (cC_tr C) h63) (crc_spec hc63) vw6 (by decide) rfl tX6_m151 tI_X6_needRoomForSpecs tS_X6_needRoomForSpecs tZ6 tC_X6_needRoomForSpecs tH_X6_needRoomForSpecs (by omega) (by decide) (cs1_sum cs1_nil (Nat.le_of_ble_eq_true rfl)) (by omega) (by omega) ?_
    refine ca_aload_n C dX6_include_66 rfl rfl ?_
    obtain ⟨x67, h67, hf⟩ := rob hf
    refine ca_getR C dX6_include_67 tcX6_f35 rfl rfl h67 ?_
    refine ca_aload_n C dX6_include_70 rfl rfl ?_
    obtain ⟨c71, hc71, hf⟩ := rob hf
    obtain ⟨q71, h71, hf⟩ := rob hf
    refine ca_callV C dX6_include_71 (mX2_addAll (cC_tr C) h71) (crc_spec hc71) vw2 (by decide) rfl tX6_l162 tI_X2_addAll tS_X2_addAll tZ2 tC_X2_addAll tH_X2_addAll (by omega) (by decide) (cs1_sum cs1_nil (Nat.le_of_ble_eq_true rfl)) (by omega) (by omega) ?_
    refine ca_aload_n C dX6_include_74 rfl rfl ?_
    obtain ⟨x75, h75, hf⟩ := rob hf
    refine ca_getR C dX6_include_75 tcX6_f35 rfl rfl h75 ?_
    obtain ⟨q78, hq78, hf⟩ := rob hf
    obtain ⟨x78, h78, hf⟩ := rob hf
    refine ca_getI C dX6_include_78 tcX6_f116 rfl hq78 h78 ?_
    cases hf
    exact ca_iret C dX6_include_81 (by omega) (by omega)
  · replace hf := rif_n c30 hf
    refine ca_aload_n C dX6_include_33 rfl rfl ?_
    obtain ⟨x34, h34, hf⟩ := rob hf
    refine ca_getR C dX6_include_34 tcX6_f35 rfl rfl h34 ?_
    refine ca_aload_n C dX6_include_37 rfl rfl ?_
    refine ca_iload_n C dX6_include_38 rfl rfl ?_
    refine ca_iconst C dX6_include_39 (v := 0) (by decide) ?_
    obtain ⟨c40, hc40, hf⟩ := rob hf
    obtain ⟨q40, h40, hf⟩ := rob hf
    refine ca_callV C dX6_include_40 (mX2_get (cC_tr C) h40) (crc_spec hc40) vw2 (by decide) rfl tX6_l120 tI_X2_get tS_X2_get tZ2 tC_X2_get tH_X2_get (by omega) (by decide) (cs1_sum (cs1_r cs1_nil) (Nat.le_of_ble_eq_true rfl)) (by omega) (by omega) ?_
    refine ca_aload_n C dX6_include_43 rfl rfl ?_
    refine ca_iload_n C dX6_include_44 rfl rfl ?_
    refine ca_iconst C dX6_include_45 (v := 1) (by decide) ?_
    obtain ⟨c46, hc46, hf⟩ := rob hf
    obtain ⟨q46, h46, hf⟩ := rob hf
    refine ca_callV C dX6_include_46 (mX2_get (cC_tr C) h46) (crc_spec hc46) vw2 (by decide) rfl tX6_l120 tI_X2_get tS_X2_get tZ2 tC_X2_get tH_X2_get (by omega) (by decide) (cs1_sum (cs1_i (cs1_r cs1_nil)) (Nat.le_of_ble_eq_true rfl)) (by omega) (by omega) ?_
    rcases tbind_spec hf with ⟨e49, h49, rfl⟩ | ⟨v49, z49, ra49, rb49, sa49, sb49, h49, hg49, rfl, rfl⟩
    · exact ca_callXSt C dX6_include_49 (mX6_needPlace (cC_tr C) h49) rfl tX6_m147 tT_X6_needPlace tZ6 tC_X6_needPlace tH_X6_needPlace (by omega) (by decide) (cs1_sum cs1_nil (Nat.le_of_ble_eq_true rfl)) (by omega) (by omega)
    replace hf := hg49
    refine ca_callXSr C dX6_include_49 (mX6_needPlace (cC_tr C) h49) rfl tX6_m147 tT_X6_needPlace tZ6 tC_X6_needPlace tH_X6_needPlace (by omega) (by decide) (cs1_sum cs1_nil (Nat.le_of_ble_eq_true rfl)) (by omega) (by omega) ?_
    refine ca_iinc C dX6_include_52 rfl (v := 1) (by decide) (by decide) ?_
    refine ca_goto C dX6_include_55 (tgt := 25) (by decide) ?_
    exact hrec25 _ _ _ _ _ _ _ hf (by omega) (by omega)
set_option maxRecDepth 100000 in
set_option maxHeartbeats 4000000 in
theorem bX6_include_b25 {G : cG} {X : rX} {z0 : cS} {w : Int32 ⊕ Nat} {z' : cS} {A B : Nat} (C : cC G X z0 RX6 4 cX6_include (some .int) 7 A B) (o : Nat) : ∀ (n : Nat) (l2 : Option Nat) (l3 : Int32) (z : cS) (kc ks ra rb : Nat), fX6_include_b25 o n l2 l3 z = some (w, z', ra, rb) → A = kc + ra → B = ks + rb → cAW true G X z0 (cOi w, z', A, B) 4 25 [some (va_rf (some o)), none, some (va_rf l2), some (.int l3)] [] z kc ks := by
  intro n
  induction n with
  | zero => intro l2 l3 z kc ks ra rb hf; cases hf
  | succ n ih => intro l2 l3 z kc ks ra rb hf ha hb; exact bX6_include_b25_body C o (fun l2 l3 z kc ks ra rb h1 h2 h3 => ih l2 l3 z kc ks ra rb h1 h2 h3) l2 l3 z hf ha hb
set_option maxRecDepth 100000 in
set_option maxHeartbeats 4000000 in
theorem bX6_include {G : cG} {X : rX} {z0 : cS} {w : Int32 ⊕ Nat} {z' : cS} {A B : Nat} (C : cC G X z0 RX6 4 cX6_include (some .int) 7 A B) (o : Nat) (a0 : Int32) (z : cS) {kc ks ra rb : Nat} (hf : fX6_include o a0 z = some (w, z', ra, rb)) (ha : A = kc + ra) (hb : B = ks + rb) : cAW true G X z0 (cOi w, z', A, B) 4 0 [some (va_rf (some o)), some (.int a0), none, none] [] z kc ks := by
  unfold fX6_include at hf
  refine ca_aload_n C dX6_include_0 rfl rfl ?_
  obtain ⟨x1, h1, hf⟩ := rob hf
  refine ca_getR C dX6_include_1 tcX6_f27 rfl rfl h1 ?_
  refine ca_iload_n C dX6_include_4 rfl rfl ?_
  obtain ⟨c5, hc5, hf⟩ := rob hf
  obtain ⟨q5, h5, hf⟩ := rob hf
  refine ca_callV C dX6_include_5 (mX3_at (cC_tr C) h5) (crc_spec hc5) vw3 (by decide) rfl tX6_l103 tI_X3_at tS_X3_at tZ3 tC_X3_at tH_X3_at (by omega) (by decide) (cs1_sum cs1_nil (Nat.le_of_ble_eq_true rfl)) (by omega) (by omega) ?_
  refine ca_astore_n C dX6_include_8 rfl (by decide) ?_
  refine ca_aload_n C dX6_include_9 rfl rfl ?_
  refine ca_ifnonnull C dX6_include_10 (tgt := 23) (by decide) (fun c10 => ?_) (fun c10 => ?_)
  · replace hf := rif_n c10 hf
    refine ca_iconst C dX6_include_23 (v := 0) (by decide) ?_
    refine ca_istore_n C dX6_include_24 rfl (by decide) ?_
    refine ca_mask [true, false, true, true] ?_
    exact bX6_include_b25 C o _ _ _ _ _ _ _ _ hf (by omega) (by omega)
  · replace hf := rif_p c10 hf
    cases hf
    exact ca_throw C dX6_include_13 dX6_include_16 dX6_include_17 dX6_include_19 dX6_include_22 cfit0 tX6_k111 tX6_e0 tX6_t157 tX6_w115 tX6_g111_115 (by omega) (cs1_sum cs1_nil (Nat.le_of_ble_eq_true rfl)) (by omega) (by omega)
set_option maxRecDepth 100000 in
set_option maxHeartbeats 4000000 in
theorem mX6_include {l : Launch} (hl : l.stackTraces = false) {G : cG} {o : Nat} {a0 : Int32} {z : cS} {w : Int32 ⊕ Nat} {z' : cS} {A B : Nat} (hf : fX6_include o a0 z = some (w, z', A, B)) : cMx l G 7 yX6_include cX6_include 4 (some .int) [.ref o, .int a0] z (cOi w, z', A, B) :=
  cMx_of (lo0 := [some (va_rf (some o)), some (.int a0), none, none]) (by decide +kernel) rfl (cs1_q (cs1_i cs1_nil)) (Nat.le_of_ble_eq_true rfl) rfl hl (fun X hX C => bX6_include C o a0 z (kc := 0) (ks := 0) hf (Nat.zero_add _).symm (Nat.zero_add _).symm)
set_option maxRecDepth 100000 in
set_option maxHeartbeats 4000000 in
theorem bX6_signature {G : cG} {X : rX} {z0 : cS} {w : Int32 ⊕ Nat} {z' : cS} {A B : Nat} (C : cC G X z0 RX6 2 cX6_signature (some .int) 6 A B) (o : Nat) (z : cS) {kc ks ra rb : Nat} (hf : fX6_signature o  z = some (w, z', ra, rb)) (ha : A = kc + ra) (hb : B = ks + rb) : cAW true G X z0 (cOi w, z', A, B) 2 0 [some (va_rf (some o)), none] [] z kc ks := by
  unfold fX6_signature at hf
  refine ca_aload_n C dX6_signature_0 rfl rfl ?_
  obtain ⟨x1, h1, hf⟩ := rob hf
  refine ca_getR C dX6_signature_1 tcX6_f27 rfl rfl h1 ?_
  refine ca_aload_n C dX6_signature_4 rfl rfl ?_
  obtain ⟨x5, h5, hf⟩ := rob hf
  refine ca_getR C dX6_signature_5 tcX6_f35 rfl rfl h5 ?_
  obtain ⟨c8, hc8, hf⟩ := rob hf
  obtain ⟨v8, z8, ra8, rb8, sa8, sb8, h8, hg8, rfl, rfl⟩ := abind_spec hf
  replace hf := hg8
  refine ca_callV C dX6_signature_8 (mX3_keep (cC_tr C) h8) (crc_spec hc8) vw3 (by decide) rfl tX6_l123 tI_X3_keep tS_X3_keep tZ3 tC_X3_keep tH_X3_keep (by omega) (by decide) (cs1_sum cs1_nil (Nat.le_of_ble_eq_true rfl)) (by omega) (by omega) ?_
  refine ca_istore_n C dX6_signature_11 rfl (by decide) ?_
  refine ca_iload_n C dX6_signature_12 rfl rfl ?_
  refine ca_iconst C dX6_signature_13 (v := (-1)) (by decide) ?_
  refine ca_icmp_ne C dX6_signature_14 (tgt := 27) (by decide) (fun c14 => ?_) (fun c14 => ?_)
  · replace hf := rif_n c14 hf
    refine ca_iload_n C dX6_signature_27 rfl rfl ?_
    cases hf
    exact ca_iret C dX6_signature_28 (by omega) (by omega)
  · replace hf := rif_p c14 hf
    cases hf
    exact ca_throw C dX6_signature_17 dX6_signature_20 dX6_signature_21 dX6_signature_23 dX6_signature_26 cfit2 tX6_k67 tX6_e2 tX6_t165 tX6_w71 tX6_g67_71 (by omega) (cs1_sum cs1_nil (Nat.le_of_ble_eq_true rfl)) (by omega) (by omega)
set_option maxRecDepth 100000 in
set_option maxHeartbeats 4000000 in
theorem mX6_signature {l : Launch} (hl : l.stackTraces = false) {G : cG} {o : Nat} {z : cS} {w : Int32 ⊕ Nat} {z' : cS} {A B : Nat} (hf : fX6_signature o  z = some (w, z', A, B)) : cMx l G 6 yX6_signature cX6_signature 2 (some .int) [.ref o] z (cOi w, z', A, B) :=
  cMx_of (lo0 := [some (va_rf (some o)), none]) (by decide +kernel) rfl (cs1_q cs1_nil) (Nat.le_of_ble_eq_true rfl) rfl hl (fun X hX C => bX6_signature C o  z (kc := 0) (ks := 0) hf (Nat.zero_add _).symm (Nat.zero_add _).symm)
set_option maxRecDepth 100000 in
set_option maxHeartbeats 4000000 in
theorem bX6_with_b58 {G : cG} {X : rX} {z0 : cS} {w : Int32 ⊕ Nat} {z' : cS} {A B : Nat} (C : cC G X z0 RX6 9 cX6_with (some .int) 7 A B) (o : Nat) (z : cS) {kc ks ra rb : Nat} (hf : fX6_with_b58 o  z = some (w, z', ra, rb)) (ha : A = kc + ra) (hb : B = ks + rb) : cAW true G X z0 (cOi w, z', A, B) 9 58 [none, none, none, none, none, none, none, none, none] [] z kc ks := by
  unfold fX6_with_b58 at hf
  cases hf
  exact ca_throw C dX6_with_58 dX6_with_61 dX6_with_62 dX6_with_64 dX6_with_67 cfit0 tX6_k111 tX6_e0 tX6_t167 tX6_w115 tX6_g111_115 (by omega) (cs1_sum cs1_nil (Nat.le_of_ble_eq_true rfl)) (by omega) (by omega)
set_option maxRecDepth 100000 in
set_option maxHeartbeats 4000000 in
theorem bX6_with_b154 {G : cG} {X : rX} {z0 : cS} {w : Int32 ⊕ Nat} {z' : cS} {A B : Nat} (C : cC G X z0 RX6 9 cX6_with (some .int) 7 A B) (o : Nat) (l7 : Int32) (z : cS) {kc ks ra rb : Nat} (hf : fX6_with_b154 o l7 z = some (w, z', ra, rb)) (ha : A = kc + ra) (hb : B = ks + rb) : cAW true G X z0 (cOi w, z', A, B) 9 154 [some (va_rf (some o)), none, none, none, none, none, none, some (.int l7), none] [] z kc ks := by
  unfold fX6_with_b154 at hf
  refine ca_aload_n C dX6_with_154 rfl rfl ?_
  obtain ⟨x155, h155, hf⟩ := rob hf
  refine ca_getR C dX6_with_155 tcX6_f27 rfl rfl h155 ?_
  refine ca_dup C dX6_with_158 (va_rf_cat _) ?_
  obtain ⟨q159, hq159, hf⟩ := rob hf
  obtain ⟨x159, h159, hf⟩ := rob hf
  refine ca_getI C dX6_with_159 tcX6_f169 rfl hq159 h159 ?_
  refine ca_iconst C dX6_with_162 (v := 1) (by decide) ?_
  refine ca_iadd C dX6_with_163 ?_
  obtain ⟨q164, hq164, hf⟩ := rob hf
  obtain ⟨z164, h164, hf⟩ := rob hf
  refine ca_putI C dX6_with_164 tcX6_f169 nX3_1 rfl tI3_1 hq164 h164 ?_
  refine ca_iload C dX6_with_167 rfl ?_
  cases hf
  exact ca_iret C dX6_with_169 (by omega) (by omega)
set_option maxRecDepth 100000 in
set_option maxHeartbeats 4000000 in
theorem bX6_with {G : cG} {X : rX} {z0 : cS} {w : Int32 ⊕ Nat} {z' : cS} {A B : Nat} (C : cC G X z0 RX6 9 cX6_with (some .int) 7 A B) (o : Nat) (a0 : Int32) (a1 : Int32) (a2 : Int32) (a3 : Int32) (z : cS) {kc ks ra rb : Nat} (hf : fX6_with o a0 a1 a2 a3 z = some (w, z', ra, rb)) (ha : A = kc + ra) (hb : B = ks + rb) : cAW true G X z0 (cOi w, z', A, B) 9 0 [some (va_rf (some o)), some (.int a0), some (.int a1), some (.int a2), some (.int a3), none, none, none, none] [] z kc ks := by
  unfold fX6_with at hf
  refine ca_aload_n C dX6_with_0 rfl rfl ?_
  obtain ⟨x1, h1, hf⟩ := rob hf
  refine ca_getR C dX6_with_1 tcX6_f27 rfl rfl h1 ?_
  refine ca_iload_n C dX6_with_4 rfl rfl ?_
  obtain ⟨c5, hc5, hf⟩ := rob hf
  obtain ⟨q5, h5, hf⟩ := rob hf
  refine ca_callV C dX6_with_5 (mX3_at (cC_tr C) h5) (crc_spec hc5) vw3 (by decide) rfl tX6_l103 tI_X3_at tS_X3_at tZ3 tC_X3_at tH_X3_at (by omega) (by decide) (cs1_sum cs1_nil (Nat.le_of_ble_eq_true rfl)) (by omega) (by omega) ?_
  refine ca_astore C dX6_with_8 (by decide) ?_
  refine ca_aload C dX6_with_10 rfl ?_
  refine ca_ifnonnull C dX6_with_12 (tgt := 25) (by decide) (fun c12 => ?_) (fun c12 => ?_)
  · replace hf := rif_n c12 hf
    refine ca_aload_n C dX6_with_25 rfl rfl ?_
    refine ca_iload_n C dX6_with_26 rfl rfl ?_
    obtain ⟨c27, hc27, hf⟩ := rob hf
    rcases tbind_spec hf with ⟨e27, h27, rfl⟩ | ⟨v27, z27, ra27, rb27, sa27, sb27, h27, hg27, rfl, rfl⟩
    · exact ca_callXt C dX6_with_27 (mX6_needType (cC_tr C) h27) (crc_spec hc27) vw6 (by decide) rfl tX6_m59 tI_X6_needType tS_X6_needType tZ6 tC_X6_needType tH_X6_needType (by omega) (by decide) (cs1_sum cs1_nil (Nat.le_of_ble_eq_true rfl)) (by omega) (by omega)
    replace hf := hg27
    refine ca_callXr C dX6_with_27 (mX6_needType (cC_tr C) h27) (crc_spec hc27) vw6 (by decide) rfl tX6_m59 tI_X6_needType tS_X6_needType tZ6 tC_X6_needType tH_X6_needType (by omega) (by decide) (cs1_sum cs1_nil (Nat.le_of_ble_eq_true rfl)) (by omega) (by omega) ?_
    refine ca_aload C dX6_with_30 rfl ?_
    refine ca_iconst C dX6_with_32 (v := 0) (by decide) ?_
    refine ca_iload_n C dX6_with_33 rfl rfl ?_
    obtain ⟨c34, hc34, hf⟩ := rob hf
    obtain ⟨q34, h34, hf⟩ := rob hf
    refine ca_callV C dX6_with_34 (mX2_placeOf (cC_tr C) h34) (crc_spec hc34) vw2 (by decide) rfl tX6_l131 tI_X2_placeOf tS_X2_placeOf tZ2 tC_X2_placeOf tH_X2_placeOf (by omega) (by decide) (cs1_sum cs1_nil (Nat.le_of_ble_eq_true rfl)) (by omega) (by omega) ?_
    refine ca_istore C dX6_with_37 (by decide) ?_
    refine ca_iload C dX6_with_39 rfl ?_
    refine ca_iconst C dX6_with_41 (v := (-1)) (by decide) ?_
    refine ca_icmp_eq C dX6_with_42 (tgt := 58) (by decide) (fun c42 => ?_) (fun c42 => ?_)
    · replace hf := rif_p c42 hf
      refine ca_mask [false, false, false, false, false, false, false, false, false] ?_
      exact bX6_with_b58 C o  _ hf (by omega) (by omega)
    · replace hf := rif_n c42 hf
      refine ca_aload C dX6_with_45 rfl ?_
      refine ca_iload C dX6_with_47 rfl ?_
      refine ca_iconst C dX6_with_49 (v := 2) (by decide) ?_
      obtain ⟨c50, hc50, hf⟩ := rob hf
      obtain ⟨q50, h50, hf⟩ := rob hf
      refine ca_callV C dX6_with_50 (mX2_get (cC_tr C) h50) (crc_spec hc50) vw2 (by decide) rfl tX6_l120 tI_X2_get tS_X2_get tZ2 tC_X2_get tH_X2_get (by omega) (by decide) (cs1_sum cs1_nil (Nat.le_of_ble_eq_true rfl)) (by omega) (by omega) ?_
      refine ca_bipush C dX6_with_53 (v := (-100)) (by decide) ?_
      refine ca_icmp_eq C dX6_with_55 (tgt := 68) (by decide) (fun c55 => ?_) (fun c55 => ?_)
      · replace hf := rif_p c55 hf
        refine ca_aload_n C dX6_with_68 rfl rfl ?_
        obtain ⟨x69, h69, hf⟩ := rob hf
        refine ca_getR C dX6_with_69 tcX6_f27 rfl rfl h69 ?_
        obtain ⟨q72, hq72, hf⟩ := rob hf
        obtain ⟨x72, h72, hf⟩ := rob hf
        refine ca_getI C dX6_with_72 tcX6_f169 rfl hq72 h72 ?_
        refine ca_istore C dX6_with_75 (by decide) ?_
        refine ca_aload_n C dX6_with_77 rfl rfl ?_
        obtain ⟨x78, h78, hf⟩ := rob hf
        refine ca_getR C dX6_with_78 tcX6_f27 rfl rfl h78 ?_
        refine ca_iload C dX6_with_81 rfl ?_
        obtain ⟨c83, hc83, hf⟩ := rob hf
        obtain ⟨v83, z83, ra83, rb83, sa83, sb83, h83, hg83, rfl, rfl⟩ := abind_spec hf
        replace hf := hg83
        refine ca_callV C dX6_with_83 (mX3_blank (cC_tr C) h83) (crc_spec hc83) vw3 (by decide) rfl tX6_l170 tI_X3_blank tS_X3_blank tZ3 tC_X3_blank tH_X3_blank (by omega) (by decide) (cs1_sum cs1_nil (Nat.le_of_ble_eq_true rfl)) (by omega) (by omega) ?_
        refine ca_astore C dX6_with_86 (by decide) ?_
        refine ca_aload C dX6_with_88 rfl ?_
        refine ca_ifnonnull C dX6_with_90 (tgt := 103) (by decide) (fun c90 => ?_) (fun c90 => ?_)
        · replace hf := rif_n c90 hf
          refine ca_aload C dX6_with_103 rfl ?_
          refine ca_aload C dX6_with_105 rfl ?_
          obtain ⟨c107, hc107, hf⟩ := rob hf
          obtain ⟨q107, h107, hf⟩ := rob hf
          refine ca_callV C dX6_with_107 (mX2_addAll (cC_tr C) h107) (crc_spec hc107) vw2 (by decide) rfl tX6_l162 tI_X2_addAll tS_X2_addAll tZ2 tC_X2_addAll tH_X2_addAll (by omega) (by decide) (cs1_sum cs1_nil (Nat.le_of_ble_eq_true rfl)) (by omega) (by omega) ?_
          refine ca_iload C dX6_with_110 rfl ?_
          refine ca_if_eq C dX6_with_112 (tgt := 145) (by decide) (fun c112 => ?_) (fun c112 => ?_)
          · replace hf := rif_p c112 hf
            refine ca_aload C dX6_with_145 rfl ?_
            refine ca_iload C dX6_with_147 rfl ?_
            refine ca_iconst C dX6_with_149 (v := 2) (by decide) ?_
            refine ca_iload_n C dX6_with_150 rfl rfl ?_
            obtain ⟨c151, hc151, hf⟩ := rob hf
            obtain ⟨q151, h151, hf⟩ := rob hf
            refine ca_callV C dX6_with_151 (mX2_set (cC_tr C) h151) (crc_spec hc151) vw2 (by decide) rfl tX6_l177 tI_X2_set tS_X2_set tZ2 tC_X2_set tH_X2_set (by omega) (by decide) (cs1_sum cs1_nil (Nat.le_of_ble_eq_true rfl)) (by omega) (by omega) ?_
            refine ca_mask [true, false, false, false, false, false, false, true, false] ?_
            exact bX6_with_b154 C o _ _ hf (by omega) (by omega)
          · replace hf := rif_n c112 hf
            refine ca_aload C dX6_with_115 rfl ?_
            refine ca_iconst C dX6_with_117 (v := (-1)) (by decide) ?_
            refine ca_iload_n C dX6_with_118 rfl rfl ?_
            refine ca_isub C dX6_with_119 ?_
            refine ca_iload_n C dX6_with_120 rfl rfl ?_
            obtain ⟨c121, hc121, hf⟩ := rob hf
            obtain ⟨q121, h121, hf⟩ := rob hf
            refine ca_callV C dX6_with_121 (mX2_tellEverywhere (cC_tr C) h121) (crc_spec hc121) vw2 (by decide) rfl tX6_l173 tI_X2_tellEverywhere tS_X2_tellEverywhere tZ2 tC_X2_tellEverywhere tH_X2_tellEverywhere (by omega) (by decide) (cs1_sum cs1_nil (Nat.le_of_ble_eq_true rfl)) (by omega) (by omega) ?_
            refine ca_aload C dX6_with_124 rfl ?_
            refine ca_iload C dX6_with_126 rfl ?_
            obtain ⟨c128, hc128, hf⟩ := rob hf
            obtain ⟨q128, h128, hf⟩ := rob hf
            refine ca_callV C dX6_with_128 (mX2_takeOut (cC_tr C) h128) (crc_spec hc128) vw2 (by decide) rfl tX6_l136 tI_X2_takeOut tS_X2_takeOut tZ2 tC_X2_takeOut tH_X2_takeOut (by omega) (by decide) (cs1_sum cs1_nil (Nat.le_of_ble_eq_true rfl)) (by omega) (by omega) ?_
            refine ca_aload C dX6_with_131 rfl ?_
            refine ca_dup C dX6_with_133 (va_rf_cat _) ?_
            obtain ⟨q134, hq134, hf⟩ := rob hf
            obtain ⟨x134, h134, hf⟩ := rob hf
            refine ca_getI C dX6_with_134 tcX6_f154 rfl hq134 h134 ?_
            refine ca_iconst C dX6_with_137 (v := 1) (by decide) ?_
            refine ca_isub C dX6_with_138 ?_
            obtain ⟨q139, hq139, hf⟩ := rob hf
            obtain ⟨z139, h139, hf⟩ := rob hf
            refine ca_putI C dX6_with_139 tcX6_f154 nX2_2 rfl tI2_2 hq139 h139 ?_
            refine ca_goto C dX6_with_142 (tgt := 154) (by decide) ?_
            refine ca_mask [true, false, false, false, false, false, false, true, false] ?_
            exact bX6_with_b154 C o _ _ hf (by omega) (by omega)
        · replace hf := rif_p c90 hf
          cases hf
          exact ca_throw C dX6_with_93 dX6_with_96 dX6_with_97 dX6_with_99 dX6_with_102 cfit2 tX6_k67 tX6_e2 tX6_t165 tX6_w71 tX6_g67_71 (by omega) (cs1_sum cs1_nil (Nat.le_of_ble_eq_true rfl)) (by omega) (by omega)
      · replace hf := rif_n c55 hf
        refine ca_mask [false, false, false, false, false, false, false, false, false] ?_
        exact bX6_with_b58 C o  _ hf (by omega) (by omega)
  · replace hf := rif_p c12 hf
    cases hf
    exact ca_throw C dX6_with_15 dX6_with_18 dX6_with_19 dX6_with_21 dX6_with_24 cfit0 tX6_k111 tX6_e0 tX6_t157 tX6_w115 tX6_g111_115 (by omega) (cs1_sum cs1_nil (Nat.le_of_ble_eq_true rfl)) (by omega) (by omega)
set_option maxRecDepth 100000 in
set_option maxHeartbeats 4000000 in
theorem mX6_with {l : Launch} (hl : l.stackTraces = false) {G : cG} {o : Nat} {a0 : Int32} {a1 : Int32} {a2 : Int32} {a3 : Int32} {z : cS} {w : Int32 ⊕ Nat} {z' : cS} {A B : Nat} (hf : fX6_with o a0 a1 a2 a3 z = some (w, z', A, B)) : cMx l G 7 yX6_with cX6_with 9 (some .int) [.ref o, .int a0, .int a1, .int a2, .int a3] z (cOi w, z', A, B) :=
  cMx_of (lo0 := [some (va_rf (some o)), some (.int a0), some (.int a1), some (.int a2), some (.int a3), none, none, none, none]) (by decide +kernel) rfl (cs1_q (cs1_i (cs1_i (cs1_i (cs1_i cs1_nil))))) (Nat.le_of_ble_eq_true rfl) rfl hl (fun X hX C => bX6_with C o a0 a1 a2 a3 z (kc := 0) (ks := 0) hf (Nat.zero_add _).symm (Nat.zero_add _).symm)
set_option maxRecDepth 100000 in
set_option maxHeartbeats 4000000 in
theorem bX6_specs {G : cG} {X : rX} {z0 : cS} {w : Int32 ⊕ Nat} {z' : cS} {A B : Nat} (C : cC G X z0 RX6 3 cX6_specs (some .int) 6 A B) (o : Nat) (a0 : Int32) (z : cS) {kc ks ra rb : Nat} (hf : fX6_specs o a0 z = some (w, z', ra, rb)) (ha : A = kc + ra) (hb : B = ks + rb) : cAW true G X z0 (cOi w, z', A, B) 3 0 [some (va_rf (some o)), some (.int a0), none] [] z kc ks := by
  unfold fX6_specs at hf
  refine ca_aload_n C dX6_specs_0 rfl rfl ?_
  obtain ⟨x1, h1, hf⟩ := rob hf
  refine ca_getR C dX6_specs_1 tcX6_f27 rfl rfl h1 ?_
  refine ca_iload_n C dX6_specs_4 rfl rfl ?_
  obtain ⟨c5, hc5, hf⟩ := rob hf
  obtain ⟨q5, h5, hf⟩ := rob hf
  refine ca_callV C dX6_specs_5 (mX3_at (cC_tr C) h5) (crc_spec hc5) vw3 (by decide) rfl tX6_l103 tI_X3_at tS_X3_at tZ3 tC_X3_at tH_X3_at (by omega) (by decide) (cs1_sum cs1_nil (Nat.le_of_ble_eq_true rfl)) (by omega) (by omega) ?_
  refine ca_astore_n C dX6_specs_8 rfl (by decide) ?_
  refine ca_aload_n C dX6_specs_9 rfl rfl ?_
  refine ca_ifnonnull C dX6_specs_10 (tgt := 23) (by decide) (fun c10 => ?_) (fun c10 => ?_)
  · replace hf := rif_n c10 hf
    refine ca_aload_n C dX6_specs_23 rfl rfl ?_
    obtain ⟨q24, hq24, hf⟩ := rob hf
    obtain ⟨x24, h24, hf⟩ := rob hf
    refine ca_getI C dX6_specs_24 tcX6_f116 rfl hq24 h24 ?_
    cases hf
    exact ca_iret C dX6_specs_27 (by omega) (by omega)
  · replace hf := rif_p c10 hf
    cases hf
    exact ca_throw C dX6_specs_13 dX6_specs_16 dX6_specs_17 dX6_specs_19 dX6_specs_22 cfit0 tX6_k111 tX6_e0 tX6_t157 tX6_w115 tX6_g111_115 (by omega) (cs1_sum cs1_nil (Nat.le_of_ble_eq_true rfl)) (by omega) (by omega)
set_option maxRecDepth 100000 in
set_option maxHeartbeats 4000000 in
theorem mX6_specs {l : Launch} (hl : l.stackTraces = false) {G : cG} {o : Nat} {a0 : Int32} {z : cS} {w : Int32 ⊕ Nat} {z' : cS} {A B : Nat} (hf : fX6_specs o a0 z = some (w, z', A, B)) : cMx l G 6 yX6_specs cX6_specs 3 (some .int) [.ref o, .int a0] z (cOi w, z', A, B) :=
  cMx_of (lo0 := [some (va_rf (some o)), some (.int a0), none]) (by decide +kernel) rfl (cs1_q (cs1_i cs1_nil)) (Nat.le_of_ble_eq_true rfl) rfl hl (fun X hX C => bX6_specs C o a0 z (kc := 0) (ks := 0) hf (Nat.zero_add _).symm (Nat.zero_add _).symm)
set_option maxRecDepth 100000 in
set_option maxHeartbeats 4000000 in
theorem bX6_isSameType_b176 {G : cG} {X : rX} {z0 : cS} {r : Int32 × cS} (C : cC G X z0 RX6 11 cX6_isSameType (some .boolean) 2 0 0) (o : Nat) (s0 : Int32) (z : cS) (hf : fX6_isSameType_b176 o s0 z = some r) : cAW false G X z0 (.inl (some (.int r.1)), r.2, 0, 0) 11 176 [none, none, none, none, none, none, none, none, none, none, none] [.int s0] z 0 0 := by
  unfold fX6_isSameType_b176 at hf
  obtain ⟨hn, hf⟩ := cbo_spec hf
  obtain rfl := Option.some.inj hf
  exact ca_zret C hn dX6_isSameType_176 (by omega) (by omega)
set_option maxRecDepth 100000 in
set_option maxHeartbeats 4000000 in
theorem bX6_isSameType_b175 {G : cG} {X : rX} {z0 : cS} {r : Int32 × cS} (C : cC G X z0 RX6 11 cX6_isSameType (some .boolean) 2 0 0) (o : Nat) (z : cS) (hf : fX6_isSameType_b175 o  z = some r) : cAW false G X z0 (.inl (some (.int r.1)), r.2, 0, 0) 11 175 [none, none, none, none, none, none, none, none, none, none, none] [] z 0 0 := by
  unfold fX6_isSameType_b175 at hf
  refine ca_iconst C dX6_isSameType_175 (v := 0) (by decide) ?_
  exact bX6_isSameType_b176 C o _ _ hf
set_option maxRecDepth 100000 in
set_option maxHeartbeats 4000000 in
theorem bX6_isSameType_b155 {G : cG} {X : rX} {z0 : cS} {r : Int32 × cS} (C : cC G X z0 RX6 11 cX6_isSameType (some .boolean) 2 0 0) (o : Nat) (l7 : Int32) (l8 : Int32) (l9 : Int32) (s0 : Int32) (z : cS) (hf : fX6_isSameType_b155 o l7 l8 l9 s0 z = some r) : cAW false G X z0 (.inl (some (.int r.1)), r.2, 0, 0) 11 155 [none, none, none, none, none, none, none, some (.int l7), some (.int l8), some (.int l9), none] [.int s0] z 0 0 := by
  unfold fX6_isSameType_b155 at hf
  refine ca_istore C dX6_isSameType_155 (by decide) ?_
  refine ca_iload C dX6_isSameType_157 rfl ?_
  refine ca_iload C dX6_isSameType_159 rfl ?_
  refine ca_icmp_ne C dX6_isSameType_161 (tgt := 175) (by decide) (fun c161 => ?_) (fun c161 => ?_)
  · replace hf := rif_n c161 hf
    refine ca_mask [false, false, false, false, false, false, false, false, false, false, false] ?_
    exact bX6_isSameType_b175 C o  _ hf
  · replace hf := rif_p c161 hf
    refine ca_iload C dX6_isSameType_164 rfl ?_
    refine ca_iload C dX6_isSameType_166 rfl ?_
    refine ca_icmp_ne C dX6_isSameType_168 (tgt := 175) (by decide) (fun c168 => ?_) (fun c168 => ?_)
    · replace hf := rif_n c168 hf
      refine ca_mask [false, false, false, false, false, false, false, false, false, false, false] ?_
      exact bX6_isSameType_b175 C o  _ hf
    · replace hf := rif_p c168 hf
      refine ca_iconst C dX6_isSameType_171 (v := 1) (by decide) ?_
      refine ca_goto C dX6_isSameType_172 (tgt := 176) (by decide) ?_
      refine ca_mask [false, false, false, false, false, false, false, false, false, false, false] ?_
      exact bX6_isSameType_b176 C o _ _ hf
set_option maxRecDepth 100000 in
set_option maxHeartbeats 4000000 in
theorem bX6_isSameType_b133 {G : cG} {X : rX} {z0 : cS} {r : Int32 × cS} (C : cC G X z0 RX6 11 cX6_isSameType (some .boolean) 2 0 0) (o : Nat) (l3 : Int32) (l4 : Int32) (l7 : Int32) (l8 : Int32) (s0 : Int32) (z : cS) (hf : fX6_isSameType_b133 o l3 l4 l7 l8 s0 z = some r) : cAW false G X z0 (.inl (some (.int r.1)), r.2, 0, 0) 11 133 [some (va_rf (some o)), none, none, some (.int l3), some (.int l4), none, none, some (.int l7), some (.int l8), none, none] [.int s0] z 0 0 := by
  unfold fX6_isSameType_b133 at hf
  refine ca_istore C dX6_isSameType_133 (by decide) ?_
  refine ca_iload C dX6_isSameType_135 rfl ?_
  refine ca_bipush C dX6_isSameType_137 (v := (-100)) (by decide) ?_
  refine ca_icmp_ne C dX6_isSameType_139 (tgt := 153) (by decide) (fun c139 => ?_) (fun c139 => ?_)
  · replace hf := rif_n c139 hf
    refine ca_iload C dX6_isSameType_153 rfl ?_
    refine ca_mask [false, false, false, false, false, false, false, true, true, true, false] ?_
    exact bX6_isSameType_b155 C o _ _ _ _ _ hf
  · replace hf := rif_p c139 hf
    refine ca_aload_n C dX6_isSameType_142 rfl rfl ?_
    obtain ⟨x143, h143, hf⟩ := rob hf
    refine ca_getR C dX6_isSameType_143 tcX6_f12 rfl rfl h143 ?_
    refine ca_iload_n C dX6_isSameType_146 rfl rfl ?_
    obtain ⟨c147, hc147, hf⟩ := rob hf
    obtain ⟨q147, h147, hf⟩ := rob hf
    refine ca_callV C dX6_isSameType_147 (mX4_toOf (cC_tr C) h147) (crc_spec hc147) vw4 (by decide) rfl tX6_l81 tI_X4_toOf tS_X4_toOf tZ4 tC_X4_toOf tH_X4_toOf (by omega) (by decide) (cs1_sum cs1_nil (Nat.le_of_ble_eq_true rfl)) (by omega) (by omega) ?_
    refine ca_goto C dX6_isSameType_150 (tgt := 155) (by decide) ?_
    refine ca_mask [false, false, false, false, false, false, false, true, true, true, false] ?_
    exact bX6_isSameType_b155 C o _ _ _ _ _ hf
set_option maxRecDepth 100000 in
set_option maxHeartbeats 4000000 in
theorem bX6_isSameType_b113 {G : cG} {X : rX} {z0 : cS} {r : Int32 × cS} (C : cC G X z0 RX6 11 cX6_isSameType (some .boolean) 2 0 0) (o : Nat) (l1 : Int32) (l2 : Int32) (l3 : Int32) (l4 : Int32) (l7 : Int32) (s0 : Int32) (z : cS) (hf : fX6_isSameType_b113 o l1 l2 l3 l4 l7 s0 z = some r) : cAW false G X z0 (.inl (some (.int r.1)), r.2, 0, 0) 11 113 [some (va_rf (some o)), some (.int l1), some (.int l2), some (.int l3), some (.int l4), none, none, some (.int l7), none, none, none] [.int s0] z 0 0 := by
  unfold fX6_isSameType_b113 at hf
  refine ca_istore C dX6_isSameType_113 (by decide) ?_
  refine ca_iload_n C dX6_isSameType_115 rfl rfl ?_
  refine ca_bipush C dX6_isSameType_116 (v := (-100)) (by decide) ?_
  refine ca_icmp_ne C dX6_isSameType_118 (tgt := 132) (by decide) (fun c118 => ?_) (fun c118 => ?_)
  · replace hf := rif_n c118 hf
    refine ca_iload_n C dX6_isSameType_132 rfl rfl ?_
    refine ca_mask [true, false, false, true, true, false, false, true, true, false, false] ?_
    exact bX6_isSameType_b133 C o _ _ _ _ _ _ hf
  · replace hf := rif_p c118 hf
    refine ca_aload_n C dX6_isSameType_121 rfl rfl ?_
    obtain ⟨x122, h122, hf⟩ := rob hf
    refine ca_getR C dX6_isSameType_122 tcX6_f12 rfl rfl h122 ?_
    refine ca_iload_n C dX6_isSameType_125 rfl rfl ?_
    obtain ⟨c126, hc126, hf⟩ := rob hf
    obtain ⟨q126, h126, hf⟩ := rob hf
    refine ca_callV C dX6_isSameType_126 (mX4_toOf (cC_tr C) h126) (crc_spec hc126) vw4 (by decide) rfl tX6_l81 tI_X4_toOf tS_X4_toOf tZ4 tC_X4_toOf tH_X4_toOf (by omega) (by decide) (cs1_sum cs1_nil (Nat.le_of_ble_eq_true rfl)) (by omega) (by omega) ?_
    refine ca_goto C dX6_isSameType_129 (tgt := 133) (by decide) ?_
    refine ca_mask [true, false, false, true, true, false, false, true, true, false, false] ?_
    exact bX6_isSameType_b133 C o _ _ _ _ _ _ hf
set_option maxRecDepth 100000 in
set_option maxHeartbeats 4000000 in
theorem bX6_isSameType_b92 {G : cG} {X : rX} {z0 : cS} {r : Int32 × cS} (C : cC G X z0 RX6 11 cX6_isSameType (some .boolean) 2 0 0) (o : Nat) (l1 : Int32) (l2 : Int32) (l3 : Int32) (l4 : Int32) (s0 : Int32) (z : cS) (hf : fX6_isSameType_b92 o l1 l2 l3 l4 s0 z = some r) : cAW false G X z0 (.inl (some (.int r.1)), r.2, 0, 0) 11 92 [some (va_rf (some o)), some (.int l1), some (.int l2), some (.int l3), some (.int l4), none, none, none, none, none, none] [.int s0] z 0 0 := by
  unfold fX6_isSameType_b92 at hf
  refine ca_istore C dX6_isSameType_92 (by decide) ?_
  refine ca_iload C dX6_isSameType_94 rfl ?_
  refine ca_bipush C dX6_isSameType_96 (v := (-100)) (by decide) ?_
  refine ca_icmp_ne C dX6_isSameType_98 (tgt := 112) (by decide) (fun c98 => ?_) (fun c98 => ?_)
  · replace hf := rif_n c98 hf
    refine ca_iload_n C dX6_isSameType_112 rfl rfl ?_
    exact bX6_isSameType_b113 C o _ _ _ _ _ _ _ hf
  · replace hf := rif_p c98 hf
    refine ca_aload_n C dX6_isSameType_101 rfl rfl ?_
    obtain ⟨x102, h102, hf⟩ := rob hf
    refine ca_getR C dX6_isSameType_102 tcX6_f12 rfl rfl h102 ?_
    refine ca_iload_n C dX6_isSameType_105 rfl rfl ?_
    obtain ⟨c106, hc106, hf⟩ := rob hf
    obtain ⟨q106, h106, hf⟩ := rob hf
    refine ca_callV C dX6_isSameType_106 (mX4_fromOf (cC_tr C) h106) (crc_spec hc106) vw4 (by decide) rfl tX6_l78 tI_X4_fromOf tS_X4_fromOf tZ4 tC_X4_fromOf tH_X4_fromOf (by omega) (by decide) (cs1_sum cs1_nil (Nat.le_of_ble_eq_true rfl)) (by omega) (by omega) ?_
    refine ca_goto C dX6_isSameType_109 (tgt := 113) (by decide) ?_
    exact bX6_isSameType_b113 C o _ _ _ _ _ _ _ hf
set_option maxRecDepth 100000 in
set_option maxHeartbeats 4000000 in
theorem bX6_isSameType_b73 {G : cG} {X : rX} {z0 : cS} {r : Int32 × cS} (C : cC G X z0 RX6 11 cX6_isSameType (some .boolean) 2 0 0) (o : Nat) (s0 : Int32) (z : cS) (hf : fX6_isSameType_b73 o s0 z = some r) : cAW false G X z0 (.inl (some (.int r.1)), r.2, 0, 0) 11 73 [none, none, none, none, none, none, none, none, none, none, none] [.int s0] z 0 0 := by
  unfold fX6_isSameType_b73 at hf
  obtain ⟨hn, hf⟩ := cbo_spec hf
  obtain rfl := Option.some.inj hf
  exact ca_zret C hn dX6_isSameType_73 (by omega) (by omega)
set_option maxRecDepth 100000 in
set_option maxHeartbeats 4000000 in
theorem bX6_isSameType_b47 {G : cG} {X : rX} {z0 : cS} {r : Int32 × cS} (C : cC G X z0 RX6 11 cX6_isSameType (some .boolean) 2 0 0) (o : Nat) (l1 : Int32) (l2 : Int32) (l3 : Int32) (l4 : Int32) (l5 : Int32) (s0 : Int32) (z : cS) (hf : fX6_isSameType_b47 o l1 l2 l3 l4 l5 s0 z = some r) : cAW false G X z0 (.inl (some (.int r.1)), r.2, 0, 0) 11 47 [some (va_rf (some o)), some (.int l1), some (.int l2), some (.int l3), some (.int l4), some (.int l5), none, none, none, none, none] [.int s0] z 0 0 := by
  unfold fX6_isSameType_b47 at hf
  refine ca_istore C dX6_isSameType_47 (by decide) ?_
  refine ca_iload C dX6_isSameType_49 rfl ?_
  refine ca_iload C dX6_isSameType_51 rfl ?_
  refine ca_icmp_eq C dX6_isSameType_53 (tgt := 58) (by decide) (fun c53 => ?_) (fun c53 => ?_)
  · replace hf := rif_p c53 hf
    refine ca_iload C dX6_isSameType_58 rfl ?_
    refine ca_if_ne C dX6_isSameType_60 (tgt := 74) (by decide) (fun c60 => ?_) (fun c60 => ?_)
    · replace hf := rif_n c60 hf
      refine ca_iload_n C dX6_isSameType_74 rfl rfl ?_
      refine ca_bipush C dX6_isSameType_75 (v := (-100)) (by decide) ?_
      refine ca_icmp_ne C dX6_isSameType_77 (tgt := 91) (by decide) (fun c77 => ?_) (fun c77 => ?_)
      · replace hf := rif_n c77 hf
        refine ca_iload_n C dX6_isSameType_91 rfl rfl ?_
        refine ca_mask [true, true, true, true, true, false, false, false, false, false, false] ?_
        exact bX6_isSameType_b92 C o _ _ _ _ _ _ hf
      · replace hf := rif_p c77 hf
        refine ca_aload_n C dX6_isSameType_80 rfl rfl ?_
        obtain ⟨x81, h81, hf⟩ := rob hf
        refine ca_getR C dX6_isSameType_81 tcX6_f12 rfl rfl h81 ?_
        refine ca_iload_n C dX6_isSameType_84 rfl rfl ?_
        obtain ⟨c85, hc85, hf⟩ := rob hf
        obtain ⟨q85, h85, hf⟩ := rob hf
        refine ca_callV C dX6_isSameType_85 (mX4_fromOf (cC_tr C) h85) (crc_spec hc85) vw4 (by decide) rfl tX6_l78 tI_X4_fromOf tS_X4_fromOf tZ4 tC_X4_fromOf tH_X4_fromOf (by omega) (by decide) (cs1_sum cs1_nil (Nat.le_of_ble_eq_true rfl)) (by omega) (by omega) ?_
        refine ca_goto C dX6_isSameType_88 (tgt := 92) (by decide) ?_
        refine ca_mask [true, true, true, true, true, false, false, false, false, false, false] ?_
        exact bX6_isSameType_b92 C o _ _ _ _ _ _ hf
    · replace hf := rif_p c60 hf
      refine ca_iload_n C dX6_isSameType_63 rfl rfl ?_
      refine ca_iload_n C dX6_isSameType_64 rfl rfl ?_
      refine ca_icmp_ne C dX6_isSameType_65 (tgt := 72) (by decide) (fun c65 => ?_) (fun c65 => ?_)
      · replace hf := rif_n c65 hf
        refine ca_iconst C dX6_isSameType_72 (v := 0) (by decide) ?_
        refine ca_mask [false, false, false, false, false, false, false, false, false, false, false] ?_
        exact bX6_isSameType_b73 C o _ _ hf
      · replace hf := rif_p c65 hf
        refine ca_iconst C dX6_isSameType_68 (v := 1) (by decide) ?_
        refine ca_goto C dX6_isSameType_69 (tgt := 73) (by decide) ?_
        refine ca_mask [false, false, false, false, false, false, false, false, false, false, false] ?_
        exact bX6_isSameType_b73 C o _ _ hf
  · replace hf := rif_n c53 hf
    refine ca_iconst C dX6_isSameType_56 (v := 0) (by decide) ?_
    obtain ⟨hn, hf⟩ := cbo_spec hf
    obtain rfl := Option.some.inj hf
    exact ca_zret C hn dX6_isSameType_57 (by omega) (by omega)
set_option maxRecDepth 100000 in
set_option maxHeartbeats 4000000 in
theorem bX6_isSameType_b42 {G : cG} {X : rX} {z0 : cS} {r : Int32 × cS} (C : cC G X z0 RX6 11 cX6_isSameType (some .boolean) 2 0 0) (o : Nat) (l1 : Int32) (l2 : Int32) (l3 : Int32) (l4 : Int32) (l5 : Int32) (z : cS) (hf : fX6_isSameType_b42 o l1 l2 l3 l4 l5 z = some r) : cAW false G X z0 (.inl (some (.int r.1)), r.2, 0, 0) 11 42 [some (va_rf (some o)), some (.int l1), some (.int l2), some (.int l3), some (.int l4), some (.int l5), none, none, none, none, none] [] z 0 0 := by
  unfold fX6_isSameType_b42 at hf
  refine ca_iconst C dX6_isSameType_42 (v := 1) (by decide) ?_
  refine ca_goto C dX6_isSameType_43 (tgt := 47) (by decide) ?_
  exact bX6_isSameType_b47 C o _ _ _ _ _ _ _ hf
set_option maxRecDepth 100000 in
set_option maxHeartbeats 4000000 in
theorem bX6_isSameType_b22 {G : cG} {X : rX} {z0 : cS} {r : Int32 × cS} (C : cC G X z0 RX6 11 cX6_isSameType (some .boolean) 2 0 0) (o : Nat) (l1 : Int32) (l2 : Int32) (l3 : Int32) (l4 : Int32) (s0 : Int32) (z : cS) (hf : fX6_isSameType_b22 o l1 l2 l3 l4 s0 z = some r) : cAW false G X z0 (.inl (some (.int r.1)), r.2, 0, 0) 11 22 [some (va_rf (some o)), some (.int l1), some (.int l2), some (.int l3), some (.int l4), none, none, none, none, none, none] [.int s0] z 0 0 := by
  unfold fX6_isSameType_b22 at hf
  refine ca_istore C dX6_isSameType_22 (by decide) ?_
  refine ca_iload C dX6_isSameType_24 rfl ?_
  refine ca_bipush C dX6_isSameType_26 (v := (-100)) (by decide) ?_
  refine ca_icmp_ne C dX6_isSameType_28 (tgt := 42) (by decide) (fun c28 => ?_) (fun c28 => ?_)
  · replace hf := rif_n c28 hf
    exact bX6_isSameType_b42 C o _ _ _ _ _ _ hf
  · replace hf := rif_p c28 hf
    refine ca_aload_n C dX6_isSameType_31 rfl rfl ?_
    obtain ⟨x32, h32, hf⟩ := rob hf
    refine ca_getR C dX6_isSameType_32 tcX6_f12 rfl rfl h32 ?_
    refine ca_iload_n C dX6_isSameType_35 rfl rfl ?_
    obtain ⟨c36, hc36, hf⟩ := rob hf
    obtain ⟨q36, h36, hf⟩ := rob hf
    refine ca_callV C dX6_isSameType_36 (mX4_isArrow (cC_tr C) h36) (crc_spec hc36) vw4 (by decide) rfl tX6_l205 tI_X4_isArrow tS_X4_isArrow tZ4 tC_X4_isArrow tH_X4_isArrow (by omega) (by decide) (cs1_sum cs1_nil (Nat.le_of_ble_eq_true rfl)) (by omega) (by omega) ?_
    refine ca_if_eq C dX6_isSameType_39 (tgt := 46) (by decide) (fun c39 => ?_) (fun c39 => ?_)
    · replace hf := rif_p c39 hf
      refine ca_iconst C dX6_isSameType_46 (v := 0) (by decide) ?_
      exact bX6_isSameType_b47 C o _ _ _ _ _ _ _ hf
    · replace hf := rif_n c39 hf
      exact bX6_isSameType_b42 C o _ _ _ _ _ _ hf
set_option maxRecDepth 100000 in
set_option maxHeartbeats 4000000 in
theorem bX6_isSameType_b17 {G : cG} {X : rX} {z0 : cS} {r : Int32 × cS} (C : cC G X z0 RX6 11 cX6_isSameType (some .boolean) 2 0 0) (o : Nat) (l1 : Int32) (l2 : Int32) (l3 : Int32) (l4 : Int32) (z : cS) (hf : fX6_isSameType_b17 o l1 l2 l3 l4 z = some r) : cAW false G X z0 (.inl (some (.int r.1)), r.2, 0, 0) 11 17 [some (va_rf (some o)), some (.int l1), some (.int l2), some (.int l3), some (.int l4), none, none, none, none, none, none] [] z 0 0 := by
  unfold fX6_isSameType_b17 at hf
  refine ca_iconst C dX6_isSameType_17 (v := 1) (by decide) ?_
  refine ca_goto C dX6_isSameType_18 (tgt := 22) (by decide) ?_
  exact bX6_isSameType_b22 C o _ _ _ _ _ _ hf
set_option maxRecDepth 100000 in
set_option maxHeartbeats 4000000 in
theorem bX6_isSameType {G : cG} {X : rX} {z0 : cS} {r : Int32 × cS} (C : cC G X z0 RX6 11 cX6_isSameType (some .boolean) 2 0 0) (o : Nat) (a0 : Int32) (a1 : Int32) (a2 : Int32) (a3 : Int32) (z : cS) (hf : fX6_isSameType o a0 a1 a2 a3 z = some r) : cAW false G X z0 (.inl (some (.int r.1)), r.2, 0, 0) 11 0 [some (va_rf (some o)), some (.int a0), some (.int a1), some (.int a2), some (.int a3), none, none, none, none, none, none] [] z 0 0 := by
  unfold fX6_isSameType at hf
  refine ca_iload_n C dX6_isSameType_0 rfl rfl ?_
  refine ca_bipush C dX6_isSameType_1 (v := (-100)) (by decide) ?_
  refine ca_icmp_ne C dX6_isSameType_3 (tgt := 17) (by decide) (fun c3 => ?_) (fun c3 => ?_)
  · replace hf := rif_n c3 hf
    exact bX6_isSameType_b17 C o _ _ _ _ _ hf
  · replace hf := rif_p c3 hf
    refine ca_aload_n C dX6_isSameType_6 rfl rfl ?_
    obtain ⟨x7, h7, hf⟩ := rob hf
    refine ca_getR C dX6_isSameType_7 tcX6_f12 rfl rfl h7 ?_
    refine ca_iload_n C dX6_isSameType_10 rfl rfl ?_
    obtain ⟨c11, hc11, hf⟩ := rob hf
    obtain ⟨q11, h11, hf⟩ := rob hf
    refine ca_callV C dX6_isSameType_11 (mX4_isArrow (cC_tr C) h11) (crc_spec hc11) vw4 (by decide) rfl tX6_l205 tI_X4_isArrow tS_X4_isArrow tZ4 tC_X4_isArrow tH_X4_isArrow (by omega) (by decide) (cs1_sum cs1_nil (Nat.le_of_ble_eq_true rfl)) (by omega) (by omega) ?_
    refine ca_if_eq C dX6_isSameType_14 (tgt := 21) (by decide) (fun c14 => ?_) (fun c14 => ?_)
    · replace hf := rif_p c14 hf
      refine ca_iconst C dX6_isSameType_21 (v := 0) (by decide) ?_
      exact bX6_isSameType_b22 C o _ _ _ _ _ _ hf
    · replace hf := rif_n c14 hf
      exact bX6_isSameType_b17 C o _ _ _ _ _ hf
set_option maxRecDepth 100000 in
set_option maxHeartbeats 4000000 in
theorem mX6_isSameType {l : Launch} (hl : l.stackTraces = false) {G : cG} {o : Nat} {a0 : Int32} {a1 : Int32} {a2 : Int32} {a3 : Int32} {z : cS} {r : Int32 × cS} (hf : fX6_isSameType o a0 a1 a2 a3 z = some r) : cM l G 2 yX6_isSameType cX6_isSameType 11 (some .boolean) [.ref o, .int a0, .int a1, .int a2, .int a3] z (.inl (some (.int r.1)), r.2, 0, 0) :=
  cM_of (lo0 := [some (va_rf (some o)), some (.int a0), some (.int a1), some (.int a2), some (.int a3), none, none, none, none, none, none]) (by decide +kernel) rfl (cs1_q (cs1_i (cs1_i (cs1_i (cs1_i cs1_nil))))) (Nat.le_of_ble_eq_true rfl) rfl hl (fun X hX _ C => bX6_isSameType C o a0 a1 a2 a3 z hf)
set_option maxRecDepth 100000 in
set_option maxHeartbeats 4000000 in
theorem bX6_fitsType_b53 {G : cG} {X : rX} {z0 : cS} {r : Int32 × cS} (C : cC G X z0 RX6 6 cX6_fitsType (some .boolean) 3 0 0) (o : Nat) (s0 : Int32) (z : cS) (hf : fX6_fitsType_b53 o s0 z = some r) : cAW false G X z0 (.inl (some (.int r.1)), r.2, 0, 0) 6 53 [none, none, none, none, none, none] [.int s0] z 0 0 := by
  unfold fX6_fitsType_b53 at hf
  obtain ⟨hn, hf⟩ := cbo_spec hf
  obtain rfl := Option.some.inj hf
  exact ca_zret C hn dX6_fitsType_53 (by omega) (by omega)
set_option maxRecDepth 100000 in
set_option maxHeartbeats 4000000 in
theorem bX6_fitsType_b48 {G : cG} {X : rX} {z0 : cS} {r : Int32 × cS} (C : cC G X z0 RX6 6 cX6_fitsType (some .boolean) 3 0 0) (o : Nat) (z : cS) (hf : fX6_fitsType_b48 o  z = some r) : cAW false G X z0 (.inl (some (.int r.1)), r.2, 0, 0) 6 48 [none, none, none, none, none, none] [] z 0 0 := by
  unfold fX6_fitsType_b48 at hf
  refine ca_iconst C dX6_fitsType_48 (v := 1) (by decide) ?_
  refine ca_goto C dX6_fitsType_49 (tgt := 53) (by decide) ?_
  exact bX6_fitsType_b53 C o _ _ hf
set_option maxRecDepth 100000 in
set_option maxHeartbeats 4000000 in
theorem bX6_fitsType {G : cG} {X : rX} {z0 : cS} {r : Int32 × cS} (C : cC G X z0 RX6 6 cX6_fitsType (some .boolean) 3 0 0) (o : Nat) (a0 : Option Nat) (a1 : Int32) (a2 : Option Nat) (a3 : Int32) (z : cS) (hf : fX6_fitsType o a0 a1 a2 a3 z = some r) : cAW false G X z0 (.inl (some (.int r.1)), r.2, 0, 0) 6 0 [some (va_rf (some o)), some (va_rf a0), some (.int a1), some (va_rf a2), some (.int a3), none] [] z 0 0 := by
  unfold fX6_fitsType at hf
  refine ca_aload_n C dX6_fitsType_0 rfl rfl ?_
  refine ca_iload C dX6_fitsType_1 rfl ?_
  refine ca_iconst C dX6_fitsType_3 (v := 2) (by decide) ?_
  obtain ⟨c4, hc4, hf⟩ := rob hf
  obtain ⟨q4, h4, hf⟩ := rob hf
  refine ca_callV C dX6_fitsType_4 (mX2_get (cC_tr C) h4) (crc_spec hc4) vw2 (by decide) rfl tX6_l120 tI_X2_get tS_X2_get tZ2 tC_X2_get tH_X2_get (by omega) (by decide) (cs1_sum cs1_nil (Nat.le_of_ble_eq_true rfl)) (by omega) (by omega) ?_
  refine ca_istore C dX6_fitsType_7 (by decide) ?_
  refine ca_aload_n C dX6_fitsType_9 rfl rfl ?_
  refine ca_iload C dX6_fitsType_10 rfl ?_
  refine ca_iconst C dX6_fitsType_12 (v := 0) (by decide) ?_
  obtain ⟨c13, hc13, hf⟩ := rob hf
  obtain ⟨q13, h13, hf⟩ := rob hf
  refine ca_callV C dX6_fitsType_13 (mX2_get (cC_tr C) h13) (crc_spec hc13) vw2 (by decide) rfl tX6_l120 tI_X2_get tS_X2_get tZ2 tC_X2_get tH_X2_get (by omega) (by decide) (cs1_sum cs1_nil (Nat.le_of_ble_eq_true rfl)) (by omega) (by omega) ?_
  refine ca_if_ne C dX6_fitsType_16 (tgt := 54) (by decide) (fun c16 => ?_) (fun c16 => ?_)
  · replace hf := rif_n c16 hf
    refine ca_aload_n C dX6_fitsType_54 rfl rfl ?_
    refine ca_aload_n C dX6_fitsType_55 rfl rfl ?_
    refine ca_aload_n C dX6_fitsType_56 rfl rfl ?_
    refine ca_iload_n C dX6_fitsType_57 rfl rfl ?_
    refine ca_iconst C dX6_fitsType_58 (v := 2) (by decide) ?_
    obtain ⟨c59, hc59, hf⟩ := rob hf
    obtain ⟨q59, h59, hf⟩ := rob hf
    refine ca_callV C dX6_fitsType_59 (mX2_get (cC_tr C) h59) (crc_spec hc59) vw2 (by decide) rfl tX6_l120 tI_X2_get tS_X2_get tZ2 tC_X2_get tH_X2_get (by omega) (by decide) (cs1_sum (cs1_r (cs1_r cs1_nil)) (Nat.le_of_ble_eq_true rfl)) (by omega) (by omega) ?_
    obtain ⟨c62, hc62, hf⟩ := rob hf
    obtain ⟨q62, h62, hf⟩ := rob hf
    refine ca_callV C dX6_fitsType_62 (mX2_typeOf (cC_tr C) h62) (crc_spec hc62) vw2 (by decide) rfl tX6_l199 tI_X2_typeOf tS_X2_typeOf tZ2 tC_X2_typeOf tH_X2_typeOf (by omega) (by decide) (cs1_sum (cs1_r cs1_nil) (Nat.le_of_ble_eq_true rfl)) (by omega) (by omega) ?_
    refine ca_aload_n C dX6_fitsType_65 rfl rfl ?_
    refine ca_aload_n C dX6_fitsType_66 rfl rfl ?_
    refine ca_iload_n C dX6_fitsType_67 rfl rfl ?_
    refine ca_iconst C dX6_fitsType_68 (v := 3) (by decide) ?_
    obtain ⟨c69, hc69, hf⟩ := rob hf
    obtain ⟨q69, h69, hf⟩ := rob hf
    refine ca_callV C dX6_fitsType_69 (mX2_get (cC_tr C) h69) (crc_spec hc69) vw2 (by decide) rfl tX6_l120 tI_X2_get tS_X2_get tZ2 tC_X2_get tH_X2_get (by omega) (by decide) (cs1_sum (cs1_r (cs1_i (cs1_r cs1_nil))) (Nat.le_of_ble_eq_true rfl)) (by omega) (by omega) ?_
    obtain ⟨c72, hc72, hf⟩ := rob hf
    obtain ⟨q72, h72, hf⟩ := rob hf
    refine ca_callV C dX6_fitsType_72 (mX2_typeOf (cC_tr C) h72) (crc_spec hc72) vw2 (by decide) rfl tX6_l199 tI_X2_typeOf tS_X2_typeOf tZ2 tC_X2_typeOf tH_X2_typeOf (by omega) (by decide) (cs1_sum (cs1_i (cs1_r cs1_nil)) (Nat.le_of_ble_eq_true rfl)) (by omega) (by omega) ?_
    refine ca_aload_n C dX6_fitsType_75 rfl rfl ?_
    refine ca_iload C dX6_fitsType_76 rfl ?_
    obtain ⟨c78, hc78, hf⟩ := rob hf
    obtain ⟨q78, h78, hf⟩ := rob hf
    refine ca_callV C dX6_fitsType_78 (mX2_typeOf (cC_tr C) h78) (crc_spec hc78) vw2 (by decide) rfl tX6_l199 tI_X2_typeOf tS_X2_typeOf tZ2 tC_X2_typeOf tH_X2_typeOf (by omega) (by decide) (cs1_sum (cs1_i (cs1_i (cs1_r cs1_nil))) (Nat.le_of_ble_eq_true rfl)) (by omega) (by omega) ?_
    refine ca_aload_n C dX6_fitsType_81 rfl rfl ?_
    refine ca_aload_n C dX6_fitsType_82 rfl rfl ?_
    refine ca_iload C dX6_fitsType_83 rfl ?_
    refine ca_iconst C dX6_fitsType_85 (v := 3) (by decide) ?_
    obtain ⟨c86, hc86, hf⟩ := rob hf
    obtain ⟨q86, h86, hf⟩ := rob hf
    refine ca_callV C dX6_fitsType_86 (mX2_get (cC_tr C) h86) (crc_spec hc86) vw2 (by decide) rfl tX6_l120 tI_X2_get tS_X2_get tZ2 tC_X2_get tH_X2_get (by omega) (by decide) (cs1_sum (cs1_r (cs1_i (cs1_i (cs1_i (cs1_r cs1_nil))))) (Nat.le_of_ble_eq_true rfl)) (by omega) (by omega) ?_
    obtain ⟨c89, hc89, hf⟩ := rob hf
    obtain ⟨q89, h89, hf⟩ := rob hf
    refine ca_callV C dX6_fitsType_89 (mX2_typeOf (cC_tr C) h89) (crc_spec hc89) vw2 (by decide) rfl tX6_l199 tI_X2_typeOf tS_X2_typeOf tZ2 tC_X2_typeOf tH_X2_typeOf (by omega) (by decide) (cs1_sum (cs1_i (cs1_i (cs1_i (cs1_r cs1_nil)))) (Nat.le_of_ble_eq_true rfl)) (by omega) (by omega) ?_
    obtain ⟨c92, hc92, hf⟩ := rob hf
    obtain ⟨q92, h92, hf⟩ := rob hf
    refine ca_callV C dX6_fitsType_92 (mX6_isSameType (cC_tr C) h92) (crc_spec hc92) vw6 (by decide) rfl tX6_l202 tI_X6_isSameType tS_X6_isSameType tZ6 tC_X6_isSameType tH_X6_isSameType (by omega) (by decide) (cs1_sum cs1_nil (Nat.le_of_ble_eq_true rfl)) (by omega) (by omega) ?_
    obtain ⟨hn, hf⟩ := cbo_spec hf
    obtain rfl := Option.some.inj hf
    exact ca_zret C hn dX6_fitsType_95 (by omega) (by omega)
  · replace hf := rif_p c16 hf
    refine ca_iload C dX6_fitsType_19 rfl ?_
    refine ca_bipush C dX6_fitsType_21 (v := (-100)) (by decide) ?_
    refine ca_icmp_eq C dX6_fitsType_23 (tgt := 48) (by decide) (fun c23 => ?_) (fun c23 => ?_)
    · replace hf := rif_p c23 hf
      refine ca_mask [false, false, false, false, false, false] ?_
      exact bX6_fitsType_b48 C o  _ hf
    · replace hf := rif_n c23 hf
      refine ca_aload_n C dX6_fitsType_26 rfl rfl ?_
      refine ca_iconst C dX6_fitsType_27 (v := (-1)) (by decide) ?_
      refine ca_aload_n C dX6_fitsType_28 rfl rfl ?_
      refine ca_iload C dX6_fitsType_29 rfl ?_
      refine ca_iconst C dX6_fitsType_31 (v := 1) (by decide) ?_
      obtain ⟨c32, hc32, hf⟩ := rob hf
      obtain ⟨q32, h32, hf⟩ := rob hf
      refine ca_callV C dX6_fitsType_32 (mX2_get (cC_tr C) h32) (crc_spec hc32) vw2 (by decide) rfl tX6_l120 tI_X2_get tS_X2_get tZ2 tC_X2_get tH_X2_get (by omega) (by decide) (cs1_sum (cs1_i (cs1_r cs1_nil)) (Nat.le_of_ble_eq_true rfl)) (by omega) (by omega) ?_
      refine ca_isub C dX6_fitsType_35 ?_
      obtain ⟨c36, hc36, hf⟩ := rob hf
      obtain ⟨q36, h36, hf⟩ := rob hf
      refine ca_callV C dX6_fitsType_36 (mX2_typeOf (cC_tr C) h36) (crc_spec hc36) vw2 (by decide) rfl tX6_l199 tI_X2_typeOf tS_X2_typeOf tZ2 tC_X2_typeOf tH_X2_typeOf (by omega) (by decide) (cs1_sum cs1_nil (Nat.le_of_ble_eq_true rfl)) (by omega) (by omega) ?_
      refine ca_aload_n C dX6_fitsType_39 rfl rfl ?_
      refine ca_iload C dX6_fitsType_40 rfl ?_
      obtain ⟨c42, hc42, hf⟩ := rob hf
      obtain ⟨q42, h42, hf⟩ := rob hf
      refine ca_callV C dX6_fitsType_42 (mX2_typeOf (cC_tr C) h42) (crc_spec hc42) vw2 (by decide) rfl tX6_l199 tI_X2_typeOf tS_X2_typeOf tZ2 tC_X2_typeOf tH_X2_typeOf (by omega) (by decide) (cs1_sum (cs1_i cs1_nil) (Nat.le_of_ble_eq_true rfl)) (by omega) (by omega) ?_
      refine ca_icmp_ne C dX6_fitsType_45 (tgt := 52) (by decide) (fun c45 => ?_) (fun c45 => ?_)
      · replace hf := rif_n c45 hf
        refine ca_iconst C dX6_fitsType_52 (v := 0) (by decide) ?_
        refine ca_mask [false, false, false, false, false, false] ?_
        exact bX6_fitsType_b53 C o _ _ hf
      · replace hf := rif_p c45 hf
        refine ca_mask [false, false, false, false, false, false] ?_
        exact bX6_fitsType_b48 C o  _ hf
set_option maxRecDepth 100000 in
set_option maxHeartbeats 4000000 in
theorem mX6_fitsType {l : Launch} (hl : l.stackTraces = false) {G : cG} {o : Nat} {a0 : Option Nat} {a1 : Int32} {a2 : Option Nat} {a3 : Int32} {z : cS} {r : Int32 × cS} (hf : fX6_fitsType o a0 a1 a2 a3 z = some r) : cM l G 3 yX6_fitsType cX6_fitsType 6 (some .boolean) [.ref o, va_rf a0, .int a1, va_rf a2, .int a3] z (.inl (some (.int r.1)), r.2, 0, 0) :=
  cM_of (lo0 := [some (va_rf (some o)), some (va_rf a0), some (.int a1), some (va_rf a2), some (.int a3), none]) (by decide +kernel) rfl (cs1_q (cs1_r (cs1_i (cs1_r (cs1_i cs1_nil))))) (Nat.le_of_ble_eq_true rfl) rfl hl (fun X hX _ C => bX6_fitsType C o a0 a1 a2 a3 z hf)
