set_option maxRecDepth 100000 in
set_option maxHeartbeats 4000000 in
theorem bX6_bodyValue_b39 {G : cG} {X : rX} {z0 : cS} {w : Int32 ⊕ Nat} {z' : cS} {A B : Nat} (C : cC G X z0 RX6 6 cX6_bodyValue (some .int) 7 A B) (o : Nat) (l1 : Int32) (l2 : Int32) (l3 : Int32) (l4 : Int32) (l5 : Int32) (z : cS) {kc ks ra rb : Nat} (hf : fX6_bodyValue_b39 o l1 l2 l3 l4 l5 z = some (w, z', ra, rb)) (ha : A = kc + ra) (hb : B = ks + rb) : cAW true G X z0 (cOi w, z', A, B) 6 39 [some (va_rf (some o)), some (.int l1), some (.int l2), some (.int l3), some (.int l4), some (.int l5)] [] z kc ks := by
  unfold fX6_bodyValue_b39 at hf
  refine ca_iload C dX6_bodyValue_39 rfl ?_
  rcases tbind_spec hf with ⟨e41, h41, rfl⟩ | ⟨v41, z41, ra41, rb41, sa41, sb41, h41, hg41, rfl, rfl⟩
  · exact ca_callXSt C dX6_bodyValue_41 (mX6_needNumber (cC_tr C) h41) rfl tX6_m100 tT_X6_needNumber tZ6 tC_X6_needNumber tH_X6_needNumber (by omega) (by decide) (cs1_sum cs1_nil (Nat.le_of_ble_eq_true rfl)) (by omega) (by omega)
  replace hf := hg41
  refine ca_callXSr C dX6_bodyValue_41 (mX6_needNumber (cC_tr C) h41) rfl tX6_m100 tT_X6_needNumber tZ6 tC_X6_needNumber tH_X6_needNumber (by omega) (by decide) (cs1_sum cs1_nil (Nat.le_of_ble_eq_true rfl)) (by omega) (by omega) ?_
  refine ca_aload_n C dX6_bodyValue_44 rfl rfl ?_
  obtain ⟨x45, h45, hf⟩ := rob hf
  refine ca_getR C dX6_bodyValue_45 tcX6_f38 rfl rfl h45 ?_
  refine ca_iconst C dX6_bodyValue_48 (v := 1) (by decide) ?_
  refine ca_iload_n C dX6_bodyValue_49 rfl rfl ?_
  rcases tbind_spec hf with ⟨e50, h50, rfl⟩ | ⟨v50, z50, ra50, rb50, sa50, sb50, h50, hg50, rfl, rfl⟩
  · exact ca_callXSt C dX6_bodyValue_50 (mX6_needPlace (cC_tr C) h50) rfl tX6_m147 tT_X6_needPlace tZ6 tC_X6_needPlace tH_X6_needPlace (by omega) (by decide) (cs1_sum cs1_nil (Nat.le_of_ble_eq_true rfl)) (by omega) (by omega)
  replace hf := hg50
  refine ca_callXSr C dX6_bodyValue_50 (mX6_needPlace (cC_tr C) h50) rfl tX6_m147 tT_X6_needPlace tZ6 tC_X6_needPlace tH_X6_needPlace (by omega) (by decide) (cs1_sum cs1_nil (Nat.le_of_ble_eq_true rfl)) (by omega) (by omega) ?_
  refine ca_aload_n C dX6_bodyValue_53 rfl rfl ?_
  obtain ⟨x54, h54, hf⟩ := rob hf
  refine ca_getR C dX6_bodyValue_54 tcX6_f38 rfl rfl h54 ?_
  refine ca_iconst C dX6_bodyValue_57 (v := 1) (by decide) ?_
  refine ca_iload_n C dX6_bodyValue_58 rfl rfl ?_
  refine ca_iload_n C dX6_bodyValue_59 rfl rfl ?_
  refine ca_iload_n C dX6_bodyValue_60 rfl rfl ?_
  refine ca_iload C dX6_bodyValue_61 rfl ?_
  refine ca_iload C dX6_bodyValue_63 rfl ?_
  obtain ⟨c65, hc65, hf⟩ := rob hf
  obtain ⟨q65, h65, hf⟩ := rob hf
  refine ca_callV C dX6_bodyValue_65 (mX2_add (cC_tr C) h65) (crc_spec hc65) vw2 (by decide) rfl tX6_l139 tI_X2_add tS_X2_add tZ2 tC_X2_add tH_X2_add (by omega) (by decide) (cs1_sum cs1_nil (Nat.le_of_ble_eq_true rfl)) (by omega) (by omega) ?_
  refine ca_aload_n C dX6_bodyValue_68 rfl rfl ?_
  obtain ⟨x69, h69, hf⟩ := rob hf
  refine ca_getR C dX6_bodyValue_69 tcX6_f38 rfl rfl h69 ?_
  obtain ⟨q72, hq72, hf⟩ := rob hf
  obtain ⟨x72, h72, hf⟩ := rob hf
  refine ca_getI C dX6_bodyValue_72 tcX6_f116 rfl hq72 h72 ?_
  cases hf
  exact ca_iret C dX6_bodyValue_75 (by omega) (by omega)
set_option maxRecDepth 100000 in
set_option maxHeartbeats 4000000 in
theorem bX6_bodyValue_b24 {G : cG} {X : rX} {z0 : cS} {w : Int32 ⊕ Nat} {z' : cS} {A B : Nat} (C : cC G X z0 RX6 6 cX6_bodyValue (some .int) 7 A B) (o : Nat) (l1 : Int32) (l2 : Int32) (l3 : Int32) (l4 : Int32) (l5 : Int32) (z : cS) {kc ks ra rb : Nat} (hf : fX6_bodyValue_b24 o l1 l2 l3 l4 l5 z = some (w, z', ra, rb)) (ha : A = kc + ra) (hb : B = ks + rb) : cAW true G X z0 (cOi w, z', A, B) 6 24 [some (va_rf (some o)), some (.int l1), some (.int l2), some (.int l3), some (.int l4), some (.int l5)] [] z kc ks := by
  unfold fX6_bodyValue_b24 at hf
  refine ca_iload_n C dX6_bodyValue_24 rfl rfl ?_
  rcases tbind_spec hf with ⟨e25, h25, rfl⟩ | ⟨v25, z25, ra25, rb25, sa25, sb25, h25, hg25, rfl, rfl⟩
  · exact ca_callXSt C dX6_bodyValue_25 (mX6_needName (cC_tr C) h25) rfl tX6_m89 tT_X6_needName tZ6 tC_X6_needName tH_X6_needName (by omega) (by decide) (cs1_sum cs1_nil (Nat.le_of_ble_eq_true rfl)) (by omega) (by omega)
  replace hf := hg25
  refine ca_callXSr C dX6_bodyValue_25 (mX6_needName (cC_tr C) h25) rfl tX6_m89 tT_X6_needName tZ6 tC_X6_needName tH_X6_needName (by omega) (by decide) (cs1_sum cs1_nil (Nat.le_of_ble_eq_true rfl)) (by omega) (by omega) ?_
  refine ca_iload C dX6_bodyValue_28 rfl ?_
  refine ca_iconst C dX6_bodyValue_30 (v := (-1)) (by decide) ?_
  refine ca_icmp_eq C dX6_bodyValue_31 (tgt := 39) (by decide) (fun c31 => ?_) (fun c31 => ?_)
  · replace hf := rif_p c31 hf
    exact bX6_bodyValue_b39 C o _ _ _ _ _ _ hf (by omega) (by omega)
  · replace hf := rif_n c31 hf
    refine ca_iload C dX6_bodyValue_34 rfl ?_
    rcases tbind_spec hf with ⟨e36, h36, rfl⟩ | ⟨v36, z36, ra36, rb36, sa36, sb36, h36, hg36, rfl, rfl⟩
    · exact ca_callXSt C dX6_bodyValue_36 (mX6_needName (cC_tr C) h36) rfl tX6_m89 tT_X6_needName tZ6 tC_X6_needName tH_X6_needName (by omega) (by decide) (cs1_sum cs1_nil (Nat.le_of_ble_eq_true rfl)) (by omega) (by omega)
    replace hf := hg36
    refine ca_callXSr C dX6_bodyValue_36 (mX6_needName (cC_tr C) h36) rfl tX6_m89 tT_X6_needName tZ6 tC_X6_needName tH_X6_needName (by omega) (by decide) (cs1_sum cs1_nil (Nat.le_of_ble_eq_true rfl)) (by omega) (by omega) ?_
    exact bX6_bodyValue_b39 C o _ _ _ _ _ _ hf (by omega) (by omega)
set_option maxRecDepth 100000 in
set_option maxHeartbeats 4000000 in
theorem bX6_bodyValue {G : cG} {X : rX} {z0 : cS} {w : Int32 ⊕ Nat} {z' : cS} {A B : Nat} (C : cC G X z0 RX6 6 cX6_bodyValue (some .int) 7 A B) (o : Nat) (a0 : Int32) (a1 : Int32) (a2 : Int32) (a3 : Int32) (a4 : Int32) (z : cS) {kc ks ra rb : Nat} (hf : fX6_bodyValue o a0 a1 a2 a3 a4 z = some (w, z', ra, rb)) (ha : A = kc + ra) (hb : B = ks + rb) : cAW true G X z0 (cOi w, z', A, B) 6 0 [some (va_rf (some o)), some (.int a0), some (.int a1), some (.int a2), some (.int a3), some (.int a4)] [] z kc ks := by
  unfold fX6_bodyValue at hf
  refine ca_aload_n C dX6_bodyValue_0 rfl rfl ?_
  refine ca_aload_n C dX6_bodyValue_1 rfl rfl ?_
  obtain ⟨x2, h2, hf⟩ := rob hf
  refine ca_getR C dX6_bodyValue_2 tcX6_f38 rfl rfl h2 ?_
  refine ca_iload_n C dX6_bodyValue_5 rfl rfl ?_
  obtain ⟨c6, hc6, hf⟩ := rob hf
  rcases tbind_spec hf with ⟨e6, h6, rfl⟩ | ⟨v6, z6, ra6, rb6, sa6, sb6, h6, hg6, rfl, rfl⟩
  · exact ca_callXt C dX6_bodyValue_6 (mX6_needTold (cC_tr C) h6) (crc_spec hc6) vw6 (by decide) rfl tX6_m143 tI_X6_needTold tS_X6_needTold tZ6 tC_X6_needTold tH_X6_needTold (by omega) (by decide) (cs1_sum cs1_nil (Nat.le_of_ble_eq_true rfl)) (by omega) (by omega)
  replace hf := hg6
  refine ca_callXr C dX6_bodyValue_6 (mX6_needTold (cC_tr C) h6) (crc_spec hc6) vw6 (by decide) rfl tX6_m143 tI_X6_needTold tS_X6_needTold tZ6 tC_X6_needTold tH_X6_needTold (by omega) (by decide) (cs1_sum cs1_nil (Nat.le_of_ble_eq_true rfl)) (by omega) (by omega) ?_
  refine ca_iload_n C dX6_bodyValue_9 rfl rfl ?_
  refine ca_bipush C dX6_bodyValue_10 (v := (-100)) (by decide) ?_
  refine ca_icmp_eq C dX6_bodyValue_12 (tgt := 24) (by decide) (fun c12 => ?_) (fun c12 => ?_)
  · replace hf := rif_p c12 hf
    exact bX6_bodyValue_b24 C o _ _ _ _ _ _ hf (by omega) (by omega)
  · replace hf := rif_n c12 hf
    refine ca_aload_n C dX6_bodyValue_15 rfl rfl ?_
    refine ca_aload_n C dX6_bodyValue_16 rfl rfl ?_
    obtain ⟨x17, h17, hf⟩ := rob hf
    refine ca_getR C dX6_bodyValue_17 tcX6_f38 rfl rfl h17 ?_
    refine ca_iload_n C dX6_bodyValue_20 rfl rfl ?_
    obtain ⟨c21, hc21, hf⟩ := rob hf
    rcases tbind_spec hf with ⟨e21, h21, rfl⟩ | ⟨v21, z21, ra21, rb21, sa21, sb21, h21, hg21, rfl, rfl⟩
    · exact ca_callXt C dX6_bodyValue_21 (mX6_needTold (cC_tr C) h21) (crc_spec hc21) vw6 (by decide) rfl tX6_m143 tI_X6_needTold tS_X6_needTold tZ6 tC_X6_needTold tH_X6_needTold (by omega) (by decide) (cs1_sum cs1_nil (Nat.le_of_ble_eq_true rfl)) (by omega) (by omega)
    replace hf := hg21
    refine ca_callXr C dX6_bodyValue_21 (mX6_needTold (cC_tr C) h21) (crc_spec hc21) vw6 (by decide) rfl tX6_m143 tI_X6_needTold tS_X6_needTold tZ6 tC_X6_needTold tH_X6_needTold (by omega) (by decide) (cs1_sum cs1_nil (Nat.le_of_ble_eq_true rfl)) (by omega) (by omega) ?_
    exact bX6_bodyValue_b24 C o _ _ _ _ _ _ hf (by omega) (by omega)
set_option maxRecDepth 100000 in
set_option maxHeartbeats 4000000 in
theorem mX6_bodyValue {l : Launch} (hl : l.stackTraces = false) {G : cG} {o : Nat} {a0 : Int32} {a1 : Int32} {a2 : Int32} {a3 : Int32} {a4 : Int32} {z : cS} {w : Int32 ⊕ Nat} {z' : cS} {A B : Nat} (hf : fX6_bodyValue o a0 a1 a2 a3 a4 z = some (w, z', A, B)) : cMx l G 7 yX6_bodyValue cX6_bodyValue 6 (some .int) [.ref o, .int a0, .int a1, .int a2, .int a3, .int a4] z (cOi w, z', A, B) :=
  cMx_of (lo0 := [some (va_rf (some o)), some (.int a0), some (.int a1), some (.int a2), some (.int a3), some (.int a4)]) (by decide +kernel) rfl (cs1_q (cs1_i (cs1_i (cs1_i (cs1_i (cs1_i cs1_nil)))))) (Nat.le_of_ble_eq_true rfl) rfl hl (fun X hX C => bX6_bodyValue C o a0 a1 a2 a3 a4 z (kc := 0) (ks := 0) hf (Nat.zero_add _).symm (Nat.zero_add _).symm)
set_option maxRecDepth 100000 in
set_option maxHeartbeats 4000000 in
theorem bX6_functor_b31 {G : cG} {X : rX} {z0 : cS} {w : Int32 ⊕ Nat} {z' : cS} {A B : Nat} (C : cC G X z0 RX6 8 cX6_functor (some .int) 6 A B) (o : Nat) (z : cS) {kc ks ra rb : Nat} (hf : fX6_functor_b31 o  z = some (w, z', ra, rb)) (ha : A = kc + ra) (hb : B = ks + rb) : cAW true G X z0 (cOi w, z', A, B) 8 31 [none, none, none, none, none, none, none, none] [] z kc ks := by
  unfold fX6_functor_b31 at hf
  cases hf
  exact ca_throw C dX6_functor_31 dX6_functor_34 dX6_functor_35 dX6_functor_37 dX6_functor_40 cfit0 tX6_k111 tX6_e0 tX6_t157 tX6_w115 tX6_g111_115 (by omega) (cs1_sum cs1_nil (Nat.le_of_ble_eq_true rfl)) (by omega) (by omega)
set_option maxRecDepth 100000 in
set_option maxHeartbeats 4000000 in
theorem bX6_functor_b62 {G : cG} {X : rX} {z0 : cS} {w : Int32 ⊕ Nat} {z' : cS} {A B : Nat} (C : cC G X z0 RX6 8 cX6_functor (some .int) 6 A B) (o : Nat) (z : cS) {kc ks ra rb : Nat} (hf : fX6_functor_b62 o  z = some (w, z', ra, rb)) (ha : A = kc + ra) (hb : B = ks + rb) : cAW true G X z0 (cOi w, z', A, B) 8 62 [none, none, none, none, none, none, none, none] [] z kc ks := by
  unfold fX6_functor_b62 at hf
  cases hf
  exact ca_throw C dX6_functor_62 dX6_functor_65 dX6_functor_66 dX6_functor_68 dX6_functor_71 cfit2 tX6_k67 tX6_e2 tX6_t225 tX6_w71 tX6_g67_71 (by omega) (cs1_sum cs1_nil (Nat.le_of_ble_eq_true rfl)) (by omega) (by omega)
set_option maxRecDepth 100000 in
set_option maxHeartbeats 4000000 in
theorem bX6_functor_b136 {G : cG} {X : rX} {z0 : cS} {w : Int32 ⊕ Nat} {z' : cS} {A B : Nat} (C : cC G X z0 RX6 8 cX6_functor (some .int) 6 A B) (o : Nat) {rec75 : Int32 → Int32 → Int32 → Option Nat → Int32 → Int32 → cS → Option ((Int32 ⊕ Nat) × cS × Nat × Nat)} (hrec75 : ∀ (l1 : Int32) (l2 : Int32) (l3 : Int32) (l4 : Option Nat) (l5 : Int32) (l6 : Int32) (z : cS) (kc ks ra rb : Nat), rec75 l1 l2 l3 l4 l5 l6 z = some (w, z', ra, rb) → A = kc + ra → B = ks + rb → cAW true G X z0 (cOi w, z', A, B) 8 75 [some (va_rf (some o)), some (.int l1), some (.int l2), some (.int l3), some (va_rf l4), some (.int l5), some (.int l6), none] [] z kc ks) (l1 : Int32) (l2 : Int32) (l3 : Int32) (l4 : Option Nat) (l5 : Int32) (l6 : Int32) (z : cS) {kc ks ra rb : Nat} (hf : fX6_functor_b136 o rec75 l1 l2 l3 l4 l5 l6 z = some (w, z', ra, rb)) (ha : A = kc + ra) (hb : B = ks + rb) : cAW true G X z0 (cOi w, z', A, B) 8 136 [some (va_rf (some o)), some (.int l1), some (.int l2), some (.int l3), some (va_rf l4), some (.int l5), some (.int l6), none] [] z kc ks := by
  unfold fX6_functor_b136 at hf
  refine ca_iinc C dX6_functor_136 rfl (v := 1) (by decide) (by decide) ?_
  refine ca_goto C dX6_functor_139 (tgt := 75) (by decide) ?_
  exact hrec75 _ _ _ _ _ _ _ _ _ _ _ hf (by omega) (by omega)
set_option maxRecDepth 100000 in
set_option maxHeartbeats 4000000 in
theorem bX6_functor_b75_body {G : cG} {X : rX} {z0 : cS} {w : Int32 ⊕ Nat} {z' : cS} {A B : Nat} (C : cC G X z0 RX6 8 cX6_functor (some .int) 6 A B) (o : Nat) {rec75 : Int32 → Int32 → Int32 → Option Nat → Int32 → Int32 → cS → Option ((Int32 ⊕ Nat) × cS × Nat × Nat)} (hrec75 : ∀ (l1 : Int32) (l2 : Int32) (l3 : Int32) (l4 : Option Nat) (l5 : Int32) (l6 : Int32) (z : cS) (kc ks ra rb : Nat), rec75 l1 l2 l3 l4 l5 l6 z = some (w, z', ra, rb) → A = kc + ra → B = ks + rb → cAW true G X z0 (cOi w, z', A, B) 8 75 [some (va_rf (some o)), some (.int l1), some (.int l2), some (.int l3), some (va_rf l4), some (.int l5), some (.int l6), none] [] z kc ks) (l1 : Int32) (l2 : Int32) (l3 : Int32) (l4 : Option Nat) (l5 : Int32) (l6 : Int32) (z : cS) {kc ks ra rb : Nat} (hf : fX6_functor_b75_body o rec75 l1 l2 l3 l4 l5 l6 z = some (w, z', ra, rb)) (ha : A = kc + ra) (hb : B = ks + rb) : cAW true G X z0 (cOi w, z', A, B) 8 75 [some (va_rf (some o)), some (.int l1), some (.int l2), some (.int l3), some (va_rf l4), some (.int l5), some (.int l6), none] [] z kc ks := by
  unfold fX6_functor_b75_body at hf
  refine ca_iload C dX6_functor_75 rfl ?_
  refine ca_aload_n C dX6_functor_77 rfl rfl ?_
  obtain ⟨x78, h78, hf⟩ := rob hf
  refine ca_getR C dX6_functor_78 tcX6_f38 rfl rfl h78 ?_
  obtain ⟨q81, hq81, hf⟩ := rob hf
  obtain ⟨x81, h81, hf⟩ := rob hf
  refine ca_getI C dX6_functor_81 tcX6_f116 rfl hq81 h81 ?_
  refine ca_icmp_ge C dX6_functor_84 (tgt := 142) (by decide) (fun c84 => ?_) (fun c84 => ?_)
  · replace hf := rif_p c84 hf
    obtain ⟨ra142, rb142, hg142, rfl, rfl⟩ := ause_spec hf
    replace hf := hg142
    refine ca_new C dX6_functor_142 vw0 (by decide) tyX0 tyX0_ok rX0_in tX6_k41 tN0 tZ0 dfX0 (by omega) (by omega) ?_
    refine ca_dup C dX6_functor_145 (va_rf_cat _) ?_
    refine ca_iload_n C dX6_functor_146 rfl rfl ?_
    refine ca_iload_n C dX6_functor_147 rfl rfl ?_
    refine ca_iload_n C dX6_functor_148 rfl rfl ?_
    obtain ⟨v149, z149, ra149, rb149, sa149, sb149, h149, hg149, rfl, rfl⟩ := abind_spec hf
    replace hf := hg149
    refine ca_callI C dX6_functor_149 (mX0_init (cC_tr C) h149) rfl rfl tX6_l229 tI_X0_init rfl tZ0 tC_X0_init tH_X0_init (by omega) (by decide) (cs1_sum (cs1_r cs1_nil) (Nat.le_of_ble_eq_true rfl)) (by omega) (by omega) ?_
    refine ca_astore C dX6_functor_152 (by decide) ?_
    refine ca_aload C dX6_functor_154 rfl ?_
    obtain ⟨q156, hq156, hf⟩ := rob hf
    obtain ⟨x156, h156, hf⟩ := rob hf
    refine ca_getR C dX6_functor_156 tcX6_f232 rfl hq156 h156 ?_
    refine ca_aload_n C dX6_functor_159 rfl rfl ?_
    obtain ⟨x160, h160, hf⟩ := rob hf
    refine ca_getR C dX6_functor_160 tcX6_f38 rfl rfl h160 ?_
    obtain ⟨c163, hc163, hf⟩ := rob hf
    obtain ⟨q163, h163, hf⟩ := rob hf
    refine ca_callV C dX6_functor_163 (mX2_addAll (cC_tr C) h163) (crc_spec hc163) vw2 (by decide) rfl tX6_l162 tI_X2_addAll tS_X2_addAll tZ2 tC_X2_addAll tH_X2_addAll (by omega) (by decide) (cs1_sum cs1_nil (Nat.le_of_ble_eq_true rfl)) (by omega) (by omega) ?_
    refine ca_aload_n C dX6_functor_166 rfl rfl ?_
    obtain ⟨x167, h167, hf⟩ := rob hf
    refine ca_getR C dX6_functor_167 tcX6_f38 rfl rfl h167 ?_
    obtain ⟨c170, hc170, hf⟩ := rob hf
    obtain ⟨q170, h170, hf⟩ := rob hf
    refine ca_callV C dX6_functor_170 (mX2_clear (cC_tr C) h170) (crc_spec hc170) vw2 (by decide) rfl tX6_l235 tI_X2_clear tS_X2_clear tZ2 tC_X2_clear tH_X2_clear (by omega) (by decide) (cs1_sum cs1_nil (Nat.le_of_ble_eq_true rfl)) (by omega) (by omega) ?_
    refine ca_aload_n C dX6_functor_173 rfl rfl ?_
    obtain ⟨x174, h174, hf⟩ := rob hf
    refine ca_getR C dX6_functor_174 tcX6_f43 rfl rfl h174 ?_
    refine ca_iload C dX6_functor_177 rfl ?_
    refine ca_aload C dX6_functor_179 rfl ?_
    obtain ⟨q181, hq181, hf⟩ := rob hf
    obtain ⟨z181, h181, hf⟩ := rob hf
    refine ca_aast C dX6_functor_181 hq181 h181 ck10 ?_
    refine ca_aload_n C dX6_functor_182 rfl rfl ?_
    refine ca_dup C dX6_functor_183 (va_rf_cat _) ?_
    obtain ⟨x184, h184, hf⟩ := rob hf
    refine ca_getI C dX6_functor_184 tcX6_f222 rfl rfl h184 ?_
    refine ca_iconst C dX6_functor_187 (v := 1) (by decide) ?_
    refine ca_iadd C dX6_functor_188 ?_
    obtain ⟨z189, h189, hf⟩ := rob hf
    refine ca_putI C dX6_functor_189 tcX6_f222 nX6_7 rfl tI6_7 rfl h189 ?_
    refine ca_iload C dX6_functor_192 rfl ?_
    cases hf
    exact ca_iret C dX6_functor_194 (by omega) (by omega)
  · replace hf := rif_n c84 hf
    refine ca_aload_n C dX6_functor_87 rfl rfl ?_
    obtain ⟨x88, h88, hf⟩ := rob hf
    refine ca_getR C dX6_functor_88 tcX6_f38 rfl rfl h88 ?_
    refine ca_iload C dX6_functor_91 rfl ?_
    refine ca_iconst C dX6_functor_93 (v := 5) (by decide) ?_
    obtain ⟨c94, hc94, hf⟩ := rob hf
    obtain ⟨q94, h94, hf⟩ := rob hf
    refine ca_callV C dX6_functor_94 (mX2_get (cC_tr C) h94) (crc_spec hc94) vw2 (by decide) rfl tX6_l120 tI_X2_get tS_X2_get tZ2 tC_X2_get tH_X2_get (by omega) (by decide) (cs1_sum cs1_nil (Nat.le_of_ble_eq_true rfl)) (by omega) (by omega) ?_
    refine ca_istore C dX6_functor_97 (by decide) ?_
    refine ca_iload C dX6_functor_99 rfl ?_
    refine ca_iconst C dX6_functor_101 (v := (-1)) (by decide) ?_
    refine ca_icmp_eq C dX6_functor_102 (tgt := 136) (by decide) (fun c102 => ?_) (fun c102 => ?_)
    · replace hf := rif_p c102 hf
      refine ca_mask [true, true, true, true, true, true, true, false] ?_
      exact bX6_functor_b136 C o hrec75 _ _ _ _ _ _ _ hf (by omega) (by omega)
    · replace hf := rif_n c102 hf
      refine ca_aload C dX6_functor_105 rfl ?_
      refine ca_aload_n C dX6_functor_107 rfl rfl ?_
      obtain ⟨x108, h108, hf⟩ := rob hf
      refine ca_getR C dX6_functor_108 tcX6_f38 rfl rfl h108 ?_
      refine ca_iload C dX6_functor_111 rfl ?_
      refine ca_iconst C dX6_functor_113 (v := 0) (by decide) ?_
      obtain ⟨c114, hc114, hf⟩ := rob hf
      obtain ⟨q114, h114, hf⟩ := rob hf
      refine ca_callV C dX6_functor_114 (mX2_get (cC_tr C) h114) (crc_spec hc114) vw2 (by decide) rfl tX6_l120 tI_X2_get tS_X2_get tZ2 tC_X2_get tH_X2_get (by omega) (by decide) (cs1_sum (cs1_r cs1_nil) (Nat.le_of_ble_eq_true rfl)) (by omega) (by omega) ?_
      refine ca_iload C dX6_functor_117 rfl ?_
      obtain ⟨c119, hc119, hf⟩ := rob hf
      obtain ⟨q119, h119, hf⟩ := rob hf
      refine ca_callV C dX6_functor_119 (mX2_placeOf (cC_tr C) h119) (crc_spec hc119) vw2 (by decide) rfl tX6_l131 tI_X2_placeOf tS_X2_placeOf tZ2 tC_X2_placeOf tH_X2_placeOf (by omega) (by decide) (cs1_sum cs1_nil (Nat.le_of_ble_eq_true rfl)) (by omega) (by omega) ?_
      refine ca_iconst C dX6_functor_122 (v := (-1)) (by decide) ?_
      refine ca_icmp_ne C dX6_functor_123 (tgt := 136) (by decide) (fun c123 => ?_) (fun c123 => ?_)
      · replace hf := rif_n c123 hf
        refine ca_mask [true, true, true, true, true, true, true, false] ?_
        exact bX6_functor_b136 C o hrec75 _ _ _ _ _ _ _ hf (by omega) (by omega)
      · replace hf := rif_p c123 hf
        cases hf
        exact ca_throw C dX6_functor_126 dX6_functor_129 dX6_functor_130 dX6_functor_132 dX6_functor_135 cfit2 tX6_k67 tX6_e2 tX6_t227 tX6_w71 tX6_g67_71 (by omega) (cs1_sum cs1_nil (Nat.le_of_ble_eq_true rfl)) (by omega) (by omega)
set_option maxRecDepth 100000 in
set_option maxHeartbeats 4000000 in
theorem bX6_functor_b75 {G : cG} {X : rX} {z0 : cS} {w : Int32 ⊕ Nat} {z' : cS} {A B : Nat} (C : cC G X z0 RX6 8 cX6_functor (some .int) 6 A B) (o : Nat) : ∀ (n : Nat) (l1 : Int32) (l2 : Int32) (l3 : Int32) (l4 : Option Nat) (l5 : Int32) (l6 : Int32) (z : cS) (kc ks ra rb : Nat), fX6_functor_b75 o n l1 l2 l3 l4 l5 l6 z = some (w, z', ra, rb) → A = kc + ra → B = ks + rb → cAW true G X z0 (cOi w, z', A, B) 8 75 [some (va_rf (some o)), some (.int l1), some (.int l2), some (.int l3), some (va_rf l4), some (.int l5), some (.int l6), none] [] z kc ks := by
  intro n
  induction n with
  | zero => intro l1 l2 l3 l4 l5 l6 z kc ks ra rb hf; cases hf
  | succ n ih => intro l1 l2 l3 l4 l5 l6 z kc ks ra rb hf ha hb; exact bX6_functor_b75_body C o (fun l1 l2 l3 l4 l5 l6 z kc ks ra rb h1 h2 h3 => ih l1 l2 l3 l4 l5 l6 z kc ks ra rb h1 h2 h3) l1 l2 l3 l4 l5 l6 z hf ha hb
set_option maxRecDepth 100000 in
set_option maxHeartbeats 4000000 in
theorem bX6_functor_b41 {G : cG} {X : rX} {z0 : cS} {w : Int32 ⊕ Nat} {z' : cS} {A B : Nat} (C : cC G X z0 RX6 8 cX6_functor (some .int) 6 A B) (o : Nat) (l1 : Int32) (l2 : Int32) (l3 : Int32) (l4 : Option Nat) (z : cS) {kc ks ra rb : Nat} (hf : fX6_functor_b41 o l1 l2 l3 l4 z = some (w, z', ra, rb)) (ha : A = kc + ra) (hb : B = ks + rb) : cAW true G X z0 (cOi w, z', A, B) 8 41 [some (va_rf (some o)), some (.int l1), some (.int l2), some (.int l3), some (va_rf l4), none, none, none] [] z kc ks := by
  unfold fX6_functor_b41 at hf
  refine ca_aload_n C dX6_functor_41 rfl rfl ?_
  obtain ⟨x42, h42, hf⟩ := rob hf
  refine ca_getI C dX6_functor_42 tcX6_f222 rfl rfl h42 ?_
  refine ca_istore C dX6_functor_45 (by decide) ?_
  refine ca_iload C dX6_functor_47 rfl ?_
  refine ca_if_lt C dX6_functor_49 (tgt := 62) (by decide) (fun c49 => ?_) (fun c49 => ?_)
  · replace hf := rif_p c49 hf
    refine ca_mask [false, false, false, false, false, false, false, false] ?_
    exact bX6_functor_b62 C o  _ hf (by omega) (by omega)
  · replace hf := rif_n c49 hf
    refine ca_iload C dX6_functor_52 rfl ?_
    refine ca_aload_n C dX6_functor_54 rfl rfl ?_
    obtain ⟨x55, h55, hf⟩ := rob hf
    refine ca_getR C dX6_functor_55 tcX6_f43 rfl rfl h55 ?_
    obtain ⟨q58, hq58, hf⟩ := rob hf
    obtain ⟨x58, h58, hf⟩ := rob hf
    refine ca_alenR C dX6_functor_58 hq58 h58 ck10 ?_
    refine ca_icmp_lt C dX6_functor_59 (tgt := 72) (by decide) (fun c59 => ?_) (fun c59 => ?_)
    · replace hf := rif_p c59 hf
      refine ca_iconst C dX6_functor_72 (v := 0) (by decide) ?_
      refine ca_istore C dX6_functor_73 (by decide) ?_
      exact bX6_functor_b75 C o _ _ _ _ _ _ _ _ _ _ _ _ hf (by omega) (by omega)
    · replace hf := rif_n c59 hf
      refine ca_mask [false, false, false, false, false, false, false, false] ?_
      exact bX6_functor_b62 C o  _ hf (by omega) (by omega)
set_option maxRecDepth 100000 in
set_option maxHeartbeats 4000000 in
theorem bX6_functor {G : cG} {X : rX} {z0 : cS} {w : Int32 ⊕ Nat} {z' : cS} {A B : Nat} (C : cC G X z0 RX6 8 cX6_functor (some .int) 6 A B) (o : Nat) (a0 : Int32) (a1 : Int32) (a2 : Int32) (z : cS) {kc ks ra rb : Nat} (hf : fX6_functor o a0 a1 a2 z = some (w, z', ra, rb)) (ha : A = kc + ra) (hb : B = ks + rb) : cAW true G X z0 (cOi w, z', A, B) 8 0 [some (va_rf (some o)), some (.int a0), some (.int a1), some (.int a2), none, none, none, none] [] z kc ks := by
  unfold fX6_functor at hf
  refine ca_aload_n C dX6_functor_0 rfl rfl ?_
  obtain ⟨x1, h1, hf⟩ := rob hf
  refine ca_getR C dX6_functor_1 tcX6_f27 rfl rfl h1 ?_
  refine ca_iload_n C dX6_functor_4 rfl rfl ?_
  obtain ⟨c5, hc5, hf⟩ := rob hf
  obtain ⟨q5, h5, hf⟩ := rob hf
  refine ca_callV C dX6_functor_5 (mX3_at (cC_tr C) h5) (crc_spec hc5) vw3 (by decide) rfl tX6_l103 tI_X3_at tS_X3_at tZ3 tC_X3_at tH_X3_at (by omega) (by decide) (cs1_sum cs1_nil (Nat.le_of_ble_eq_true rfl)) (by omega) (by omega) ?_
  refine ca_astore C dX6_functor_8 (by decide) ?_
  refine ca_aload C dX6_functor_10 rfl ?_
  refine ca_ifnull C dX6_functor_12 (tgt := 31) (by decide) (fun c12 => ?_) (fun c12 => ?_)
  · replace hf := rif_p c12 hf
    refine ca_mask [false, false, false, false, false, false, false, false] ?_
    exact bX6_functor_b31 C o  _ hf (by omega) (by omega)
  · replace hf := rif_n c12 hf
    refine ca_iload_n C dX6_functor_15 rfl rfl ?_
    refine ca_iconst C dX6_functor_16 (v := (-1)) (by decide) ?_
    refine ca_icmp_eq C dX6_functor_17 (tgt := 41) (by decide) (fun c17 => ?_) (fun c17 => ?_)
    · replace hf := rif_p c17 hf
      exact bX6_functor_b41 C o _ _ _ _ _ hf (by omega) (by omega)
    · replace hf := rif_n c17 hf
      refine ca_aload_n C dX6_functor_20 rfl rfl ?_
      obtain ⟨x21, h21, hf⟩ := rob hf
      refine ca_getR C dX6_functor_21 tcX6_f27 rfl rfl h21 ?_
      refine ca_iload_n C dX6_functor_24 rfl rfl ?_
      obtain ⟨c25, hc25, hf⟩ := rob hf
      obtain ⟨q25, h25, hf⟩ := rob hf
      refine ca_callV C dX6_functor_25 (mX3_at (cC_tr C) h25) (crc_spec hc25) vw3 (by decide) rfl tX6_l103 tI_X3_at tS_X3_at tZ3 tC_X3_at tH_X3_at (by omega) (by decide) (cs1_sum cs1_nil (Nat.le_of_ble_eq_true rfl)) (by omega) (by omega) ?_
      refine ca_ifnonnull C dX6_functor_28 (tgt := 41) (by decide) (fun c28 => ?_) (fun c28 => ?_)
      · replace hf := rif_n c28 hf
        exact bX6_functor_b41 C o _ _ _ _ _ hf (by omega) (by omega)
      · replace hf := rif_p c28 hf
        refine ca_mask [false, false, false, false, false, false, false, false] ?_
        exact bX6_functor_b31 C o  _ hf (by omega) (by omega)
set_option maxRecDepth 100000 in
set_option maxHeartbeats 4000000 in
theorem mX6_functor {l : Launch} (hl : l.stackTraces = false) {G : cG} {o : Nat} {a0 : Int32} {a1 : Int32} {a2 : Int32} {z : cS} {w : Int32 ⊕ Nat} {z' : cS} {A B : Nat} (hf : fX6_functor o a0 a1 a2 z = some (w, z', A, B)) : cMx l G 6 yX6_functor cX6_functor 8 (some .int) [.ref o, .int a0, .int a1, .int a2] z (cOi w, z', A, B) :=
  cMx_of (lo0 := [some (va_rf (some o)), some (.int a0), some (.int a1), some (.int a2), none, none, none, none]) (by decide +kernel) rfl (cs1_q (cs1_i (cs1_i (cs1_i cs1_nil)))) (Nat.le_of_ble_eq_true rfl) rfl hl (fun X hX C => bX6_functor C o a0 a1 a2 z (kc := 0) (ks := 0) hf (Nat.zero_add _).symm (Nat.zero_add _).symm)
set_option maxRecDepth 100000 in
set_option maxHeartbeats 4000000 in
theorem bX6_cut {G : cG} {X : rX} {z0 : cS} {r : Int32 × cS} (C : cC G X z0 RX6 1 cX6_cut (some .int) 1 0 0) (a0 : Int32) (z : cS) (hf : fX6_cut a0 z = some r) : cAW false G X z0 (.inl (some (.int r.1)), r.2, 0, 0) 1 0 [some (.int a0)] [] z 0 0 := by
  unfold fX6_cut at hf
  refine ca_sipush C dX6_cut_0 (v := (-10000)) (by decide) ?_
  refine ca_sipush C dX6_cut_3 (v := 10000) (by decide) ?_
  refine ca_iload_n C dX6_cut_6 rfl rfl ?_
  refine ca_mmin C dX6_cut_7 tX6_l284 tM_smin tM_i tM_cmin (by omega) (cs1_sum (cs1_i cs1_nil) (Nat.le_of_ble_eq_true rfl)) (by omega) (by omega) ?_
  refine ca_mmax C dX6_cut_10 tX6_l289 tM_smax tM_i tM_cmax (by omega) (cs1_sum cs1_nil (Nat.le_of_ble_eq_true rfl)) (by omega) (by omega) ?_
  obtain rfl := Option.some.inj hf
  exact ca_iret C dX6_cut_13 (by omega) (by omega)
set_option maxRecDepth 100000 in
set_option maxHeartbeats 4000000 in
theorem mX6_cut {l : Launch} (hl : l.stackTraces = false) {G : cG} {a0 : Int32} {z : cS} {r : Int32 × cS} (hf : fX6_cut a0 z = some r) : cM l G 1 yX6_cut cX6_cut 1 (some .int) [.int a0] z (.inl (some (.int r.1)), r.2, 0, 0) :=
  cM_of (lo0 := [some (.int a0)]) (by decide +kernel) rfl (cs1_i cs1_nil) (Nat.le_of_ble_eq_true rfl) rfl hl (fun X hX _ C => bX6_cut C a0 z hf)
set_option maxRecDepth 100000 in
set_option maxHeartbeats 4000000 in
theorem bX6_fill_b122 {G : cG} {X : rX} {z0 : cS} {r : Int32 × cS} (C : cC G X z0 RX6 9 cX6_fill (some .boolean) 4 0 0) (o : Nat) {rec3 : Option Nat → Option Nat → Option Nat → Int32 → cS → Option (Int32 × cS)} (hrec3 : ∀ (l1 : Option Nat) (l2 : Option Nat) (l3 : Option Nat) (l4 : Int32) (z : cS), rec3 l1 l2 l3 l4 z = some r → cAW false G X z0 (.inl (some (.int r.1)), r.2, 0, 0) 9 3 [some (va_rf (some o)), some (va_rf l1), some (va_rf l2), some (va_rf l3), some (.int l4), none, none, none, none] [] z 0 0) (l1 : Option Nat) (l2 : Option Nat) (l3 : Option Nat) (l4 : Int32) (l5 : Int32) (l7 : Int32) (l8 : Int32) (z : cS) (hf : fX6_fill_b122 o rec3 l1 l2 l3 l4 l5 l7 l8 z = some r) : cAW false G X z0 (.inl (some (.int r.1)), r.2, 0, 0) 9 122 [some (va_rf (some o)), some (va_rf l1), some (va_rf l2), some (va_rf l3), some (.int l4), some (.int l5), none, some (.int l7), some (.int l8)] [] z 0 0 := by
  unfold fX6_fill_b122 at hf
  refine ca_iload C dX6_fill_122 rfl ?_
  refine ca_if_ge C dX6_fill_124 (tgt := 129) (by decide) (fun c124 => ?_) (fun c124 => ?_)
  · replace hf := rif_p c124 hf
    refine ca_aload_n C dX6_fill_129 rfl rfl ?_
    refine ca_iload C dX6_fill_130 rfl ?_
    refine ca_aload_n C dX6_fill_132 rfl rfl ?_
    refine ca_iload C dX6_fill_133 rfl ?_
    refine ca_iconst C dX6_fill_135 (v := 1) (by decide) ?_
    obtain ⟨c136, hc136, hf⟩ := rob hf
    obtain ⟨q136, h136, hf⟩ := rob hf
    refine ca_callV C dX6_fill_136 (mX2_get (cC_tr C) h136) (crc_spec hc136) vw2 (by decide) rfl tX6_l120 tI_X2_get tS_X2_get tZ2 tC_X2_get tH_X2_get (by omega) (by decide) (cs1_sum (cs1_i (cs1_r cs1_nil)) (Nat.le_of_ble_eq_true rfl)) (by omega) (by omega) ?_
    refine ca_iload C dX6_fill_139 rfl ?_
    refine ca_bipush C dX6_fill_141 (v := (-100)) (by decide) ?_
    refine ca_iload C dX6_fill_143 rfl ?_
    obtain ⟨q145, h145, hf⟩ := rob hf
    refine ca_callS C dX6_fill_145 (mX6_cut (cC_tr C) h145) rfl tX6_l281 tT_X6_cut tZ6 tC_X6_cut tH_X6_cut (by omega) (by decide) (cs1_sum (cs1_i (cs1_i (cs1_i (cs1_i (cs1_r cs1_nil))))) (Nat.le_of_ble_eq_true rfl)) (by omega) (by omega) ?_
    refine ca_iconst C dX6_fill_148 (v := (-1)) (by decide) ?_
    obtain ⟨c149, hc149, hf⟩ := rob hf
    obtain ⟨q149, h149, hf⟩ := rob hf
    refine ca_callV C dX6_fill_149 (mX2_add (cC_tr C) h149) (crc_spec hc149) vw2 (by decide) rfl tX6_l139 tI_X2_add tS_X2_add tZ2 tC_X2_add tH_X2_add (by omega) (by decide) (cs1_sum cs1_nil (Nat.le_of_ble_eq_true rfl)) (by omega) (by omega) ?_
    refine ca_iinc C dX6_fill_152 rfl (v := 1) (by decide) (by decide) ?_
    refine ca_goto C dX6_fill_155 (tgt := 3) (by decide) ?_
    refine ca_mask [true, true, true, true, true, false, false, false, false] ?_
    exact hrec3 _ _ _ _ _ hf
  · replace hf := rif_n c124 hf
    refine ca_iconst C dX6_fill_127 (v := 0) (by decide) ?_
    obtain ⟨hn, hf⟩ := cbo_spec hf
    obtain rfl := Option.some.inj hf
    exact ca_zret C hn dX6_fill_128 (by omega) (by omega)
set_option maxRecDepth 100000 in
set_option maxHeartbeats 4000000 in
theorem bX6_fill_b120 {G : cG} {X : rX} {z0 : cS} {r : Int32 × cS} (C : cC G X z0 RX6 9 cX6_fill (some .boolean) 4 0 0) (o : Nat) {rec3 : Option Nat → Option Nat → Option Nat → Int32 → cS → Option (Int32 × cS)} (hrec3 : ∀ (l1 : Option Nat) (l2 : Option Nat) (l3 : Option Nat) (l4 : Int32) (z : cS), rec3 l1 l2 l3 l4 z = some r → cAW false G X z0 (.inl (some (.int r.1)), r.2, 0, 0) 9 3 [some (va_rf (some o)), some (va_rf l1), some (va_rf l2), some (va_rf l3), some (.int l4), none, none, none, none] [] z 0 0) (l1 : Option Nat) (l2 : Option Nat) (l3 : Option Nat) (l4 : Int32) (l5 : Int32) (l7 : Int32) (s0 : Int32) (z : cS) (hf : fX6_fill_b120 o rec3 l1 l2 l3 l4 l5 l7 s0 z = some r) : cAW false G X z0 (.inl (some (.int r.1)), r.2, 0, 0) 9 120 [some (va_rf (some o)), some (va_rf l1), some (va_rf l2), some (va_rf l3), some (.int l4), some (.int l5), none, some (.int l7), none] [.int s0] z 0 0 := by
  unfold fX6_fill_b120 at hf
  refine ca_istore C dX6_fill_120 (by decide) ?_
  exact bX6_fill_b122 C o hrec3 _ _ _ _ _ _ _ _ hf
set_option maxRecDepth 100000 in
set_option maxHeartbeats 4000000 in
theorem bX6_fill_b90 {G : cG} {X : rX} {z0 : cS} {r : Int32 × cS} (C : cC G X z0 RX6 9 cX6_fill (some .boolean) 4 0 0) (o : Nat) {rec3 : Option Nat → Option Nat → Option Nat → Int32 → cS → Option (Int32 × cS)} (hrec3 : ∀ (l1 : Option Nat) (l2 : Option Nat) (l3 : Option Nat) (l4 : Int32) (z : cS), rec3 l1 l2 l3 l4 z = some r → cAW false G X z0 (.inl (some (.int r.1)), r.2, 0, 0) 9 3 [some (va_rf (some o)), some (va_rf l1), some (va_rf l2), some (va_rf l3), some (.int l4), none, none, none, none] [] z 0 0) (l1 : Option Nat) (l2 : Option Nat) (l3 : Option Nat) (l4 : Int32) (l5 : Int32) (l8 : Int32) (s0 : Int32) (s1 : Int32) (z : cS) (hf : fX6_fill_b90 o rec3 l1 l2 l3 l4 l5 l8 s0 s1 z = some r) : cAW false G X z0 (.inl (some (.int r.1)), r.2, 0, 0) 9 90 [some (va_rf (some o)), some (va_rf l1), some (va_rf l2), some (va_rf l3), some (.int l4), some (.int l5), none, none, some (.int l8)] [.int s0, .int s1] z 0 0 := by
  unfold fX6_fill_b90 at hf
  refine ca_iadd C dX6_fill_90 ?_
  refine ca_istore C dX6_fill_91 (by decide) ?_
  refine ca_goto C dX6_fill_93 (tgt := 122) (by decide) ?_
  exact bX6_fill_b122 C o hrec3 _ _ _ _ _ _ _ _ hf
set_option maxRecDepth 100000 in
set_option maxHeartbeats 4000000 in
theorem bX6_fill_b3_body {G : cG} {X : rX} {z0 : cS} {r : Int32 × cS} (C : cC G X z0 RX6 9 cX6_fill (some .boolean) 4 0 0) (o : Nat) {rec3 : Option Nat → Option Nat → Option Nat → Int32 → cS → Option (Int32 × cS)} (hrec3 : ∀ (l1 : Option Nat) (l2 : Option Nat) (l3 : Option Nat) (l4 : Int32) (z : cS), rec3 l1 l2 l3 l4 z = some r → cAW false G X z0 (.inl (some (.int r.1)), r.2, 0, 0) 9 3 [some (va_rf (some o)), some (va_rf l1), some (va_rf l2), some (va_rf l3), some (.int l4), none, none, none, none] [] z 0 0) (l1 : Option Nat) (l2 : Option Nat) (l3 : Option Nat) (l4 : Int32) (z : cS) (hf : fX6_fill_b3_body o rec3 l1 l2 l3 l4 z = some r) : cAW false G X z0 (.inl (some (.int r.1)), r.2, 0, 0) 9 3 [some (va_rf (some o)), some (va_rf l1), some (va_rf l2), some (va_rf l3), some (.int l4), none, none, none, none] [] z 0 0 := by
  unfold fX6_fill_b3_body at hf
  refine ca_iload C dX6_fill_3 rfl ?_
  refine ca_aload_n C dX6_fill_5 rfl rfl ?_
  obtain ⟨q6, hq6, hf⟩ := rob hf
  obtain ⟨x6, h6, hf⟩ := rob hf
  refine ca_getI C dX6_fill_6 tcX6_f116 rfl hq6 h6 ?_
  refine ca_icmp_ge C dX6_fill_9 (tgt := 158) (by decide) (fun c9 => ?_) (fun c9 => ?_)
  · replace hf := rif_p c9 hf
    refine ca_iconst C dX6_fill_158 (v := 1) (by decide) ?_
    obtain ⟨hn, hf⟩ := cbo_spec hf
    obtain rfl := Option.some.inj hf
    exact ca_zret C hn dX6_fill_159 (by omega) (by omega)
  · replace hf := rif_n c9 hf
    refine ca_aload_n C dX6_fill_12 rfl rfl ?_
    refine ca_iload C dX6_fill_13 rfl ?_
    refine ca_iconst C dX6_fill_15 (v := 0) (by decide) ?_
    obtain ⟨c16, hc16, hf⟩ := rob hf
    obtain ⟨q16, h16, hf⟩ := rob hf
    refine ca_callV C dX6_fill_16 (mX2_get (cC_tr C) h16) (crc_spec hc16) vw2 (by decide) rfl tX6_l120 tI_X2_get tS_X2_get tZ2 tC_X2_get tH_X2_get (by omega) (by decide) (cs1_sum cs1_nil (Nat.le_of_ble_eq_true rfl)) (by omega) (by omega) ?_
    refine ca_istore C dX6_fill_19 (by decide) ?_
    refine ca_aload_n C dX6_fill_21 rfl rfl ?_
    refine ca_iload C dX6_fill_22 rfl ?_
    refine ca_iconst C dX6_fill_24 (v := 5) (by decide) ?_
    obtain ⟨c25, hc25, hf⟩ := rob hf
    obtain ⟨q25, h25, hf⟩ := rob hf
    refine ca_callV C dX6_fill_25 (mX2_get (cC_tr C) h25) (crc_spec hc25) vw2 (by decide) rfl tX6_l120 tI_X2_get tS_X2_get tZ2 tC_X2_get tH_X2_get (by omega) (by decide) (cs1_sum cs1_nil (Nat.le_of_ble_eq_true rfl)) (by omega) (by omega) ?_
    refine ca_istore C dX6_fill_28 (by decide) ?_
    refine ca_aload_n C dX6_fill_30 rfl rfl ?_
    refine ca_iload C dX6_fill_31 rfl ?_
    refine ca_iconst C dX6_fill_33 (v := 4) (by decide) ?_
    obtain ⟨c34, hc34, hf⟩ := rob hf
    obtain ⟨q34, h34, hf⟩ := rob hf
    refine ca_callV C dX6_fill_34 (mX2_get (cC_tr C) h34) (crc_spec hc34) vw2 (by decide) rfl tX6_l120 tI_X2_get tS_X2_get tZ2 tC_X2_get tH_X2_get (by omega) (by decide) (cs1_sum cs1_nil (Nat.le_of_ble_eq_true rfl)) (by omega) (by omega) ?_
    refine ca_istore C dX6_fill_37 (by decide) ?_
    refine ca_iload C dX6_fill_39 rfl ?_
    refine ca_iconst C dX6_fill_41 (v := 1) (by decide) ?_
    refine ca_icmp_ne C dX6_fill_42 (tgt := 96) (by decide) (fun c42 => ?_) (fun c42 => ?_)
    · replace hf := rif_n c42 hf
      refine ca_iload C dX6_fill_96 rfl ?_
      refine ca_iconst C dX6_fill_98 (v := (-1)) (by decide) ?_
      refine ca_icmp_ne C dX6_fill_99 (tgt := 112) (by decide) (fun c99 => ?_) (fun c99 => ?_)
      · replace hf := rif_n c99 hf
        refine ca_aload_n C dX6_fill_112 rfl rfl ?_
        refine ca_iconst C dX6_fill_113 (v := (-1)) (by decide) ?_
        refine ca_iload C dX6_fill_114 rfl ?_
        refine ca_isub C dX6_fill_116 ?_
        obtain ⟨c117, hc117, hf⟩ := rob hf
        obtain ⟨q117, h117, hf⟩ := rob hf
        refine ca_callV C dX6_fill_117 (mX2_typeOf (cC_tr C) h117) (crc_spec hc117) vw2 (by decide) rfl tX6_l199 tI_X2_typeOf tS_X2_typeOf tZ2 tC_X2_typeOf tH_X2_typeOf (by omega) (by decide) (cs1_sum cs1_nil (Nat.le_of_ble_eq_true rfl)) (by omega) (by omega) ?_
        refine ca_mask [true, true, true, true, true, true, false, true, false] ?_
        exact bX6_fill_b120 C o hrec3 _ _ _ _ _ _ _ _ hf
      · replace hf := rif_p c99 hf
        refine ca_aload_n C dX6_fill_102 rfl rfl ?_
        obtain ⟨x103, h103, hf⟩ := rob hf
        refine ca_getR C dX6_fill_103 tcX6_f12 rfl rfl h103 ?_
        obtain ⟨c106, hc106, hf⟩ := rob hf
        obtain ⟨q106, h106, hf⟩ := rob hf
        refine ca_callV C dX6_fill_106 (mX4_newOne (cC_tr C) h106) (crc_spec hc106) vw4 (by decide) rfl tX6_l92 tI_X4_newOne tS_X4_newOne tZ4 tC_X4_newOne tH_X4_newOne (by omega) (by decide) (cs1_sum cs1_nil (Nat.le_of_ble_eq_true rfl)) (by omega) (by omega) ?_
        refine ca_goto C dX6_fill_109 (tgt := 120) (by decide) ?_
        refine ca_mask [true, true, true, true, true, true, false, true, false] ?_
        exact bX6_fill_b120 C o hrec3 _ _ _ _ _ _ _ _ hf
    · replace hf := rif_p c42 hf
      refine ca_aload_n C dX6_fill_45 rfl rfl ?_
      refine ca_aload_n C dX6_fill_46 rfl rfl ?_
      refine ca_aload_n C dX6_fill_47 rfl rfl ?_
      refine ca_iload C dX6_fill_48 rfl ?_
      refine ca_iconst C dX6_fill_50 (v := 2) (by decide) ?_
      obtain ⟨c51, hc51, hf⟩ := rob hf
      obtain ⟨q51, h51, hf⟩ := rob hf
      refine ca_callV C dX6_fill_51 (mX2_get (cC_tr C) h51) (crc_spec hc51) vw2 (by decide) rfl tX6_l120 tI_X2_get tS_X2_get tZ2 tC_X2_get tH_X2_get (by omega) (by decide) (cs1_sum (cs1_r (cs1_r cs1_nil)) (Nat.le_of_ble_eq_true rfl)) (by omega) (by omega) ?_
      refine ca_aload_n C dX6_fill_54 rfl rfl ?_
      refine ca_iload C dX6_fill_55 rfl ?_
      refine ca_iconst C dX6_fill_57 (v := 3) (by decide) ?_
      obtain ⟨c58, hc58, hf⟩ := rob hf
      obtain ⟨q58, h58, hf⟩ := rob hf
      refine ca_callV C dX6_fill_58 (mX2_get (cC_tr C) h58) (crc_spec hc58) vw2 (by decide) rfl tX6_l120 tI_X2_get tS_X2_get tZ2 tC_X2_get tH_X2_get (by omega) (by decide) (cs1_sum (cs1_i (cs1_r (cs1_r cs1_nil))) (Nat.le_of_ble_eq_true rfl)) (by omega) (by omega) ?_
      obtain ⟨c61, hc61, hf⟩ := rob hf
      obtain ⟨q61, h61, hf⟩ := rob hf
      refine ca_callV C dX6_fill_61 (mX6_typeTold (cC_tr C) h61) (crc_spec hc61) vw6 (by decide) rfl tX6_l218 tI_X6_typeTold tS_X6_typeTold tZ6 tC_X6_typeTold tH_X6_typeTold (by omega) (by decide) (cs1_sum cs1_nil (Nat.le_of_ble_eq_true rfl)) (by omega) (by omega) ?_
      refine ca_istore C dX6_fill_64 (by decide) ?_
      refine ca_iload C dX6_fill_66 rfl ?_
      refine ca_iload C dX6_fill_68 rfl ?_
      refine ca_iconst C dX6_fill_70 (v := (-1)) (by decide) ?_
      refine ca_icmp_ne C dX6_fill_71 (tgt := 78) (by decide) (fun c71 => ?_) (fun c71 => ?_)
      · replace hf := rif_n c71 hf
        refine ca_aload_n C dX6_fill_78 rfl rfl ?_
        refine ca_aload_n C dX6_fill_79 rfl rfl ?_
        refine ca_iconst C dX6_fill_80 (v := 1) (by decide) ?_
        refine ca_iload C dX6_fill_81 rfl ?_
        obtain ⟨c83, hc83, hf⟩ := rob hf
        obtain ⟨q83, h83, hf⟩ := rob hf
        refine ca_callV C dX6_fill_83 (mX2_placeOf (cC_tr C) h83) (crc_spec hc83) vw2 (by decide) rfl tX6_l131 tI_X2_placeOf tS_X2_placeOf tZ2 tC_X2_placeOf tH_X2_placeOf (by omega) (by decide) (cs1_sum (cs1_r (cs1_i cs1_nil)) (Nat.le_of_ble_eq_true rfl)) (by omega) (by omega) ?_
        refine ca_iconst C dX6_fill_86 (v := 4) (by decide) ?_
        obtain ⟨c87, hc87, hf⟩ := rob hf
        obtain ⟨q87, h87, hf⟩ := rob hf
        refine ca_callV C dX6_fill_87 (mX2_get (cC_tr C) h87) (crc_spec hc87) vw2 (by decide) rfl tX6_l120 tI_X2_get tS_X2_get tZ2 tC_X2_get tH_X2_get (by omega) (by decide) (cs1_sum (cs1_i cs1_nil) (Nat.le_of_ble_eq_true rfl)) (by omega) (by omega) ?_
        refine ca_mask [true, true, true, true, true, true, false, false, true] ?_
        exact bX6_fill_b90 C o hrec3 _ _ _ _ _ _ _ _ _ hf
      · replace hf := rif_p c71 hf
        refine ca_iconst C dX6_fill_74 (v := 0) (by decide) ?_
        refine ca_goto C dX6_fill_75 (tgt := 90) (by decide) ?_
        refine ca_mask [true, true, true, true, true, true, false, false, true] ?_
        exact bX6_fill_b90 C o hrec3 _ _ _ _ _ _ _ _ _ hf
set_option maxRecDepth 100000 in
set_option maxHeartbeats 4000000 in
theorem bX6_fill_b3 {G : cG} {X : rX} {z0 : cS} {r : Int32 × cS} (C : cC G X z0 RX6 9 cX6_fill (some .boolean) 4 0 0) (o : Nat) : ∀ (n : Nat) (l1 : Option Nat) (l2 : Option Nat) (l3 : Option Nat) (l4 : Int32) (z : cS), fX6_fill_b3 o n l1 l2 l3 l4 z = some r → cAW false G X z0 (.inl (some (.int r.1)), r.2, 0, 0) 9 3 [some (va_rf (some o)), some (va_rf l1), some (va_rf l2), some (va_rf l3), some (.int l4), none, none, none, none] [] z 0 0 := by
  intro n
  induction n with
  | zero => intro l1 l2 l3 l4 z hf; cases hf
  | succ n ih => intro l1 l2 l3 l4 z hf; exact bX6_fill_b3_body C o (fun l1 l2 l3 l4 z h => ih l1 l2 l3 l4 z h) l1 l2 l3 l4 z hf
set_option maxRecDepth 100000 in
set_option maxHeartbeats 4000000 in
theorem bX6_fill {G : cG} {X : rX} {z0 : cS} {r : Int32 × cS} (C : cC G X z0 RX6 9 cX6_fill (some .boolean) 4 0 0) (o : Nat) (a0 : Option Nat) (a1 : Option Nat) (a2 : Option Nat) (z : cS) (hf : fX6_fill o a0 a1 a2 z = some r) : cAW false G X z0 (.inl (some (.int r.1)), r.2, 0, 0) 9 0 [some (va_rf (some o)), some (va_rf a0), some (va_rf a1), some (va_rf a2), none, none, none, none, none] [] z 0 0 := by
  unfold fX6_fill at hf
  refine ca_iconst C dX6_fill_0 (v := 0) (by decide) ?_
  refine ca_istore C dX6_fill_1 (by decide) ?_
  exact bX6_fill_b3 C o _ _ _ _ _ _ hf
set_option maxRecDepth 100000 in
set_option maxHeartbeats 4000000 in
theorem mX6_fill {l : Launch} (hl : l.stackTraces = false) {G : cG} {o : Nat} {a0 : Option Nat} {a1 : Option Nat} {a2 : Option Nat} {z : cS} {r : Int32 × cS} (hf : fX6_fill o a0 a1 a2 z = some r) : cM l G 4 yX6_fill cX6_fill 9 (some .boolean) [.ref o, va_rf a0, va_rf a1, va_rf a2] z (.inl (some (.int r.1)), r.2, 0, 0) :=
  cM_of (lo0 := [some (va_rf (some o)), some (va_rf a0), some (va_rf a1), some (va_rf a2), none, none, none, none, none]) (by decide +kernel) rfl (cs1_q (cs1_r (cs1_r (cs1_r cs1_nil)))) (Nat.le_of_ble_eq_true rfl) rfl hl (fun X hX _ C => bX6_fill C o a0 a1 a2 z hf)
set_option maxRecDepth 100000 in
set_option maxHeartbeats 4000000 in
theorem bX6_applyAnew_b53 {G : cG} {X : rX} {z0 : cS} {w : Int32} {z' : cS} {A B : Nat} (C : cC G X z0 RX6 7 cX6_applyAnew (some .int) 35 A B) (o : Nat) (z : cS) {kc ks ra rb : Nat} (hf : fX6_applyAnew_b53 o  z = some (w, z', ra, rb)) (ha : A = kc + ra) (hb : B = ks + rb) : cAW false G X z0 (.inl (some (.int w)), z', A, B) 7 53 [none, none, none, none, none, none, none] [] z kc ks := by
  unfold fX6_applyAnew_b53 at hf
  refine ca_iconst C dX6_applyAnew_53 (v := (-1)) (by decide) ?_
  cases hf
  exact ca_iret C dX6_applyAnew_54 (by omega) (by omega)
set_option maxRecDepth 100000 in
set_option maxHeartbeats 4000000 in
theorem bX6_applyAnew_b134 {G : cG} {X : rX} {z0 : cS} {w : Int32} {z' : cS} {A B : Nat} (C : cC G X z0 RX6 7 cX6_applyAnew (some .int) 35 A B) (o : Nat) (l6 : Int32) (z : cS) {kc ks ra rb : Nat} (hf : fX6_applyAnew_b134 o l6 z = some (w, z', ra, rb)) (ha : A = kc + ra) (hb : B = ks + rb) : cAW false G X z0 (.inl (some (.int w)), z', A, B) 7 134 [none, none, none, none, none, none, some (.int l6)] [] z kc ks := by
  unfold fX6_applyAnew_b134 at hf
  refine ca_iload C dX6_applyAnew_134 rfl ?_
  cases hf
  exact ca_iret C dX6_applyAnew_136 (by omega) (by omega)
set_option maxRecDepth 100000 in
set_option maxHeartbeats 4000000 in
theorem bX6_applyAnew {G : cG} {X : rX} {z0 : cS} {w : Int32} {z' : cS} {A B : Nat} (C : cC G X z0 RX6 7 cX6_applyAnew (some .int) 35 A B) (o : Nat) (a0 : Option Nat) (a1 : Int32) (z : cS) {kc ks ra rb : Nat} (hf : fX6_applyAnew o a0 a1 z = some (w, z', ra, rb)) (ha : A = kc + ra) (hb : B = ks + rb) : cAW false G X z0 (.inl (some (.int w)), z', A, B) 7 0 [some (va_rf (some o)), some (va_rf a0), some (.int a1), none, none, none, none] [] z kc ks := by
  unfold fX6_applyAnew at hf
  refine ca_aload_n C dX6_applyAnew_0 rfl rfl ?_
  obtain ⟨x1, h1, hf⟩ := rob hf
  refine ca_getR C dX6_applyAnew_1 tcX6_f23 rfl rfl h1 ?_
  obtain ⟨q4, hq4, hf⟩ := rob hf
  obtain ⟨x4, h4, hf⟩ := rob hf
  refine ca_getI C dX6_applyAnew_4 tcX6_f169 rfl hq4 h4 ?_
  refine ca_istore_n C dX6_applyAnew_7 rfl (by decide) ?_
  refine ca_aload_n C dX6_applyAnew_8 rfl rfl ?_
  obtain ⟨x9, h9, hf⟩ := rob hf
  refine ca_getR C dX6_applyAnew_9 tcX6_f23 rfl rfl h9 ?_
  refine ca_iload_n C dX6_applyAnew_12 rfl rfl ?_
  obtain ⟨c13, hc13, hf⟩ := rob hf
  obtain ⟨v13, z13, ra13, rb13, sa13, sb13, h13, hg13, rfl, rfl⟩ := abind_spec hf
  replace hf := hg13
  refine ca_callV C dX6_applyAnew_13 (mX3_blank (cC_tr C) h13) (crc_spec hc13) vw3 (by decide) rfl tX6_l170 tI_X3_blank tS_X3_blank tZ3 tC_X3_blank tH_X3_blank (by omega) (by decide) (cs1_sum cs1_nil (Nat.le_of_ble_eq_true rfl)) (by omega) (by omega) ?_
  refine ca_astore C dX6_applyAnew_16 (by decide) ?_
  refine ca_aload_n C dX6_applyAnew_18 rfl rfl ?_
  obtain ⟨x19, h19, hf⟩ := rob hf
  refine ca_getR C dX6_applyAnew_19 tcX6_f23 rfl rfl h19 ?_
  refine ca_iload_n C dX6_applyAnew_22 rfl rfl ?_
  obtain ⟨c23, hc23, hf⟩ := rob hf
  obtain ⟨q23, h23, hf⟩ := rob hf
  refine ca_callV C dX6_applyAnew_23 (mX3_at (cC_tr C) h23) (crc_spec hc23) vw3 (by decide) rfl tX6_l103 tI_X3_at tS_X3_at tZ3 tC_X3_at tH_X3_at (by omega) (by decide) (cs1_sum cs1_nil (Nat.le_of_ble_eq_true rfl)) (by omega) (by omega) ?_
  refine ca_astore C dX6_applyAnew_26 (by decide) ?_
  refine ca_aload C dX6_applyAnew_28 rfl ?_
  refine ca_ifnull C dX6_applyAnew_30 (tgt := 53) (by decide) (fun c30 => ?_) (fun c30 => ?_)
  · replace hf := rif_p c30 hf
    refine ca_mask [false, false, false, false, false, false, false] ?_
    exact bX6_applyAnew_b53 C o  _ hf (by omega) (by omega)
  · replace hf := rif_n c30 hf
    refine ca_aload C dX6_applyAnew_33 rfl ?_
    refine ca_ifnull C dX6_applyAnew_35 (tgt := 53) (by decide) (fun c35 => ?_) (fun c35 => ?_)
    · replace hf := rif_p c35 hf
      refine ca_mask [false, false, false, false, false, false, false] ?_
      exact bX6_applyAnew_b53 C o  _ hf (by omega) (by omega)
    · replace hf := rif_n c35 hf
      refine ca_aload_n C dX6_applyAnew_38 rfl rfl ?_
      refine ca_aload C dX6_applyAnew_39 rfl ?_
      refine ca_aload_n C dX6_applyAnew_41 rfl rfl ?_
      obtain ⟨q42, hq42, hf⟩ := rob hf
      obtain ⟨x42, h42, hf⟩ := rob hf
      refine ca_getR C dX6_applyAnew_42 tcX6_f232 rfl hq42 h42 ?_
      refine ca_aload C dX6_applyAnew_45 rfl ?_
      obtain ⟨c47, hc47, hf⟩ := rob hf
      obtain ⟨q47, h47, hf⟩ := rob hf
      refine ca_callV C dX6_applyAnew_47 (mX6_fill (cC_tr C) h47) (crc_spec hc47) vw6 (by decide) rfl tX6_l274 tI_X6_fill tS_X6_fill tZ6 tC_X6_fill tH_X6_fill (by omega) (by decide) (cs1_sum cs1_nil (Nat.le_of_ble_eq_true rfl)) (by omega) (by omega) ?_
      refine ca_if_ne C dX6_applyAnew_50 (tgt := 55) (by decide) (fun c50 => ?_) (fun c50 => ?_)
      · replace hf := rif_n c50 hf
        refine ca_aload_n C dX6_applyAnew_55 rfl rfl ?_
        obtain ⟨x56, h56, hf⟩ := rob hf
        refine ca_getR C dX6_applyAnew_56 tcX6_f23 rfl rfl h56 ?_
        refine ca_dup C dX6_applyAnew_59 (va_rf_cat _) ?_
        obtain ⟨q60, hq60, hf⟩ := rob hf
        obtain ⟨x60, h60, hf⟩ := rob hf
        refine ca_getI C dX6_applyAnew_60 tcX6_f169 rfl hq60 h60 ?_
        refine ca_iconst C dX6_applyAnew_63 (v := 1) (by decide) ?_
        refine ca_iadd C dX6_applyAnew_64 ?_
        obtain ⟨q65, hq65, hf⟩ := rob hf
        obtain ⟨z65, h65, hf⟩ := rob hf
        refine ca_putI C dX6_applyAnew_65 tcX6_f169 nX3_1 rfl tI3_1 hq65 h65 ?_
        refine ca_aload_n C dX6_applyAnew_68 rfl rfl ?_
        obtain ⟨q69, hq69, hf⟩ := rob hf
        obtain ⟨x69, h69, hf⟩ := rob hf
        refine ca_getI C dX6_applyAnew_69 tcX6_f278 rfl hq69 h69 ?_
        refine ca_iconst C dX6_applyAnew_72 (v := (-1)) (by decide) ?_
        refine ca_icmp_ne C dX6_applyAnew_73 (tgt := 78) (by decide) (fun c73 => ?_) (fun c73 => ?_)
        · replace hf := rif_n c73 hf
          refine ca_aload_n C dX6_applyAnew_78 rfl rfl ?_
          refine ca_aload_n C dX6_applyAnew_79 rfl rfl ?_
          obtain ⟨x80, h80, hf⟩ := rob hf
          refine ca_getR C dX6_applyAnew_80 tcX6_f23 rfl rfl h80 ?_
          refine ca_iload_n C dX6_applyAnew_83 rfl rfl ?_
          refine ca_aload_n C dX6_applyAnew_84 rfl rfl ?_
          obtain ⟨q85, hq85, hf⟩ := rob hf
          obtain ⟨x85, h85, hf⟩ := rob hf
          refine ca_getI C dX6_applyAnew_85 tcX6_f278 rfl hq85 h85 ?_
          refine ca_iconst C dX6_applyAnew_88 (v := 0) (by decide) ?_
          obtain ⟨c89, hc89, hf⟩ := rob hf
          obtain ⟨q89, h89, hf⟩ := rob hf
          refine ca_callV C dX6_applyAnew_89 (mX6_firstMisfit (cC_tr C) _ _ _ _ _ _ _ _ h89) (crc_spec hc89) vw6 (by decide) rfl tX6_l183 tI_X6_firstMisfit tS_X6_firstMisfit tZ6 tC_X6_firstMisfit tH_X6_firstMisfit (by omega) (by decide) (cs1_sum cs1_nil (Nat.le_of_ble_eq_true rfl)) (by omega) (by omega) ?_
          refine ca_if_eq C dX6_applyAnew_92 (tgt := 97) (by decide) (fun c92 => ?_) (fun c92 => ?_)
          · replace hf := rif_p c92 hf
            refine ca_aload_n C dX6_applyAnew_97 rfl rfl ?_
            refine ca_iload_n C dX6_applyAnew_98 rfl rfl ?_
            refine ca_aload_n C dX6_applyAnew_99 rfl rfl ?_
            obtain ⟨q100, hq100, hf⟩ := rob hf
            obtain ⟨x100, h100, hf⟩ := rob hf
            refine ca_getI C dX6_applyAnew_100 tcX6_f278 rfl hq100 h100 ?_
            refine ca_aload_n C dX6_applyAnew_103 rfl rfl ?_
            obtain ⟨x104, h104, hf⟩ := rob hf
            refine ca_getR C dX6_applyAnew_104 tcX6_f23 rfl rfl h104 ?_
            obtain ⟨q107, hq107, hf⟩ := rob hf
            obtain ⟨x107, h107, hf⟩ := rob hf
            refine ca_getI C dX6_applyAnew_107 tcX6_f169 rfl hq107 h107 ?_
            refine ca_iconst C dX6_applyAnew_110 (v := 1) (by decide) ?_
            refine ca_iconst C dX6_applyAnew_111 (v := 0) (by decide) ?_
            obtain ⟨c112, hc112, hf⟩ := rob hf
            obtain ⟨v112, z112, ra112, rb112, sa112, sb112, h112, hg112, rfl, rfl⟩ := abind_spec hf
            replace hf := hg112
            refine ca_callV C dX6_applyAnew_112 (mX6_remake (cC_tr C) _ _ _ _ _ _ _ _ _ _ _ _ h112) (crc_spec hc112) vw6 (by decide) rfl tX6_l212 tI_X6_remake tS_X6_remake tZ6 tC_X6_remake tH_X6_remake (by omega) (by decide) (cs1_sum cs1_nil (Nat.le_of_ble_eq_true rfl)) (by omega) (by omega) ?_
            refine ca_istore C dX6_applyAnew_115 (by decide) ?_
            refine ca_iload C dX6_applyAnew_117 rfl ?_
            refine ca_iconst C dX6_applyAnew_119 (v := (-1)) (by decide) ?_
            refine ca_icmp_eq C dX6_applyAnew_120 (tgt := 134) (by decide) (fun c120 => ?_) (fun c120 => ?_)
            · replace hf := rif_p c120 hf
              refine ca_mask [false, false, false, false, false, false, true] ?_
              exact bX6_applyAnew_b134 C o _ _ hf (by omega) (by omega)
            · replace hf := rif_n c120 hf
              refine ca_aload_n C dX6_applyAnew_123 rfl rfl ?_
              obtain ⟨x124, h124, hf⟩ := rob hf
              refine ca_getR C dX6_applyAnew_124 tcX6_f23 rfl rfl h124 ?_
              refine ca_iload C dX6_applyAnew_127 rfl ?_
              refine ca_iconst C dX6_applyAnew_129 (v := 1) (by decide) ?_
              refine ca_iadd C dX6_applyAnew_130 ?_
              obtain ⟨q131, hq131, hf⟩ := rob hf
              obtain ⟨z131, h131, hf⟩ := rob hf
              refine ca_putI C dX6_applyAnew_131 tcX6_f169 nX3_1 rfl tI3_1 hq131 h131 ?_
              refine ca_mask [false, false, false, false, false, false, true] ?_
              exact bX6_applyAnew_b134 C o _ _ hf (by omega) (by omega)
          · replace hf := rif_n c92 hf
            refine ca_iconst C dX6_applyAnew_95 (v := (-1)) (by decide) ?_
            cases hf
            exact ca_iret C dX6_applyAnew_96 (by omega) (by omega)
        · replace hf := rif_p c73 hf
          refine ca_iload_n C dX6_applyAnew_76 rfl rfl ?_
          cases hf
          exact ca_iret C dX6_applyAnew_77 (by omega) (by omega)
      · replace hf := rif_p c50 hf
        refine ca_mask [false, false, false, false, false, false, false] ?_
        exact bX6_applyAnew_b53 C o  _ hf (by omega) (by omega)
set_option maxRecDepth 100000 in
set_option maxHeartbeats 4000000 in
theorem mX6_applyAnew {l : Launch} (hl : l.stackTraces = false) {G : cG} {o : Nat} {a0 : Option Nat} {a1 : Int32} {z : cS} {w : Int32} {z' : cS} {A B : Nat} (hf : fX6_applyAnew o a0 a1 z = some (w, z', A, B)) : cM l G 35 yX6_applyAnew cX6_applyAnew 7 (some .int) [.ref o, va_rf a0, .int a1] z (.inl (some (.int w)), z', A, B) :=
  cM_of (lo0 := [some (va_rf (some o)), some (va_rf a0), some (.int a1), none, none, none, none]) (by decide +kernel) rfl (cs1_q (cs1_r (cs1_i cs1_nil))) (Nat.le_of_ble_eq_true rfl) rfl hl (fun X hX _ C => bX6_applyAnew C o a0 a1 z (kc := 0) (ks := 0) hf (Nat.zero_add _).symm (Nat.zero_add _).symm)
set_option maxRecDepth 100000 in
set_option maxHeartbeats 4000000 in
theorem bX6_functorAt_b23 {G : cG} {X : rX} {z0 : cS} {r : (Option Nat) × cS} (C : cC G X z0 RX6 2 cX6_functorAt (some (.object "ModuleLoft$Functor")) 0 0 0) (o : Nat) (s0 : Option Nat) (z : cS) (hf : fX6_functorAt_b23 o s0 z = some r) : cAW false G X z0 (.inl (some (va_rf r.1)), r.2, 0, 0) 2 23 [none, none] [va_rf s0] z 0 0 := by
  unfold fX6_functorAt_b23 at hf
  obtain rfl := Option.some.inj hf
  exact ca_aret C dX6_functorAt_23 (by omega) (by omega)
set_option maxRecDepth 100000 in
set_option maxHeartbeats 4000000 in
theorem bX6_functorAt_b22 {G : cG} {X : rX} {z0 : cS} {r : (Option Nat) × cS} (C : cC G X z0 RX6 2 cX6_functorAt (some (.object "ModuleLoft$Functor")) 0 0 0) (o : Nat) (z : cS) (hf : fX6_functorAt_b22 o  z = some r) : cAW false G X z0 (.inl (some (va_rf r.1)), r.2, 0, 0) 2 22 [none, none] [] z 0 0 := by
  unfold fX6_functorAt_b22 at hf
  refine ca_null C dX6_functorAt_22 ?_
  exact bX6_functorAt_b23 C o _ _ hf
set_option maxRecDepth 100000 in
set_option maxHeartbeats 4000000 in
theorem bX6_functorAt {G : cG} {X : rX} {z0 : cS} {r : (Option Nat) × cS} (C : cC G X z0 RX6 2 cX6_functorAt (some (.object "ModuleLoft$Functor")) 0 0 0) (o : Nat) (a0 : Int32) (z : cS) (hf : fX6_functorAt o a0 z = some r) : cAW false G X z0 (.inl (some (va_rf r.1)), r.2, 0, 0) 2 0 [some (va_rf (some o)), some (.int a0)] [] z 0 0 := by
  unfold fX6_functorAt at hf
  refine ca_iload_n C dX6_functorAt_0 rfl rfl ?_
  refine ca_if_lt C dX6_functorAt_1 (tgt := 22) (by decide) (fun c1 => ?_) (fun c1 => ?_)
  · replace hf := rif_p c1 hf
    refine ca_mask [false, false] ?_
    exact bX6_functorAt_b22 C o  _ hf
  · replace hf := rif_n c1 hf
    refine ca_iload_n C dX6_functorAt_4 rfl rfl ?_
    refine ca_aload_n C dX6_functorAt_5 rfl rfl ?_
    obtain ⟨x6, h6, hf⟩ := rob hf
    refine ca_getR C dX6_functorAt_6 tcX6_f43 rfl rfl h6 ?_
    obtain ⟨q9, hq9, hf⟩ := rob hf
    obtain ⟨x9, h9, hf⟩ := rob hf
    refine ca_alenR C dX6_functorAt_9 hq9 h9 ck10 ?_
    refine ca_icmp_ge C dX6_functorAt_10 (tgt := 22) (by decide) (fun c10 => ?_) (fun c10 => ?_)
    · replace hf := rif_p c10 hf
      refine ca_mask [false, false] ?_
      exact bX6_functorAt_b22 C o  _ hf
    · replace hf := rif_n c10 hf
      refine ca_aload_n C dX6_functorAt_13 rfl rfl ?_
      obtain ⟨x14, h14, hf⟩ := rob hf
      refine ca_getR C dX6_functorAt_14 tcX6_f43 rfl rfl h14 ?_
      refine ca_iload_n C dX6_functorAt_17 rfl rfl ?_
      obtain ⟨q18, hq18, hf⟩ := rob hf
      obtain ⟨x18, h18, hf⟩ := rob hf
      refine ca_aald C dX6_functorAt_18 hq18 h18 ck10 ?_
      refine ca_goto C dX6_functorAt_19 (tgt := 23) (by decide) ?_
      refine ca_mask [false, false] ?_
      exact bX6_functorAt_b23 C o _ _ hf
set_option maxRecDepth 100000 in
set_option maxHeartbeats 4000000 in
theorem mX6_functorAt {l : Launch} (hl : l.stackTraces = false) {G : cG} {o : Nat} {a0 : Int32} {z : cS} {r : (Option Nat) × cS} (hf : fX6_functorAt o a0 z = some r) : cM l G 0 yX6_functorAt cX6_functorAt 2 (some (.object "ModuleLoft$Functor")) [.ref o, .int a0] z (.inl (some (va_rf r.1)), r.2, 0, 0) :=
  cM_of (lo0 := [some (va_rf (some o)), some (.int a0)]) (by decide +kernel) rfl (cs1_q (cs1_i cs1_nil)) (Nat.le_of_ble_eq_true rfl) rfl hl (fun X hX _ C => bX6_functorAt C o a0 z hf)
set_option maxRecDepth 100000 in
set_option maxHeartbeats 4000000 in
theorem bX6_apply_b21 {G : cG} {X : rX} {z0 : cS} {w : Int32 ⊕ Nat} {z' : cS} {A B : Nat} (C : cC G X z0 RX6 8 cX6_apply (some .int) 36 A B) (o : Nat) (z : cS) {kc ks ra rb : Nat} (hf : fX6_apply_b21 o  z = some (w, z', ra, rb)) (ha : A = kc + ra) (hb : B = ks + rb) : cAW true G X z0 (cOi w, z', A, B) 8 21 [none, none, none, none, none, none, none, none] [] z kc ks := by
  unfold fX6_apply_b21 at hf
  cases hf
  exact ca_throw C dX6_apply_21 dX6_apply_24 dX6_apply_25 dX6_apply_27 dX6_apply_30 cfit0 tX6_k111 tX6_e0 tX6_t242 tX6_w115 tX6_g111_115 (by omega) (cs1_sum cs1_nil (Nat.le_of_ble_eq_true rfl)) (by omega) (by omega)
set_option maxRecDepth 100000 in
set_option maxHeartbeats 4000000 in
theorem bX6_apply {G : cG} {X : rX} {z0 : cS} {w : Int32 ⊕ Nat} {z' : cS} {A B : Nat} (C : cC G X z0 RX6 8 cX6_apply (some .int) 36 A B) (o : Nat) (a0 : Int32) (a1 : Int32) (z : cS) {kc ks ra rb : Nat} (hf : fX6_apply o a0 a1 z = some (w, z', ra, rb)) (ha : A = kc + ra) (hb : B = ks + rb) : cAW true G X z0 (cOi w, z', A, B) 8 0 [some (va_rf (some o)), some (.int a0), some (.int a1), none, none, none, none, none] [] z kc ks := by
  unfold fX6_apply at hf
  refine ca_aload_n C dX6_apply_0 rfl rfl ?_
  refine ca_iload_n C dX6_apply_1 rfl rfl ?_
  obtain ⟨c2, hc2, hf⟩ := rob hf
  obtain ⟨q2, h2, hf⟩ := rob hf
  refine ca_callV C dX6_apply_2 (mX6_functorAt (cC_tr C) h2) (crc_spec hc2) vw6 (by decide) rfl tX6_l238 tI_X6_functorAt tS_X6_functorAt tZ6 tC_X6_functorAt tH_X6_functorAt (by omega) (by decide) (cs1_sum cs1_nil (Nat.le_of_ble_eq_true rfl)) (by omega) (by omega) ?_
  refine ca_astore_n C dX6_apply_5 rfl (by decide) ?_
  refine ca_aload_n C dX6_apply_6 rfl rfl ?_
  refine ca_ifnull C dX6_apply_7 (tgt := 21) (by decide) (fun c7 => ?_) (fun c7 => ?_)
  · replace hf := rif_p c7 hf
    refine ca_mask [false, false, false, false, false, false, false, false] ?_
    exact bX6_apply_b21 C o  _ hf (by omega) (by omega)
  · replace hf := rif_n c7 hf
    refine ca_aload_n C dX6_apply_10 rfl rfl ?_
    obtain ⟨x11, h11, hf⟩ := rob hf
    refine ca_getR C dX6_apply_11 tcX6_f23 rfl rfl h11 ?_
    refine ca_iload_n C dX6_apply_14 rfl rfl ?_
    obtain ⟨c15, hc15, hf⟩ := rob hf
    obtain ⟨q15, h15, hf⟩ := rob hf
    refine ca_callV C dX6_apply_15 (mX3_at (cC_tr C) h15) (crc_spec hc15) vw3 (by decide) rfl tX6_l103 tI_X3_at tS_X3_at tZ3 tC_X3_at tH_X3_at (by omega) (by decide) (cs1_sum cs1_nil (Nat.le_of_ble_eq_true rfl)) (by omega) (by omega) ?_
    refine ca_ifnonnull C dX6_apply_18 (tgt := 31) (by decide) (fun c18 => ?_) (fun c18 => ?_)
    · replace hf := rif_n c18 hf
      refine ca_aload_n C dX6_apply_31 rfl rfl ?_
      refine ca_iload_n C dX6_apply_32 rfl rfl ?_
      obtain ⟨c33, hc33, hf⟩ := rob hf
      obtain ⟨q33, h33, hf⟩ := rob hf
      refine ca_callV C dX6_apply_33 (mX0_resultOf (cC_tr C) h33) (crc_spec hc33) vw0 (by decide) rfl tX6_l244 tI_X0_resultOf tS_X0_resultOf tZ0 tC_X0_resultOf tH_X0_resultOf (by omega) (by decide) (cs1_sum cs1_nil (Nat.le_of_ble_eq_true rfl)) (by omega) (by omega) ?_
      refine ca_istore C dX6_apply_36 (by decide) ?_
      refine ca_iload C dX6_apply_38 rfl ?_
      refine ca_iconst C dX6_apply_40 (v := (-1)) (by decide) ?_
      refine ca_icmp_eq C dX6_apply_41 (tgt := 47) (by decide) (fun c41 => ?_) (fun c41 => ?_)
      · replace hf := rif_p c41 hf
        refine ca_aload_n C dX6_apply_47 rfl rfl ?_
        refine ca_aload_n C dX6_apply_48 rfl rfl ?_
        obtain ⟨x49, h49, hf⟩ := rob hf
        refine ca_getR C dX6_apply_49 tcX6_f23 rfl rfl h49 ?_
        refine ca_iload_n C dX6_apply_52 rfl rfl ?_
        refine ca_aload_n C dX6_apply_53 rfl rfl ?_
        obtain ⟨q54, hq54, hf⟩ := rob hf
        obtain ⟨x54, h54, hf⟩ := rob hf
        refine ca_getI C dX6_apply_54 tcX6_f247 rfl hq54 h54 ?_
        refine ca_iconst C dX6_apply_57 (v := 0) (by decide) ?_
        obtain ⟨c58, hc58, hf⟩ := rob hf
        obtain ⟨q58, h58, hf⟩ := rob hf
        refine ca_callV C dX6_apply_58 (mX6_firstMisfit (cC_tr C) _ _ _ _ _ _ _ _ h58) (crc_spec hc58) vw6 (by decide) rfl tX6_l183 tI_X6_firstMisfit tS_X6_firstMisfit tZ6 tC_X6_firstMisfit tH_X6_firstMisfit (by omega) (by decide) (cs1_sum cs1_nil (Nat.le_of_ble_eq_true rfl)) (by omega) (by omega) ?_
        refine ca_if_eq C dX6_apply_61 (tgt := 74) (by decide) (fun c61 => ?_) (fun c61 => ?_)
        · replace hf := rif_p c61 hf
          refine ca_aload_n C dX6_apply_74 rfl rfl ?_
          obtain ⟨x75, h75, hf⟩ := rob hf
          refine ca_getR C dX6_apply_75 tcX6_f12 rfl rfl h75 ?_
          obtain ⟨q78, hq78, hf⟩ := rob hf
          obtain ⟨x78, h78, hf⟩ := rob hf
          refine ca_getI C dX6_apply_78 tcX6_f211 rfl hq78 h78 ?_
          refine ca_istore C dX6_apply_81 (by decide) ?_
          refine ca_aload_n C dX6_apply_83 rfl rfl ?_
          obtain ⟨x84, h84, hf⟩ := rob hf
          refine ca_getR C dX6_apply_84 tcX6_f23 rfl rfl h84 ?_
          obtain ⟨q87, hq87, hf⟩ := rob hf
          obtain ⟨x87, h87, hf⟩ := rob hf
          refine ca_getI C dX6_apply_87 tcX6_f169 rfl hq87 h87 ?_
          refine ca_istore C dX6_apply_90 (by decide) ?_
          refine ca_aload_n C dX6_apply_92 rfl rfl ?_
          refine ca_aload_n C dX6_apply_93 rfl rfl ?_
          refine ca_iload_n C dX6_apply_94 rfl rfl ?_
          obtain ⟨c95, hc95, hf⟩ := rob hf
          obtain ⟨v95, z95, ra95, rb95, sa95, sb95, h95, hg95, rfl, rfl⟩ := abind_spec hf
          replace hf := hg95
          refine ca_callV C dX6_apply_95 (mX6_applyAnew (cC_tr C) h95) (crc_spec hc95) vw6 (by decide) rfl tX6_l250 tI_X6_applyAnew tS_X6_applyAnew tZ6 tC_X6_applyAnew tH_X6_applyAnew (by omega) (by decide) (cs1_sum cs1_nil (Nat.le_of_ble_eq_true rfl)) (by omega) (by omega) ?_
          refine ca_istore C dX6_apply_98 (by decide) ?_
          refine ca_iload C dX6_apply_100 rfl ?_
          refine ca_iconst C dX6_apply_102 (v := (-1)) (by decide) ?_
          refine ca_icmp_ne C dX6_apply_103 (tgt := 134) (by decide) (fun c103 => ?_) (fun c103 => ?_)
          · replace hf := rif_n c103 hf
            refine ca_aload_n C dX6_apply_134 rfl rfl ?_
            refine ca_iload_n C dX6_apply_135 rfl rfl ?_
            refine ca_iload C dX6_apply_136 rfl ?_
            obtain ⟨c138, hc138, hf⟩ := rob hf
            obtain ⟨q138, h138, hf⟩ := rob hf
            refine ca_callV C dX6_apply_138 (mX0_note (cC_tr C) h138) (crc_spec hc138) vw0 (by decide) rfl tX6_l256 tI_X0_note tS_X0_note tZ0 tC_X0_note tH_X0_note (by omega) (by decide) (cs1_sum cs1_nil (Nat.le_of_ble_eq_true rfl)) (by omega) (by omega) ?_
            refine ca_iload C dX6_apply_141 rfl ?_
            cases hf
            exact ca_iret C dX6_apply_143 (by omega) (by omega)
          · replace hf := rif_p c103 hf
            refine ca_aload_n C dX6_apply_106 rfl rfl ?_
            obtain ⟨x107, h107, hf⟩ := rob hf
            refine ca_getR C dX6_apply_107 tcX6_f12 rfl rfl h107 ?_
            refine ca_iload C dX6_apply_110 rfl ?_
            obtain ⟨q112, hq112, hf⟩ := rob hf
            obtain ⟨z112, h112, hf⟩ := rob hf
            refine ca_putI C dX6_apply_112 tcX6_f211 nX4_2 rfl tI4_2 hq112 h112 ?_
            refine ca_aload_n C dX6_apply_115 rfl rfl ?_
            obtain ⟨x116, h116, hf⟩ := rob hf
            refine ca_getR C dX6_apply_116 tcX6_f23 rfl rfl h116 ?_
            refine ca_iload C dX6_apply_119 rfl ?_
            obtain ⟨q121, hq121, hf⟩ := rob hf
            obtain ⟨z121, h121, hf⟩ := rob hf
            refine ca_putI C dX6_apply_121 tcX6_f169 nX3_1 rfl tI3_1 hq121 h121 ?_
            cases hf
            exact ca_throw C dX6_apply_124 dX6_apply_127 dX6_apply_128 dX6_apply_130 dX6_apply_133 cfit2 tX6_k67 tX6_e2 tX6_t254 tX6_w71 tX6_g67_71 (by omega) (cs1_sum cs1_nil (Nat.le_of_ble_eq_true rfl)) (by omega) (by omega)
        · replace hf := rif_n c61 hf
          cases hf
          exact ca_throw C dX6_apply_64 dX6_apply_67 dX6_apply_68 dX6_apply_70 dX6_apply_73 cfit2 tX6_k67 tX6_e2 tX6_t209 tX6_w71 tX6_g67_71 (by omega) (cs1_sum cs1_nil (Nat.le_of_ble_eq_true rfl)) (by omega) (by omega)
      · replace hf := rif_n c41 hf
        refine ca_iload C dX6_apply_44 rfl ?_
        cases hf
        exact ca_iret C dX6_apply_46 (by omega) (by omega)
    · replace hf := rif_p c18 hf
      refine ca_mask [false, false, false, false, false, false, false, false] ?_
      exact bX6_apply_b21 C o  _ hf (by omega) (by omega)
set_option maxRecDepth 100000 in
set_option maxHeartbeats 4000000 in
theorem mX6_apply {l : Launch} (hl : l.stackTraces = false) {G : cG} {o : Nat} {a0 : Int32} {a1 : Int32} {z : cS} {w : Int32 ⊕ Nat} {z' : cS} {A B : Nat} (hf : fX6_apply o a0 a1 z = some (w, z', A, B)) : cMx l G 36 yX6_apply cX6_apply 8 (some .int) [.ref o, .int a0, .int a1] z (cOi w, z', A, B) :=
  cMx_of (lo0 := [some (va_rf (some o)), some (.int a0), some (.int a1), none, none, none, none, none]) (by decide +kernel) rfl (cs1_q (cs1_i (cs1_i cs1_nil))) (Nat.le_of_ble_eq_true rfl) rfl hl (fun X hX C => bX6_apply C o a0 a1 z (kc := 0) (ks := 0) hf (Nat.zero_add _).symm (Nat.zero_add _).symm)
set_option maxRecDepth 100000 in
set_option maxHeartbeats 4000000 in
theorem bX6_pack_b40 {G : cG} {X : rX} {z0 : cS} {w : Int32 ⊕ Nat} {z' : cS} {A B : Nat} (C : cC G X z0 RX6 4 cX6_pack (some .int) 35 A B) (o : Nat) (z : cS) {kc ks ra rb : Nat} (hf : fX6_pack_b40 o  z = some (w, z', ra, rb)) (ha : A = kc + ra) (hb : B = ks + rb) : cAW true G X z0 (cOi w, z', A, B) 4 40 [none, none, none, none] [] z kc ks := by
  unfold fX6_pack_b40 at hf
  cases hf
  exact ca_throwW C dX6_pack_40 dX6_pack_43 dX6_pack_44 dX6_pack_47 dX6_pack_50 cfit2 tX6_k67 tX6_e2 tX6_t262 tX6_w71 tX6_g67_71 (by omega) (cs1_sum cs1_nil (Nat.le_of_ble_eq_true rfl)) (by omega) (by omega)
set_option maxRecDepth 100000 in
set_option maxHeartbeats 4000000 in
theorem bX6_pack {G : cG} {X : rX} {z0 : cS} {w : Int32 ⊕ Nat} {z' : cS} {A B : Nat} (C : cC G X z0 RX6 4 cX6_pack (some .int) 35 A B) (o : Nat) (a0 : Int32) (a1 : Int32) (z : cS) {kc ks ra rb : Nat} (hf : fX6_pack o a0 a1 z = some (w, z', ra, rb)) (ha : A = kc + ra) (hb : B = ks + rb) : cAW true G X z0 (cOi w, z', A, B) 4 0 [some (va_rf (some o)), some (.int a0), some (.int a1), none] [] z kc ks := by
  unfold fX6_pack at hf
  refine ca_aload_n C dX6_pack_0 rfl rfl ?_
  obtain ⟨x1, h1, hf⟩ := rob hf
  refine ca_getR C dX6_pack_1 tcX6_f23 rfl rfl h1 ?_
  refine ca_iload_n C dX6_pack_4 rfl rfl ?_
  obtain ⟨c5, hc5, hf⟩ := rob hf
  obtain ⟨q5, h5, hf⟩ := rob hf
  refine ca_callV C dX6_pack_5 (mX3_at (cC_tr C) h5) (crc_spec hc5) vw3 (by decide) rfl tX6_l103 tI_X3_at tS_X3_at tZ3 tC_X3_at tH_X3_at (by omega) (by decide) (cs1_sum cs1_nil (Nat.le_of_ble_eq_true rfl)) (by omega) (by omega) ?_
  rcases tbind_spec hf with ⟨e8, h8, rfl⟩ | ⟨v8, z8, ra8, rb8, sa8, sb8, h8, hg8, rfl, rfl⟩
  · exact ca_callXSt C dX6_pack_8 (mX6_needRow (cC_tr C) h8) rfl tX6_m107 tT_X6_needRow tZ6 tC_X6_needRow tH_X6_needRow (by omega) (by decide) (cs1_sum cs1_nil (Nat.le_of_ble_eq_true rfl)) (by omega) (by omega)
  replace hf := hg8
  refine ca_callXSr C dX6_pack_8 (mX6_needRow (cC_tr C) h8) rfl tX6_m107 tT_X6_needRow tZ6 tC_X6_needRow tH_X6_needRow (by omega) (by decide) (cs1_sum cs1_nil (Nat.le_of_ble_eq_true rfl)) (by omega) (by omega) ?_
  refine ca_aload_n C dX6_pack_11 rfl rfl ?_
  obtain ⟨x12, h12, hf⟩ := rob hf
  refine ca_getR C dX6_pack_12 tcX6_f27 rfl rfl h12 ?_
  refine ca_iload_n C dX6_pack_15 rfl rfl ?_
  obtain ⟨c16, hc16, hf⟩ := rob hf
  obtain ⟨q16, h16, hf⟩ := rob hf
  refine ca_callV C dX6_pack_16 (mX3_at (cC_tr C) h16) (crc_spec hc16) vw3 (by decide) rfl tX6_l103 tI_X3_at tS_X3_at tZ3 tC_X3_at tH_X3_at (by omega) (by decide) (cs1_sum cs1_nil (Nat.le_of_ble_eq_true rfl)) (by omega) (by omega) ?_
  rcases tbind_spec hf with ⟨e19, h19, rfl⟩ | ⟨v19, z19, ra19, rb19, sa19, sb19, h19, hg19, rfl, rfl⟩
  · exact ca_callXSt C dX6_pack_19 (mX6_needRow (cC_tr C) h19) rfl tX6_m107 tT_X6_needRow tZ6 tC_X6_needRow tH_X6_needRow (by omega) (by decide) (cs1_sum cs1_nil (Nat.le_of_ble_eq_true rfl)) (by omega) (by omega)
  replace hf := hg19
  refine ca_callXSr C dX6_pack_19 (mX6_needRow (cC_tr C) h19) rfl tX6_m107 tT_X6_needRow tZ6 tC_X6_needRow tH_X6_needRow (by omega) (by decide) (cs1_sum cs1_nil (Nat.le_of_ble_eq_true rfl)) (by omega) (by omega) ?_
  refine ca_aload_n C dX6_pack_22 rfl rfl ?_
  obtain ⟨x23, h23, hf⟩ := rob hf
  refine ca_getI C dX6_pack_23 tcX6_f259 rfl rfl h23 ?_
  refine ca_istore_n C dX6_pack_26 rfl (by decide) ?_
  refine ca_iload_n C dX6_pack_27 rfl rfl ?_
  refine ca_if_lt C dX6_pack_28 (tgt := 40) (by decide) (fun c28 => ?_) (fun c28 => ?_)
  · replace hf := rif_p c28 hf
    refine ca_mask [false, false, false, false] ?_
    exact bX6_pack_b40 C o  _ hf (by omega) (by omega)
  · replace hf := rif_n c28 hf
    refine ca_iload_n C dX6_pack_31 rfl rfl ?_
    refine ca_aload_n C dX6_pack_32 rfl rfl ?_
    obtain ⟨x33, h33, hf⟩ := rob hf
    refine ca_getR C dX6_pack_33 tcX6_f49 rfl rfl h33 ?_
    obtain ⟨q36, hq36, hf⟩ := rob hf
    obtain ⟨x36, h36, hf⟩ := rob hf
    refine ca_alenR C dX6_pack_36 hq36 h36 ck11 ?_
    refine ca_icmp_lt C dX6_pack_37 (tgt := 51) (by decide) (fun c37 => ?_) (fun c37 => ?_)
    · replace hf := rif_p c37 hf
      refine ca_aload_n C dX6_pack_51 rfl rfl ?_
      refine ca_aload_n C dX6_pack_52 rfl rfl ?_
      obtain ⟨x53, h53, hf⟩ := rob hf
      refine ca_getR C dX6_pack_53 tcX6_f23 rfl rfl h53 ?_
      refine ca_iload_n C dX6_pack_56 rfl rfl ?_
      refine ca_iload_n C dX6_pack_57 rfl rfl ?_
      refine ca_iconst C dX6_pack_58 (v := 0) (by decide) ?_
      obtain ⟨c59, hc59, hf⟩ := rob hf
      obtain ⟨q59, h59, hf⟩ := rob hf
      refine ca_callV C dX6_pack_59 (mX6_firstMisfit (cC_tr C) _ _ _ _ _ _ _ _ h59) (crc_spec hc59) vw6 (by decide) rfl tX6_l183 tI_X6_firstMisfit tS_X6_firstMisfit tZ6 tC_X6_firstMisfit tH_X6_firstMisfit (by omega) (by decide) (cs1_sum cs1_nil (Nat.le_of_ble_eq_true rfl)) (by omega) (by omega) ?_
      refine ca_if_eq C dX6_pack_62 (tgt := 75) (by decide) (fun c62 => ?_) (fun c62 => ?_)
      · replace hf := rif_p c62 hf
        refine ca_aload_n C dX6_pack_75 rfl rfl ?_
        obtain ⟨x76, h76, hf⟩ := rob hf
        refine ca_getR C dX6_pack_76 tcX6_f49 rfl rfl h76 ?_
        refine ca_iload_n C dX6_pack_79 rfl rfl ?_
        obtain ⟨ra80, rb80, hg80, rfl, rfl⟩ := ause_spec hf
        replace hf := hg80
        refine ca_new C dX6_pack_80 vw1 (by decide) tyX1 tyX1_ok rX1_in tX6_k47 tN1 tZ1 dfX1 (by omega) (by omega) ?_
        refine ca_dup C dX6_pack_83 (va_rf_cat _) ?_
        refine ca_iload_n C dX6_pack_84 rfl rfl ?_
        refine ca_iload_n C dX6_pack_85 rfl rfl ?_
        obtain ⟨q86, h86, hf⟩ := rob hf
        refine ca_callI C dX6_pack_86 (mX1_init (cC_tr C) h86) rfl rfl tX6_l264 tI_X1_init rfl tZ1 tC_X1_init tH_X1_init (by omega) (by decide) (cs1_sum (cs1_r (cs1_i (cs1_r cs1_nil))) (Nat.le_of_ble_eq_true rfl)) (by omega) (by omega) ?_
        obtain ⟨q89, hq89, hf⟩ := rob hf
        obtain ⟨z89, h89, hf⟩ := rob hf
        refine ca_aast C dX6_pack_89 hq89 h89 ck11 ?_
        refine ca_aload_n C dX6_pack_90 rfl rfl ?_
        refine ca_dup C dX6_pack_91 (va_rf_cat _) ?_
        obtain ⟨x92, h92, hf⟩ := rob hf
        refine ca_getI C dX6_pack_92 tcX6_f259 rfl rfl h92 ?_
        refine ca_iconst C dX6_pack_95 (v := 1) (by decide) ?_
        refine ca_iadd C dX6_pack_96 ?_
        obtain ⟨z97, h97, hf⟩ := rob hf
        refine ca_putI C dX6_pack_97 tcX6_f259 nX6_9 rfl tI6_9 rfl h97 ?_
        refine ca_iload_n C dX6_pack_100 rfl rfl ?_
        cases hf
        exact ca_iret C dX6_pack_101 (by omega) (by omega)
      · replace hf := rif_n c62 hf
        cases hf
        exact ca_throw C dX6_pack_65 dX6_pack_68 dX6_pack_69 dX6_pack_71 dX6_pack_74 cfit2 tX6_k67 tX6_e2 tX6_t209 tX6_w71 tX6_g67_71 (by omega) (cs1_sum cs1_nil (Nat.le_of_ble_eq_true rfl)) (by omega) (by omega)
    · replace hf := rif_n c37 hf
      refine ca_mask [false, false, false, false] ?_
      exact bX6_pack_b40 C o  _ hf (by omega) (by omega)
set_option maxRecDepth 100000 in
set_option maxHeartbeats 4000000 in
theorem mX6_pack {l : Launch} (hl : l.stackTraces = false) {G : cG} {o : Nat} {a0 : Int32} {a1 : Int32} {z : cS} {w : Int32 ⊕ Nat} {z' : cS} {A B : Nat} (hf : fX6_pack o a0 a1 z = some (w, z', A, B)) : cMx l G 35 yX6_pack cX6_pack 4 (some .int) [.ref o, .int a0, .int a1] z (cOi w, z', A, B) :=
  cMx_of (lo0 := [some (va_rf (some o)), some (.int a0), some (.int a1), none]) (by decide +kernel) rfl (cs1_q (cs1_i (cs1_i cs1_nil))) (Nat.le_of_ble_eq_true rfl) rfl hl (fun X hX C => bX6_pack C o a0 a1 z (kc := 0) (ks := 0) hf (Nat.zero_add _).symm (Nat.zero_add _).symm)
set_option maxRecDepth 100000 in
set_option maxHeartbeats 4000000 in
theorem bX6_unpack_b23 {G : cG} {X : rX} {z0 : cS} {w : Int32 ⊕ Nat} {z' : cS} {A B : Nat} (C : cC G X z0 RX6 3 cX6_unpack (some .int) 36 A B) (o : Nat) (s0 : Option Nat) (z : cS) {kc ks ra rb : Nat} (hf : fX6_unpack_b23 o s0 z = some (w, z', ra, rb)) (ha : A = kc + ra) (hb : B = ks + rb) : cAW true G X z0 (cOi w, z', A, B) 3 23 [some (va_rf (some o)), none, none] [va_rf s0] z kc ks := by
  unfold fX6_unpack_b23 at hf
  refine ca_astore_n C dX6_unpack_23 rfl (by decide) ?_
  refine ca_aload_n C dX6_unpack_24 rfl rfl ?_
  refine ca_ifnonnull C dX6_unpack_25 (tgt := 39) (by decide) (fun c25 => ?_) (fun c25 => ?_)
  · replace hf := rif_n c25 hf
    refine ca_aload_n C dX6_unpack_39 rfl rfl ?_
    refine ca_aload_n C dX6_unpack_40 rfl rfl ?_
    obtain ⟨q41, hq41, hf⟩ := rob hf
    obtain ⟨x41, h41, hf⟩ := rob hf
    refine ca_getI C dX6_unpack_41 tcX6_f268 rfl hq41 h41 ?_
    refine ca_aload_n C dX6_unpack_44 rfl rfl ?_
    obtain ⟨q45, hq45, hf⟩ := rob hf
    obtain ⟨x45, h45, hf⟩ := rob hf
    refine ca_getI C dX6_unpack_45 tcX6_f271 rfl hq45 h45 ?_
    refine ca_iconst C dX6_unpack_48 (v := 1) (by decide) ?_
    obtain ⟨c49, hc49, hf⟩ := rob hf
    rcases tbind_spec hf with ⟨e49, h49, rfl⟩ | ⟨v49, z49, ra49, rb49, sa49, sb49, h49, hg49, rfl, rfl⟩
    · exact ca_callXt C dX6_unpack_49 (mX6_remade (cC_tr C) h49) (crc_spec hc49) vw6 (by decide) rfl tX6_m187 tI_X6_remade tS_X6_remade tZ6 tC_X6_remade tH_X6_remade (by omega) (by decide) (cs1_sum cs1_nil (Nat.le_of_ble_eq_true rfl)) (by omega) (by omega)
    replace hf := hg49
    refine ca_callXr C dX6_unpack_49 (mX6_remade (cC_tr C) h49) (crc_spec hc49) vw6 (by decide) rfl tX6_m187 tI_X6_remade tS_X6_remade tZ6 tC_X6_remade tH_X6_remade (by omega) (by decide) (cs1_sum cs1_nil (Nat.le_of_ble_eq_true rfl)) (by omega) (by omega) ?_
    cases hf
    exact ca_iret C dX6_unpack_52 (by omega) (by omega)
  · replace hf := rif_p c25 hf
    cases hf
    exact ca_throwW C dX6_unpack_28 dX6_unpack_31 dX6_unpack_32 dX6_unpack_35 dX6_unpack_38 cfit0 tX6_k111 tX6_e0 tX6_t266 tX6_w115 tX6_g111_115 (by omega) (cs1_sum cs1_nil (Nat.le_of_ble_eq_true rfl)) (by omega) (by omega)
set_option maxRecDepth 100000 in
set_option maxHeartbeats 4000000 in
theorem bX6_unpack_b22 {G : cG} {X : rX} {z0 : cS} {w : Int32 ⊕ Nat} {z' : cS} {A B : Nat} (C : cC G X z0 RX6 3 cX6_unpack (some .int) 36 A B) (o : Nat) (z : cS) {kc ks ra rb : Nat} (hf : fX6_unpack_b22 o  z = some (w, z', ra, rb)) (ha : A = kc + ra) (hb : B = ks + rb) : cAW true G X z0 (cOi w, z', A, B) 3 22 [some (va_rf (some o)), none, none] [] z kc ks := by
  unfold fX6_unpack_b22 at hf
  refine ca_null C dX6_unpack_22 ?_
  exact bX6_unpack_b23 C o _ _ hf (by omega) (by omega)
set_option maxRecDepth 100000 in
set_option maxHeartbeats 4000000 in
theorem bX6_unpack {G : cG} {X : rX} {z0 : cS} {w : Int32 ⊕ Nat} {z' : cS} {A B : Nat} (C : cC G X z0 RX6 3 cX6_unpack (some .int) 36 A B) (o : Nat) (a0 : Int32) (z : cS) {kc ks ra rb : Nat} (hf : fX6_unpack o a0 z = some (w, z', ra, rb)) (ha : A = kc + ra) (hb : B = ks + rb) : cAW true G X z0 (cOi w, z', A, B) 3 0 [some (va_rf (some o)), some (.int a0), none] [] z kc ks := by
  unfold fX6_unpack at hf
  refine ca_iload_n C dX6_unpack_0 rfl rfl ?_
  refine ca_if_lt C dX6_unpack_1 (tgt := 22) (by decide) (fun c1 => ?_) (fun c1 => ?_)
  · replace hf := rif_p c1 hf
    refine ca_mask [true, false, false] ?_
    exact bX6_unpack_b22 C o  _ hf (by omega) (by omega)
  · replace hf := rif_n c1 hf
    refine ca_iload_n C dX6_unpack_4 rfl rfl ?_
    refine ca_aload_n C dX6_unpack_5 rfl rfl ?_
    obtain ⟨x6, h6, hf⟩ := rob hf
    refine ca_getR C dX6_unpack_6 tcX6_f49 rfl rfl h6 ?_
    obtain ⟨q9, hq9, hf⟩ := rob hf
    obtain ⟨x9, h9, hf⟩ := rob hf
    refine ca_alenR C dX6_unpack_9 hq9 h9 ck11 ?_
    refine ca_icmp_ge C dX6_unpack_10 (tgt := 22) (by decide) (fun c10 => ?_) (fun c10 => ?_)
    · replace hf := rif_p c10 hf
      refine ca_mask [true, false, false] ?_
      exact bX6_unpack_b22 C o  _ hf (by omega) (by omega)
    · replace hf := rif_n c10 hf
      refine ca_aload_n C dX6_unpack_13 rfl rfl ?_
      obtain ⟨x14, h14, hf⟩ := rob hf
      refine ca_getR C dX6_unpack_14 tcX6_f49 rfl rfl h14 ?_
      refine ca_iload_n C dX6_unpack_17 rfl rfl ?_
      obtain ⟨q18, hq18, hf⟩ := rob hf
      obtain ⟨x18, h18, hf⟩ := rob hf
      refine ca_aald C dX6_unpack_18 hq18 h18 ck11 ?_
      refine ca_goto C dX6_unpack_19 (tgt := 23) (by decide) ?_
      refine ca_mask [true, false, false] ?_
      exact bX6_unpack_b23 C o _ _ hf (by omega) (by omega)
set_option maxRecDepth 100000 in
set_option maxHeartbeats 4000000 in
theorem mX6_unpack {l : Launch} (hl : l.stackTraces = false) {G : cG} {o : Nat} {a0 : Int32} {z : cS} {w : Int32 ⊕ Nat} {z' : cS} {A B : Nat} (hf : fX6_unpack o a0 z = some (w, z', A, B)) : cMx l G 36 yX6_unpack cX6_unpack 3 (some .int) [.ref o, .int a0] z (cOi w, z', A, B) :=
  cMx_of (lo0 := [some (va_rf (some o)), some (.int a0), none]) (by decide +kernel) rfl (cs1_q (cs1_i cs1_nil)) (Nat.le_of_ble_eq_true rfl) rfl hl (fun X hX C => bX6_unpack C o a0 z (kc := 0) (ks := 0) hf (Nat.zero_add _).symm (Nat.zero_add _).symm)
set_option maxRecDepth 100000 in
set_option maxHeartbeats 4000000 in
theorem bX6_unit_b60 {G : cG} {X : rX} {z0 : cS} {w : Int32 ⊕ Nat} {z' : cS} {A B : Nat} (C : cC G X z0 RX6 6 cX6_unit (some .int) 7 A B) (o : Nat) (z : cS) {kc ks ra rb : Nat} (hf : fX6_unit_b60 o  z = some (w, z', ra, rb)) (ha : A = kc + ra) (hb : B = ks + rb) : cAW true G X z0 (cOi w, z', A, B) 6 60 [none, none, none, none, none, none] [] z kc ks := by
  unfold fX6_unit_b60 at hf
  cases hf
  exact ca_throwW C dX6_unit_60 dX6_unit_63 dX6_unit_64 dX6_unit_67 dX6_unit_70 cfit2 tX6_k67 tX6_e2 tX6_t297 tX6_w71 tX6_g67_71 (by omega) (cs1_sum cs1_nil (Nat.le_of_ble_eq_true rfl)) (by omega) (by omega)
set_option maxRecDepth 100000 in
set_option maxHeartbeats 4000000 in
theorem bX6_unit {G : cG} {X : rX} {z0 : cS} {w : Int32 ⊕ Nat} {z' : cS} {A B : Nat} (C : cC G X z0 RX6 6 cX6_unit (some .int) 7 A B) (o : Nat) (a0 : Int32) (a1 : Int32) (a2 : Int32) (z : cS) {kc ks ra rb : Nat} (hf : fX6_unit o a0 a1 a2 z = some (w, z', ra, rb)) (ha : A = kc + ra) (hb : B = ks + rb) : cAW true G X z0 (cOi w, z', A, B) 6 0 [some (va_rf (some o)), some (.int a0), some (.int a1), some (.int a2), none, none] [] z kc ks := by
  unfold fX6_unit at hf
  refine ca_aload_n C dX6_unit_0 rfl rfl ?_
  obtain ⟨x1, h1, hf⟩ := rob hf
  refine ca_getR C dX6_unit_1 tcX6_f27 rfl rfl h1 ?_
  refine ca_iload_n C dX6_unit_4 rfl rfl ?_
  obtain ⟨c5, hc5, hf⟩ := rob hf
  obtain ⟨q5, h5, hf⟩ := rob hf
  refine ca_callV C dX6_unit_5 (mX3_at (cC_tr C) h5) (crc_spec hc5) vw3 (by decide) rfl tX6_l103 tI_X3_at tS_X3_at tZ3 tC_X3_at tH_X3_at (by omega) (by decide) (cs1_sum cs1_nil (Nat.le_of_ble_eq_true rfl)) (by omega) (by omega) ?_
  rcases tbind_spec hf with ⟨e8, h8, rfl⟩ | ⟨v8, z8, ra8, rb8, sa8, sb8, h8, hg8, rfl, rfl⟩
  · exact ca_callXSt C dX6_unit_8 (mX6_needRow (cC_tr C) h8) rfl tX6_m107 tT_X6_needRow tZ6 tC_X6_needRow tH_X6_needRow (by omega) (by decide) (cs1_sum cs1_nil (Nat.le_of_ble_eq_true rfl)) (by omega) (by omega)
  replace hf := hg8
  refine ca_callXSr C dX6_unit_8 (mX6_needRow (cC_tr C) h8) rfl tX6_m107 tT_X6_needRow tZ6 tC_X6_needRow tH_X6_needRow (by omega) (by decide) (cs1_sum cs1_nil (Nat.le_of_ble_eq_true rfl)) (by omega) (by omega) ?_
  refine ca_aload_n C dX6_unit_11 rfl rfl ?_
  obtain ⟨x12, h12, hf⟩ := rob hf
  refine ca_getI C dX6_unit_12 tcX6_f292 rfl rfl h12 ?_
  refine ca_istore C dX6_unit_15 (by decide) ?_
  refine ca_iconst C dX6_unit_17 (v := 1) (by decide) ?_
  refine ca_iload C dX6_unit_18 rfl ?_
  refine ca_ishl C dX6_unit_20 ?_
  refine ca_iconst C dX6_unit_21 (v := 1) (by decide) ?_
  refine ca_isub C dX6_unit_22 ?_
  refine ca_istore C dX6_unit_23 (by decide) ?_
  refine ca_iload_n C dX6_unit_25 rfl rfl ?_
  refine ca_iload C dX6_unit_26 rfl ?_
  refine ca_iconst C dX6_unit_28 (v := (-1)) (by decide) ?_
  refine ca_ixor C dX6_unit_29 ?_
  refine ca_iand C dX6_unit_30 ?_
  refine ca_if_eq C dX6_unit_31 (tgt := 45) (by decide) (fun c31 => ?_) (fun c31 => ?_)
  · replace hf := rif_p c31 hf
    refine ca_iload C dX6_unit_45 rfl ?_
    refine ca_if_lt C dX6_unit_47 (tgt := 60) (by decide) (fun c47 => ?_) (fun c47 => ?_)
    · replace hf := rif_p c47 hf
      refine ca_mask [false, false, false, false, false, false] ?_
      exact bX6_unit_b60 C o  _ hf (by omega) (by omega)
    · replace hf := rif_n c47 hf
      refine ca_iload C dX6_unit_50 rfl ?_
      refine ca_aload_n C dX6_unit_52 rfl rfl ?_
      obtain ⟨x53, h53, hf⟩ := rob hf
      refine ca_getR C dX6_unit_53 tcX6_f55 rfl rfl h53 ?_
      obtain ⟨q56, hq56, hf⟩ := rob hf
      obtain ⟨x56, h56, hf⟩ := rob hf
      refine ca_alenR C dX6_unit_56 hq56 h56 ck13 ?_
      refine ca_icmp_lt C dX6_unit_57 (tgt := 71) (by decide) (fun c57 => ?_) (fun c57 => ?_)
      · replace hf := rif_p c57 hf
        refine ca_aload_n C dX6_unit_71 rfl rfl ?_
        obtain ⟨x72, h72, hf⟩ := rob hf
        refine ca_getR C dX6_unit_72 tcX6_f55 rfl rfl h72 ?_
        refine ca_iload C dX6_unit_75 rfl ?_
        obtain ⟨ra77, rb77, hg77, rfl, rfl⟩ := ause_spec hf
        replace hf := hg77
        refine ca_new C dX6_unit_77 vw5 (by decide) tyX5 tyX5_ok rX5_in tX6_k53 tN5 tZ5 dfX5 (by omega) (by omega) ?_
        refine ca_dup C dX6_unit_80 (va_rf_cat _) ?_
        refine ca_iload_n C dX6_unit_81 rfl rfl ?_
        refine ca_iload_n C dX6_unit_82 rfl rfl ?_
        refine ca_iload_n C dX6_unit_83 rfl rfl ?_
        obtain ⟨v84, z84, ra84, rb84, sa84, sb84, h84, hg84, rfl, rfl⟩ := abind_spec hf
        replace hf := hg84
        refine ca_callI C dX6_unit_84 (mX5_init (cC_tr C) h84) rfl rfl tX6_l299 tI_X5_init rfl tZ5 tC_X5_init tH_X5_init (by omega) (by decide) (cs1_sum (cs1_r (cs1_i (cs1_r cs1_nil))) (Nat.le_of_ble_eq_true rfl)) (by omega) (by omega) ?_
        obtain ⟨q87, hq87, hf⟩ := rob hf
        obtain ⟨z87, h87, hf⟩ := rob hf
        refine ca_aast C dX6_unit_87 hq87 h87 ck13 ?_
        refine ca_aload_n C dX6_unit_88 rfl rfl ?_
        refine ca_dup C dX6_unit_89 (va_rf_cat _) ?_
        obtain ⟨x90, h90, hf⟩ := rob hf
        refine ca_getI C dX6_unit_90 tcX6_f292 rfl rfl h90 ?_
        refine ca_iconst C dX6_unit_93 (v := 1) (by decide) ?_
        refine ca_iadd C dX6_unit_94 ?_
        obtain ⟨z95, h95, hf⟩ := rob hf
        refine ca_putI C dX6_unit_95 tcX6_f292 nX6_11 rfl tI6_11 rfl h95 ?_
        refine ca_iload C dX6_unit_98 rfl ?_
        cases hf
        exact ca_iret C dX6_unit_100 (by omega) (by omega)
      · replace hf := rif_n c57 hf
        refine ca_mask [false, false, false, false, false, false] ?_
        exact bX6_unit_b60 C o  _ hf (by omega) (by omega)
  · replace hf := rif_n c31 hf
    cases hf
    exact ca_throwW C dX6_unit_34 dX6_unit_37 dX6_unit_38 dX6_unit_41 dX6_unit_44 cfit0 tX6_k111 tX6_e0 tX6_t295 tX6_w115 tX6_g111_115 (by omega) (cs1_sum cs1_nil (Nat.le_of_ble_eq_true rfl)) (by omega) (by omega)
set_option maxRecDepth 100000 in
set_option maxHeartbeats 4000000 in
theorem mX6_unit {l : Launch} (hl : l.stackTraces = false) {G : cG} {o : Nat} {a0 : Int32} {a1 : Int32} {a2 : Int32} {z : cS} {w : Int32 ⊕ Nat} {z' : cS} {A B : Nat} (hf : fX6_unit o a0 a1 a2 z = some (w, z', A, B)) : cMx l G 7 yX6_unit cX6_unit 6 (some .int) [.ref o, .int a0, .int a1, .int a2] z (cOi w, z', A, B) :=
  cMx_of (lo0 := [some (va_rf (some o)), some (.int a0), some (.int a1), some (.int a2), none, none]) (by decide +kernel) rfl (cs1_q (cs1_i (cs1_i (cs1_i cs1_nil)))) (Nat.le_of_ble_eq_true rfl) rfl hl (fun X hX C => bX6_unit C o a0 a1 a2 z (kc := 0) (ks := 0) hf (Nat.zero_add _).symm (Nat.zero_add _).symm)
