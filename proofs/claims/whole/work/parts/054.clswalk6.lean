set_option maxRecDepth 100000 in
set_option maxHeartbeats 4000000 in
theorem bX6_unitAt_b23 {G : cG} {X : rX} {z0 : cS} {r : (Option Nat) × cS} (C : cC G X z0 RX6 2 cX6_unitAt (some (.object "ModuleLoft$Unit")) 0 0 0) (o : Nat) (s0 : Option Nat) (z : cS) (hf : fX6_unitAt_b23 o s0 z = some r) : cAW false G X z0 (.inl (some (va_rf r.1)), r.2, 0, 0) 2 23 [none, none] [va_rf s0] z 0 0 := by
  unfold fX6_unitAt_b23 at hf
  obtain rfl := Option.some.inj hf
  exact ca_aret C dX6_unitAt_23 (by omega) (by omega)
set_option maxRecDepth 100000 in
set_option maxHeartbeats 4000000 in
theorem bX6_unitAt_b22 {G : cG} {X : rX} {z0 : cS} {r : (Option Nat) × cS} (C : cC G X z0 RX6 2 cX6_unitAt (some (.object "ModuleLoft$Unit")) 0 0 0) (o : Nat) (z : cS) (hf : fX6_unitAt_b22 o  z = some r) : cAW false G X z0 (.inl (some (va_rf r.1)), r.2, 0, 0) 2 22 [none, none] [] z 0 0 := by
  unfold fX6_unitAt_b22 at hf
  refine ca_null C dX6_unitAt_22 ?_
  exact bX6_unitAt_b23 C o _ _ hf
set_option maxRecDepth 100000 in
set_option maxHeartbeats 4000000 in
theorem bX6_unitAt {G : cG} {X : rX} {z0 : cS} {r : (Option Nat) × cS} (C : cC G X z0 RX6 2 cX6_unitAt (some (.object "ModuleLoft$Unit")) 0 0 0) (o : Nat) (a0 : Int32) (z : cS) (hf : fX6_unitAt o a0 z = some r) : cAW false G X z0 (.inl (some (va_rf r.1)), r.2, 0, 0) 2 0 [some (va_rf (some o)), some (.int a0)] [] z 0 0 := by
  unfold fX6_unitAt at hf
  refine ca_iload_n C dX6_unitAt_0 rfl rfl ?_
  refine ca_if_lt C dX6_unitAt_1 (tgt := 22) (by decide) (fun c1 => ?_) (fun c1 => ?_)
  · replace hf := rif_p c1 hf
    refine ca_mask [false, false] ?_
    exact bX6_unitAt_b22 C o  _ hf
  · replace hf := rif_n c1 hf
    refine ca_iload_n C dX6_unitAt_4 rfl rfl ?_
    refine ca_aload_n C dX6_unitAt_5 rfl rfl ?_
    obtain ⟨x6, h6, hf⟩ := rob hf
    refine ca_getR C dX6_unitAt_6 tcX6_f55 rfl rfl h6 ?_
    obtain ⟨q9, hq9, hf⟩ := rob hf
    obtain ⟨x9, h9, hf⟩ := rob hf
    refine ca_alenR C dX6_unitAt_9 hq9 h9 ck13 ?_
    refine ca_icmp_ge C dX6_unitAt_10 (tgt := 22) (by decide) (fun c10 => ?_) (fun c10 => ?_)
    · replace hf := rif_p c10 hf
      refine ca_mask [false, false] ?_
      exact bX6_unitAt_b22 C o  _ hf
    · replace hf := rif_n c10 hf
      refine ca_aload_n C dX6_unitAt_13 rfl rfl ?_
      obtain ⟨x14, h14, hf⟩ := rob hf
      refine ca_getR C dX6_unitAt_14 tcX6_f55 rfl rfl h14 ?_
      refine ca_iload_n C dX6_unitAt_17 rfl rfl ?_
      obtain ⟨q18, hq18, hf⟩ := rob hf
      obtain ⟨x18, h18, hf⟩ := rob hf
      refine ca_aald C dX6_unitAt_18 hq18 h18 ck13 ?_
      refine ca_goto C dX6_unitAt_19 (tgt := 23) (by decide) ?_
      refine ca_mask [false, false] ?_
      exact bX6_unitAt_b23 C o _ _ hf
set_option maxRecDepth 100000 in
set_option maxHeartbeats 4000000 in
theorem mX6_unitAt {l : Launch} (hl : l.stackTraces = false) {G : cG} {o : Nat} {a0 : Int32} {z : cS} {r : (Option Nat) × cS} (hf : fX6_unitAt o a0 z = some r) : cM l G 0 yX6_unitAt cX6_unitAt 2 (some (.object "ModuleLoft$Unit")) [.ref o, .int a0] z (.inl (some (va_rf r.1)), r.2, 0, 0) :=
  cM_of (lo0 := [some (va_rf (some o)), some (.int a0)]) (by decide +kernel) rfl (cs1_q (cs1_i cs1_nil)) (Nat.le_of_ble_eq_true rfl) rfl hl (fun X hX _ C => bX6_unitAt C o a0 z hf)
set_option maxRecDepth 100000 in
set_option maxHeartbeats 4000000 in
theorem bX6_change_b26 {G : cG} {X : rX} {z0 : cS} {w : Int32 ⊕ Nat} {z' : cS} {A B : Nat} (C : cC G X z0 RX6 4 cX6_change (some .int) 6 A B) (o : Nat) (z : cS) {kc ks ra rb : Nat} (hf : fX6_change_b26 o  z = some (w, z', ra, rb)) (ha : A = kc + ra) (hb : B = ks + rb) : cAW true G X z0 (cOi w, z', A, B) 4 26 [none, none, none, none] [] z kc ks := by
  unfold fX6_change_b26 at hf
  cases hf
  exact ca_throwW C dX6_change_26 dX6_change_29 dX6_change_30 dX6_change_33 dX6_change_36 cfit0 tX6_k111 tX6_e0 tX6_t304 tX6_w115 tX6_g111_115 (by omega) (cs1_sum cs1_nil (Nat.le_of_ble_eq_true rfl)) (by omega) (by omega)
set_option maxRecDepth 100000 in
set_option maxHeartbeats 4000000 in
theorem bX6_change_b47 {G : cG} {X : rX} {z0 : cS} {w : Int32 ⊕ Nat} {z' : cS} {A B : Nat} (C : cC G X z0 RX6 4 cX6_change (some .int) 6 A B) (o : Nat) (l3 : Option Nat) (z : cS) {kc ks ra rb : Nat} (hf : fX6_change_b47 o l3 z = some (w, z', ra, rb)) (ha : A = kc + ra) (hb : B = ks + rb) : cAW true G X z0 (cOi w, z', A, B) 4 47 [none, none, none, some (va_rf l3)] [] z kc ks := by
  unfold fX6_change_b47 at hf
  refine ca_aload_n C dX6_change_47 rfl rfl ?_
  refine ca_dup C dX6_change_48 (va_rf_cat _) ?_
  obtain ⟨q49, hq49, hf⟩ := rob hf
  obtain ⟨x49, h49, hf⟩ := rob hf
  refine ca_getI C dX6_change_49 tcX6_f309 rfl hq49 h49 ?_
  refine ca_iconst C dX6_change_52 (v := 1) (by decide) ?_
  refine ca_iadd C dX6_change_53 ?_
  obtain ⟨q54, hq54, hf⟩ := rob hf
  obtain ⟨z54, h54, hf⟩ := rob hf
  refine ca_putI C dX6_change_54 tcX6_f309 nX5_3 rfl tI5_3 hq54 h54 ?_
  refine ca_aload_n C dX6_change_57 rfl rfl ?_
  obtain ⟨q58, hq58, hf⟩ := rob hf
  obtain ⟨x58, h58, hf⟩ := rob hf
  refine ca_getI C dX6_change_58 tcX6_f309 rfl hq58 h58 ?_
  cases hf
  exact ca_iret C dX6_change_61 (by omega) (by omega)
set_option maxRecDepth 100000 in
set_option maxHeartbeats 4000000 in
theorem bX6_change_b37 {G : cG} {X : rX} {z0 : cS} {w : Int32 ⊕ Nat} {z' : cS} {A B : Nat} (C : cC G X z0 RX6 4 cX6_change (some .int) 6 A B) (o : Nat) (l2 : Int32) (l3 : Option Nat) (z : cS) {kc ks ra rb : Nat} (hf : fX6_change_b37 o l2 l3 z = some (w, z', ra, rb)) (ha : A = kc + ra) (hb : B = ks + rb) : cAW true G X z0 (cOi w, z', A, B) 4 37 [none, none, some (.int l2), some (va_rf l3)] [] z kc ks := by
  unfold fX6_change_b37 at hf
  refine ca_iload_n C dX6_change_37 rfl rfl ?_
  refine ca_iconst C dX6_change_38 (v := (-1)) (by decide) ?_
  refine ca_icmp_eq C dX6_change_39 (tgt := 47) (by decide) (fun c39 => ?_) (fun c39 => ?_)
  · replace hf := rif_p c39 hf
    refine ca_mask [false, false, false, true] ?_
    exact bX6_change_b47 C o _ _ hf (by omega) (by omega)
  · replace hf := rif_n c39 hf
    refine ca_aload_n C dX6_change_42 rfl rfl ?_
    refine ca_iload_n C dX6_change_43 rfl rfl ?_
    obtain ⟨q44, hq44, hf⟩ := rob hf
    obtain ⟨z44, h44, hf⟩ := rob hf
    refine ca_putI C dX6_change_44 tcX6_f306 nX5_2 rfl tI5_2 hq44 h44 ?_
    refine ca_mask [false, false, false, true] ?_
    exact bX6_change_b47 C o _ _ hf (by omega) (by omega)
set_option maxRecDepth 100000 in
set_option maxHeartbeats 4000000 in
theorem bX6_change {G : cG} {X : rX} {z0 : cS} {w : Int32 ⊕ Nat} {z' : cS} {A B : Nat} (C : cC G X z0 RX6 4 cX6_change (some .int) 6 A B) (o : Nat) (a0 : Int32) (a1 : Int32) (z : cS) {kc ks ra rb : Nat} (hf : fX6_change o a0 a1 z = some (w, z', ra, rb)) (ha : A = kc + ra) (hb : B = ks + rb) : cAW true G X z0 (cOi w, z', A, B) 4 0 [some (va_rf (some o)), some (.int a0), some (.int a1), none] [] z kc ks := by
  unfold fX6_change at hf
  refine ca_aload_n C dX6_change_0 rfl rfl ?_
  refine ca_iload_n C dX6_change_1 rfl rfl ?_
  obtain ⟨c2, hc2, hf⟩ := rob hf
  obtain ⟨q2, h2, hf⟩ := rob hf
  refine ca_callV C dX6_change_2 (mX6_unitAt (cC_tr C) h2) (crc_spec hc2) vw6 (by decide) rfl tX6_l300 tI_X6_unitAt tS_X6_unitAt tZ6 tC_X6_unitAt tH_X6_unitAt (by omega) (by decide) (cs1_sum cs1_nil (Nat.le_of_ble_eq_true rfl)) (by omega) (by omega) ?_
  refine ca_astore_n C dX6_change_5 rfl (by decide) ?_
  refine ca_aload_n C dX6_change_6 rfl rfl ?_
  refine ca_ifnull C dX6_change_7 (tgt := 26) (by decide) (fun c7 => ?_) (fun c7 => ?_)
  · replace hf := rif_p c7 hf
    refine ca_mask [false, false, false, false] ?_
    exact bX6_change_b26 C o  _ hf (by omega) (by omega)
  · replace hf := rif_n c7 hf
    refine ca_iload_n C dX6_change_10 rfl rfl ?_
    refine ca_iconst C dX6_change_11 (v := (-1)) (by decide) ?_
    refine ca_icmp_eq C dX6_change_12 (tgt := 37) (by decide) (fun c12 => ?_) (fun c12 => ?_)
    · replace hf := rif_p c12 hf
      refine ca_mask [false, false, true, true] ?_
      exact bX6_change_b37 C o _ _ _ hf (by omega) (by omega)
    · replace hf := rif_n c12 hf
      refine ca_aload_n C dX6_change_15 rfl rfl ?_
      obtain ⟨x16, h16, hf⟩ := rob hf
      refine ca_getR C dX6_change_16 tcX6_f27 rfl rfl h16 ?_
      refine ca_iload_n C dX6_change_19 rfl rfl ?_
      obtain ⟨c20, hc20, hf⟩ := rob hf
      obtain ⟨q20, h20, hf⟩ := rob hf
      refine ca_callV C dX6_change_20 (mX3_at (cC_tr C) h20) (crc_spec hc20) vw3 (by decide) rfl tX6_l103 tI_X3_at tS_X3_at tZ3 tC_X3_at tH_X3_at (by omega) (by decide) (cs1_sum cs1_nil (Nat.le_of_ble_eq_true rfl)) (by omega) (by omega) ?_
      refine ca_ifnonnull C dX6_change_23 (tgt := 37) (by decide) (fun c23 => ?_) (fun c23 => ?_)
      · replace hf := rif_n c23 hf
        refine ca_mask [false, false, true, true] ?_
        exact bX6_change_b37 C o _ _ _ hf (by omega) (by omega)
      · replace hf := rif_p c23 hf
        refine ca_mask [false, false, false, false] ?_
        exact bX6_change_b26 C o  _ hf (by omega) (by omega)
set_option maxRecDepth 100000 in
set_option maxHeartbeats 4000000 in
theorem mX6_change {l : Launch} (hl : l.stackTraces = false) {G : cG} {o : Nat} {a0 : Int32} {a1 : Int32} {z : cS} {w : Int32 ⊕ Nat} {z' : cS} {A B : Nat} (hf : fX6_change o a0 a1 z = some (w, z', A, B)) : cMx l G 6 yX6_change cX6_change 4 (some .int) [.ref o, .int a0, .int a1] z (cOi w, z', A, B) :=
  cMx_of (lo0 := [some (va_rf (some o)), some (.int a0), some (.int a1), none]) (by decide +kernel) rfl (cs1_q (cs1_i (cs1_i cs1_nil))) (Nat.le_of_ble_eq_true rfl) rfl hl (fun X hX C => bX6_change C o a0 a1 z (kc := 0) (ks := 0) hf (Nat.zero_add _).symm (Nat.zero_add _).symm)
set_option maxRecDepth 100000 in
set_option maxHeartbeats 4000000 in
theorem bX6_isStale_b79 {G : cG} {X : rX} {z0 : cS} {r : Int32 × cS} (C : cC G X z0 RX6 4 cX6_isStale (some .boolean) 32 0 0) (o : Nat) {rec15 : Option Nat → Int32 → cS → Option (Int32 × cS)} (hrec15 : ∀ (l1 : Option Nat) (l2 : Int32) (z : cS), rec15 l1 l2 z = some r → cAW false G X z0 (.inl (some (.int r.1)), r.2, 0, 0) 4 15 [some (va_rf (some o)), some (va_rf l1), some (.int l2), none] [] z 0 0) (l1 : Option Nat) (l2 : Int32) (z : cS) (hf : fX6_isStale_b79 o rec15 l1 l2 z = some r) : cAW false G X z0 (.inl (some (.int r.1)), r.2, 0, 0) 4 79 [some (va_rf (some o)), some (va_rf l1), some (.int l2), none] [] z 0 0 := by
  unfold fX6_isStale_b79 at hf
  refine ca_iinc C dX6_isStale_79 rfl (v := 1) (by decide) (by decide) ?_
  refine ca_goto C dX6_isStale_82 (tgt := 15) (by decide) ?_
  exact hrec15 _ _ _ hf
set_option maxRecDepth 100000 in
set_option maxHeartbeats 4000000 in
theorem bX6_isStale_b77 {G : cG} {X : rX} {z0 : cS} {r : Int32 × cS} (C : cC G X z0 RX6 4 cX6_isStale (some .boolean) 32 0 0) (o : Nat) (z : cS) (hf : fX6_isStale_b77 o  z = some r) : cAW false G X z0 (.inl (some (.int r.1)), r.2, 0, 0) 4 77 [none, none, none, none] [] z 0 0 := by
  unfold fX6_isStale_b77 at hf
  refine ca_iconst C dX6_isStale_77 (v := 1) (by decide) ?_
  obtain ⟨hn, hf⟩ := cbo_spec hf
  obtain rfl := Option.some.inj hf
  exact ca_zret C hn dX6_isStale_78 (by omega) (by omega)
set_option maxRecDepth 100000 in
set_option maxHeartbeats 4000000 in
theorem bX6_isStale_b15_body {G : cG} {X : rX} {z0 : cS} {r : Int32 × cS} (C : cC G X z0 RX6 4 cX6_isStale (some .boolean) 32 0 0) (o : Nat) {rec15 : Option Nat → Int32 → cS → Option (Int32 × cS)} (hrec15 : ∀ (l1 : Option Nat) (l2 : Int32) (z : cS), rec15 l1 l2 z = some r → cAW false G X z0 (.inl (some (.int r.1)), r.2, 0, 0) 4 15 [some (va_rf (some o)), some (va_rf l1), some (.int l2), none] [] z 0 0) (l1 : Option Nat) (l2 : Int32) (z : cS) (hf : fX6_isStale_b15_body o rec15 l1 l2 z = some r) : cAW false G X z0 (.inl (some (.int r.1)), r.2, 0, 0) 4 15 [some (va_rf (some o)), some (va_rf l1), some (.int l2), none] [] z 0 0 := by
  unfold fX6_isStale_b15_body at hf
  refine ca_iload_n C dX6_isStale_15 rfl rfl ?_
  refine ca_aload_n C dX6_isStale_16 rfl rfl ?_
  obtain ⟨x17, h17, hf⟩ := rob hf
  refine ca_getI C dX6_isStale_17 tcX6_f292 rfl rfl h17 ?_
  refine ca_icmp_ge C dX6_isStale_20 (tgt := 85) (by decide) (fun c20 => ?_) (fun c20 => ?_)
  · replace hf := rif_p c20 hf
    refine ca_iconst C dX6_isStale_85 (v := 0) (by decide) ?_
    obtain ⟨hn, hf⟩ := cbo_spec hf
    obtain rfl := Option.some.inj hf
    exact ca_zret C hn dX6_isStale_86 (by omega) (by omega)
  · replace hf := rif_n c20 hf
    refine ca_aload_n C dX6_isStale_23 rfl rfl ?_
    refine ca_iload_n C dX6_isStale_24 rfl rfl ?_
    obtain ⟨c25, hc25, hf⟩ := rob hf
    obtain ⟨q25, h25, hf⟩ := rob hf
    refine ca_callV C dX6_isStale_25 (mX6_unitAt (cC_tr C) h25) (crc_spec hc25) vw6 (by decide) rfl tX6_l300 tI_X6_unitAt tS_X6_unitAt tZ6 tC_X6_unitAt tH_X6_unitAt (by omega) (by decide) (cs1_sum cs1_nil (Nat.le_of_ble_eq_true rfl)) (by omega) (by omega) ?_
    refine ca_astore_n C dX6_isStale_28 rfl (by decide) ?_
    refine ca_aload_n C dX6_isStale_29 rfl rfl ?_
    refine ca_ifnull C dX6_isStale_30 (tgt := 79) (by decide) (fun c30 => ?_) (fun c30 => ?_)
    · replace hf := rif_p c30 hf
      refine ca_mask [true, true, true, false] ?_
      exact bX6_isStale_b79 C o hrec15 _ _ _ hf
    · replace hf := rif_n c30 hf
      refine ca_aload_n C dX6_isStale_33 rfl rfl ?_
      refine ca_iload_n C dX6_isStale_34 rfl rfl ?_
      obtain ⟨c35, hc35, hf⟩ := rob hf
      obtain ⟨q35, h35, hf⟩ := rob hf
      refine ca_callV C dX6_isStale_35 (mX5_isUsing (cC_tr C) h35) (crc_spec hc35) vw5 (by decide) rfl tX6_l323 tI_X5_isUsing tS_X5_isUsing tZ5 tC_X5_isUsing tH_X5_isUsing (by omega) (by decide) (cs1_sum cs1_nil (Nat.le_of_ble_eq_true rfl)) (by omega) (by omega) ?_
      refine ca_if_eq C dX6_isStale_38 (tgt := 79) (by decide) (fun c38 => ?_) (fun c38 => ?_)
      · replace hf := rif_p c38 hf
        refine ca_mask [true, true, true, false] ?_
        exact bX6_isStale_b79 C o hrec15 _ _ _ hf
      · replace hf := rif_n c38 hf
        refine ca_aload_n C dX6_isStale_41 rfl rfl ?_
        refine ca_aload_n C dX6_isStale_42 rfl rfl ?_
        obtain ⟨q43, hq43, hf⟩ := rob hf
        obtain ⟨x43, h43, hf⟩ := rob hf
        refine ca_getI C dX6_isStale_43 tcX6_f306 rfl hq43 h43 ?_
        refine ca_aload_n C dX6_isStale_46 rfl rfl ?_
        refine ca_iload_n C dX6_isStale_47 rfl rfl ?_
        obtain ⟨c48, hc48, hf⟩ := rob hf
        obtain ⟨q48, h48, hf⟩ := rob hf
        refine ca_callV C dX6_isStale_48 (mX5_notedFace (cC_tr C) h48) (crc_spec hc48) vw5 (by decide) rfl tX6_l326 tI_X5_notedFace tS_X5_notedFace tZ5 tC_X5_notedFace tH_X5_notedFace (by omega) (by decide) (cs1_sum (cs1_i (cs1_r cs1_nil)) (Nat.le_of_ble_eq_true rfl)) (by omega) (by omega) ?_
        refine ca_iconst C dX6_isStale_51 (v := 0) (by decide) ?_
        obtain ⟨c52, hc52, hf⟩ := rob hf
        obtain ⟨q52, h52, hf⟩ := rob hf
        refine ca_callV C dX6_isStale_52 (mX6_areAlike (cC_tr C) _ _ _ _ _ _ _ h52) (crc_spec hc52) vw6 (by decide) rfl tX6_l191 tI_X6_areAlike tS_X6_areAlike tZ6 tC_X6_areAlike tH_X6_areAlike (by omega) (by decide) (cs1_sum cs1_nil (Nat.le_of_ble_eq_true rfl)) (by omega) (by omega) ?_
        refine ca_if_eq C dX6_isStale_55 (tgt := 77) (by decide) (fun c55 => ?_) (fun c55 => ?_)
        · replace hf := rif_p c55 hf
          refine ca_mask [false, false, false, false] ?_
          exact bX6_isStale_b77 C o  _ hf
        · replace hf := rif_n c55 hf
          refine ca_aload_n C dX6_isStale_58 rfl rfl ?_
          obtain ⟨q59, hq59, hf⟩ := rob hf
          obtain ⟨x59, h59, hf⟩ := rob hf
          refine ca_getI C dX6_isStale_59 tcX6_f329 rfl hq59 h59 ?_
          refine ca_if_eq C dX6_isStale_62 (tgt := 79) (by decide) (fun c62 => ?_) (fun c62 => ?_)
          · replace hf := rif_p c62 hf
            refine ca_mask [true, true, true, false] ?_
            exact bX6_isStale_b79 C o hrec15 _ _ _ hf
          · replace hf := rif_n c62 hf
            refine ca_aload_n C dX6_isStale_65 rfl rfl ?_
            obtain ⟨q66, hq66, hf⟩ := rob hf
            obtain ⟨x66, h66, hf⟩ := rob hf
            refine ca_getI C dX6_isStale_66 tcX6_f309 rfl hq66 h66 ?_
            refine ca_aload_n C dX6_isStale_69 rfl rfl ?_
            refine ca_iload_n C dX6_isStale_70 rfl rfl ?_
            obtain ⟨c71, hc71, hf⟩ := rob hf
            obtain ⟨q71, h71, hf⟩ := rob hf
            refine ca_callV C dX6_isStale_71 (mX5_notedChanges (cC_tr C) h71) (crc_spec hc71) vw5 (by decide) rfl tX6_l333 tI_X5_notedChanges tS_X5_notedChanges tZ5 tC_X5_notedChanges tH_X5_notedChanges (by omega) (by decide) (cs1_sum (cs1_i cs1_nil) (Nat.le_of_ble_eq_true rfl)) (by omega) (by omega) ?_
            refine ca_icmp_eq C dX6_isStale_74 (tgt := 79) (by decide) (fun c74 => ?_) (fun c74 => ?_)
            · replace hf := rif_p c74 hf
              refine ca_mask [true, true, true, false] ?_
              exact bX6_isStale_b79 C o hrec15 _ _ _ hf
            · replace hf := rif_n c74 hf
              refine ca_mask [false, false, false, false] ?_
              exact bX6_isStale_b77 C o  _ hf
set_option maxRecDepth 100000 in
set_option maxHeartbeats 4000000 in
theorem bX6_isStale_b15 {G : cG} {X : rX} {z0 : cS} {r : Int32 × cS} (C : cC G X z0 RX6 4 cX6_isStale (some .boolean) 32 0 0) (o : Nat) : ∀ (n : Nat) (l1 : Option Nat) (l2 : Int32) (z : cS), fX6_isStale_b15 o n l1 l2 z = some r → cAW false G X z0 (.inl (some (.int r.1)), r.2, 0, 0) 4 15 [some (va_rf (some o)), some (va_rf l1), some (.int l2), none] [] z 0 0 := by
  intro n
  induction n with
  | zero => intro l1 l2 z hf; cases hf
  | succ n ih => intro l1 l2 z hf; exact bX6_isStale_b15_body C o (fun l1 l2 z h => ih l1 l2 z h) l1 l2 z hf
set_option maxRecDepth 100000 in
set_option maxHeartbeats 4000000 in
theorem bX6_isStale {G : cG} {X : rX} {z0 : cS} {r : Int32 × cS} (C : cC G X z0 RX6 4 cX6_isStale (some .boolean) 32 0 0) (o : Nat) (a0 : Option Nat) (z : cS) (hf : fX6_isStale o a0 z = some r) : cAW false G X z0 (.inl (some (.int r.1)), r.2, 0, 0) 4 0 [some (va_rf (some o)), some (va_rf a0), none, none] [] z 0 0 := by
  unfold fX6_isStale at hf
  refine ca_aload_n C dX6_isStale_0 rfl rfl ?_
  obtain ⟨q1, hq1, hf⟩ := rob hf
  obtain ⟨x1, h1, hf⟩ := rob hf
  refine ca_getI C dX6_isStale_1 tcX6_f320 rfl hq1 h1 ?_
  refine ca_aload_n C dX6_isStale_4 rfl rfl ?_
  obtain ⟨q5, hq5, hf⟩ := rob hf
  obtain ⟨x5, h5, hf⟩ := rob hf
  refine ca_getI C dX6_isStale_5 tcX6_f309 rfl hq5 h5 ?_
  refine ca_icmp_eq C dX6_isStale_8 (tgt := 13) (by decide) (fun c8 => ?_) (fun c8 => ?_)
  · replace hf := rif_p c8 hf
    refine ca_iconst C dX6_isStale_13 (v := 0) (by decide) ?_
    refine ca_istore_n C dX6_isStale_14 rfl (by decide) ?_
    exact bX6_isStale_b15 C o _ _ _ _ hf
  · replace hf := rif_n c8 hf
    refine ca_iconst C dX6_isStale_11 (v := 1) (by decide) ?_
    obtain ⟨hn, hf⟩ := cbo_spec hf
    obtain rfl := Option.some.inj hf
    exact ca_zret C hn dX6_isStale_12 (by omega) (by omega)
set_option maxRecDepth 100000 in
set_option maxHeartbeats 4000000 in
theorem mX6_isStale {l : Launch} (hl : l.stackTraces = false) {G : cG} {o : Nat} {a0 : Option Nat} {z : cS} {r : Int32 × cS} (hf : fX6_isStale o a0 z = some r) : cM l G 32 yX6_isStale cX6_isStale 4 (some .boolean) [.ref o, va_rf a0] z (.inl (some (.int r.1)), r.2, 0, 0) :=
  cM_of (lo0 := [some (va_rf (some o)), some (va_rf a0), none, none]) (by decide +kernel) rfl (cs1_q (cs1_r cs1_nil)) (Nat.le_of_ble_eq_true rfl) rfl hl (fun X hX _ C => bX6_isStale C o a0 z hf)
set_option maxRecDepth 100000 in
set_option maxHeartbeats 4000000 in
theorem bX6_stale_b36 {G : cG} {X : rX} {z0 : cS} {r : Int32 × cS} (C : cC G X z0 RX6 4 cX6_stale (some .int) 33 0 0) (o : Nat) {rec4 : Int32 → Int32 → cS → Option (Int32 × cS)} (hrec4 : ∀ (l1 : Int32) (l2 : Int32) (z : cS), rec4 l1 l2 z = some r → cAW false G X z0 (.inl (some (.int r.1)), r.2, 0, 0) 4 4 [some (va_rf (some o)), some (.int l1), some (.int l2), none] [] z 0 0) (l1 : Int32) (l2 : Int32) (z : cS) (hf : fX6_stale_b36 o rec4 l1 l2 z = some r) : cAW false G X z0 (.inl (some (.int r.1)), r.2, 0, 0) 4 36 [some (va_rf (some o)), some (.int l1), some (.int l2), none] [] z 0 0 := by
  unfold fX6_stale_b36 at hf
  refine ca_iinc C dX6_stale_36 rfl (v := 1) (by decide) (by decide) ?_
  refine ca_goto C dX6_stale_39 (tgt := 4) (by decide) ?_
  exact hrec4 _ _ _ hf
set_option maxRecDepth 100000 in
set_option maxHeartbeats 4000000 in
theorem bX6_stale_b4_body {G : cG} {X : rX} {z0 : cS} {r : Int32 × cS} (C : cC G X z0 RX6 4 cX6_stale (some .int) 33 0 0) (o : Nat) {rec4 : Int32 → Int32 → cS → Option (Int32 × cS)} (hrec4 : ∀ (l1 : Int32) (l2 : Int32) (z : cS), rec4 l1 l2 z = some r → cAW false G X z0 (.inl (some (.int r.1)), r.2, 0, 0) 4 4 [some (va_rf (some o)), some (.int l1), some (.int l2), none] [] z 0 0) (l1 : Int32) (l2 : Int32) (z : cS) (hf : fX6_stale_b4_body o rec4 l1 l2 z = some r) : cAW false G X z0 (.inl (some (.int r.1)), r.2, 0, 0) 4 4 [some (va_rf (some o)), some (.int l1), some (.int l2), none] [] z 0 0 := by
  unfold fX6_stale_b4_body at hf
  refine ca_iload_n C dX6_stale_4 rfl rfl ?_
  refine ca_aload_n C dX6_stale_5 rfl rfl ?_
  obtain ⟨x6, h6, hf⟩ := rob hf
  refine ca_getI C dX6_stale_6 tcX6_f292 rfl rfl h6 ?_
  refine ca_icmp_ge C dX6_stale_9 (tgt := 42) (by decide) (fun c9 => ?_) (fun c9 => ?_)
  · replace hf := rif_p c9 hf
    refine ca_iload_n C dX6_stale_42 rfl rfl ?_
    obtain rfl := Option.some.inj hf
    exact ca_iret C dX6_stale_43 (by omega) (by omega)
  · replace hf := rif_n c9 hf
    refine ca_aload_n C dX6_stale_12 rfl rfl ?_
    refine ca_iload_n C dX6_stale_13 rfl rfl ?_
    obtain ⟨c14, hc14, hf⟩ := rob hf
    obtain ⟨q14, h14, hf⟩ := rob hf
    refine ca_callV C dX6_stale_14 (mX6_unitAt (cC_tr C) h14) (crc_spec hc14) vw6 (by decide) rfl tX6_l300 tI_X6_unitAt tS_X6_unitAt tZ6 tC_X6_unitAt tH_X6_unitAt (by omega) (by decide) (cs1_sum cs1_nil (Nat.le_of_ble_eq_true rfl)) (by omega) (by omega) ?_
    refine ca_astore_n C dX6_stale_17 rfl (by decide) ?_
    refine ca_aload_n C dX6_stale_18 rfl rfl ?_
    refine ca_ifnull C dX6_stale_19 (tgt := 36) (by decide) (fun c19 => ?_) (fun c19 => ?_)
    · replace hf := rif_p c19 hf
      refine ca_mask [true, true, true, false] ?_
      exact bX6_stale_b36 C o hrec4 _ _ _ hf
    · replace hf := rif_n c19 hf
      refine ca_aload_n C dX6_stale_22 rfl rfl ?_
      refine ca_aload_n C dX6_stale_23 rfl rfl ?_
      obtain ⟨c24, hc24, hf⟩ := rob hf
      obtain ⟨q24, h24, hf⟩ := rob hf
      refine ca_callV C dX6_stale_24 (mX6_isStale (cC_tr C) h24) (crc_spec hc24) vw6 (by decide) rfl tX6_l312 tI_X6_isStale tS_X6_isStale tZ6 tC_X6_isStale tH_X6_isStale (by omega) (by decide) (cs1_sum cs1_nil (Nat.le_of_ble_eq_true rfl)) (by omega) (by omega) ?_
      refine ca_if_eq C dX6_stale_27 (tgt := 36) (by decide) (fun c27 => ?_) (fun c27 => ?_)
      · replace hf := rif_p c27 hf
        refine ca_mask [true, true, true, false] ?_
        exact bX6_stale_b36 C o hrec4 _ _ _ hf
      · replace hf := rif_n c27 hf
        refine ca_iload_n C dX6_stale_30 rfl rfl ?_
        refine ca_iconst C dX6_stale_31 (v := 1) (by decide) ?_
        refine ca_iload_n C dX6_stale_32 rfl rfl ?_
        refine ca_ishl C dX6_stale_33 ?_
        refine ca_ior C dX6_stale_34 ?_
        refine ca_istore_n C dX6_stale_35 rfl (by decide) ?_
        refine ca_mask [true, true, true, false] ?_
        exact bX6_stale_b36 C o hrec4 _ _ _ hf
set_option maxRecDepth 100000 in
set_option maxHeartbeats 4000000 in
theorem bX6_stale_b4 {G : cG} {X : rX} {z0 : cS} {r : Int32 × cS} (C : cC G X z0 RX6 4 cX6_stale (some .int) 33 0 0) (o : Nat) : ∀ (n : Nat) (l1 : Int32) (l2 : Int32) (z : cS), fX6_stale_b4 o n l1 l2 z = some r → cAW false G X z0 (.inl (some (.int r.1)), r.2, 0, 0) 4 4 [some (va_rf (some o)), some (.int l1), some (.int l2), none] [] z 0 0 := by
  intro n
  induction n with
  | zero => intro l1 l2 z hf; cases hf
  | succ n ih => intro l1 l2 z hf; exact bX6_stale_b4_body C o (fun l1 l2 z h => ih l1 l2 z h) l1 l2 z hf
set_option maxRecDepth 100000 in
set_option maxHeartbeats 4000000 in
theorem bX6_stale {G : cG} {X : rX} {z0 : cS} {r : Int32 × cS} (C : cC G X z0 RX6 4 cX6_stale (some .int) 33 0 0) (o : Nat) (z : cS) (hf : fX6_stale o  z = some r) : cAW false G X z0 (.inl (some (.int r.1)), r.2, 0, 0) 4 0 [some (va_rf (some o)), none, none, none] [] z 0 0 := by
  unfold fX6_stale at hf
  refine ca_iconst C dX6_stale_0 (v := 0) (by decide) ?_
  refine ca_istore_n C dX6_stale_1 rfl (by decide) ?_
  refine ca_iconst C dX6_stale_2 (v := 0) (by decide) ?_
  refine ca_istore_n C dX6_stale_3 rfl (by decide) ?_
  exact bX6_stale_b4 C o _ _ _ _ hf
set_option maxRecDepth 100000 in
set_option maxHeartbeats 4000000 in
theorem mX6_stale {l : Launch} (hl : l.stackTraces = false) {G : cG} {o : Nat} {z : cS} {r : Int32 × cS} (hf : fX6_stale o  z = some r) : cM l G 33 yX6_stale cX6_stale 4 (some .int) [.ref o] z (.inl (some (.int r.1)), r.2, 0, 0) :=
  cM_of (lo0 := [some (va_rf (some o)), none, none, none]) (by decide +kernel) rfl (cs1_q cs1_nil) (Nat.le_of_ble_eq_true rfl) rfl hl (fun X hX _ C => bX6_stale C o  z hf)
set_option maxRecDepth 100000 in
set_option maxHeartbeats 4000000 in
theorem bX6_noteAllUsed_b49 {G : cG} {X : rX} {z0 : cS} {r : Unit × cS} (C : cC G X z0 RX6 4 cX6_noteAllUsed none 2 0 0) (o : Nat) {rec10 : Option Nat → Int32 → cS → Option (Unit × cS)} (hrec10 : ∀ (l1 : Option Nat) (l2 : Int32) (z : cS), rec10 l1 l2 z = some r → cAW false G X z0 (.inl (none), r.2, 0, 0) 4 10 [some (va_rf (some o)), some (va_rf l1), some (.int l2), none] [] z 0 0) (l1 : Option Nat) (l2 : Int32) (z : cS) (hf : fX6_noteAllUsed_b49 o rec10 l1 l2 z = some r) : cAW false G X z0 (.inl (none), r.2, 0, 0) 4 49 [some (va_rf (some o)), some (va_rf l1), some (.int l2), none] [] z 0 0 := by
  unfold fX6_noteAllUsed_b49 at hf
  refine ca_iinc C dX6_noteAllUsed_49 rfl (v := 1) (by decide) (by decide) ?_
  refine ca_goto C dX6_noteAllUsed_52 (tgt := 10) (by decide) ?_
  exact hrec10 _ _ _ hf
set_option maxRecDepth 100000 in
set_option maxHeartbeats 4000000 in
theorem bX6_noteAllUsed_b10_body {G : cG} {X : rX} {z0 : cS} {r : Unit × cS} (C : cC G X z0 RX6 4 cX6_noteAllUsed none 2 0 0) (o : Nat) {rec10 : Option Nat → Int32 → cS → Option (Unit × cS)} (hrec10 : ∀ (l1 : Option Nat) (l2 : Int32) (z : cS), rec10 l1 l2 z = some r → cAW false G X z0 (.inl (none), r.2, 0, 0) 4 10 [some (va_rf (some o)), some (va_rf l1), some (.int l2), none] [] z 0 0) (l1 : Option Nat) (l2 : Int32) (z : cS) (hf : fX6_noteAllUsed_b10_body o rec10 l1 l2 z = some r) : cAW false G X z0 (.inl (none), r.2, 0, 0) 4 10 [some (va_rf (some o)), some (va_rf l1), some (.int l2), none] [] z 0 0 := by
  unfold fX6_noteAllUsed_b10_body at hf
  refine ca_iload_n C dX6_noteAllUsed_10 rfl rfl ?_
  refine ca_aload_n C dX6_noteAllUsed_11 rfl rfl ?_
  obtain ⟨x12, h12, hf⟩ := rob hf
  refine ca_getI C dX6_noteAllUsed_12 tcX6_f292 rfl rfl h12 ?_
  refine ca_icmp_ge C dX6_noteAllUsed_15 (tgt := 55) (by decide) (fun c15 => ?_) (fun c15 => ?_)
  · replace hf := rif_p c15 hf
    obtain rfl := Option.some.inj hf
    exact ca_vret C dX6_noteAllUsed_55 (by omega) (by omega)
  · replace hf := rif_n c15 hf
    refine ca_aload_n C dX6_noteAllUsed_18 rfl rfl ?_
    refine ca_iload_n C dX6_noteAllUsed_19 rfl rfl ?_
    obtain ⟨c20, hc20, hf⟩ := rob hf
    obtain ⟨q20, h20, hf⟩ := rob hf
    refine ca_callV C dX6_noteAllUsed_20 (mX6_unitAt (cC_tr C) h20) (crc_spec hc20) vw6 (by decide) rfl tX6_l300 tI_X6_unitAt tS_X6_unitAt tZ6 tC_X6_unitAt tH_X6_unitAt (by omega) (by decide) (cs1_sum cs1_nil (Nat.le_of_ble_eq_true rfl)) (by omega) (by omega) ?_
    refine ca_astore_n C dX6_noteAllUsed_23 rfl (by decide) ?_
    refine ca_aload_n C dX6_noteAllUsed_24 rfl rfl ?_
    refine ca_ifnull C dX6_noteAllUsed_25 (tgt := 49) (by decide) (fun c25 => ?_) (fun c25 => ?_)
    · replace hf := rif_p c25 hf
      refine ca_mask [true, true, true, false] ?_
      exact bX6_noteAllUsed_b49 C o hrec10 _ _ _ hf
    · replace hf := rif_n c25 hf
      refine ca_aload_n C dX6_noteAllUsed_28 rfl rfl ?_
      refine ca_iload_n C dX6_noteAllUsed_29 rfl rfl ?_
      obtain ⟨c30, hc30, hf⟩ := rob hf
      obtain ⟨q30, h30, hf⟩ := rob hf
      refine ca_callV C dX6_noteAllUsed_30 (mX5_isUsing (cC_tr C) h30) (crc_spec hc30) vw5 (by decide) rfl tX6_l323 tI_X5_isUsing tS_X5_isUsing tZ5 tC_X5_isUsing tH_X5_isUsing (by omega) (by decide) (cs1_sum cs1_nil (Nat.le_of_ble_eq_true rfl)) (by omega) (by omega) ?_
      refine ca_if_eq C dX6_noteAllUsed_33 (tgt := 49) (by decide) (fun c33 => ?_) (fun c33 => ?_)
      · replace hf := rif_p c33 hf
        refine ca_mask [true, true, true, false] ?_
        exact bX6_noteAllUsed_b49 C o hrec10 _ _ _ hf
      · replace hf := rif_n c33 hf
        refine ca_aload_n C dX6_noteAllUsed_36 rfl rfl ?_
        refine ca_iload_n C dX6_noteAllUsed_37 rfl rfl ?_
        refine ca_aload_n C dX6_noteAllUsed_38 rfl rfl ?_
        obtain ⟨q39, hq39, hf⟩ := rob hf
        obtain ⟨x39, h39, hf⟩ := rob hf
        refine ca_getI C dX6_noteAllUsed_39 tcX6_f306 rfl hq39 h39 ?_
        refine ca_aload_n C dX6_noteAllUsed_42 rfl rfl ?_
        obtain ⟨q43, hq43, hf⟩ := rob hf
        obtain ⟨x43, h43, hf⟩ := rob hf
        refine ca_getI C dX6_noteAllUsed_43 tcX6_f309 rfl hq43 h43 ?_
        obtain ⟨c46, hc46, hf⟩ := rob hf
        obtain ⟨q46, h46, hf⟩ := rob hf
        refine ca_callV C dX6_noteAllUsed_46 (mX5_note (cC_tr C) h46) (crc_spec hc46) vw5 (by decide) rfl tX6_l336 tI_X5_note tS_X5_note tZ5 tC_X5_note tH_X5_note (by omega) (by decide) (cs1_sum cs1_nil (Nat.le_of_ble_eq_true rfl)) (by omega) (by omega) ?_
        refine ca_mask [true, true, true, false] ?_
        exact bX6_noteAllUsed_b49 C o hrec10 _ _ _ hf
set_option maxRecDepth 100000 in
set_option maxHeartbeats 4000000 in
theorem bX6_noteAllUsed_b10 {G : cG} {X : rX} {z0 : cS} {r : Unit × cS} (C : cC G X z0 RX6 4 cX6_noteAllUsed none 2 0 0) (o : Nat) : ∀ (n : Nat) (l1 : Option Nat) (l2 : Int32) (z : cS), fX6_noteAllUsed_b10 o n l1 l2 z = some r → cAW false G X z0 (.inl (none), r.2, 0, 0) 4 10 [some (va_rf (some o)), some (va_rf l1), some (.int l2), none] [] z 0 0 := by
  intro n
  induction n with
  | zero => intro l1 l2 z hf; cases hf
  | succ n ih => intro l1 l2 z hf; exact bX6_noteAllUsed_b10_body C o (fun l1 l2 z h => ih l1 l2 z h) l1 l2 z hf
set_option maxRecDepth 100000 in
set_option maxHeartbeats 4000000 in
theorem bX6_noteAllUsed {G : cG} {X : rX} {z0 : cS} {r : Unit × cS} (C : cC G X z0 RX6 4 cX6_noteAllUsed none 2 0 0) (o : Nat) (a0 : Option Nat) (z : cS) (hf : fX6_noteAllUsed o a0 z = some r) : cAW false G X z0 (.inl (none), r.2, 0, 0) 4 0 [some (va_rf (some o)), some (va_rf a0), none, none] [] z 0 0 := by
  unfold fX6_noteAllUsed at hf
  refine ca_aload_n C dX6_noteAllUsed_0 rfl rfl ?_
  refine ca_aload_n C dX6_noteAllUsed_1 rfl rfl ?_
  obtain ⟨q2, hq2, hf⟩ := rob hf
  obtain ⟨x2, h2, hf⟩ := rob hf
  refine ca_getI C dX6_noteAllUsed_2 tcX6_f309 rfl hq2 h2 ?_
  obtain ⟨q5, hq5, hf⟩ := rob hf
  obtain ⟨z5, h5, hf⟩ := rob hf
  refine ca_putI C dX6_noteAllUsed_5 tcX6_f320 nX5_4 rfl tI5_4 hq5 h5 ?_
  refine ca_iconst C dX6_noteAllUsed_8 (v := 0) (by decide) ?_
  refine ca_istore_n C dX6_noteAllUsed_9 rfl (by decide) ?_
  exact bX6_noteAllUsed_b10 C o _ _ _ _ hf
set_option maxRecDepth 100000 in
set_option maxHeartbeats 4000000 in
theorem mX6_noteAllUsed {l : Launch} (hl : l.stackTraces = false) {G : cG} {o : Nat} {a0 : Option Nat} {z : cS} {r : Unit × cS} (hf : fX6_noteAllUsed o a0 z = some r) : cM l G 2 yX6_noteAllUsed cX6_noteAllUsed 4 none [.ref o, va_rf a0] z (.inl (none), r.2, 0, 0) :=
  cM_of (lo0 := [some (va_rf (some o)), some (va_rf a0), none, none]) (by decide +kernel) rfl (cs1_q (cs1_r cs1_nil)) (Nat.le_of_ble_eq_true rfl) rfl hl (fun X hX _ C => bX6_noteAllUsed C o a0 z hf)
set_option maxRecDepth 100000 in
set_option maxHeartbeats 4000000 in
theorem bX6_build_b38 {G : cG} {X : rX} {z0 : cS} {r : Int32 × cS} (C : cC G X z0 RX6 4 cX6_build (some .int) 33 0 0) (o : Nat) {rec4 : Int32 → Int32 → cS → Option (Int32 × cS)} (hrec4 : ∀ (l1 : Int32) (l2 : Int32) (z : cS), rec4 l1 l2 z = some r → cAW false G X z0 (.inl (some (.int r.1)), r.2, 0, 0) 4 4 [some (va_rf (some o)), some (.int l1), some (.int l2), none] [] z 0 0) (l1 : Int32) (l2 : Int32) (z : cS) (hf : fX6_build_b38 o rec4 l1 l2 z = some r) : cAW false G X z0 (.inl (some (.int r.1)), r.2, 0, 0) 4 38 [some (va_rf (some o)), some (.int l1), some (.int l2), none] [] z 0 0 := by
  unfold fX6_build_b38 at hf
  refine ca_iinc C dX6_build_38 rfl (v := 1) (by decide) (by decide) ?_
  refine ca_goto C dX6_build_41 (tgt := 4) (by decide) ?_
  exact hrec4 _ _ _ hf
set_option maxRecDepth 100000 in
set_option maxHeartbeats 4000000 in
theorem bX6_build_b4_body {G : cG} {X : rX} {z0 : cS} {r : Int32 × cS} (C : cC G X z0 RX6 4 cX6_build (some .int) 33 0 0) (o : Nat) {rec4 : Int32 → Int32 → cS → Option (Int32 × cS)} (hrec4 : ∀ (l1 : Int32) (l2 : Int32) (z : cS), rec4 l1 l2 z = some r → cAW false G X z0 (.inl (some (.int r.1)), r.2, 0, 0) 4 4 [some (va_rf (some o)), some (.int l1), some (.int l2), none] [] z 0 0) (l1 : Int32) (l2 : Int32) (z : cS) (hf : fX6_build_b4_body o rec4 l1 l2 z = some r) : cAW false G X z0 (.inl (some (.int r.1)), r.2, 0, 0) 4 4 [some (va_rf (some o)), some (.int l1), some (.int l2), none] [] z 0 0 := by
  unfold fX6_build_b4_body at hf
  refine ca_iload_n C dX6_build_4 rfl rfl ?_
  refine ca_aload_n C dX6_build_5 rfl rfl ?_
  obtain ⟨x6, h6, hf⟩ := rob hf
  refine ca_getI C dX6_build_6 tcX6_f292 rfl rfl h6 ?_
  refine ca_icmp_ge C dX6_build_9 (tgt := 44) (by decide) (fun c9 => ?_) (fun c9 => ?_)
  · replace hf := rif_p c9 hf
    refine ca_iload_n C dX6_build_44 rfl rfl ?_
    obtain rfl := Option.some.inj hf
    exact ca_iret C dX6_build_45 (by omega) (by omega)
  · replace hf := rif_n c9 hf
    refine ca_aload_n C dX6_build_12 rfl rfl ?_
    refine ca_iload_n C dX6_build_13 rfl rfl ?_
    obtain ⟨c14, hc14, hf⟩ := rob hf
    obtain ⟨q14, h14, hf⟩ := rob hf
    refine ca_callV C dX6_build_14 (mX6_unitAt (cC_tr C) h14) (crc_spec hc14) vw6 (by decide) rfl tX6_l300 tI_X6_unitAt tS_X6_unitAt tZ6 tC_X6_unitAt tH_X6_unitAt (by omega) (by decide) (cs1_sum cs1_nil (Nat.le_of_ble_eq_true rfl)) (by omega) (by omega) ?_
    refine ca_astore_n C dX6_build_17 rfl (by decide) ?_
    refine ca_aload_n C dX6_build_18 rfl rfl ?_
    refine ca_ifnull C dX6_build_19 (tgt := 38) (by decide) (fun c19 => ?_) (fun c19 => ?_)
    · replace hf := rif_p c19 hf
      refine ca_mask [true, true, true, false] ?_
      exact bX6_build_b38 C o hrec4 _ _ _ hf
    · replace hf := rif_n c19 hf
      refine ca_aload_n C dX6_build_22 rfl rfl ?_
      refine ca_aload_n C dX6_build_23 rfl rfl ?_
      obtain ⟨c24, hc24, hf⟩ := rob hf
      obtain ⟨q24, h24, hf⟩ := rob hf
      refine ca_callV C dX6_build_24 (mX6_isStale (cC_tr C) h24) (crc_spec hc24) vw6 (by decide) rfl tX6_l312 tI_X6_isStale tS_X6_isStale tZ6 tC_X6_isStale tH_X6_isStale (by omega) (by decide) (cs1_sum cs1_nil (Nat.le_of_ble_eq_true rfl)) (by omega) (by omega) ?_
      refine ca_if_eq C dX6_build_27 (tgt := 38) (by decide) (fun c27 => ?_) (fun c27 => ?_)
      · replace hf := rif_p c27 hf
        refine ca_mask [true, true, true, false] ?_
        exact bX6_build_b38 C o hrec4 _ _ _ hf
      · replace hf := rif_n c27 hf
        refine ca_aload_n C dX6_build_30 rfl rfl ?_
        refine ca_aload_n C dX6_build_31 rfl rfl ?_
        obtain ⟨c32, hc32, hf⟩ := rob hf
        obtain ⟨q32, h32, hf⟩ := rob hf
        refine ca_callV C dX6_build_32 (mX6_noteAllUsed (cC_tr C) h32) (crc_spec hc32) vw6 (by decide) rfl tX6_l316 tI_X6_noteAllUsed tS_X6_noteAllUsed tZ6 tC_X6_noteAllUsed tH_X6_noteAllUsed (by omega) (by decide) (cs1_sum cs1_nil (Nat.le_of_ble_eq_true rfl)) (by omega) (by omega) ?_
        refine ca_iinc C dX6_build_35 rfl (v := 1) (by decide) (by decide) ?_
        refine ca_mask [true, true, true, false] ?_
        exact bX6_build_b38 C o hrec4 _ _ _ hf
set_option maxRecDepth 100000 in
set_option maxHeartbeats 4000000 in
theorem bX6_build_b4 {G : cG} {X : rX} {z0 : cS} {r : Int32 × cS} (C : cC G X z0 RX6 4 cX6_build (some .int) 33 0 0) (o : Nat) : ∀ (n : Nat) (l1 : Int32) (l2 : Int32) (z : cS), fX6_build_b4 o n l1 l2 z = some r → cAW false G X z0 (.inl (some (.int r.1)), r.2, 0, 0) 4 4 [some (va_rf (some o)), some (.int l1), some (.int l2), none] [] z 0 0 := by
  intro n
  induction n with
  | zero => intro l1 l2 z hf; cases hf
  | succ n ih => intro l1 l2 z hf; exact bX6_build_b4_body C o (fun l1 l2 z h => ih l1 l2 z h) l1 l2 z hf
set_option maxRecDepth 100000 in
set_option maxHeartbeats 4000000 in
theorem bX6_build {G : cG} {X : rX} {z0 : cS} {r : Int32 × cS} (C : cC G X z0 RX6 4 cX6_build (some .int) 33 0 0) (o : Nat) (z : cS) (hf : fX6_build o  z = some r) : cAW false G X z0 (.inl (some (.int r.1)), r.2, 0, 0) 4 0 [some (va_rf (some o)), none, none, none] [] z 0 0 := by
  unfold fX6_build at hf
  refine ca_iconst C dX6_build_0 (v := 0) (by decide) ?_
  refine ca_istore_n C dX6_build_1 rfl (by decide) ?_
  refine ca_iconst C dX6_build_2 (v := 0) (by decide) ?_
  refine ca_istore_n C dX6_build_3 rfl (by decide) ?_
  exact bX6_build_b4 C o _ _ _ _ hf
set_option maxRecDepth 100000 in
set_option maxHeartbeats 4000000 in
theorem mX6_build {l : Launch} (hl : l.stackTraces = false) {G : cG} {o : Nat} {z : cS} {r : Int32 × cS} (hf : fX6_build o  z = some r) : cM l G 33 yX6_build cX6_build 4 (some .int) [.ref o] z (.inl (some (.int r.1)), r.2, 0, 0) :=
  cM_of (lo0 := [some (va_rf (some o)), none, none, none]) (by decide +kernel) rfl (cs1_q cs1_nil) (Nat.le_of_ble_eq_true rfl) rfl hl (fun X hX _ C => bX6_build C o  z hf)
