set_option maxRecDepth 100000 in
set_option maxHeartbeats 4000000 in
theorem bX4_has_b17 {G : cG} {X : rX} {z0 : cS} {r : Int32 × cS} (C : cC G X z0 RX4 2 cX4_has (some .boolean) 0 0 0) (o : Nat) (s0 : Int32) (z : cS) (hf : fX4_has_b17 o s0 z = some r) : cAW false G X z0 (.inl (some (.int r.1)), r.2, 0, 0) 2 17 [none, none] [.int s0] z 0 0 := by
  unfold fX4_has_b17 at hf
  obtain ⟨hn, hf⟩ := cbo_spec hf
  obtain rfl := Option.some.inj hf
  exact ca_zret C hn dX4_has_17 (by omega) (by omega)
set_option maxRecDepth 100000 in
set_option maxHeartbeats 4000000 in
theorem bX4_has_b16 {G : cG} {X : rX} {z0 : cS} {r : Int32 × cS} (C : cC G X z0 RX4 2 cX4_has (some .boolean) 0 0 0) (o : Nat) (z : cS) (hf : fX4_has_b16 o  z = some r) : cAW false G X z0 (.inl (some (.int r.1)), r.2, 0, 0) 2 16 [none, none] [] z 0 0 := by
  unfold fX4_has_b16 at hf
  refine ca_iconst C dX4_has_16 (v := 0) (by decide) ?_
  exact bX4_has_b17 C o _ _ hf
set_option maxRecDepth 100000 in
set_option maxHeartbeats 4000000 in
theorem bX4_has {G : cG} {X : rX} {z0 : cS} {r : Int32 × cS} (C : cC G X z0 RX4 2 cX4_has (some .boolean) 0 0 0) (o : Nat) (a0 : Int32) (z : cS) (hf : fX4_has o a0 z = some r) : cAW false G X z0 (.inl (some (.int r.1)), r.2, 0, 0) 2 0 [some (va_rf (some o)), some (.int a0)] [] z 0 0 := by
  unfold fX4_has at hf
  refine ca_iload_n C dX4_has_0 rfl rfl ?_
  refine ca_if_lt C dX4_has_1 (tgt := 16) (by decide) (fun c1 => ?_) (fun c1 => ?_)
  · replace hf := rif_p c1 hf
    refine ca_mask [false, false] ?_
    exact bX4_has_b16 C o  _ hf
  · replace hf := rif_n c1 hf
    refine ca_iload_n C dX4_has_4 rfl rfl ?_
    refine ca_aload_n C dX4_has_5 rfl rfl ?_
    obtain ⟨x6, h6, hf⟩ := rob hf
    refine ca_getI C dX4_has_6 tcX4_f22 rfl rfl h6 ?_
    refine ca_icmp_ge C dX4_has_9 (tgt := 16) (by decide) (fun c9 => ?_) (fun c9 => ?_)
    · replace hf := rif_p c9 hf
      refine ca_mask [false, false] ?_
      exact bX4_has_b16 C o  _ hf
    · replace hf := rif_n c9 hf
      refine ca_iconst C dX4_has_12 (v := 1) (by decide) ?_
      refine ca_goto C dX4_has_13 (tgt := 17) (by decide) ?_
      refine ca_mask [false, false] ?_
      exact bX4_has_b17 C o _ _ hf
set_option maxRecDepth 100000 in
set_option maxHeartbeats 4000000 in
theorem mX4_has {l : Launch} (hl : l.stackTraces = false) {G : cG} {o : Nat} {a0 : Int32} {z : cS} {r : Int32 × cS} (hf : fX4_has o a0 z = some r) : cM l G 0 yX4_has cX4_has 2 (some .boolean) [.ref o, .int a0] z (.inl (some (.int r.1)), r.2, 0, 0) :=
  cM_of (lo0 := [some (va_rf (some o)), some (.int a0)]) (by decide +kernel) rfl (cs1_q (cs1_i cs1_nil)) (Nat.le_of_ble_eq_true rfl) rfl hl (fun X hX _ C => bX4_has C o a0 z hf)
set_option maxRecDepth 100000 in
set_option maxHeartbeats 4000000 in
theorem bX4_fromOf_b20 {G : cG} {X : rX} {z0 : cS} {r : Int32 × cS} (C : cC G X z0 RX4 2 cX4_fromOf (some .int) 1 0 0) (o : Nat) (s0 : Int32) (z : cS) (hf : fX4_fromOf_b20 o s0 z = some r) : cAW false G X z0 (.inl (some (.int r.1)), r.2, 0, 0) 2 20 [none, none] [.int s0] z 0 0 := by
  unfold fX4_fromOf_b20 at hf
  obtain rfl := Option.some.inj hf
  exact ca_iret C dX4_fromOf_20 (by omega) (by omega)
set_option maxRecDepth 100000 in
set_option maxHeartbeats 4000000 in
theorem bX4_fromOf {G : cG} {X : rX} {z0 : cS} {r : Int32 × cS} (C : cC G X z0 RX4 2 cX4_fromOf (some .int) 1 0 0) (o : Nat) (a0 : Int32) (z : cS) (hf : fX4_fromOf o a0 z = some r) : cAW false G X z0 (.inl (some (.int r.1)), r.2, 0, 0) 2 0 [some (va_rf (some o)), some (.int a0)] [] z 0 0 := by
  unfold fX4_fromOf at hf
  refine ca_aload_n C dX4_fromOf_0 rfl rfl ?_
  refine ca_iload_n C dX4_fromOf_1 rfl rfl ?_
  obtain ⟨c2, hc2, hf⟩ := rob hf
  obtain ⟨q2, h2, hf⟩ := rob hf
  refine ca_callV C dX4_fromOf_2 (mX4_has (cC_tr C) h2) (crc_spec hc2) vw4 (by decide) rfl tX4_l26 tI_X4_has tS_X4_has tZ4 tC_X4_has tH_X4_has (by omega) (by decide) (cs1_sum cs1_nil (Nat.le_of_ble_eq_true rfl)) (by omega) (by omega) ?_
  refine ca_if_eq C dX4_fromOf_5 (tgt := 19) (by decide) (fun c5 => ?_) (fun c5 => ?_)
  · replace hf := rif_p c5 hf
    refine ca_iconst C dX4_fromOf_19 (v := (-1)) (by decide) ?_
    refine ca_mask [false, false] ?_
    exact bX4_fromOf_b20 C o _ _ hf
  · replace hf := rif_n c5 hf
    refine ca_aload_n C dX4_fromOf_8 rfl rfl ?_
    obtain ⟨x9, h9, hf⟩ := rob hf
    refine ca_getR C dX4_fromOf_9 tcX4_f9 rfl rfl h9 ?_
    refine ca_iload_n C dX4_fromOf_12 rfl rfl ?_
    obtain ⟨q13, h13, hf⟩ := rob hf
    refine ca_callS C dX4_fromOf_13 (mX6_read (cC_tr C) h13) rfl tX4_l30 tT_X6_read tZ6 tC_X6_read tH_X6_read (by omega) (by decide) (cs1_sum cs1_nil (Nat.le_of_ble_eq_true rfl)) (by omega) (by omega) ?_
    refine ca_goto C dX4_fromOf_16 (tgt := 20) (by decide) ?_
    refine ca_mask [false, false] ?_
    exact bX4_fromOf_b20 C o _ _ hf
set_option maxRecDepth 100000 in
set_option maxHeartbeats 4000000 in
theorem mX4_fromOf {l : Launch} (hl : l.stackTraces = false) {G : cG} {o : Nat} {a0 : Int32} {z : cS} {r : Int32 × cS} (hf : fX4_fromOf o a0 z = some r) : cM l G 1 yX4_fromOf cX4_fromOf 2 (some .int) [.ref o, .int a0] z (.inl (some (.int r.1)), r.2, 0, 0) :=
  cM_of (lo0 := [some (va_rf (some o)), some (.int a0)]) (by decide +kernel) rfl (cs1_q (cs1_i cs1_nil)) (Nat.le_of_ble_eq_true rfl) rfl hl (fun X hX _ C => bX4_fromOf C o a0 z hf)
set_option maxRecDepth 100000 in
set_option maxHeartbeats 4000000 in
theorem bX4_toOf_b20 {G : cG} {X : rX} {z0 : cS} {r : Int32 × cS} (C : cC G X z0 RX4 2 cX4_toOf (some .int) 1 0 0) (o : Nat) (s0 : Int32) (z : cS) (hf : fX4_toOf_b20 o s0 z = some r) : cAW false G X z0 (.inl (some (.int r.1)), r.2, 0, 0) 2 20 [none, none] [.int s0] z 0 0 := by
  unfold fX4_toOf_b20 at hf
  obtain rfl := Option.some.inj hf
  exact ca_iret C dX4_toOf_20 (by omega) (by omega)
set_option maxRecDepth 100000 in
set_option maxHeartbeats 4000000 in
theorem bX4_toOf {G : cG} {X : rX} {z0 : cS} {r : Int32 × cS} (C : cC G X z0 RX4 2 cX4_toOf (some .int) 1 0 0) (o : Nat) (a0 : Int32) (z : cS) (hf : fX4_toOf o a0 z = some r) : cAW false G X z0 (.inl (some (.int r.1)), r.2, 0, 0) 2 0 [some (va_rf (some o)), some (.int a0)] [] z 0 0 := by
  unfold fX4_toOf at hf
  refine ca_aload_n C dX4_toOf_0 rfl rfl ?_
  refine ca_iload_n C dX4_toOf_1 rfl rfl ?_
  obtain ⟨c2, hc2, hf⟩ := rob hf
  obtain ⟨q2, h2, hf⟩ := rob hf
  refine ca_callV C dX4_toOf_2 (mX4_has (cC_tr C) h2) (crc_spec hc2) vw4 (by decide) rfl tX4_l26 tI_X4_has tS_X4_has tZ4 tC_X4_has tH_X4_has (by omega) (by decide) (cs1_sum cs1_nil (Nat.le_of_ble_eq_true rfl)) (by omega) (by omega) ?_
  refine ca_if_eq C dX4_toOf_5 (tgt := 19) (by decide) (fun c5 => ?_) (fun c5 => ?_)
  · replace hf := rif_p c5 hf
    refine ca_iconst C dX4_toOf_19 (v := (-1)) (by decide) ?_
    refine ca_mask [false, false] ?_
    exact bX4_toOf_b20 C o _ _ hf
  · replace hf := rif_n c5 hf
    refine ca_aload_n C dX4_toOf_8 rfl rfl ?_
    obtain ⟨x9, h9, hf⟩ := rob hf
    refine ca_getR C dX4_toOf_9 tcX4_f15 rfl rfl h9 ?_
    refine ca_iload_n C dX4_toOf_12 rfl rfl ?_
    obtain ⟨q13, h13, hf⟩ := rob hf
    refine ca_callS C dX4_toOf_13 (mX6_read (cC_tr C) h13) rfl tX4_l30 tT_X6_read tZ6 tC_X6_read tH_X6_read (by omega) (by decide) (cs1_sum cs1_nil (Nat.le_of_ble_eq_true rfl)) (by omega) (by omega) ?_
    refine ca_goto C dX4_toOf_16 (tgt := 20) (by decide) ?_
    refine ca_mask [false, false] ?_
    exact bX4_toOf_b20 C o _ _ hf
set_option maxRecDepth 100000 in
set_option maxHeartbeats 4000000 in
theorem mX4_toOf {l : Launch} (hl : l.stackTraces = false) {G : cG} {o : Nat} {a0 : Int32} {z : cS} {r : Int32 × cS} (hf : fX4_toOf o a0 z = some r) : cM l G 1 yX4_toOf cX4_toOf 2 (some .int) [.ref o, .int a0] z (.inl (some (.int r.1)), r.2, 0, 0) :=
  cM_of (lo0 := [some (va_rf (some o)), some (.int a0)]) (by decide +kernel) rfl (cs1_q (cs1_i cs1_nil)) (Nat.le_of_ble_eq_true rfl) rfl hl (fun X hX _ C => bX4_toOf C o a0 z hf)
set_option maxRecDepth 100000 in
set_option maxHeartbeats 4000000 in
theorem bX4_isArrow_b25 {G : cG} {X : rX} {z0 : cS} {r : Int32 × cS} (C : cC G X z0 RX4 2 cX4_isArrow (some .boolean) 1 0 0) (o : Nat) (s0 : Int32) (z : cS) (hf : fX4_isArrow_b25 o s0 z = some r) : cAW false G X z0 (.inl (some (.int r.1)), r.2, 0, 0) 2 25 [none, none] [.int s0] z 0 0 := by
  unfold fX4_isArrow_b25 at hf
  obtain ⟨hn, hf⟩ := cbo_spec hf
  obtain rfl := Option.some.inj hf
  exact ca_zret C hn dX4_isArrow_25 (by omega) (by omega)
set_option maxRecDepth 100000 in
set_option maxHeartbeats 4000000 in
theorem bX4_isArrow_b24 {G : cG} {X : rX} {z0 : cS} {r : Int32 × cS} (C : cC G X z0 RX4 2 cX4_isArrow (some .boolean) 1 0 0) (o : Nat) (z : cS) (hf : fX4_isArrow_b24 o  z = some r) : cAW false G X z0 (.inl (some (.int r.1)), r.2, 0, 0) 2 24 [none, none] [] z 0 0 := by
  unfold fX4_isArrow_b24 at hf
  refine ca_iconst C dX4_isArrow_24 (v := 0) (by decide) ?_
  exact bX4_isArrow_b25 C o _ _ hf
set_option maxRecDepth 100000 in
set_option maxHeartbeats 4000000 in
theorem bX4_isArrow {G : cG} {X : rX} {z0 : cS} {r : Int32 × cS} (C : cC G X z0 RX4 2 cX4_isArrow (some .boolean) 1 0 0) (o : Nat) (a0 : Int32) (z : cS) (hf : fX4_isArrow o a0 z = some r) : cAW false G X z0 (.inl (some (.int r.1)), r.2, 0, 0) 2 0 [some (va_rf (some o)), some (.int a0)] [] z 0 0 := by
  unfold fX4_isArrow at hf
  refine ca_aload_n C dX4_isArrow_0 rfl rfl ?_
  refine ca_iload_n C dX4_isArrow_1 rfl rfl ?_
  obtain ⟨c2, hc2, hf⟩ := rob hf
  obtain ⟨q2, h2, hf⟩ := rob hf
  refine ca_callV C dX4_isArrow_2 (mX4_has (cC_tr C) h2) (crc_spec hc2) vw4 (by decide) rfl tX4_l26 tI_X4_has tS_X4_has tZ4 tC_X4_has tH_X4_has (by omega) (by decide) (cs1_sum cs1_nil (Nat.le_of_ble_eq_true rfl)) (by omega) (by omega) ?_
  refine ca_if_eq C dX4_isArrow_5 (tgt := 24) (by decide) (fun c5 => ?_) (fun c5 => ?_)
  · replace hf := rif_p c5 hf
    refine ca_mask [false, false] ?_
    exact bX4_isArrow_b24 C o  _ hf
  · replace hf := rif_n c5 hf
    refine ca_aload_n C dX4_isArrow_8 rfl rfl ?_
    obtain ⟨x9, h9, hf⟩ := rob hf
    refine ca_getR C dX4_isArrow_9 tcX4_f9 rfl rfl h9 ?_
    refine ca_iload_n C dX4_isArrow_12 rfl rfl ?_
    obtain ⟨q13, h13, hf⟩ := rob hf
    refine ca_callS C dX4_isArrow_13 (mX6_read (cC_tr C) h13) rfl tX4_l30 tT_X6_read tZ6 tC_X6_read tH_X6_read (by omega) (by decide) (cs1_sum cs1_nil (Nat.le_of_ble_eq_true rfl)) (by omega) (by omega) ?_
    refine ca_iconst C dX4_isArrow_16 (v := (-1)) (by decide) ?_
    refine ca_icmp_eq C dX4_isArrow_17 (tgt := 24) (by decide) (fun c17 => ?_) (fun c17 => ?_)
    · replace hf := rif_p c17 hf
      refine ca_mask [false, false] ?_
      exact bX4_isArrow_b24 C o  _ hf
    · replace hf := rif_n c17 hf
      refine ca_iconst C dX4_isArrow_20 (v := 1) (by decide) ?_
      refine ca_goto C dX4_isArrow_21 (tgt := 25) (by decide) ?_
      refine ca_mask [false, false] ?_
      exact bX4_isArrow_b25 C o _ _ hf
set_option maxRecDepth 100000 in
set_option maxHeartbeats 4000000 in
theorem mX4_isArrow {l : Launch} (hl : l.stackTraces = false) {G : cG} {o : Nat} {a0 : Int32} {z : cS} {r : Int32 × cS} (hf : fX4_isArrow o a0 z = some r) : cM l G 1 yX4_isArrow cX4_isArrow 2 (some .boolean) [.ref o, .int a0] z (.inl (some (.int r.1)), r.2, 0, 0) :=
  cM_of (lo0 := [some (va_rf (some o)), some (.int a0)]) (by decide +kernel) rfl (cs1_q (cs1_i cs1_nil)) (Nat.le_of_ble_eq_true rfl) rfl hl (fun X hX _ C => bX4_isArrow C o a0 z hf)
set_option maxRecDepth 100000 in
set_option maxHeartbeats 4000000 in
theorem bX4_kindOf_b24 {G : cG} {X : rX} {z0 : cS} {r : Int32 × cS} (C : cC G X z0 RX4 2 cX4_kindOf (some .int) 2 0 0) (o : Nat) (s0 : Int32) (z : cS) (hf : fX4_kindOf_b24 o s0 z = some r) : cAW false G X z0 (.inl (some (.int r.1)), r.2, 0, 0) 2 24 [none, none] [.int s0] z 0 0 := by
  unfold fX4_kindOf_b24 at hf
  obtain rfl := Option.some.inj hf
  exact ca_iret C dX4_kindOf_24 (by omega) (by omega)
set_option maxRecDepth 100000 in
set_option maxHeartbeats 4000000 in
theorem bX4_kindOf_b19 {G : cG} {X : rX} {z0 : cS} {r : Int32 × cS} (C : cC G X z0 RX4 2 cX4_kindOf (some .int) 2 0 0) (o : Nat) (z : cS) (hf : fX4_kindOf_b19 o  z = some r) : cAW false G X z0 (.inl (some (.int r.1)), r.2, 0, 0) 2 19 [none, none] [] z 0 0 := by
  unfold fX4_kindOf_b19 at hf
  refine ca_iconst C dX4_kindOf_19 (v := 0) (by decide) ?_
  refine ca_goto C dX4_kindOf_20 (tgt := 24) (by decide) ?_
  exact bX4_kindOf_b24 C o _ _ hf
set_option maxRecDepth 100000 in
set_option maxHeartbeats 4000000 in
theorem bX4_kindOf {G : cG} {X : rX} {z0 : cS} {r : Int32 × cS} (C : cC G X z0 RX4 2 cX4_kindOf (some .int) 2 0 0) (o : Nat) (a0 : Int32) (z : cS) (hf : fX4_kindOf o a0 z = some r) : cAW false G X z0 (.inl (some (.int r.1)), r.2, 0, 0) 2 0 [some (va_rf (some o)), some (.int a0)] [] z 0 0 := by
  unfold fX4_kindOf at hf
  refine ca_aload_n C dX4_kindOf_0 rfl rfl ?_
  refine ca_iload_n C dX4_kindOf_1 rfl rfl ?_
  obtain ⟨c2, hc2, hf⟩ := rob hf
  obtain ⟨q2, h2, hf⟩ := rob hf
  refine ca_callV C dX4_kindOf_2 (mX4_isArrow (cC_tr C) h2) (crc_spec hc2) vw4 (by decide) rfl tX4_l34 tI_X4_isArrow tS_X4_isArrow tZ4 tC_X4_isArrow tH_X4_isArrow (by omega) (by decide) (cs1_sum cs1_nil (Nat.le_of_ble_eq_true rfl)) (by omega) (by omega) ?_
  refine ca_if_eq C dX4_kindOf_5 (tgt := 10) (by decide) (fun c5 => ?_) (fun c5 => ?_)
  · replace hf := rif_p c5 hf
    refine ca_iload_n C dX4_kindOf_10 rfl rfl ?_
    refine ca_if_eq C dX4_kindOf_11 (tgt := 19) (by decide) (fun c11 => ?_) (fun c11 => ?_)
    · replace hf := rif_p c11 hf
      refine ca_mask [false, false] ?_
      exact bX4_kindOf_b19 C o  _ hf
    · replace hf := rif_n c11 hf
      refine ca_iload_n C dX4_kindOf_14 rfl rfl ?_
      refine ca_iconst C dX4_kindOf_15 (v := 1) (by decide) ?_
      refine ca_icmp_ne C dX4_kindOf_16 (tgt := 23) (by decide) (fun c16 => ?_) (fun c16 => ?_)
      · replace hf := rif_n c16 hf
        refine ca_iconst C dX4_kindOf_23 (v := 1) (by decide) ?_
        refine ca_mask [false, false] ?_
        exact bX4_kindOf_b24 C o _ _ hf
      · replace hf := rif_p c16 hf
        refine ca_mask [false, false] ?_
        exact bX4_kindOf_b19 C o  _ hf
  · replace hf := rif_n c5 hf
    refine ca_iconst C dX4_kindOf_8 (v := 2) (by decide) ?_
    obtain rfl := Option.some.inj hf
    exact ca_iret C dX4_kindOf_9 (by omega) (by omega)
set_option maxRecDepth 100000 in
set_option maxHeartbeats 4000000 in
theorem mX4_kindOf {l : Launch} (hl : l.stackTraces = false) {G : cG} {o : Nat} {a0 : Int32} {z : cS} {r : Int32 × cS} (hf : fX4_kindOf o a0 z = some r) : cM l G 2 yX4_kindOf cX4_kindOf 2 (some .int) [.ref o, .int a0] z (.inl (some (.int r.1)), r.2, 0, 0) :=
  cM_of (lo0 := [some (va_rf (some o)), some (.int a0)]) (by decide +kernel) rfl (cs1_q (cs1_i cs1_nil)) (Nat.le_of_ble_eq_true rfl) rfl hl (fun X hX _ C => bX4_kindOf C o a0 z hf)
set_option maxRecDepth 100000 in
set_option maxHeartbeats 4000000 in
theorem bX4_newOne {G : cG} {X : rX} {z0 : cS} {r : Int32 × cS} (C : cC G X z0 RX4 1 cX4_newOne (some .int) 2 0 0) (o : Nat) (z : cS) (hf : fX4_newOne o  z = some r) : cAW false G X z0 (.inl (some (.int r.1)), r.2, 0, 0) 1 0 [some (va_rf (some o))] [] z 0 0 := by
  unfold fX4_newOne at hf
  refine ca_aload_n C dX4_newOne_0 rfl rfl ?_
  refine ca_iconst C dX4_newOne_1 (v := (-1)) (by decide) ?_
  refine ca_iconst C dX4_newOne_2 (v := (-1)) (by decide) ?_
  obtain ⟨c3, hc3, hf⟩ := rob hf
  obtain ⟨q3, h3, hf⟩ := rob hf
  refine ca_callV C dX4_newOne_3 (mX4_append (cC_tr C) h3) (crc_spec hc3) vw4 (by decide) rfl tX4_l18 tI_X4_append tS_X4_append tZ4 tC_X4_append tH_X4_append (by omega) (by decide) (cs1_sum cs1_nil (Nat.le_of_ble_eq_true rfl)) (by omega) (by omega) ?_
  obtain rfl := Option.some.inj hf
  exact ca_iret C dX4_newOne_6 (by omega) (by omega)
set_option maxRecDepth 100000 in
set_option maxHeartbeats 4000000 in
theorem mX4_newOne {l : Launch} (hl : l.stackTraces = false) {G : cG} {o : Nat} {z : cS} {r : Int32 × cS} (hf : fX4_newOne o  z = some r) : cM l G 2 yX4_newOne cX4_newOne 1 (some .int) [.ref o] z (.inl (some (.int r.1)), r.2, 0, 0) :=
  cM_of (lo0 := [some (va_rf (some o))]) (by decide +kernel) rfl (cs1_q cs1_nil) (Nat.le_of_ble_eq_true rfl) rfl hl (fun X hX _ C => bX4_newOne C o  z hf)
set_option maxRecDepth 100000 in
set_option maxHeartbeats 4000000 in
theorem bX4_arrowOf_b16 {G : cG} {X : rX} {z0 : cS} {r : Int32 × cS} (C : cC G X z0 RX4 4 cX4_arrowOf (some .int) 2 0 0) (o : Nat) (z : cS) (hf : fX4_arrowOf_b16 o  z = some r) : cAW false G X z0 (.inl (some (.int r.1)), r.2, 0, 0) 4 16 [none, none, none, none] [] z 0 0 := by
  unfold fX4_arrowOf_b16 at hf
  refine ca_iconst C dX4_arrowOf_16 (v := (-1)) (by decide) ?_
  obtain rfl := Option.some.inj hf
  exact ca_iret C dX4_arrowOf_17 (by omega) (by omega)
set_option maxRecDepth 100000 in
set_option maxHeartbeats 4000000 in
theorem bX4_arrowOf_b48 {G : cG} {X : rX} {z0 : cS} {r : Int32 × cS} (C : cC G X z0 RX4 4 cX4_arrowOf (some .int) 2 0 0) (o : Nat) {rec20 : Int32 → Int32 → Int32 → cS → Option (Int32 × cS)} (hrec20 : ∀ (l1 : Int32) (l2 : Int32) (l3 : Int32) (z : cS), rec20 l1 l2 l3 z = some r → cAW false G X z0 (.inl (some (.int r.1)), r.2, 0, 0) 4 20 [some (va_rf (some o)), some (.int l1), some (.int l2), some (.int l3)] [] z 0 0) (l1 : Int32) (l2 : Int32) (l3 : Int32) (z : cS) (hf : fX4_arrowOf_b48 o rec20 l1 l2 l3 z = some r) : cAW false G X z0 (.inl (some (.int r.1)), r.2, 0, 0) 4 48 [some (va_rf (some o)), some (.int l1), some (.int l2), some (.int l3)] [] z 0 0 := by
  unfold fX4_arrowOf_b48 at hf
  refine ca_iinc C dX4_arrowOf_48 rfl (v := 1) (by decide) (by decide) ?_
  refine ca_goto C dX4_arrowOf_51 (tgt := 20) (by decide) ?_
  exact hrec20 _ _ _ _ hf
set_option maxRecDepth 100000 in
set_option maxHeartbeats 4000000 in
theorem bX4_arrowOf_b20_body {G : cG} {X : rX} {z0 : cS} {r : Int32 × cS} (C : cC G X z0 RX4 4 cX4_arrowOf (some .int) 2 0 0) (o : Nat) {rec20 : Int32 → Int32 → Int32 → cS → Option (Int32 × cS)} (hrec20 : ∀ (l1 : Int32) (l2 : Int32) (l3 : Int32) (z : cS), rec20 l1 l2 l3 z = some r → cAW false G X z0 (.inl (some (.int r.1)), r.2, 0, 0) 4 20 [some (va_rf (some o)), some (.int l1), some (.int l2), some (.int l3)] [] z 0 0) (l1 : Int32) (l2 : Int32) (l3 : Int32) (z : cS) (hf : fX4_arrowOf_b20_body o rec20 l1 l2 l3 z = some r) : cAW false G X z0 (.inl (some (.int r.1)), r.2, 0, 0) 4 20 [some (va_rf (some o)), some (.int l1), some (.int l2), some (.int l3)] [] z 0 0 := by
  unfold fX4_arrowOf_b20_body at hf
  refine ca_iload_n C dX4_arrowOf_20 rfl rfl ?_
  refine ca_aload_n C dX4_arrowOf_21 rfl rfl ?_
  obtain ⟨x22, h22, hf⟩ := rob hf
  refine ca_getI C dX4_arrowOf_22 tcX4_f22 rfl rfl h22 ?_
  refine ca_icmp_ge C dX4_arrowOf_25 (tgt := 54) (by decide) (fun c25 => ?_) (fun c25 => ?_)
  · replace hf := rif_p c25 hf
    refine ca_aload_n C dX4_arrowOf_54 rfl rfl ?_
    refine ca_iload_n C dX4_arrowOf_55 rfl rfl ?_
    refine ca_iload_n C dX4_arrowOf_56 rfl rfl ?_
    obtain ⟨c57, hc57, hf⟩ := rob hf
    obtain ⟨q57, h57, hf⟩ := rob hf
    refine ca_callV C dX4_arrowOf_57 (mX4_append (cC_tr C) h57) (crc_spec hc57) vw4 (by decide) rfl tX4_l18 tI_X4_append tS_X4_append tZ4 tC_X4_append tH_X4_append (by omega) (by decide) (cs1_sum cs1_nil (Nat.le_of_ble_eq_true rfl)) (by omega) (by omega) ?_
    obtain rfl := Option.some.inj hf
    exact ca_iret C dX4_arrowOf_60 (by omega) (by omega)
  · replace hf := rif_n c25 hf
    refine ca_aload_n C dX4_arrowOf_28 rfl rfl ?_
    refine ca_iload_n C dX4_arrowOf_29 rfl rfl ?_
    obtain ⟨c30, hc30, hf⟩ := rob hf
    obtain ⟨q30, h30, hf⟩ := rob hf
    refine ca_callV C dX4_arrowOf_30 (mX4_fromOf (cC_tr C) h30) (crc_spec hc30) vw4 (by decide) rfl tX4_l37 tI_X4_fromOf tS_X4_fromOf tZ4 tC_X4_fromOf tH_X4_fromOf (by omega) (by decide) (cs1_sum cs1_nil (Nat.le_of_ble_eq_true rfl)) (by omega) (by omega) ?_
    refine ca_iload_n C dX4_arrowOf_33 rfl rfl ?_
    refine ca_icmp_ne C dX4_arrowOf_34 (tgt := 48) (by decide) (fun c34 => ?_) (fun c34 => ?_)
    · replace hf := rif_n c34 hf
      exact bX4_arrowOf_b48 C o hrec20 _ _ _ _ hf
    · replace hf := rif_p c34 hf
      refine ca_aload_n C dX4_arrowOf_37 rfl rfl ?_
      refine ca_iload_n C dX4_arrowOf_38 rfl rfl ?_
      obtain ⟨c39, hc39, hf⟩ := rob hf
      obtain ⟨q39, h39, hf⟩ := rob hf
      refine ca_callV C dX4_arrowOf_39 (mX4_toOf (cC_tr C) h39) (crc_spec hc39) vw4 (by decide) rfl tX4_l41 tI_X4_toOf tS_X4_toOf tZ4 tC_X4_toOf tH_X4_toOf (by omega) (by decide) (cs1_sum cs1_nil (Nat.le_of_ble_eq_true rfl)) (by omega) (by omega) ?_
      refine ca_iload_n C dX4_arrowOf_42 rfl rfl ?_
      refine ca_icmp_ne C dX4_arrowOf_43 (tgt := 48) (by decide) (fun c43 => ?_) (fun c43 => ?_)
      · replace hf := rif_n c43 hf
        exact bX4_arrowOf_b48 C o hrec20 _ _ _ _ hf
      · replace hf := rif_p c43 hf
        refine ca_iload_n C dX4_arrowOf_46 rfl rfl ?_
        obtain rfl := Option.some.inj hf
        exact ca_iret C dX4_arrowOf_47 (by omega) (by omega)
set_option maxRecDepth 100000 in
set_option maxHeartbeats 4000000 in
theorem bX4_arrowOf_b20 {G : cG} {X : rX} {z0 : cS} {r : Int32 × cS} (C : cC G X z0 RX4 4 cX4_arrowOf (some .int) 2 0 0) (o : Nat) : ∀ (n : Nat) (l1 : Int32) (l2 : Int32) (l3 : Int32) (z : cS), fX4_arrowOf_b20 o n l1 l2 l3 z = some r → cAW false G X z0 (.inl (some (.int r.1)), r.2, 0, 0) 4 20 [some (va_rf (some o)), some (.int l1), some (.int l2), some (.int l3)] [] z 0 0 := by
  intro n
  induction n with
  | zero => intro l1 l2 l3 z hf; cases hf
  | succ n ih => intro l1 l2 l3 z hf; exact bX4_arrowOf_b20_body C o (fun l1 l2 l3 z h => ih l1 l2 l3 z h) l1 l2 l3 z hf
set_option maxRecDepth 100000 in
set_option maxHeartbeats 4000000 in
theorem bX4_arrowOf {G : cG} {X : rX} {z0 : cS} {r : Int32 × cS} (C : cC G X z0 RX4 4 cX4_arrowOf (some .int) 2 0 0) (o : Nat) (a0 : Int32) (a1 : Int32) (z : cS) (hf : fX4_arrowOf o a0 a1 z = some r) : cAW false G X z0 (.inl (some (.int r.1)), r.2, 0, 0) 4 0 [some (va_rf (some o)), some (.int a0), some (.int a1), none] [] z 0 0 := by
  unfold fX4_arrowOf at hf
  refine ca_aload_n C dX4_arrowOf_0 rfl rfl ?_
  refine ca_iload_n C dX4_arrowOf_1 rfl rfl ?_
  obtain ⟨c2, hc2, hf⟩ := rob hf
  obtain ⟨q2, h2, hf⟩ := rob hf
  refine ca_callV C dX4_arrowOf_2 (mX4_has (cC_tr C) h2) (crc_spec hc2) vw4 (by decide) rfl tX4_l26 tI_X4_has tS_X4_has tZ4 tC_X4_has tH_X4_has (by omega) (by decide) (cs1_sum cs1_nil (Nat.le_of_ble_eq_true rfl)) (by omega) (by omega) ?_
  refine ca_if_eq C dX4_arrowOf_5 (tgt := 16) (by decide) (fun c5 => ?_) (fun c5 => ?_)
  · replace hf := rif_p c5 hf
    refine ca_mask [false, false, false, false] ?_
    exact bX4_arrowOf_b16 C o  _ hf
  · replace hf := rif_n c5 hf
    refine ca_aload_n C dX4_arrowOf_8 rfl rfl ?_
    refine ca_iload_n C dX4_arrowOf_9 rfl rfl ?_
    obtain ⟨c10, hc10, hf⟩ := rob hf
    obtain ⟨q10, h10, hf⟩ := rob hf
    refine ca_callV C dX4_arrowOf_10 (mX4_has (cC_tr C) h10) (crc_spec hc10) vw4 (by decide) rfl tX4_l26 tI_X4_has tS_X4_has tZ4 tC_X4_has tH_X4_has (by omega) (by decide) (cs1_sum cs1_nil (Nat.le_of_ble_eq_true rfl)) (by omega) (by omega) ?_
    refine ca_if_ne C dX4_arrowOf_13 (tgt := 18) (by decide) (fun c13 => ?_) (fun c13 => ?_)
    · replace hf := rif_n c13 hf
      refine ca_iconst C dX4_arrowOf_18 (v := 0) (by decide) ?_
      refine ca_istore_n C dX4_arrowOf_19 rfl (by decide) ?_
      exact bX4_arrowOf_b20 C o _ _ _ _ _ hf
    · replace hf := rif_p c13 hf
      refine ca_mask [false, false, false, false] ?_
      exact bX4_arrowOf_b16 C o  _ hf
set_option maxRecDepth 100000 in
set_option maxHeartbeats 4000000 in
theorem mX4_arrowOf {l : Launch} (hl : l.stackTraces = false) {G : cG} {o : Nat} {a0 : Int32} {a1 : Int32} {z : cS} {r : Int32 × cS} (hf : fX4_arrowOf o a0 a1 z = some r) : cM l G 2 yX4_arrowOf cX4_arrowOf 4 (some .int) [.ref o, .int a0, .int a1] z (.inl (some (.int r.1)), r.2, 0, 0) :=
  cM_of (lo0 := [some (va_rf (some o)), some (.int a0), some (.int a1), none]) (by decide +kernel) rfl (cs1_q (cs1_i (cs1_i cs1_nil))) (Nat.le_of_ble_eq_true rfl) rfl hl (fun X hX _ C => bX4_arrowOf C o a0 a1 z hf)
set_option maxRecDepth 100000 in
set_option maxHeartbeats 4000000 in
theorem bX5_init {G : cG} {X : rX} {z0 : cS} {w : Unit} {z' : cS} {A B : Nat} (C : cC G X z0 RX5 4 cX5_init none 1 A B) (hin : X.2.2.2.2.2.2.2.2.1.name = "<init>") (o : Nat) (a0 : Int32) (a1 : Int32) (a2 : Int32) (z : cS) {kc ks ra rb : Nat} (hf : fX5_init o a0 a1 a2 z = some (w, z', ra, rb)) (ha : A = kc + ra) (hb : B = ks + rb) : cAW false G X z0 (.inl (none), z', A, B) 4 0 [some (va_rf (some o)), some (.int a0), some (.int a1), some (.int a2)] [] z kc ks := by
  unfold fX5_init at hf
  refine ca_aload_n C dX5_init_0 rfl rfl ?_
  refine ca_objInit C dX5_init_1 rfl tX5_l3 tO_i tO_c (by omega) (cs1_sum cs1_nil (Nat.le_of_ble_eq_true rfl)) ?_
  refine ca_aload_n C dX5_init_4 rfl rfl ?_
  refine ca_iconst C dX5_init_5 (v := (-1)) (by decide) ?_
  obtain ⟨z6, h6, hf⟩ := rob hf
  refine ca_putI C dX5_init_6 tcX5_f9 nX5_4 rfl tI5_4 rfl h6 ?_
  refine ca_aload_n C dX5_init_9 rfl rfl ?_
  refine ca_bipush C dX5_init_10 (v := 8) (by decide) ?_
  obtain ⟨z12, h12, hf⟩ := rob hf
  obtain ⟨ra12, rb12, hg12, rfl, rfl⟩ := ause_spec hf
  replace hf := hg12
  refine ca_newaI C dX5_init_12 tAI h12 (N9 := 8) (by decide) (by omega) (by omega) ?_
  obtain ⟨z14, h14, hf⟩ := rob hf
  refine ca_putFR C hin dX5_init_14 tcX5_f15 uX5_f15 rfl rfl h14 ?_
  refine ca_aload_n C dX5_init_17 rfl rfl ?_
  refine ca_bipush C dX5_init_18 (v := 8) (by decide) ?_
  obtain ⟨z20, h20, hf⟩ := rob hf
  obtain ⟨ra20, rb20, hg20, rfl, rfl⟩ := ause_spec hf
  replace hf := hg20
  refine ca_newaI C dX5_init_20 tAI h20 (N9 := 8) (by decide) (by omega) (by omega) ?_
  obtain ⟨z22, h22, hf⟩ := rob hf
  refine ca_putFR C hin dX5_init_22 tcX5_f19 uX5_f19 rfl rfl h22 ?_
  refine ca_aload_n C dX5_init_25 rfl rfl ?_
  refine ca_iload_n C dX5_init_26 rfl rfl ?_
  obtain ⟨z27, h27, hf⟩ := rob hf
  refine ca_putI C dX5_init_27 tcX5_f22 nX5_2 rfl tI5_2 rfl h27 ?_
  refine ca_aload_n C dX5_init_30 rfl rfl ?_
  refine ca_iload_n C dX5_init_31 rfl rfl ?_
  obtain ⟨z32, h32, hf⟩ := rob hf
  refine ca_putFI C hin dX5_init_32 tcX5_f25 uX5_f25 rfl tI5_0 rfl h32 ?_
  refine ca_aload_n C dX5_init_35 rfl rfl ?_
  refine ca_iload_n C dX5_init_36 rfl rfl ?_
  obtain ⟨z37, h37, hf⟩ := rob hf
  refine ca_putFZ C hin dX5_init_37 tcX5_f28 uX5_f28 rfl rfl h37 ?_
  cases hf
  exact ca_vret C dX5_init_40 (by omega) (by omega)
set_option maxRecDepth 100000 in
set_option maxHeartbeats 4000000 in
theorem mX5_init {l : Launch} (hl : l.stackTraces = false) {G : cG} {o : Nat} {a0 : Int32} {a1 : Int32} {a2 : Int32} {z : cS} {w : Unit} {z' : cS} {A B : Nat} (hf : fX5_init o a0 a1 a2 z = some (w, z', A, B)) : cM l G 1 yX5_init cX5_init 4 none [.ref o, .int a0, .int a1, .int a2] z (.inl (none), z', A, B) :=
  cM_of (lo0 := [some (va_rf (some o)), some (.int a0), some (.int a1), some (.int a2)]) (by decide +kernel) rfl (cs1_q (cs1_i (cs1_i (cs1_i cs1_nil)))) (Nat.le_of_ble_eq_true rfl) rfl hl (fun X hX hin C => bX5_init C hin o a0 a1 a2 z (kc := 0) (ks := 0) hf (Nat.zero_add _).symm (Nat.zero_add _).symm)
set_option maxRecDepth 100000 in
set_option maxHeartbeats 4000000 in
theorem bX5_isUsing_b17 {G : cG} {X : rX} {z0 : cS} {r : Int32 × cS} (C : cC G X z0 RX5 2 cX5_isUsing (some .boolean) 0 0 0) (o : Nat) (s0 : Int32) (z : cS) (hf : fX5_isUsing_b17 o s0 z = some r) : cAW false G X z0 (.inl (some (.int r.1)), r.2, 0, 0) 2 17 [none, none] [.int s0] z 0 0 := by
  unfold fX5_isUsing_b17 at hf
  obtain ⟨hn, hf⟩ := cbo_spec hf
  obtain rfl := Option.some.inj hf
  exact ca_zret C hn dX5_isUsing_17 (by omega) (by omega)
set_option maxRecDepth 100000 in
set_option maxHeartbeats 4000000 in
theorem bX5_isUsing {G : cG} {X : rX} {z0 : cS} {r : Int32 × cS} (C : cC G X z0 RX5 2 cX5_isUsing (some .boolean) 0 0 0) (o : Nat) (a0 : Int32) (z : cS) (hf : fX5_isUsing o a0 z = some r) : cAW false G X z0 (.inl (some (.int r.1)), r.2, 0, 0) 2 0 [some (va_rf (some o)), some (.int a0)] [] z 0 0 := by
  unfold fX5_isUsing at hf
  refine ca_aload_n C dX5_isUsing_0 rfl rfl ?_
  obtain ⟨x1, h1, hf⟩ := rob hf
  refine ca_getI C dX5_isUsing_1 tcX5_f25 rfl rfl h1 ?_
  refine ca_iload_n C dX5_isUsing_4 rfl rfl ?_
  refine ca_ishr C dX5_isUsing_5 ?_
  refine ca_iconst C dX5_isUsing_6 (v := 1) (by decide) ?_
  refine ca_iand C dX5_isUsing_7 ?_
  refine ca_iconst C dX5_isUsing_8 (v := 1) (by decide) ?_
  refine ca_icmp_ne C dX5_isUsing_9 (tgt := 16) (by decide) (fun c9 => ?_) (fun c9 => ?_)
  · replace hf := rif_n c9 hf
    refine ca_iconst C dX5_isUsing_16 (v := 0) (by decide) ?_
    refine ca_mask [false, false] ?_
    exact bX5_isUsing_b17 C o _ _ hf
  · replace hf := rif_p c9 hf
    refine ca_iconst C dX5_isUsing_12 (v := 1) (by decide) ?_
    refine ca_goto C dX5_isUsing_13 (tgt := 17) (by decide) ?_
    refine ca_mask [false, false] ?_
    exact bX5_isUsing_b17 C o _ _ hf
set_option maxRecDepth 100000 in
set_option maxHeartbeats 4000000 in
theorem mX5_isUsing {l : Launch} (hl : l.stackTraces = false) {G : cG} {o : Nat} {a0 : Int32} {z : cS} {r : Int32 × cS} (hf : fX5_isUsing o a0 z = some r) : cM l G 0 yX5_isUsing cX5_isUsing 2 (some .boolean) [.ref o, .int a0] z (.inl (some (.int r.1)), r.2, 0, 0) :=
  cM_of (lo0 := [some (va_rf (some o)), some (.int a0)]) (by decide +kernel) rfl (cs1_q (cs1_i cs1_nil)) (Nat.le_of_ble_eq_true rfl) rfl hl (fun X hX _ C => bX5_isUsing C o a0 z hf)
set_option maxRecDepth 100000 in
set_option maxHeartbeats 4000000 in
theorem bX5_note {G : cG} {X : rX} {z0 : cS} {r : Unit × cS} (C : cC G X z0 RX5 4 cX5_note none 1 0 0) (o : Nat) (a0 : Int32) (a1 : Int32) (a2 : Int32) (z : cS) (hf : fX5_note o a0 a1 a2 z = some r) : cAW false G X z0 (.inl (none), r.2, 0, 0) 4 0 [some (va_rf (some o)), some (.int a0), some (.int a1), some (.int a2)] [] z 0 0 := by
  unfold fX5_note at hf
  refine ca_aload_n C dX5_note_0 rfl rfl ?_
  obtain ⟨x1, h1, hf⟩ := rob hf
  refine ca_getR C dX5_note_1 tcX5_f15 rfl rfl h1 ?_
  refine ca_iload_n C dX5_note_4 rfl rfl ?_
  refine ca_iload_n C dX5_note_5 rfl rfl ?_
  obtain ⟨q6, h6, hf⟩ := rob hf
  refine ca_callS C dX5_note_6 (mX6_write (cC_tr C) h6) rfl tX5_l32 tT_X6_write tZ6 tC_X6_write tH_X6_write (by omega) (by decide) (cs1_sum cs1_nil (Nat.le_of_ble_eq_true rfl)) (by omega) (by omega) ?_
  refine ca_aload_n C dX5_note_9 rfl rfl ?_
  obtain ⟨x10, h10, hf⟩ := rob hf
  refine ca_getR C dX5_note_10 tcX5_f19 rfl rfl h10 ?_
  refine ca_iload_n C dX5_note_13 rfl rfl ?_
  refine ca_iload_n C dX5_note_14 rfl rfl ?_
  obtain ⟨q15, h15, hf⟩ := rob hf
  refine ca_callS C dX5_note_15 (mX6_write (cC_tr C) h15) rfl tX5_l32 tT_X6_write tZ6 tC_X6_write tH_X6_write (by omega) (by decide) (cs1_sum cs1_nil (Nat.le_of_ble_eq_true rfl)) (by omega) (by omega) ?_
  obtain rfl := Option.some.inj hf
  exact ca_vret C dX5_note_18 (by omega) (by omega)
set_option maxRecDepth 100000 in
set_option maxHeartbeats 4000000 in
theorem mX5_note {l : Launch} (hl : l.stackTraces = false) {G : cG} {o : Nat} {a0 : Int32} {a1 : Int32} {a2 : Int32} {z : cS} {r : Unit × cS} (hf : fX5_note o a0 a1 a2 z = some r) : cM l G 1 yX5_note cX5_note 4 none [.ref o, .int a0, .int a1, .int a2] z (.inl (none), r.2, 0, 0) :=
  cM_of (lo0 := [some (va_rf (some o)), some (.int a0), some (.int a1), some (.int a2)]) (by decide +kernel) rfl (cs1_q (cs1_i (cs1_i (cs1_i cs1_nil)))) (Nat.le_of_ble_eq_true rfl) rfl hl (fun X hX _ C => bX5_note C o a0 a1 a2 z hf)
set_option maxRecDepth 100000 in
set_option maxHeartbeats 4000000 in
theorem bX5_notedFace {G : cG} {X : rX} {z0 : cS} {r : Int32 × cS} (C : cC G X z0 RX5 2 cX5_notedFace (some .int) 1 0 0) (o : Nat) (a0 : Int32) (z : cS) (hf : fX5_notedFace o a0 z = some r) : cAW false G X z0 (.inl (some (.int r.1)), r.2, 0, 0) 2 0 [some (va_rf (some o)), some (.int a0)] [] z 0 0 := by
  unfold fX5_notedFace at hf
  refine ca_aload_n C dX5_notedFace_0 rfl rfl ?_
  obtain ⟨x1, h1, hf⟩ := rob hf
  refine ca_getR C dX5_notedFace_1 tcX5_f15 rfl rfl h1 ?_
  refine ca_iload_n C dX5_notedFace_4 rfl rfl ?_
  obtain ⟨q5, h5, hf⟩ := rob hf
  refine ca_callS C dX5_notedFace_5 (mX6_read (cC_tr C) h5) rfl tX5_l36 tT_X6_read tZ6 tC_X6_read tH_X6_read (by omega) (by decide) (cs1_sum cs1_nil (Nat.le_of_ble_eq_true rfl)) (by omega) (by omega) ?_
  obtain rfl := Option.some.inj hf
  exact ca_iret C dX5_notedFace_8 (by omega) (by omega)
set_option maxRecDepth 100000 in
set_option maxHeartbeats 4000000 in
theorem mX5_notedFace {l : Launch} (hl : l.stackTraces = false) {G : cG} {o : Nat} {a0 : Int32} {z : cS} {r : Int32 × cS} (hf : fX5_notedFace o a0 z = some r) : cM l G 1 yX5_notedFace cX5_notedFace 2 (some .int) [.ref o, .int a0] z (.inl (some (.int r.1)), r.2, 0, 0) :=
  cM_of (lo0 := [some (va_rf (some o)), some (.int a0)]) (by decide +kernel) rfl (cs1_q (cs1_i cs1_nil)) (Nat.le_of_ble_eq_true rfl) rfl hl (fun X hX _ C => bX5_notedFace C o a0 z hf)
set_option maxRecDepth 100000 in
set_option maxHeartbeats 4000000 in
theorem bX5_notedChanges {G : cG} {X : rX} {z0 : cS} {r : Int32 × cS} (C : cC G X z0 RX5 2 cX5_notedChanges (some .int) 1 0 0) (o : Nat) (a0 : Int32) (z : cS) (hf : fX5_notedChanges o a0 z = some r) : cAW false G X z0 (.inl (some (.int r.1)), r.2, 0, 0) 2 0 [some (va_rf (some o)), some (.int a0)] [] z 0 0 := by
  unfold fX5_notedChanges at hf
  refine ca_aload_n C dX5_notedChanges_0 rfl rfl ?_
  obtain ⟨x1, h1, hf⟩ := rob hf
  refine ca_getR C dX5_notedChanges_1 tcX5_f19 rfl rfl h1 ?_
  refine ca_iload_n C dX5_notedChanges_4 rfl rfl ?_
  obtain ⟨q5, h5, hf⟩ := rob hf
  refine ca_callS C dX5_notedChanges_5 (mX6_read (cC_tr C) h5) rfl tX5_l36 tT_X6_read tZ6 tC_X6_read tH_X6_read (by omega) (by decide) (cs1_sum cs1_nil (Nat.le_of_ble_eq_true rfl)) (by omega) (by omega) ?_
  obtain rfl := Option.some.inj hf
  exact ca_iret C dX5_notedChanges_8 (by omega) (by omega)
set_option maxRecDepth 100000 in
set_option maxHeartbeats 4000000 in
theorem mX5_notedChanges {l : Launch} (hl : l.stackTraces = false) {G : cG} {o : Nat} {a0 : Int32} {z : cS} {r : Int32 × cS} (hf : fX5_notedChanges o a0 z = some r) : cM l G 1 yX5_notedChanges cX5_notedChanges 2 (some .int) [.ref o, .int a0] z (.inl (some (.int r.1)), r.2, 0, 0) :=
  cM_of (lo0 := [some (va_rf (some o)), some (.int a0)]) (by decide +kernel) rfl (cs1_q (cs1_i cs1_nil)) (Nat.le_of_ble_eq_true rfl) rfl hl (fun X hX _ C => bX5_notedChanges C o a0 z hf)
set_option maxRecDepth 100000 in
set_option maxHeartbeats 4000000 in
theorem bX6_init {G : cG} {X : rX} {z0 : cS} {w : Unit} {z' : cS} {A B : Nat} (C : cC G X z0 RX6 1 cX6_init none 3 A B) (hin : X.2.2.2.2.2.2.2.2.1.name = "<init>") (o : Nat) (z : cS) {kc ks ra rb : Nat} (hf : fX6_init o  z = some (w, z', ra, rb)) (ha : A = kc + ra) (hb : B = ks + rb) : cAW false G X z0 (.inl (none), z', A, B) 1 0 [some (va_rf (some o))] [] z kc ks := by
  unfold fX6_init at hf
  refine ca_aload_n C dX6_init_0 rfl rfl ?_
  refine ca_objInit C dX6_init_1 rfl tX6_l3 tO_i tO_c (by omega) (cs1_sum cs1_nil (Nat.le_of_ble_eq_true rfl)) ?_
  refine ca_aload_n C dX6_init_4 rfl rfl ?_
  obtain ⟨ra5, rb5, hg5, rfl, rfl⟩ := ause_spec hf
  replace hf := hg5
  refine ca_new C dX6_init_5 vw4 (by decide) tyX4 tyX4_ok rX4_in tX6_k9 tN4 tZ4 dfX4 (by omega) (by omega) ?_
  refine ca_dup C dX6_init_8 (va_rf_cat _) ?_
  obtain ⟨v9, z9, ra9, rb9, sa9, sb9, h9, hg9, rfl, rfl⟩ := abind_spec hf
  replace hf := hg9
  refine ca_callI C dX6_init_9 (mX4_init (cC_tr C) h9) rfl rfl tX6_l11 tI_X4_init rfl tZ4 tC_X4_init tH_X4_init (by omega) (by decide) (cs1_sum (cs1_r (cs1_r cs1_nil)) (Nat.le_of_ble_eq_true rfl)) (by omega) (by omega) ?_
  obtain ⟨z12, h12, hf⟩ := rob hf
  refine ca_putFR C hin dX6_init_12 tcX6_f12 uX6_f12 rfl rfl h12 ?_
  refine ca_aload_n C dX6_init_15 rfl rfl ?_
  obtain ⟨ra16, rb16, hg16, rfl, rfl⟩ := ause_spec hf
  replace hf := hg16
  refine ca_new C dX6_init_16 vw3 (by decide) tyX3 tyX3_ok rX3_in tX6_k16 tN3 tZ3 dfX3 (by omega) (by omega) ?_
  refine ca_dup C dX6_init_19 (va_rf_cat _) ?_
  refine ca_bipush C dX6_init_20 (v := 30) (by decide) ?_
  obtain ⟨z22, h22, hf⟩ := rob hf
  obtain ⟨ra22, rb22, hg22, rfl, rfl⟩ := ause_spec hf
  replace hf := hg22
  refine ca_newaR C dX6_init_22 ck12 vw2 tX6_k18 tAO2 h22 (N9 := 30) (by decide) (by omega) (by omega) ?_
  obtain ⟨q25, h25, hf⟩ := rob hf
  refine ca_callI C dX6_init_25 (mX3_init (cC_tr C) h25) rfl rfl tX6_l20 tI_X3_init rfl tZ3 tC_X3_init tH_X3_init (by omega) (by decide) (cs1_sum (cs1_r (cs1_r cs1_nil)) (Nat.le_of_ble_eq_true rfl)) (by omega) (by omega) ?_
  obtain ⟨z28, h28, hf⟩ := rob hf
  refine ca_putFR C hin dX6_init_28 tcX6_f23 uX6_f23 rfl rfl h28 ?_
  refine ca_aload_n C dX6_init_31 rfl rfl ?_
  obtain ⟨ra32, rb32, hg32, rfl, rfl⟩ := ause_spec hf
  replace hf := hg32
  refine ca_new C dX6_init_32 vw3 (by decide) tyX3 tyX3_ok rX3_in tX6_k16 tN3 tZ3 dfX3 (by omega) (by omega) ?_
  refine ca_dup C dX6_init_35 (va_rf_cat _) ?_
  refine ca_bipush C dX6_init_36 (v := 20) (by decide) ?_
  obtain ⟨z38, h38, hf⟩ := rob hf
  obtain ⟨ra38, rb38, hg38, rfl, rfl⟩ := ause_spec hf
  replace hf := hg38
  refine ca_newaR C dX6_init_38 ck12 vw2 tX6_k18 tAO2 h38 (N9 := 20) (by decide) (by omega) (by omega) ?_
  obtain ⟨q41, h41, hf⟩ := rob hf
  refine ca_callI C dX6_init_41 (mX3_init (cC_tr C) h41) rfl rfl tX6_l20 tI_X3_init rfl tZ3 tC_X3_init tH_X3_init (by omega) (by decide) (cs1_sum (cs1_r (cs1_r cs1_nil)) (Nat.le_of_ble_eq_true rfl)) (by omega) (by omega) ?_
  obtain ⟨z44, h44, hf⟩ := rob hf
  refine ca_putFR C hin dX6_init_44 tcX6_f27 uX6_f27 rfl rfl h44 ?_
  refine ca_aload_n C dX6_init_47 rfl rfl ?_
  obtain ⟨ra48, rb48, hg48, rfl, rfl⟩ := ause_spec hf
  replace hf := hg48
  refine ca_new C dX6_init_48 vw2 (by decide) tyX2 tyX2_ok rX2_in tX6_k18 tN2 tZ2 dfX2 (by omega) (by omega) ?_
  refine ca_dup C dX6_init_51 (va_rf_cat _) ?_
  obtain ⟨v52, z52, ra52, rb52, sa52, sb52, h52, hg52, rfl, rfl⟩ := abind_spec hf
  replace hf := hg52
  refine ca_callI C dX6_init_52 (mX2_init (cC_tr C) h52) rfl rfl tX6_l30 tI_X2_init rfl tZ2 tC_X2_init tH_X2_init (by omega) (by decide) (cs1_sum (cs1_r (cs1_r cs1_nil)) (Nat.le_of_ble_eq_true rfl)) (by omega) (by omega) ?_
  obtain ⟨z55, h55, hf⟩ := rob hf
  refine ca_putFR C hin dX6_init_55 tcX6_f31 uX6_f31 rfl rfl h55 ?_
  refine ca_aload_n C dX6_init_58 rfl rfl ?_
  obtain ⟨ra59, rb59, hg59, rfl, rfl⟩ := ause_spec hf
  replace hf := hg59
  refine ca_new C dX6_init_59 vw2 (by decide) tyX2 tyX2_ok rX2_in tX6_k18 tN2 tZ2 dfX2 (by omega) (by omega) ?_
  refine ca_dup C dX6_init_62 (va_rf_cat _) ?_
  obtain ⟨v63, z63, ra63, rb63, sa63, sb63, h63, hg63, rfl, rfl⟩ := abind_spec hf
  replace hf := hg63
  refine ca_callI C dX6_init_63 (mX2_init (cC_tr C) h63) rfl rfl tX6_l30 tI_X2_init rfl tZ2 tC_X2_init tH_X2_init (by omega) (by decide) (cs1_sum (cs1_r (cs1_r cs1_nil)) (Nat.le_of_ble_eq_true rfl)) (by omega) (by omega) ?_
  obtain ⟨z66, h66, hf⟩ := rob hf
  refine ca_putFR C hin dX6_init_66 tcX6_f35 uX6_f35 rfl rfl h66 ?_
  refine ca_aload_n C dX6_init_69 rfl rfl ?_
  obtain ⟨ra70, rb70, hg70, rfl, rfl⟩ := ause_spec hf
  replace hf := hg70
  refine ca_new C dX6_init_70 vw2 (by decide) tyX2 tyX2_ok rX2_in tX6_k18 tN2 tZ2 dfX2 (by omega) (by omega) ?_
  refine ca_dup C dX6_init_73 (va_rf_cat _) ?_
  obtain ⟨v74, z74, ra74, rb74, sa74, sb74, h74, hg74, rfl, rfl⟩ := abind_spec hf
  replace hf := hg74
  refine ca_callI C dX6_init_74 (mX2_init (cC_tr C) h74) rfl rfl tX6_l30 tI_X2_init rfl tZ2 tC_X2_init tH_X2_init (by omega) (by decide) (cs1_sum (cs1_r (cs1_r cs1_nil)) (Nat.le_of_ble_eq_true rfl)) (by omega) (by omega) ?_
  obtain ⟨z77, h77, hf⟩ := rob hf
  refine ca_putFR C hin dX6_init_77 tcX6_f38 uX6_f38 rfl rfl h77 ?_
  refine ca_aload_n C dX6_init_80 rfl rfl ?_
  refine ca_bipush C dX6_init_81 (v := 8) (by decide) ?_
  obtain ⟨z83, h83, hf⟩ := rob hf
  obtain ⟨ra83, rb83, hg83, rfl, rfl⟩ := ause_spec hf
  replace hf := hg83
  refine ca_newaR C dX6_init_83 ck10 vw0 tX6_k41 tAO0 h83 (N9 := 8) (by decide) (by omega) (by omega) ?_
  obtain ⟨z86, h86, hf⟩ := rob hf
  refine ca_putFR C hin dX6_init_86 tcX6_f43 uX6_f43 rfl rfl h86 ?_
  refine ca_aload_n C dX6_init_89 rfl rfl ?_
  refine ca_bipush C dX6_init_90 (v := 10) (by decide) ?_
  obtain ⟨z92, h92, hf⟩ := rob hf
  obtain ⟨ra92, rb92, hg92, rfl, rfl⟩ := ause_spec hf
  replace hf := hg92
  refine ca_newaR C dX6_init_92 ck11 vw1 tX6_k47 tAO1 h92 (N9 := 10) (by decide) (by omega) (by omega) ?_
  obtain ⟨z95, h95, hf⟩ := rob hf
  refine ca_putFR C hin dX6_init_95 tcX6_f49 uX6_f49 rfl rfl h95 ?_
  refine ca_aload_n C dX6_init_98 rfl rfl ?_
  refine ca_bipush C dX6_init_99 (v := 8) (by decide) ?_
  obtain ⟨z101, h101, hf⟩ := rob hf
  obtain ⟨ra101, rb101, hg101, rfl, rfl⟩ := ause_spec hf
  replace hf := hg101
  refine ca_newaR C dX6_init_101 ck13 vw5 tX6_k53 tAO5 h101 (N9 := 8) (by decide) (by omega) (by omega) ?_
  obtain ⟨z104, h104, hf⟩ := rob hf
  refine ca_putFR C hin dX6_init_104 tcX6_f55 uX6_f55 rfl rfl h104 ?_
  cases hf
  exact ca_vret C dX6_init_107 (by omega) (by omega)
set_option maxRecDepth 100000 in
set_option maxHeartbeats 4000000 in
theorem mX6_init {l : Launch} (hl : l.stackTraces = false) {G : cG} {o : Nat} {z : cS} {w : Unit} {z' : cS} {A B : Nat} (hf : fX6_init o  z = some (w, z', A, B)) : cM l G 3 yX6_init cX6_init 1 none [.ref o] z (.inl (none), z', A, B) :=
  cM_of (lo0 := [some (va_rf (some o))]) (by decide +kernel) rfl (cs1_q cs1_nil) (Nat.le_of_ble_eq_true rfl) rfl hl (fun X hX hin C => bX6_init C hin o  z (kc := 0) (ks := 0) hf (Nat.zero_add _).symm (Nat.zero_add _).symm)
set_option maxRecDepth 100000 in
set_option maxHeartbeats 4000000 in
theorem bX6_needType {G : cG} {X : rX} {z0 : cS} {w : Unit ⊕ Nat} {z' : cS} {A B : Nat} (C : cC G X z0 RX6 2 cX6_needType none 6 A B) (o : Nat) (a0 : Int32) (z : cS) {kc ks ra rb : Nat} (hf : fX6_needType o a0 z = some (w, z', ra, rb)) (ha : A = kc + ra) (hb : B = ks + rb) : cAW true G X z0 (cOv w, z', A, B) 2 0 [some (va_rf (some o)), some (.int a0)] [] z kc ks := by
  unfold fX6_needType at hf
  refine ca_aload_n C dX6_needType_0 rfl rfl ?_
  obtain ⟨x1, h1, hf⟩ := rob hf
  refine ca_getR C dX6_needType_1 tcX6_f12 rfl rfl h1 ?_
  refine ca_iload_n C dX6_needType_4 rfl rfl ?_
  obtain ⟨c5, hc5, hf⟩ := rob hf
  obtain ⟨q5, h5, hf⟩ := rob hf
  refine ca_callV C dX6_needType_5 (mX4_has (cC_tr C) h5) (crc_spec hc5) vw4 (by decide) rfl tX6_l338 tI_X4_has tS_X4_has tZ4 tC_X4_has tH_X4_has (by omega) (by decide) (cs1_sum cs1_nil (Nat.le_of_ble_eq_true rfl)) (by omega) (by omega) ?_
  refine ca_if_ne C dX6_needType_8 (tgt := 22) (by decide) (fun c8 => ?_) (fun c8 => ?_)
  · replace hf := rif_n c8 hf
    cases hf
    exact ca_vret C dX6_needType_22 (by omega) (by omega)
  · replace hf := rif_p c8 hf
    cases hf
    exact ca_throwW C dX6_needType_11 dX6_needType_14 dX6_needType_15 dX6_needType_18 dX6_needType_21 cfit0 tX6_k111 tX6_e0 tX6_t341 tX6_w115 tX6_g111_115 (by omega) (cs1_sum cs1_nil (Nat.le_of_ble_eq_true rfl)) (by omega) (by omega)
set_option maxRecDepth 100000 in
set_option maxHeartbeats 4000000 in
theorem mX6_needType {l : Launch} (hl : l.stackTraces = false) {G : cG} {o : Nat} {a0 : Int32} {z : cS} {w : Unit ⊕ Nat} {z' : cS} {A B : Nat} (hf : fX6_needType o a0 z = some (w, z', A, B)) : cMx l G 6 yX6_needType cX6_needType 2 none [.ref o, .int a0] z (cOv w, z', A, B) :=
  cMx_of (lo0 := [some (va_rf (some o)), some (.int a0)]) (by decide +kernel) rfl (cs1_q (cs1_i cs1_nil)) (Nat.le_of_ble_eq_true rfl) rfl hl (fun X hX C => bX6_needType C o a0 z (kc := 0) (ks := 0) hf (Nat.zero_add _).symm (Nat.zero_add _).symm)
set_option maxRecDepth 100000 in
set_option maxHeartbeats 4000000 in
theorem bX6_arrow {G : cG} {X : rX} {z0 : cS} {w : Int32 ⊕ Nat} {z' : cS} {A B : Nat} (C : cC G X z0 RX6 4 cX6_arrow (some .int) 7 A B) (o : Nat) (a0 : Int32) (a1 : Int32) (z : cS) {kc ks ra rb : Nat} (hf : fX6_arrow o a0 a1 z = some (w, z', ra, rb)) (ha : A = kc + ra) (hb : B = ks + rb) : cAW true G X z0 (cOi w, z', A, B) 4 0 [some (va_rf (some o)), some (.int a0), some (.int a1), none] [] z kc ks := by
  unfold fX6_arrow at hf
  refine ca_aload_n C dX6_arrow_0 rfl rfl ?_
  refine ca_iload_n C dX6_arrow_1 rfl rfl ?_
  obtain ⟨c2, hc2, hf⟩ := rob hf
  rcases tbind_spec hf with ⟨e2, h2, rfl⟩ | ⟨v2, z2, ra2, rb2, sa2, sb2, h2, hg2, rfl, rfl⟩
  · exact ca_callXt C dX6_arrow_2 (mX6_needType (cC_tr C) h2) (crc_spec hc2) vw6 (by decide) rfl tX6_m59 tI_X6_needType tS_X6_needType tZ6 tC_X6_needType tH_X6_needType (by omega) (by decide) (cs1_sum cs1_nil (Nat.le_of_ble_eq_true rfl)) (by omega) (by omega)
  replace hf := hg2
  refine ca_callXr C dX6_arrow_2 (mX6_needType (cC_tr C) h2) (crc_spec hc2) vw6 (by decide) rfl tX6_m59 tI_X6_needType tS_X6_needType tZ6 tC_X6_needType tH_X6_needType (by omega) (by decide) (cs1_sum cs1_nil (Nat.le_of_ble_eq_true rfl)) (by omega) (by omega) ?_
  refine ca_aload_n C dX6_arrow_5 rfl rfl ?_
  refine ca_iload_n C dX6_arrow_6 rfl rfl ?_
  obtain ⟨c7, hc7, hf⟩ := rob hf
  rcases tbind_spec hf with ⟨e7, h7, rfl⟩ | ⟨v7, z7, ra7, rb7, sa7, sb7, h7, hg7, rfl, rfl⟩
  · exact ca_callXt C dX6_arrow_7 (mX6_needType (cC_tr C) h7) (crc_spec hc7) vw6 (by decide) rfl tX6_m59 tI_X6_needType tS_X6_needType tZ6 tC_X6_needType tH_X6_needType (by omega) (by decide) (cs1_sum cs1_nil (Nat.le_of_ble_eq_true rfl)) (by omega) (by omega)
  replace hf := hg7
  refine ca_callXr C dX6_arrow_7 (mX6_needType (cC_tr C) h7) (crc_spec hc7) vw6 (by decide) rfl tX6_m59 tI_X6_needType tS_X6_needType tZ6 tC_X6_needType tH_X6_needType (by omega) (by decide) (cs1_sum cs1_nil (Nat.le_of_ble_eq_true rfl)) (by omega) (by omega) ?_
  refine ca_aload_n C dX6_arrow_10 rfl rfl ?_
  obtain ⟨x11, h11, hf⟩ := rob hf
  refine ca_getR C dX6_arrow_11 tcX6_f12 rfl rfl h11 ?_
  refine ca_iload_n C dX6_arrow_14 rfl rfl ?_
  refine ca_iload_n C dX6_arrow_15 rfl rfl ?_
  obtain ⟨c16, hc16, hf⟩ := rob hf
  obtain ⟨q16, h16, hf⟩ := rob hf
  refine ca_callV C dX6_arrow_16 (mX4_arrowOf (cC_tr C) h16) (crc_spec hc16) vw4 (by decide) rfl tX6_l63 tI_X4_arrowOf tS_X4_arrowOf tZ4 tC_X4_arrowOf tH_X4_arrowOf (by omega) (by decide) (cs1_sum cs1_nil (Nat.le_of_ble_eq_true rfl)) (by omega) (by omega) ?_
  refine ca_istore_n C dX6_arrow_19 rfl (by decide) ?_
  refine ca_iload_n C dX6_arrow_20 rfl rfl ?_
  refine ca_iconst C dX6_arrow_21 (v := (-1)) (by decide) ?_
  refine ca_icmp_ne C dX6_arrow_22 (tgt := 35) (by decide) (fun c22 => ?_) (fun c22 => ?_)
  · replace hf := rif_n c22 hf
    refine ca_iload_n C dX6_arrow_35 rfl rfl ?_
    cases hf
    exact ca_iret C dX6_arrow_36 (by omega) (by omega)
  · replace hf := rif_p c22 hf
    cases hf
    exact ca_throw C dX6_arrow_25 dX6_arrow_28 dX6_arrow_29 dX6_arrow_31 dX6_arrow_34 cfit2 tX6_k67 tX6_e2 tX6_t69 tX6_w71 tX6_g67_71 (by omega) (cs1_sum cs1_nil (Nat.le_of_ble_eq_true rfl)) (by omega) (by omega)
set_option maxRecDepth 100000 in
set_option maxHeartbeats 4000000 in
theorem mX6_arrow {l : Launch} (hl : l.stackTraces = false) {G : cG} {o : Nat} {a0 : Int32} {a1 : Int32} {z : cS} {w : Int32 ⊕ Nat} {z' : cS} {A B : Nat} (hf : fX6_arrow o a0 a1 z = some (w, z', A, B)) : cMx l G 7 yX6_arrow cX6_arrow 4 (some .int) [.ref o, .int a0, .int a1] z (cOi w, z', A, B) :=
  cMx_of (lo0 := [some (va_rf (some o)), some (.int a0), some (.int a1), none]) (by decide +kernel) rfl (cs1_q (cs1_i (cs1_i cs1_nil))) (Nat.le_of_ble_eq_true rfl) rfl hl (fun X hX C => bX6_arrow C o a0 a1 z (kc := 0) (ks := 0) hf (Nat.zero_add _).symm (Nat.zero_add _).symm)
set_option maxRecDepth 100000 in
set_option maxHeartbeats 4000000 in
theorem bX6_type {G : cG} {X : rX} {z0 : cS} {w : Int32 ⊕ Nat} {z' : cS} {A B : Nat} (C : cC G X z0 RX6 3 cX6_type (some .int) 7 A B) (o : Nat) (a0 : Int32) (a1 : Int32) (z : cS) {kc ks ra rb : Nat} (hf : fX6_type o a0 a1 z = some (w, z', ra, rb)) (ha : A = kc + ra) (hb : B = ks + rb) : cAW true G X z0 (cOi w, z', A, B) 3 0 [some (va_rf (some o)), some (.int a0), some (.int a1)] [] z kc ks := by
  unfold fX6_type at hf
  refine ca_aload_n C dX6_type_0 rfl rfl ?_
  refine ca_iload_n C dX6_type_1 rfl rfl ?_
  obtain ⟨c2, hc2, hf⟩ := rob hf
  rcases tbind_spec hf with ⟨e2, h2, rfl⟩ | ⟨v2, z2, ra2, rb2, sa2, sb2, h2, hg2, rfl, rfl⟩
  · exact ca_callXt C dX6_type_2 (mX6_needType (cC_tr C) h2) (crc_spec hc2) vw6 (by decide) rfl tX6_m59 tI_X6_needType tS_X6_needType tZ6 tC_X6_needType tH_X6_needType (by omega) (by decide) (cs1_sum cs1_nil (Nat.le_of_ble_eq_true rfl)) (by omega) (by omega)
  replace hf := hg2
  refine ca_callXr C dX6_type_2 (mX6_needType (cC_tr C) h2) (crc_spec hc2) vw6 (by decide) rfl tX6_m59 tI_X6_needType tS_X6_needType tZ6 tC_X6_needType tH_X6_needType (by omega) (by decide) (cs1_sum cs1_nil (Nat.le_of_ble_eq_true rfl)) (by omega) (by omega) ?_
  refine ca_iload_n C dX6_type_5 rfl rfl ?_
  refine ca_if_ne C dX6_type_6 (tgt := 18) (by decide) (fun c6 => ?_) (fun c6 => ?_)
  · replace hf := rif_n c6 hf
    refine ca_iload_n C dX6_type_18 rfl rfl ?_
    refine ca_iconst C dX6_type_19 (v := 1) (by decide) ?_
    refine ca_icmp_ne C dX6_type_20 (tgt := 32) (by decide) (fun c20 => ?_) (fun c20 => ?_)
    · replace hf := rif_n c20 hf
      refine ca_iload_n C dX6_type_32 rfl rfl ?_
      refine ca_iconst C dX6_type_33 (v := 2) (by decide) ?_
      refine ca_icmp_ne C dX6_type_34 (tgt := 46) (by decide) (fun c34 => ?_) (fun c34 => ?_)
      · replace hf := rif_n c34 hf
        cases hf
        exact ca_throw C dX6_type_46 dX6_type_49 dX6_type_50 dX6_type_52 dX6_type_55 cfit1 tX6_k84 tX6_e1 tX6_t86 tX6_w88 tX6_g84_88 (by omega) (cs1_sum cs1_nil (Nat.le_of_ble_eq_true rfl)) (by omega) (by omega)
      · replace hf := rif_p c34 hf
        refine ca_aload_n C dX6_type_37 rfl rfl ?_
        obtain ⟨x38, h38, hf⟩ := rob hf
        refine ca_getR C dX6_type_38 tcX6_f12 rfl rfl h38 ?_
        refine ca_iload_n C dX6_type_41 rfl rfl ?_
        obtain ⟨c42, hc42, hf⟩ := rob hf
        obtain ⟨q42, h42, hf⟩ := rob hf
        refine ca_callV C dX6_type_42 (mX4_toOf (cC_tr C) h42) (crc_spec hc42) vw4 (by decide) rfl tX6_l81 tI_X4_toOf tS_X4_toOf tZ4 tC_X4_toOf tH_X4_toOf (by omega) (by decide) (cs1_sum cs1_nil (Nat.le_of_ble_eq_true rfl)) (by omega) (by omega) ?_
        cases hf
        exact ca_iret C dX6_type_45 (by omega) (by omega)
    · replace hf := rif_p c20 hf
      refine ca_aload_n C dX6_type_23 rfl rfl ?_
      obtain ⟨x24, h24, hf⟩ := rob hf
      refine ca_getR C dX6_type_24 tcX6_f12 rfl rfl h24 ?_
      refine ca_iload_n C dX6_type_27 rfl rfl ?_
      obtain ⟨c28, hc28, hf⟩ := rob hf
      obtain ⟨q28, h28, hf⟩ := rob hf
      refine ca_callV C dX6_type_28 (mX4_fromOf (cC_tr C) h28) (crc_spec hc28) vw4 (by decide) rfl tX6_l78 tI_X4_fromOf tS_X4_fromOf tZ4 tC_X4_fromOf tH_X4_fromOf (by omega) (by decide) (cs1_sum cs1_nil (Nat.le_of_ble_eq_true rfl)) (by omega) (by omega) ?_
      cases hf
      exact ca_iret C dX6_type_31 (by omega) (by omega)
  · replace hf := rif_p c6 hf
    refine ca_aload_n C dX6_type_9 rfl rfl ?_
    obtain ⟨x10, h10, hf⟩ := rob hf
    refine ca_getR C dX6_type_10 tcX6_f12 rfl rfl h10 ?_
    refine ca_iload_n C dX6_type_13 rfl rfl ?_
    obtain ⟨c14, hc14, hf⟩ := rob hf
    obtain ⟨q14, h14, hf⟩ := rob hf
    refine ca_callV C dX6_type_14 (mX4_kindOf (cC_tr C) h14) (crc_spec hc14) vw4 (by decide) rfl tX6_l74 tI_X4_kindOf tS_X4_kindOf tZ4 tC_X4_kindOf tH_X4_kindOf (by omega) (by decide) (cs1_sum cs1_nil (Nat.le_of_ble_eq_true rfl)) (by omega) (by omega) ?_
    cases hf
    exact ca_iret C dX6_type_17 (by omega) (by omega)
set_option maxRecDepth 100000 in
set_option maxHeartbeats 4000000 in
theorem mX6_type {l : Launch} (hl : l.stackTraces = false) {G : cG} {o : Nat} {a0 : Int32} {a1 : Int32} {z : cS} {w : Int32 ⊕ Nat} {z' : cS} {A B : Nat} (hf : fX6_type o a0 a1 z = some (w, z', A, B)) : cMx l G 7 yX6_type cX6_type 3 (some .int) [.ref o, .int a0, .int a1] z (cOi w, z', A, B) :=
  cMx_of (lo0 := [some (va_rf (some o)), some (.int a0), some (.int a1)]) (by decide +kernel) rfl (cs1_q (cs1_i (cs1_i cs1_nil))) (Nat.le_of_ble_eq_true rfl) rfl hl (fun X hX C => bX6_type C o a0 a1 z (kc := 0) (ks := 0) hf (Nat.zero_add _).symm (Nat.zero_add _).symm)
set_option maxRecDepth 100000 in
set_option maxHeartbeats 4000000 in
theorem bX6_addHiding_b52 {G : cG} {X : rX} {z0 : cS} {r : Int32 × cS} (C : cC G X z0 RX6 6 cX6_addHiding (some .boolean) 2 0 0) (o : Nat) (s0 : Int32) (z : cS) (hf : fX6_addHiding_b52 o s0 z = some r) : cAW false G X z0 (.inl (some (.int r.1)), r.2, 0, 0) 6 52 [none, none, none, none, none, none] [.int s0] z 0 0 := by
  unfold fX6_addHiding_b52 at hf
  obtain ⟨hn, hf⟩ := cbo_spec hf
  obtain rfl := Option.some.inj hf
  exact ca_zret C hn dX6_addHiding_52 (by omega) (by omega)
set_option maxRecDepth 100000 in
set_option maxHeartbeats 4000000 in
theorem bX6_addHiding_b26 {G : cG} {X : rX} {z0 : cS} {r : Int32 × cS} (C : cC G X z0 RX6 6 cX6_addHiding (some .boolean) 2 0 0) (o : Nat) (l1 : Int32) (l2 : Int32) (l3 : Int32) (l4 : Int32) (l5 : Int32) (z : cS) (hf : fX6_addHiding_b26 o l1 l2 l3 l4 l5 z = some r) : cAW false G X z0 (.inl (some (.int r.1)), r.2, 0, 0) 6 26 [some (va_rf (some o)), some (.int l1), some (.int l2), some (.int l3), some (.int l4), some (.int l5)] [] z 0 0 := by
  unfold fX6_addHiding_b26 at hf
  refine ca_aload_n C dX6_addHiding_26 rfl rfl ?_
  obtain ⟨x27, h27, hf⟩ := rob hf
  refine ca_getR C dX6_addHiding_27 tcX6_f31 rfl rfl h27 ?_
  refine ca_iload_n C dX6_addHiding_30 rfl rfl ?_
  refine ca_iload_n C dX6_addHiding_31 rfl rfl ?_
  refine ca_iload_n C dX6_addHiding_32 rfl rfl ?_
  refine ca_bipush C dX6_addHiding_33 (v := (-100)) (by decide) ?_
  refine ca_iload C dX6_addHiding_35 rfl ?_
  refine ca_iconst C dX6_addHiding_37 (v := (-1)) (by decide) ?_
  obtain ⟨c38, hc38, hf⟩ := rob hf
  obtain ⟨q38, h38, hf⟩ := rob hf
  refine ca_callV C dX6_addHiding_38 (mX2_add (cC_tr C) h38) (crc_spec hc38) vw2 (by decide) rfl tX6_l139 tI_X2_add tS_X2_add tZ2 tC_X2_add tH_X2_add (by omega) (by decide) (cs1_sum cs1_nil (Nat.le_of_ble_eq_true rfl)) (by omega) (by omega) ?_
  refine ca_iload C dX6_addHiding_41 rfl ?_
  refine ca_iconst C dX6_addHiding_43 (v := (-1)) (by decide) ?_
  refine ca_icmp_eq C dX6_addHiding_44 (tgt := 51) (by decide) (fun c44 => ?_) (fun c44 => ?_)
  · replace hf := rif_p c44 hf
    refine ca_iconst C dX6_addHiding_51 (v := 0) (by decide) ?_
    refine ca_mask [false, false, false, false, false, false] ?_
    exact bX6_addHiding_b52 C o _ _ hf
  · replace hf := rif_n c44 hf
    refine ca_iconst C dX6_addHiding_47 (v := 1) (by decide) ?_
    refine ca_goto C dX6_addHiding_48 (tgt := 52) (by decide) ?_
    refine ca_mask [false, false, false, false, false, false] ?_
    exact bX6_addHiding_b52 C o _ _ hf
set_option maxRecDepth 100000 in
set_option maxHeartbeats 4000000 in
theorem bX6_addHiding {G : cG} {X : rX} {z0 : cS} {r : Int32 × cS} (C : cC G X z0 RX6 6 cX6_addHiding (some .boolean) 2 0 0) (o : Nat) (a0 : Int32) (a1 : Int32) (a2 : Int32) (a3 : Int32) (z : cS) (hf : fX6_addHiding o a0 a1 a2 a3 z = some r) : cAW false G X z0 (.inl (some (.int r.1)), r.2, 0, 0) 6 0 [some (va_rf (some o)), some (.int a0), some (.int a1), some (.int a2), some (.int a3), none] [] z 0 0 := by
  unfold fX6_addHiding at hf
  refine ca_aload_n C dX6_addHiding_0 rfl rfl ?_
  obtain ⟨x1, h1, hf⟩ := rob hf
  refine ca_getR C dX6_addHiding_1 tcX6_f31 rfl rfl h1 ?_
  refine ca_iload_n C dX6_addHiding_4 rfl rfl ?_
  refine ca_iload_n C dX6_addHiding_5 rfl rfl ?_
  obtain ⟨c6, hc6, hf⟩ := rob hf
  obtain ⟨q6, h6, hf⟩ := rob hf
  refine ca_callV C dX6_addHiding_6 (mX2_placeOf (cC_tr C) h6) (crc_spec hc6) vw2 (by decide) rfl tX6_l131 tI_X2_placeOf tS_X2_placeOf tZ2 tC_X2_placeOf tH_X2_placeOf (by omega) (by decide) (cs1_sum cs1_nil (Nat.le_of_ble_eq_true rfl)) (by omega) (by omega) ?_
  refine ca_istore C dX6_addHiding_9 (by decide) ?_
  refine ca_iload C dX6_addHiding_11 rfl ?_
  refine ca_iconst C dX6_addHiding_13 (v := (-1)) (by decide) ?_
  refine ca_icmp_eq C dX6_addHiding_14 (tgt := 26) (by decide) (fun c14 => ?_) (fun c14 => ?_)
  · replace hf := rif_p c14 hf
    exact bX6_addHiding_b26 C o _ _ _ _ _ _ hf
  · replace hf := rif_n c14 hf
    refine ca_aload_n C dX6_addHiding_17 rfl rfl ?_
    obtain ⟨x18, h18, hf⟩ := rob hf
    refine ca_getR C dX6_addHiding_18 tcX6_f31 rfl rfl h18 ?_
    refine ca_iload C dX6_addHiding_21 rfl ?_
    obtain ⟨c23, hc23, hf⟩ := rob hf
    obtain ⟨q23, h23, hf⟩ := rob hf
    refine ca_callV C dX6_addHiding_23 (mX2_takeOut (cC_tr C) h23) (crc_spec hc23) vw2 (by decide) rfl tX6_l136 tI_X2_takeOut tS_X2_takeOut tZ2 tC_X2_takeOut tH_X2_takeOut (by omega) (by decide) (cs1_sum cs1_nil (Nat.le_of_ble_eq_true rfl)) (by omega) (by omega) ?_
    exact bX6_addHiding_b26 C o _ _ _ _ _ _ hf
set_option maxRecDepth 100000 in
set_option maxHeartbeats 4000000 in
theorem mX6_addHiding {l : Launch} (hl : l.stackTraces = false) {G : cG} {o : Nat} {a0 : Int32} {a1 : Int32} {a2 : Int32} {a3 : Int32} {z : cS} {r : Int32 × cS} (hf : fX6_addHiding o a0 a1 a2 a3 z = some r) : cM l G 2 yX6_addHiding cX6_addHiding 6 (some .boolean) [.ref o, .int a0, .int a1, .int a2, .int a3] z (.inl (some (.int r.1)), r.2, 0, 0) :=
  cM_of (lo0 := [some (va_rf (some o)), some (.int a0), some (.int a1), some (.int a2), some (.int a3), none]) (by decide +kernel) rfl (cs1_q (cs1_i (cs1_i (cs1_i (cs1_i cs1_nil))))) (Nat.le_of_ble_eq_true rfl) rfl hl (fun X hX _ C => bX6_addHiding C o a0 a1 a2 a3 z hf)
set_option maxRecDepth 100000 in
set_option maxHeartbeats 4000000 in
theorem bX6_needName_b10 {G : cG} {X : rX} {z0 : cS} {w : Unit ⊕ Nat} {z' : cS} {A B : Nat} (C : cC G X z0 RX6 1 cX6_needName none 6 A B) (z : cS) {kc ks ra rb : Nat} (hf : fX6_needName_b10  z = some (w, z', ra, rb)) (ha : A = kc + ra) (hb : B = ks + rb) : cAW true G X z0 (cOv w, z', A, B) 1 10 [none] [] z kc ks := by
  unfold fX6_needName_b10 at hf
  cases hf
  exact ca_throwW C dX6_needName_10 dX6_needName_13 dX6_needName_14 dX6_needName_17 dX6_needName_20 cfit1 tX6_k84 tX6_e1 tX6_t347 tX6_w88 tX6_g84_88 (by omega) (cs1_sum cs1_nil (Nat.le_of_ble_eq_true rfl)) (by omega) (by omega)
set_option maxRecDepth 100000 in
set_option maxHeartbeats 4000000 in
theorem bX6_needName {G : cG} {X : rX} {z0 : cS} {w : Unit ⊕ Nat} {z' : cS} {A B : Nat} (C : cC G X z0 RX6 1 cX6_needName none 6 A B) (a0 : Int32) (z : cS) {kc ks ra rb : Nat} (hf : fX6_needName a0 z = some (w, z', ra, rb)) (ha : A = kc + ra) (hb : B = ks + rb) : cAW true G X z0 (cOv w, z', A, B) 1 0 [some (.int a0)] [] z kc ks := by
  unfold fX6_needName at hf
  refine ca_iload_n C dX6_needName_0 rfl rfl ?_
  refine ca_if_lt C dX6_needName_1 (tgt := 10) (by decide) (fun c1 => ?_) (fun c1 => ?_)
  · replace hf := rif_p c1 hf
    refine ca_mask [false] ?_
    exact bX6_needName_b10 C  _ hf (by omega) (by omega)
  · replace hf := rif_n c1 hf
    refine ca_iload_n C dX6_needName_4 rfl rfl ?_
    refine ca_bipush C dX6_needName_5 (v := 10) (by decide) ?_
    refine ca_icmp_lt C dX6_needName_7 (tgt := 21) (by decide) (fun c7 => ?_) (fun c7 => ?_)
    · replace hf := rif_p c7 hf
      cases hf
      exact ca_vret C dX6_needName_21 (by omega) (by omega)
    · replace hf := rif_n c7 hf
      refine ca_mask [false] ?_
      exact bX6_needName_b10 C  _ hf (by omega) (by omega)
set_option maxRecDepth 100000 in
set_option maxHeartbeats 4000000 in
theorem mX6_needName {l : Launch} (hl : l.stackTraces = false) {G : cG} {a0 : Int32} {z : cS} {w : Unit ⊕ Nat} {z' : cS} {A B : Nat} (hf : fX6_needName a0 z = some (w, z', A, B)) : cMx l G 6 yX6_needName cX6_needName 1 none [.int a0] z (cOv w, z', A, B) :=
  cMx_of (lo0 := [some (.int a0)]) (by decide +kernel) rfl (cs1_i cs1_nil) (Nat.le_of_ble_eq_true rfl) rfl hl (fun X hX C => bX6_needName C a0 z (kc := 0) (ks := 0) hf (Nat.zero_add _).symm (Nat.zero_add _).symm)
set_option maxRecDepth 100000 in
set_option maxHeartbeats 4000000 in
theorem bX6_addType_b30 {G : cG} {X : rX} {z0 : cS} {w : Int32 ⊕ Nat} {z' : cS} {A B : Nat} (C : cC G X z0 RX6 4 cX6_addType (some .int) 7 A B) (o : Nat) (l1 : Int32) (s0 : Int32) (z : cS) {kc ks ra rb : Nat} (hf : fX6_addType_b30 o l1 s0 z = some (w, z', ra, rb)) (ha : A = kc + ra) (hb : B = ks + rb) : cAW true G X z0 (cOi w, z', A, B) 4 30 [some (va_rf (some o)), some (.int l1), none, none] [.int s0] z kc ks := by
  unfold fX6_addType_b30 at hf
  refine ca_istore_n C dX6_addType_30 rfl (by decide) ?_
  refine ca_iload_n C dX6_addType_31 rfl rfl ?_
  refine ca_iconst C dX6_addType_32 (v := (-1)) (by decide) ?_
  refine ca_icmp_ne C dX6_addType_33 (tgt := 46) (by decide) (fun c33 => ?_) (fun c33 => ?_)
  · replace hf := rif_n c33 hf
    refine ca_aload_n C dX6_addType_46 rfl rfl ?_
    refine ca_iconst C dX6_addType_47 (v := 0) (by decide) ?_
    refine ca_iload_n C dX6_addType_48 rfl rfl ?_
    refine ca_iload_n C dX6_addType_49 rfl rfl ?_
    refine ca_iconst C dX6_addType_50 (v := 0) (by decide) ?_
    obtain ⟨c51, hc51, hf⟩ := rob hf
    obtain ⟨q51, h51, hf⟩ := rob hf
    refine ca_callV C dX6_addType_51 (mX6_addHiding (cC_tr C) h51) (crc_spec hc51) vw6 (by decide) rfl tX6_l96 tI_X6_addHiding tS_X6_addHiding tZ6 tC_X6_addHiding tH_X6_addHiding (by omega) (by decide) (cs1_sum cs1_nil (Nat.le_of_ble_eq_true rfl)) (by omega) (by omega) ?_
    refine ca_pop C dX6_addType_54 rfl ?_
    refine ca_iload_n C dX6_addType_55 rfl rfl ?_
    cases hf
    exact ca_iret C dX6_addType_56 (by omega) (by omega)
  · replace hf := rif_p c33 hf
    cases hf
    exact ca_throw C dX6_addType_36 dX6_addType_39 dX6_addType_40 dX6_addType_42 dX6_addType_45 cfit2 tX6_k67 tX6_e2 tX6_t69 tX6_w71 tX6_g67_71 (by omega) (cs1_sum cs1_nil (Nat.le_of_ble_eq_true rfl)) (by omega) (by omega)
set_option maxRecDepth 100000 in
set_option maxHeartbeats 4000000 in
theorem bX6_addType_b10 {G : cG} {X : rX} {z0 : cS} {w : Int32 ⊕ Nat} {z' : cS} {A B : Nat} (C : cC G X z0 RX6 4 cX6_addType (some .int) 7 A B) (o : Nat) (l1 : Int32) (l2 : Int32) (z : cS) {kc ks ra rb : Nat} (hf : fX6_addType_b10 o l1 l2 z = some (w, z', ra, rb)) (ha : A = kc + ra) (hb : B = ks + rb) : cAW true G X z0 (cOi w, z', A, B) 4 10 [some (va_rf (some o)), some (.int l1), some (.int l2), none] [] z kc ks := by
  unfold fX6_addType_b10 at hf
  refine ca_iload_n C dX6_addType_10 rfl rfl ?_
  rcases tbind_spec hf with ⟨e11, h11, rfl⟩ | ⟨v11, z11, ra11, rb11, sa11, sb11, h11, hg11, rfl, rfl⟩
  · exact ca_callXSt C dX6_addType_11 (mX6_needName (cC_tr C) h11) rfl tX6_m89 tT_X6_needName tZ6 tC_X6_needName tH_X6_needName (by omega) (by decide) (cs1_sum cs1_nil (Nat.le_of_ble_eq_true rfl)) (by omega) (by omega)
  replace hf := hg11
  refine ca_callXSr C dX6_addType_11 (mX6_needName (cC_tr C) h11) rfl tX6_m89 tT_X6_needName tZ6 tC_X6_needName tH_X6_needName (by omega) (by decide) (cs1_sum cs1_nil (Nat.le_of_ble_eq_true rfl)) (by omega) (by omega) ?_
  refine ca_iload_n C dX6_addType_14 rfl rfl ?_
  refine ca_iconst C dX6_addType_15 (v := (-1)) (by decide) ?_
  refine ca_icmp_ne C dX6_addType_16 (tgt := 29) (by decide) (fun c16 => ?_) (fun c16 => ?_)
  · replace hf := rif_n c16 hf
    refine ca_iload_n C dX6_addType_29 rfl rfl ?_
    refine ca_mask [true, true, false, false] ?_
    exact bX6_addType_b30 C o _ _ _ hf (by omega) (by omega)
  · replace hf := rif_p c16 hf
    refine ca_aload_n C dX6_addType_19 rfl rfl ?_
    obtain ⟨x20, h20, hf⟩ := rob hf
    refine ca_getR C dX6_addType_20 tcX6_f12 rfl rfl h20 ?_
    obtain ⟨c23, hc23, hf⟩ := rob hf
    obtain ⟨q23, h23, hf⟩ := rob hf
    refine ca_callV C dX6_addType_23 (mX4_newOne (cC_tr C) h23) (crc_spec hc23) vw4 (by decide) rfl tX6_l92 tI_X4_newOne tS_X4_newOne tZ4 tC_X4_newOne tH_X4_newOne (by omega) (by decide) (cs1_sum cs1_nil (Nat.le_of_ble_eq_true rfl)) (by omega) (by omega) ?_
    refine ca_goto C dX6_addType_26 (tgt := 30) (by decide) ?_
    refine ca_mask [true, true, false, false] ?_
    exact bX6_addType_b30 C o _ _ _ hf (by omega) (by omega)
set_option maxRecDepth 100000 in
set_option maxHeartbeats 4000000 in
theorem bX6_addType {G : cG} {X : rX} {z0 : cS} {w : Int32 ⊕ Nat} {z' : cS} {A B : Nat} (C : cC G X z0 RX6 4 cX6_addType (some .int) 7 A B) (o : Nat) (a0 : Int32) (a1 : Int32) (z : cS) {kc ks ra rb : Nat} (hf : fX6_addType o a0 a1 z = some (w, z', ra, rb)) (ha : A = kc + ra) (hb : B = ks + rb) : cAW true G X z0 (cOi w, z', A, B) 4 0 [some (va_rf (some o)), some (.int a0), some (.int a1), none] [] z kc ks := by
  unfold fX6_addType at hf
  refine ca_iload_n C dX6_addType_0 rfl rfl ?_
  refine ca_iconst C dX6_addType_1 (v := (-1)) (by decide) ?_
  refine ca_icmp_eq C dX6_addType_2 (tgt := 10) (by decide) (fun c2 => ?_) (fun c2 => ?_)
  · replace hf := rif_p c2 hf
    exact bX6_addType_b10 C o _ _ _ hf (by omega) (by omega)
  · replace hf := rif_n c2 hf
    refine ca_aload_n C dX6_addType_5 rfl rfl ?_
    refine ca_iload_n C dX6_addType_6 rfl rfl ?_
    obtain ⟨c7, hc7, hf⟩ := rob hf
    rcases tbind_spec hf with ⟨e7, h7, rfl⟩ | ⟨v7, z7, ra7, rb7, sa7, sb7, h7, hg7, rfl, rfl⟩
    · exact ca_callXt C dX6_addType_7 (mX6_needType (cC_tr C) h7) (crc_spec hc7) vw6 (by decide) rfl tX6_m59 tI_X6_needType tS_X6_needType tZ6 tC_X6_needType tH_X6_needType (by omega) (by decide) (cs1_sum cs1_nil (Nat.le_of_ble_eq_true rfl)) (by omega) (by omega)
    replace hf := hg7
    refine ca_callXr C dX6_addType_7 (mX6_needType (cC_tr C) h7) (crc_spec hc7) vw6 (by decide) rfl tX6_m59 tI_X6_needType tS_X6_needType tZ6 tC_X6_needType tH_X6_needType (by omega) (by decide) (cs1_sum cs1_nil (Nat.le_of_ble_eq_true rfl)) (by omega) (by omega) ?_
    exact bX6_addType_b10 C o _ _ _ hf (by omega) (by omega)
set_option maxRecDepth 100000 in
set_option maxHeartbeats 4000000 in
theorem mX6_addType {l : Launch} (hl : l.stackTraces = false) {G : cG} {o : Nat} {a0 : Int32} {a1 : Int32} {z : cS} {w : Int32 ⊕ Nat} {z' : cS} {A B : Nat} (hf : fX6_addType o a0 a1 z = some (w, z', A, B)) : cMx l G 7 yX6_addType cX6_addType 4 (some .int) [.ref o, .int a0, .int a1] z (cOi w, z', A, B) :=
  cMx_of (lo0 := [some (va_rf (some o)), some (.int a0), some (.int a1), none]) (by decide +kernel) rfl (cs1_q (cs1_i (cs1_i cs1_nil))) (Nat.le_of_ble_eq_true rfl) rfl hl (fun X hX C => bX6_addType C o a0 a1 z (kc := 0) (ks := 0) hf (Nat.zero_add _).symm (Nat.zero_add _).symm)
set_option maxRecDepth 100000 in
set_option maxHeartbeats 4000000 in
theorem bX6_needNumber_b14 {G : cG} {X : rX} {z0 : cS} {w : Unit ⊕ Nat} {z' : cS} {A B : Nat} (C : cC G X z0 RX6 1 cX6_needNumber none 6 A B) (z : cS) {kc ks ra rb : Nat} (hf : fX6_needNumber_b14  z = some (w, z', ra, rb)) (ha : A = kc + ra) (hb : B = ks + rb) : cAW true G X z0 (cOv w, z', A, B) 1 14 [none] [] z kc ks := by
  unfold fX6_needNumber_b14 at hf
  cases hf
  exact ca_throwW C dX6_needNumber_14 dX6_needNumber_17 dX6_needNumber_18 dX6_needNumber_21 dX6_needNumber_24 cfit1 tX6_k84 tX6_e1 tX6_t349 tX6_w88 tX6_g84_88 (by omega) (cs1_sum cs1_nil (Nat.le_of_ble_eq_true rfl)) (by omega) (by omega)
set_option maxRecDepth 100000 in
set_option maxHeartbeats 4000000 in
theorem bX6_needNumber {G : cG} {X : rX} {z0 : cS} {w : Unit ⊕ Nat} {z' : cS} {A B : Nat} (C : cC G X z0 RX6 1 cX6_needNumber none 6 A B) (a0 : Int32) (z : cS) {kc ks ra rb : Nat} (hf : fX6_needNumber a0 z = some (w, z', ra, rb)) (ha : A = kc + ra) (hb : B = ks + rb) : cAW true G X z0 (cOv w, z', A, B) 1 0 [some (.int a0)] [] z kc ks := by
  unfold fX6_needNumber at hf
  refine ca_iload_n C dX6_needNumber_0 rfl rfl ?_
  refine ca_sipush C dX6_needNumber_1 (v := (-10000)) (by decide) ?_
  refine ca_icmp_lt C dX6_needNumber_4 (tgt := 14) (by decide) (fun c4 => ?_) (fun c4 => ?_)
  · replace hf := rif_p c4 hf
    refine ca_mask [false] ?_
    exact bX6_needNumber_b14 C  _ hf (by omega) (by omega)
  · replace hf := rif_n c4 hf
    refine ca_iload_n C dX6_needNumber_7 rfl rfl ?_
    refine ca_sipush C dX6_needNumber_8 (v := 10000) (by decide) ?_
    refine ca_icmp_le C dX6_needNumber_11 (tgt := 25) (by decide) (fun c11 => ?_) (fun c11 => ?_)
    · replace hf := rif_p c11 hf
      cases hf
      exact ca_vret C dX6_needNumber_25 (by omega) (by omega)
    · replace hf := rif_n c11 hf
      refine ca_mask [false] ?_
      exact bX6_needNumber_b14 C  _ hf (by omega) (by omega)
set_option maxRecDepth 100000 in
set_option maxHeartbeats 4000000 in
theorem mX6_needNumber {l : Launch} (hl : l.stackTraces = false) {G : cG} {a0 : Int32} {z : cS} {w : Unit ⊕ Nat} {z' : cS} {A B : Nat} (hf : fX6_needNumber a0 z = some (w, z', A, B)) : cMx l G 6 yX6_needNumber cX6_needNumber 1 none [.int a0] z (cOv w, z', A, B) :=
  cMx_of (lo0 := [some (.int a0)]) (by decide +kernel) rfl (cs1_i cs1_nil) (Nat.le_of_ble_eq_true rfl) rfl hl (fun X hX C => bX6_needNumber C a0 z (kc := 0) (ks := 0) hf (Nat.zero_add _).symm (Nat.zero_add _).symm)
set_option maxRecDepth 100000 in
set_option maxHeartbeats 4000000 in
theorem bX6_addValue {G : cG} {X : rX} {z0 : cS} {w : Int32 ⊕ Nat} {z' : cS} {A B : Nat} (C : cC G X z0 RX6 4 cX6_addValue (some .boolean) 7 A B) (o : Nat) (a0 : Int32) (a1 : Int32) (a2 : Int32) (z : cS) {kc ks ra rb : Nat} (hf : fX6_addValue o a0 a1 a2 z = some (w, z', ra, rb)) (ha : A = kc + ra) (hb : B = ks + rb) : cAW true G X z0 (cOi w, z', A, B) 4 0 [some (va_rf (some o)), some (.int a0), some (.int a1), some (.int a2)] [] z kc ks := by
  unfold fX6_addValue at hf
  refine ca_aload_n C dX6_addValue_0 rfl rfl ?_
  refine ca_iload_n C dX6_addValue_1 rfl rfl ?_
  obtain ⟨c2, hc2, hf⟩ := rob hf
  rcases tbind_spec hf with ⟨e2, h2, rfl⟩ | ⟨v2, z2, ra2, rb2, sa2, sb2, h2, hg2, rfl, rfl⟩
  · exact ca_callXt C dX6_addValue_2 (mX6_needType (cC_tr C) h2) (crc_spec hc2) vw6 (by decide) rfl tX6_m59 tI_X6_needType tS_X6_needType tZ6 tC_X6_needType tH_X6_needType (by omega) (by decide) (cs1_sum cs1_nil (Nat.le_of_ble_eq_true rfl)) (by omega) (by omega)
  replace hf := hg2
  refine ca_callXr C dX6_addValue_2 (mX6_needType (cC_tr C) h2) (crc_spec hc2) vw6 (by decide) rfl tX6_m59 tI_X6_needType tS_X6_needType tZ6 tC_X6_needType tH_X6_needType (by omega) (by decide) (cs1_sum cs1_nil (Nat.le_of_ble_eq_true rfl)) (by omega) (by omega) ?_
  refine ca_iload_n C dX6_addValue_5 rfl rfl ?_
  rcases tbind_spec hf with ⟨e6, h6, rfl⟩ | ⟨v6, z6, ra6, rb6, sa6, sb6, h6, hg6, rfl, rfl⟩
  · exact ca_callXSt C dX6_addValue_6 (mX6_needName (cC_tr C) h6) rfl tX6_m89 tT_X6_needName tZ6 tC_X6_needName tH_X6_needName (by omega) (by decide) (cs1_sum cs1_nil (Nat.le_of_ble_eq_true rfl)) (by omega) (by omega)
  replace hf := hg6
  refine ca_callXSr C dX6_addValue_6 (mX6_needName (cC_tr C) h6) rfl tX6_m89 tT_X6_needName tZ6 tC_X6_needName tH_X6_needName (by omega) (by decide) (cs1_sum cs1_nil (Nat.le_of_ble_eq_true rfl)) (by omega) (by omega) ?_
  refine ca_iload_n C dX6_addValue_9 rfl rfl ?_
  rcases tbind_spec hf with ⟨e10, h10, rfl⟩ | ⟨v10, z10, ra10, rb10, sa10, sb10, h10, hg10, rfl, rfl⟩
  · exact ca_callXSt C dX6_addValue_10 (mX6_needNumber (cC_tr C) h10) rfl tX6_m100 tT_X6_needNumber tZ6 tC_X6_needNumber tH_X6_needNumber (by omega) (by decide) (cs1_sum cs1_nil (Nat.le_of_ble_eq_true rfl)) (by omega) (by omega)
  replace hf := hg10
  refine ca_callXSr C dX6_addValue_10 (mX6_needNumber (cC_tr C) h10) rfl tX6_m100 tT_X6_needNumber tZ6 tC_X6_needNumber tH_X6_needNumber (by omega) (by decide) (cs1_sum cs1_nil (Nat.le_of_ble_eq_true rfl)) (by omega) (by omega) ?_
  refine ca_aload_n C dX6_addValue_13 rfl rfl ?_
  refine ca_iconst C dX6_addValue_14 (v := 1) (by decide) ?_
  refine ca_iload_n C dX6_addValue_15 rfl rfl ?_
  refine ca_iload_n C dX6_addValue_16 rfl rfl ?_
  refine ca_iload_n C dX6_addValue_17 rfl rfl ?_
  obtain ⟨c18, hc18, hf⟩ := rob hf
  obtain ⟨q18, h18, hf⟩ := rob hf
  refine ca_callV C dX6_addValue_18 (mX6_addHiding (cC_tr C) h18) (crc_spec hc18) vw6 (by decide) rfl tX6_l96 tI_X6_addHiding tS_X6_addHiding tZ6 tC_X6_addHiding tH_X6_addHiding (by omega) (by decide) (cs1_sum cs1_nil (Nat.le_of_ble_eq_true rfl)) (by omega) (by omega) ?_
  obtain ⟨hn, hf⟩ := cbo_spec hf
  cases hf
  exact ca_zret C hn dX6_addValue_21 (by omega) (by omega)
set_option maxRecDepth 100000 in
set_option maxHeartbeats 4000000 in
theorem mX6_addValue {l : Launch} (hl : l.stackTraces = false) {G : cG} {o : Nat} {a0 : Int32} {a1 : Int32} {a2 : Int32} {z : cS} {w : Int32 ⊕ Nat} {z' : cS} {A B : Nat} (hf : fX6_addValue o a0 a1 a2 z = some (w, z', A, B)) : cMx l G 7 yX6_addValue cX6_addValue 4 (some .boolean) [.ref o, .int a0, .int a1, .int a2] z (cOi w, z', A, B) :=
  cMx_of (lo0 := [some (va_rf (some o)), some (.int a0), some (.int a1), some (.int a2)]) (by decide +kernel) rfl (cs1_q (cs1_i (cs1_i (cs1_i cs1_nil)))) (Nat.le_of_ble_eq_true rfl) rfl hl (fun X hX C => bX6_addValue C o a0 a1 a2 z (kc := 0) (ks := 0) hf (Nat.zero_add _).symm (Nat.zero_add _).symm)
set_option maxRecDepth 100000 in
set_option maxHeartbeats 4000000 in
theorem bX6_needRow {G : cG} {X : rX} {z0 : cS} {w : Unit ⊕ Nat} {z' : cS} {A B : Nat} (C : cC G X z0 RX6 1 cX6_needRow none 6 A B) (a0 : Option Nat) (z : cS) {kc ks ra rb : Nat} (hf : fX6_needRow a0 z = some (w, z', ra, rb)) (ha : A = kc + ra) (hb : B = ks + rb) : cAW true G X z0 (cOv w, z', A, B) 1 0 [some (va_rf a0)] [] z kc ks := by
  unfold fX6_needRow at hf
  refine ca_aload_n C dX6_needRow_0 rfl rfl ?_
  refine ca_ifnonnull C dX6_needRow_1 (tgt := 15) (by decide) (fun c1 => ?_) (fun c1 => ?_)
  · replace hf := rif_n c1 hf
    cases hf
    exact ca_vret C dX6_needRow_15 (by omega) (by omega)
  · replace hf := rif_p c1 hf
    cases hf
    exact ca_throwW C dX6_needRow_4 dX6_needRow_7 dX6_needRow_8 dX6_needRow_11 dX6_needRow_14 cfit0 tX6_k111 tX6_e0 tX6_t343 tX6_w115 tX6_g111_115 (by omega) (cs1_sum cs1_nil (Nat.le_of_ble_eq_true rfl)) (by omega) (by omega)
set_option maxRecDepth 100000 in
set_option maxHeartbeats 4000000 in
theorem mX6_needRow {l : Launch} (hl : l.stackTraces = false) {G : cG} {a0 : Option Nat} {z : cS} {w : Unit ⊕ Nat} {z' : cS} {A B : Nat} (hf : fX6_needRow a0 z = some (w, z', A, B)) : cMx l G 6 yX6_needRow cX6_needRow 1 none [va_rf a0] z (cOv w, z', A, B) :=
  cMx_of (lo0 := [some (va_rf a0)]) (by decide +kernel) rfl (cs1_r cs1_nil) (Nat.le_of_ble_eq_true rfl) rfl hl (fun X hX C => bX6_needRow C a0 z (kc := 0) (ks := 0) hf (Nat.zero_add _).symm (Nat.zero_add _).symm)
set_option maxRecDepth 100000 in
set_option maxHeartbeats 4000000 in
theorem bX6_addPart {G : cG} {X : rX} {z0 : cS} {w : Int32 ⊕ Nat} {z' : cS} {A B : Nat} (C : cC G X z0 RX6 3 cX6_addPart (some .boolean) 7 A B) (o : Nat) (a0 : Int32) (a1 : Int32) (z : cS) {kc ks ra rb : Nat} (hf : fX6_addPart o a0 a1 z = some (w, z', ra, rb)) (ha : A = kc + ra) (hb : B = ks + rb) : cAW true G X z0 (cOi w, z', A, B) 3 0 [some (va_rf (some o)), some (.int a0), some (.int a1)] [] z kc ks := by
  unfold fX6_addPart at hf
  refine ca_aload_n C dX6_addPart_0 rfl rfl ?_
  obtain ⟨x1, h1, hf⟩ := rob hf
  refine ca_getR C dX6_addPart_1 tcX6_f23 rfl rfl h1 ?_
  refine ca_iload_n C dX6_addPart_4 rfl rfl ?_
  obtain ⟨c5, hc5, hf⟩ := rob hf
  obtain ⟨q5, h5, hf⟩ := rob hf
  refine ca_callV C dX6_addPart_5 (mX3_at (cC_tr C) h5) (crc_spec hc5) vw3 (by decide) rfl tX6_l103 tI_X3_at tS_X3_at tZ3 tC_X3_at tH_X3_at (by omega) (by decide) (cs1_sum cs1_nil (Nat.le_of_ble_eq_true rfl)) (by omega) (by omega) ?_
  rcases tbind_spec hf with ⟨e8, h8, rfl⟩ | ⟨v8, z8, ra8, rb8, sa8, sb8, h8, hg8, rfl, rfl⟩
  · exact ca_callXSt C dX6_addPart_8 (mX6_needRow (cC_tr C) h8) rfl tX6_m107 tT_X6_needRow tZ6 tC_X6_needRow tH_X6_needRow (by omega) (by decide) (cs1_sum cs1_nil (Nat.le_of_ble_eq_true rfl)) (by omega) (by omega)
  replace hf := hg8
  refine ca_callXSr C dX6_addPart_8 (mX6_needRow (cC_tr C) h8) rfl tX6_m107 tT_X6_needRow tZ6 tC_X6_needRow tH_X6_needRow (by omega) (by decide) (cs1_sum cs1_nil (Nat.le_of_ble_eq_true rfl)) (by omega) (by omega) ?_
  refine ca_iload_n C dX6_addPart_11 rfl rfl ?_
  rcases tbind_spec hf with ⟨e12, h12, rfl⟩ | ⟨v12, z12, ra12, rb12, sa12, sb12, h12, hg12, rfl, rfl⟩
  · exact ca_callXSt C dX6_addPart_12 (mX6_needName (cC_tr C) h12) rfl tX6_m89 tT_X6_needName tZ6 tC_X6_needName tH_X6_needName (by omega) (by decide) (cs1_sum cs1_nil (Nat.le_of_ble_eq_true rfl)) (by omega) (by omega)
  replace hf := hg12
  refine ca_callXSr C dX6_addPart_12 (mX6_needName (cC_tr C) h12) rfl tX6_m89 tT_X6_needName tZ6 tC_X6_needName tH_X6_needName (by omega) (by decide) (cs1_sum cs1_nil (Nat.le_of_ble_eq_true rfl)) (by omega) (by omega) ?_
  refine ca_aload_n C dX6_addPart_15 rfl rfl ?_
  refine ca_iconst C dX6_addPart_16 (v := 2) (by decide) ?_
  refine ca_iload_n C dX6_addPart_17 rfl rfl ?_
  refine ca_iload_n C dX6_addPart_18 rfl rfl ?_
  refine ca_iconst C dX6_addPart_19 (v := 0) (by decide) ?_
  obtain ⟨c20, hc20, hf⟩ := rob hf
  obtain ⟨q20, h20, hf⟩ := rob hf
  refine ca_callV C dX6_addPart_20 (mX6_addHiding (cC_tr C) h20) (crc_spec hc20) vw6 (by decide) rfl tX6_l96 tI_X6_addHiding tS_X6_addHiding tZ6 tC_X6_addHiding tH_X6_addHiding (by omega) (by decide) (cs1_sum cs1_nil (Nat.le_of_ble_eq_true rfl)) (by omega) (by omega) ?_
  obtain ⟨hn, hf⟩ := cbo_spec hf
  cases hf
  exact ca_zret C hn dX6_addPart_23 (by omega) (by omega)
set_option maxRecDepth 100000 in
set_option maxHeartbeats 4000000 in
theorem mX6_addPart {l : Launch} (hl : l.stackTraces = false) {G : cG} {o : Nat} {a0 : Int32} {a1 : Int32} {z : cS} {w : Int32 ⊕ Nat} {z' : cS} {A B : Nat} (hf : fX6_addPart o a0 a1 z = some (w, z', A, B)) : cMx l G 7 yX6_addPart cX6_addPart 3 (some .boolean) [.ref o, .int a0, .int a1] z (cOi w, z', A, B) :=
  cMx_of (lo0 := [some (va_rf (some o)), some (.int a0), some (.int a1)]) (by decide +kernel) rfl (cs1_q (cs1_i (cs1_i cs1_nil))) (Nat.le_of_ble_eq_true rfl) rfl hl (fun X hX C => bX6_addPart C o a0 a1 z (kc := 0) (ks := 0) hf (Nat.zero_add _).symm (Nat.zero_add _).symm)
set_option maxRecDepth 100000 in
set_option maxHeartbeats 4000000 in
theorem bX6_open_b75 {G : cG} {X : rX} {z0 : cS} {w : Int32 ⊕ Nat} {z' : cS} {A B : Nat} (C : cC G X z0 RX6 5 cX6_open (some .int) 6 A B) (o : Nat) {rec28 : Option Nat → Int32 → Int32 → cS → Option ((Int32 ⊕ Nat) × cS × Nat × Nat)} (hrec28 : ∀ (l2 : Option Nat) (l3 : Int32) (l4 : Int32) (z : cS) (kc ks ra rb : Nat), rec28 l2 l3 l4 z = some (w, z', ra, rb) → A = kc + ra → B = ks + rb → cAW true G X z0 (cOi w, z', A, B) 5 28 [some (va_rf (some o)), none, some (va_rf l2), some (.int l3), some (.int l4)] [] z kc ks) (l2 : Option Nat) (l3 : Int32) (l4 : Int32) (z : cS) {kc ks ra rb : Nat} (hf : fX6_open_b75 o rec28 l2 l3 l4 z = some (w, z', ra, rb)) (ha : A = kc + ra) (hb : B = ks + rb) : cAW true G X z0 (cOi w, z', A, B) 5 75 [some (va_rf (some o)), none, some (va_rf l2), some (.int l3), some (.int l4)] [] z kc ks := by
  unfold fX6_open_b75 at hf
  refine ca_iinc C dX6_open_75 rfl (v := 1) (by decide) (by decide) ?_
  refine ca_goto C dX6_open_78 (tgt := 28) (by decide) ?_
  exact hrec28 _ _ _ _ _ _ _ _ hf (by omega) (by omega)
set_option maxRecDepth 100000 in
set_option maxHeartbeats 4000000 in
theorem bX6_open_b28_body {G : cG} {X : rX} {z0 : cS} {w : Int32 ⊕ Nat} {z' : cS} {A B : Nat} (C : cC G X z0 RX6 5 cX6_open (some .int) 6 A B) (o : Nat) {rec28 : Option Nat → Int32 → Int32 → cS → Option ((Int32 ⊕ Nat) × cS × Nat × Nat)} (hrec28 : ∀ (l2 : Option Nat) (l3 : Int32) (l4 : Int32) (z : cS) (kc ks ra rb : Nat), rec28 l2 l3 l4 z = some (w, z', ra, rb) → A = kc + ra → B = ks + rb → cAW true G X z0 (cOi w, z', A, B) 5 28 [some (va_rf (some o)), none, some (va_rf l2), some (.int l3), some (.int l4)] [] z kc ks) (l2 : Option Nat) (l3 : Int32) (l4 : Int32) (z : cS) {kc ks ra rb : Nat} (hf : fX6_open_b28_body o rec28 l2 l3 l4 z = some (w, z', ra, rb)) (ha : A = kc + ra) (hb : B = ks + rb) : cAW true G X z0 (cOi w, z', A, B) 5 28 [some (va_rf (some o)), none, some (va_rf l2), some (.int l3), some (.int l4)] [] z kc ks := by
  unfold fX6_open_b28_body at hf
  refine ca_iload C dX6_open_28 rfl ?_
  refine ca_aload_n C dX6_open_30 rfl rfl ?_
  obtain ⟨q31, hq31, hf⟩ := rob hf
  obtain ⟨x31, h31, hf⟩ := rob hf
  refine ca_getI C dX6_open_31 tcX6_f116 rfl hq31 h31 ?_
  refine ca_icmp_ge C dX6_open_34 (tgt := 81) (by decide) (fun c34 => ?_) (fun c34 => ?_)
  · replace hf := rif_p c34 hf
    refine ca_iload_n C dX6_open_81 rfl rfl ?_
    cases hf
    exact ca_iret C dX6_open_82 (by omega) (by omega)
  · replace hf := rif_n c34 hf
    refine ca_aload_n C dX6_open_37 rfl rfl ?_
    refine ca_aload_n C dX6_open_38 rfl rfl ?_
    refine ca_iload C dX6_open_39 rfl ?_
    refine ca_iconst C dX6_open_41 (v := 0) (by decide) ?_
    obtain ⟨c42, hc42, hf⟩ := rob hf
    obtain ⟨q42, h42, hf⟩ := rob hf
    refine ca_callV C dX6_open_42 (mX2_get (cC_tr C) h42) (crc_spec hc42) vw2 (by decide) rfl tX6_l120 tI_X2_get tS_X2_get tZ2 tC_X2_get tH_X2_get (by omega) (by decide) (cs1_sum (cs1_r cs1_nil) (Nat.le_of_ble_eq_true rfl)) (by omega) (by omega) ?_
    refine ca_aload_n C dX6_open_45 rfl rfl ?_
    refine ca_iload C dX6_open_46 rfl ?_
    refine ca_iconst C dX6_open_48 (v := 1) (by decide) ?_
    obtain ⟨c49, hc49, hf⟩ := rob hf
    obtain ⟨q49, h49, hf⟩ := rob hf
    refine ca_callV C dX6_open_49 (mX2_get (cC_tr C) h49) (crc_spec hc49) vw2 (by decide) rfl tX6_l120 tI_X2_get tS_X2_get tZ2 tC_X2_get tH_X2_get (by omega) (by decide) (cs1_sum (cs1_i (cs1_r cs1_nil)) (Nat.le_of_ble_eq_true rfl)) (by omega) (by omega) ?_
    refine ca_aload_n C dX6_open_52 rfl rfl ?_
    refine ca_iload C dX6_open_53 rfl ?_
    refine ca_iconst C dX6_open_55 (v := 2) (by decide) ?_
    obtain ⟨c56, hc56, hf⟩ := rob hf
    obtain ⟨q56, h56, hf⟩ := rob hf
    refine ca_callV C dX6_open_56 (mX2_get (cC_tr C) h56) (crc_spec hc56) vw2 (by decide) rfl tX6_l120 tI_X2_get tS_X2_get tZ2 tC_X2_get tH_X2_get (by omega) (by decide) (cs1_sum (cs1_i (cs1_i (cs1_r cs1_nil))) (Nat.le_of_ble_eq_true rfl)) (by omega) (by omega) ?_
    refine ca_aload_n C dX6_open_59 rfl rfl ?_
    refine ca_iload C dX6_open_60 rfl ?_
    refine ca_iconst C dX6_open_62 (v := 4) (by decide) ?_
    obtain ⟨c63, hc63, hf⟩ := rob hf
    obtain ⟨q63, h63, hf⟩ := rob hf
    refine ca_callV C dX6_open_63 (mX2_get (cC_tr C) h63) (crc_spec hc63) vw2 (by decide) rfl tX6_l120 tI_X2_get tS_X2_get tZ2 tC_X2_get tH_X2_get (by omega) (by decide) (cs1_sum (cs1_i (cs1_i (cs1_i (cs1_r cs1_nil)))) (Nat.le_of_ble_eq_true rfl)) (by omega) (by omega) ?_
    obtain ⟨c66, hc66, hf⟩ := rob hf
    obtain ⟨q66, h66, hf⟩ := rob hf
    refine ca_callV C dX6_open_66 (mX6_addHiding (cC_tr C) h66) (crc_spec hc66) vw6 (by decide) rfl tX6_l96 tI_X6_addHiding tS_X6_addHiding tZ6 tC_X6_addHiding tH_X6_addHiding (by omega) (by decide) (cs1_sum cs1_nil (Nat.le_of_ble_eq_true rfl)) (by omega) (by omega) ?_
    refine ca_if_eq C dX6_open_69 (tgt := 75) (by decide) (fun c69 => ?_) (fun c69 => ?_)
    · replace hf := rif_p c69 hf
      exact bX6_open_b75 C o hrec28 _ _ _ _ hf (by omega) (by omega)
    · replace hf := rif_n c69 hf
      refine ca_iinc C dX6_open_72 rfl (v := 1) (by decide) (by decide) ?_
      exact bX6_open_b75 C o hrec28 _ _ _ _ hf (by omega) (by omega)
set_option maxRecDepth 100000 in
set_option maxHeartbeats 4000000 in
theorem bX6_open_b28 {G : cG} {X : rX} {z0 : cS} {w : Int32 ⊕ Nat} {z' : cS} {A B : Nat} (C : cC G X z0 RX6 5 cX6_open (some .int) 6 A B) (o : Nat) : ∀ (n : Nat) (l2 : Option Nat) (l3 : Int32) (l4 : Int32) (z : cS) (kc ks ra rb : Nat), fX6_open_b28 o n l2 l3 l4 z = some (w, z', ra, rb) → A = kc + ra → B = ks + rb → cAW true G X z0 (cOi w, z', A, B) 5 28 [some (va_rf (some o)), none, some (va_rf l2), some (.int l3), some (.int l4)] [] z kc ks := by
  intro n
  induction n with
  | zero => intro l2 l3 l4 z kc ks ra rb hf; cases hf
  | succ n ih => intro l2 l3 l4 z kc ks ra rb hf ha hb; exact bX6_open_b28_body C o (fun l2 l3 l4 z kc ks ra rb h1 h2 h3 => ih l2 l3 l4 z kc ks ra rb h1 h2 h3) l2 l3 l4 z hf ha hb
set_option maxRecDepth 100000 in
set_option maxHeartbeats 4000000 in
theorem bX6_open {G : cG} {X : rX} {z0 : cS} {w : Int32 ⊕ Nat} {z' : cS} {A B : Nat} (C : cC G X z0 RX6 5 cX6_open (some .int) 6 A B) (o : Nat) (a0 : Int32) (z : cS) {kc ks ra rb : Nat} (hf : fX6_open o a0 z = some (w, z', ra, rb)) (ha : A = kc + ra) (hb : B = ks + rb) : cAW true G X z0 (cOi w, z', A, B) 5 0 [some (va_rf (some o)), some (.int a0), none, none, none] [] z kc ks := by
  unfold fX6_open at hf
  refine ca_aload_n C dX6_open_0 rfl rfl ?_
  obtain ⟨x1, h1, hf⟩ := rob hf
  refine ca_getR C dX6_open_1 tcX6_f23 rfl rfl h1 ?_
  refine ca_iload_n C dX6_open_4 rfl rfl ?_
  obtain ⟨c5, hc5, hf⟩ := rob hf
  obtain ⟨q5, h5, hf⟩ := rob hf
  refine ca_callV C dX6_open_5 (mX3_at (cC_tr C) h5) (crc_spec hc5) vw3 (by decide) rfl tX6_l103 tI_X3_at tS_X3_at tZ3 tC_X3_at tH_X3_at (by omega) (by decide) (cs1_sum cs1_nil (Nat.le_of_ble_eq_true rfl)) (by omega) (by omega) ?_
  refine ca_astore_n C dX6_open_8 rfl (by decide) ?_
  refine ca_aload_n C dX6_open_9 rfl rfl ?_
  refine ca_ifnonnull C dX6_open_10 (tgt := 23) (by decide) (fun c10 => ?_) (fun c10 => ?_)
  · replace hf := rif_n c10 hf
    refine ca_iconst C dX6_open_23 (v := 0) (by decide) ?_
    refine ca_istore_n C dX6_open_24 rfl (by decide) ?_
    refine ca_iconst C dX6_open_25 (v := 0) (by decide) ?_
    refine ca_istore C dX6_open_26 (by decide) ?_
    refine ca_mask [true, false, true, true, true] ?_
    exact bX6_open_b28 C o _ _ _ _ _ _ _ _ _ hf (by omega) (by omega)
  · replace hf := rif_p c10 hf
    cases hf
    exact ca_throw C dX6_open_13 dX6_open_16 dX6_open_17 dX6_open_19 dX6_open_22 cfit0 tX6_k111 tX6_e0 tX6_t113 tX6_w115 tX6_g111_115 (by omega) (cs1_sum cs1_nil (Nat.le_of_ble_eq_true rfl)) (by omega) (by omega)
set_option maxRecDepth 100000 in
set_option maxHeartbeats 4000000 in
theorem mX6_open {l : Launch} (hl : l.stackTraces = false) {G : cG} {o : Nat} {a0 : Int32} {z : cS} {w : Int32 ⊕ Nat} {z' : cS} {A B : Nat} (hf : fX6_open o a0 z = some (w, z', A, B)) : cMx l G 6 yX6_open cX6_open 5 (some .int) [.ref o, .int a0] z (cOi w, z', A, B) :=
  cMx_of (lo0 := [some (va_rf (some o)), some (.int a0), none, none, none]) (by decide +kernel) rfl (cs1_q (cs1_i cs1_nil)) (Nat.le_of_ble_eq_true rfl) rfl hl (fun X hX C => bX6_open C o a0 z (kc := 0) (ks := 0) hf (Nat.zero_add _).symm (Nat.zero_add _).symm)
set_option maxRecDepth 100000 in
set_option maxHeartbeats 4000000 in
theorem bX6_structure {G : cG} {X : rX} {z0 : cS} {w : Int32 ⊕ Nat} {z' : cS} {A B : Nat} (C : cC G X z0 RX6 2 cX6_structure (some .int) 6 A B) (o : Nat) (z : cS) {kc ks ra rb : Nat} (hf : fX6_structure o  z = some (w, z', ra, rb)) (ha : A = kc + ra) (hb : B = ks + rb) : cAW true G X z0 (cOi w, z', A, B) 2 0 [some (va_rf (some o)), none] [] z kc ks := by
  unfold fX6_structure at hf
  refine ca_aload_n C dX6_structure_0 rfl rfl ?_
  obtain ⟨x1, h1, hf⟩ := rob hf
  refine ca_getR C dX6_structure_1 tcX6_f23 rfl rfl h1 ?_
  refine ca_aload_n C dX6_structure_4 rfl rfl ?_
  obtain ⟨x5, h5, hf⟩ := rob hf
  refine ca_getR C dX6_structure_5 tcX6_f31 rfl rfl h5 ?_
  obtain ⟨c8, hc8, hf⟩ := rob hf
  obtain ⟨v8, z8, ra8, rb8, sa8, sb8, h8, hg8, rfl, rfl⟩ := abind_spec hf
  replace hf := hg8
  refine ca_callV C dX6_structure_8 (mX3_keep (cC_tr C) h8) (crc_spec hc8) vw3 (by decide) rfl tX6_l123 tI_X3_keep tS_X3_keep tZ3 tC_X3_keep tH_X3_keep (by omega) (by decide) (cs1_sum cs1_nil (Nat.le_of_ble_eq_true rfl)) (by omega) (by omega) ?_
  refine ca_istore_n C dX6_structure_11 rfl (by decide) ?_
  refine ca_iload_n C dX6_structure_12 rfl rfl ?_
  refine ca_iconst C dX6_structure_13 (v := (-1)) (by decide) ?_
  refine ca_icmp_ne C dX6_structure_14 (tgt := 27) (by decide) (fun c14 => ?_) (fun c14 => ?_)
  · replace hf := rif_n c14 hf
    refine ca_iload_n C dX6_structure_27 rfl rfl ?_
    cases hf
    exact ca_iret C dX6_structure_28 (by omega) (by omega)
  · replace hf := rif_p c14 hf
    cases hf
    exact ca_throw C dX6_structure_17 dX6_structure_20 dX6_structure_21 dX6_structure_23 dX6_structure_26 cfit2 tX6_k67 tX6_e2 tX6_t127 tX6_w71 tX6_g67_71 (by omega) (cs1_sum cs1_nil (Nat.le_of_ble_eq_true rfl)) (by omega) (by omega)
set_option maxRecDepth 100000 in
set_option maxHeartbeats 4000000 in
theorem mX6_structure {l : Launch} (hl : l.stackTraces = false) {G : cG} {o : Nat} {z : cS} {w : Int32 ⊕ Nat} {z' : cS} {A B : Nat} (hf : fX6_structure o  z = some (w, z', A, B)) : cMx l G 6 yX6_structure cX6_structure 2 (some .int) [.ref o] z (cOi w, z', A, B) :=
  cMx_of (lo0 := [some (va_rf (some o)), none]) (by decide +kernel) rfl (cs1_q cs1_nil) (Nat.le_of_ble_eq_true rfl) rfl hl (fun X hX C => bX6_structure C o  z (kc := 0) (ks := 0) hf (Nat.zero_add _).symm (Nat.zero_add _).symm)
set_option maxRecDepth 100000 in
set_option maxHeartbeats 4000000 in
theorem bX6_item_b34 {G : cG} {X : rX} {z0 : cS} {w : Int32 ⊕ Nat} {z' : cS} {A B : Nat} (C : cC G X z0 RX6 7 cX6_item (some .int) 6 A B) (o : Nat) (z : cS) {kc ks ra rb : Nat} (hf : fX6_item_b34 o  z = some (w, z', ra, rb)) (ha : A = kc + ra) (hb : B = ks + rb) : cAW true G X z0 (cOi w, z', A, B) 7 34 [none, none, none, none, none, none, none] [] z kc ks := by
  unfold fX6_item_b34 at hf
  cases hf
  exact ca_throw C dX6_item_34 dX6_item_37 dX6_item_38 dX6_item_40 dX6_item_43 cfit1 tX6_k84 tX6_e1 tX6_t129 tX6_w88 tX6_g84_88 (by omega) (cs1_sum cs1_nil (Nat.le_of_ble_eq_true rfl)) (by omega) (by omega)
set_option maxRecDepth 100000 in
set_option maxHeartbeats 4000000 in
theorem bX6_item_b80 {G : cG} {X : rX} {z0 : cS} {w : Int32 ⊕ Nat} {z' : cS} {A B : Nat} (C : cC G X z0 RX6 7 cX6_item (some .int) 6 A B) (o : Nat) (z : cS) {kc ks ra rb : Nat} (hf : fX6_item_b80 o  z = some (w, z', ra, rb)) (ha : A = kc + ra) (hb : B = ks + rb) : cAW true G X z0 (cOi w, z', A, B) 7 80 [none, none, none, none, none, none, none] [] z kc ks := by
  unfold fX6_item_b80 at hf
  cases hf
  exact ca_throw C dX6_item_80 dX6_item_83 dX6_item_84 dX6_item_86 dX6_item_89 cfit1 tX6_k84 tX6_e1 tX6_t86 tX6_w88 tX6_g84_88 (by omega) (cs1_sum cs1_nil (Nat.le_of_ble_eq_true rfl)) (by omega) (by omega)
set_option maxRecDepth 100000 in
set_option maxHeartbeats 4000000 in
theorem bX6_item_b113 {G : cG} {X : rX} {z0 : cS} {w : Int32 ⊕ Nat} {z' : cS} {A B : Nat} (C : cC G X z0 RX6 7 cX6_item (some .int) 6 A B) (o : Nat) (s0 : Int32) (s1 : Int32) (s2 : Option Nat) (z : cS) {kc ks ra rb : Nat} (hf : fX6_item_b113 o s0 s1 s2 z = some (w, z', ra, rb)) (ha : A = kc + ra) (hb : B = ks + rb) : cAW true G X z0 (cOi w, z', A, B) 7 113 [none, none, none, none, none, none, none] [.int s0, .int s1, va_rf s2] z kc ks := by
  unfold fX6_item_b113 at hf
  obtain ⟨c113, hc113, hf⟩ := rob hf
  obtain ⟨q113, h113, hf⟩ := rob hf
  refine ca_callV C dX6_item_113 (mX2_get (cC_tr C) h113) (crc_spec hc113) vw2 (by decide) rfl tX6_l120 tI_X2_get tS_X2_get tZ2 tC_X2_get tH_X2_get (by omega) (by decide) (cs1_sum cs1_nil (Nat.le_of_ble_eq_true rfl)) (by omega) (by omega) ?_
  cases hf
  exact ca_iret C dX6_item_116 (by omega) (by omega)
set_option maxRecDepth 100000 in
set_option maxHeartbeats 4000000 in
theorem bX6_item {G : cG} {X : rX} {z0 : cS} {w : Int32 ⊕ Nat} {z' : cS} {A B : Nat} (C : cC G X z0 RX6 7 cX6_item (some .int) 6 A B) (o : Nat) (a0 : Int32) (a1 : Int32) (a2 : Int32) (a3 : Int32) (z : cS) {kc ks ra rb : Nat} (hf : fX6_item o a0 a1 a2 a3 z = some (w, z', ra, rb)) (ha : A = kc + ra) (hb : B = ks + rb) : cAW true G X z0 (cOi w, z', A, B) 7 0 [some (va_rf (some o)), some (.int a0), some (.int a1), some (.int a2), some (.int a3), none, none] [] z kc ks := by
  unfold fX6_item at hf
  refine ca_aload_n C dX6_item_0 rfl rfl ?_
  obtain ⟨x1, h1, hf⟩ := rob hf
  refine ca_getR C dX6_item_1 tcX6_f23 rfl rfl h1 ?_
  refine ca_iload_n C dX6_item_4 rfl rfl ?_
  obtain ⟨c5, hc5, hf⟩ := rob hf
  obtain ⟨q5, h5, hf⟩ := rob hf
  refine ca_callV C dX6_item_5 (mX3_at (cC_tr C) h5) (crc_spec hc5) vw3 (by decide) rfl tX6_l103 tI_X3_at tS_X3_at tZ3 tC_X3_at tH_X3_at (by omega) (by decide) (cs1_sum cs1_nil (Nat.le_of_ble_eq_true rfl)) (by omega) (by omega) ?_
  refine ca_astore C dX6_item_8 (by decide) ?_
  refine ca_aload C dX6_item_10 rfl ?_
  refine ca_ifnonnull C dX6_item_12 (tgt := 25) (by decide) (fun c12 => ?_) (fun c12 => ?_)
  · replace hf := rif_n c12 hf
    refine ca_iload_n C dX6_item_25 rfl rfl ?_
    refine ca_if_lt C dX6_item_26 (tgt := 34) (by decide) (fun c26 => ?_) (fun c26 => ?_)
    · replace hf := rif_p c26 hf
      refine ca_mask [false, false, false, false, false, false, false] ?_
      exact bX6_item_b34 C o  _ hf (by omega) (by omega)
    · replace hf := rif_n c26 hf
      refine ca_iload_n C dX6_item_29 rfl rfl ?_
      refine ca_iconst C dX6_item_30 (v := 3) (by decide) ?_
      refine ca_icmp_lt C dX6_item_31 (tgt := 44) (by decide) (fun c31 => ?_) (fun c31 => ?_)
      · replace hf := rif_p c31 hf
        refine ca_aload C dX6_item_44 rfl ?_
        refine ca_iload_n C dX6_item_46 rfl rfl ?_
        refine ca_iload_n C dX6_item_47 rfl rfl ?_
        obtain ⟨c48, hc48, hf⟩ := rob hf
        obtain ⟨q48, h48, hf⟩ := rob hf
        refine ca_callV C dX6_item_48 (mX2_placeOf (cC_tr C) h48) (crc_spec hc48) vw2 (by decide) rfl tX6_l131 tI_X2_placeOf tS_X2_placeOf tZ2 tC_X2_placeOf tH_X2_placeOf (by omega) (by decide) (cs1_sum cs1_nil (Nat.le_of_ble_eq_true rfl)) (by omega) (by omega) ?_
        refine ca_istore C dX6_item_51 (by decide) ?_
        refine ca_iload C dX6_item_53 rfl ?_
        refine ca_iconst C dX6_item_55 (v := (-1)) (by decide) ?_
        refine ca_icmp_ne C dX6_item_56 (tgt := 69) (by decide) (fun c56 => ?_) (fun c56 => ?_)
        · replace hf := rif_n c56 hf
          refine ca_iload C dX6_item_69 rfl ?_
          refine ca_if_lt C dX6_item_71 (tgt := 80) (by decide) (fun c71 => ?_) (fun c71 => ?_)
          · replace hf := rif_p c71 hf
            refine ca_mask [false, false, false, false, false, false, false] ?_
            exact bX6_item_b80 C o  _ hf (by omega) (by omega)
          · replace hf := rif_n c71 hf
            refine ca_iload C dX6_item_74 rfl ?_
            refine ca_iconst C dX6_item_76 (v := 2) (by decide) ?_
            refine ca_icmp_le C dX6_item_77 (tgt := 90) (by decide) (fun c77 => ?_) (fun c77 => ?_)
            · replace hf := rif_p c77 hf
              refine ca_iload C dX6_item_90 rfl ?_
              refine ca_iconst C dX6_item_92 (v := 1) (by decide) ?_
              refine ca_icmp_ne C dX6_item_93 (tgt := 99) (by decide) (fun c93 => ?_) (fun c93 => ?_)
              · replace hf := rif_n c93 hf
                refine ca_aload C dX6_item_99 rfl ?_
                refine ca_iload C dX6_item_101 rfl ?_
                refine ca_iload C dX6_item_103 rfl ?_
                refine ca_if_ne C dX6_item_105 (tgt := 112) (by decide) (fun c105 => ?_) (fun c105 => ?_)
                · replace hf := rif_n c105 hf
                  refine ca_iconst C dX6_item_112 (v := 4) (by decide) ?_
                  refine ca_mask [false, false, false, false, false, false, false] ?_
                  exact bX6_item_b113 C o _ _ _ _ hf (by omega) (by omega)
                · replace hf := rif_p c105 hf
                  refine ca_iconst C dX6_item_108 (v := 2) (by decide) ?_
                  refine ca_goto C dX6_item_109 (tgt := 113) (by decide) ?_
                  refine ca_mask [false, false, false, false, false, false, false] ?_
                  exact bX6_item_b113 C o _ _ _ _ hf (by omega) (by omega)
              · replace hf := rif_p c93 hf
                refine ca_iload C dX6_item_96 rfl ?_
                cases hf
                exact ca_iret C dX6_item_98 (by omega) (by omega)
            · replace hf := rif_n c77 hf
              refine ca_mask [false, false, false, false, false, false, false] ?_
              exact bX6_item_b80 C o  _ hf (by omega) (by omega)
        · replace hf := rif_p c56 hf
          cases hf
          exact ca_throw C dX6_item_59 dX6_item_62 dX6_item_63 dX6_item_65 dX6_item_68 cfit0 tX6_k111 tX6_e0 tX6_t134 tX6_w115 tX6_g111_115 (by omega) (cs1_sum cs1_nil (Nat.le_of_ble_eq_true rfl)) (by omega) (by omega)
      · replace hf := rif_n c31 hf
        refine ca_mask [false, false, false, false, false, false, false] ?_
        exact bX6_item_b34 C o  _ hf (by omega) (by omega)
  · replace hf := rif_p c12 hf
    cases hf
    exact ca_throw C dX6_item_15 dX6_item_18 dX6_item_19 dX6_item_21 dX6_item_24 cfit0 tX6_k111 tX6_e0 tX6_t113 tX6_w115 tX6_g111_115 (by omega) (cs1_sum cs1_nil (Nat.le_of_ble_eq_true rfl)) (by omega) (by omega)
set_option maxRecDepth 100000 in
set_option maxHeartbeats 4000000 in
theorem mX6_item {l : Launch} (hl : l.stackTraces = false) {G : cG} {o : Nat} {a0 : Int32} {a1 : Int32} {a2 : Int32} {a3 : Int32} {z : cS} {w : Int32 ⊕ Nat} {z' : cS} {A B : Nat} (hf : fX6_item o a0 a1 a2 a3 z = some (w, z', A, B)) : cMx l G 6 yX6_item cX6_item 7 (some .int) [.ref o, .int a0, .int a1, .int a2, .int a3] z (cOi w, z', A, B) :=
  cMx_of (lo0 := [some (va_rf (some o)), some (.int a0), some (.int a1), some (.int a2), some (.int a3), none, none]) (by decide +kernel) rfl (cs1_q (cs1_i (cs1_i (cs1_i (cs1_i cs1_nil))))) (Nat.le_of_ble_eq_true rfl) rfl hl (fun X hX C => bX6_item C o a0 a1 a2 a3 z (kc := 0) (ks := 0) hf (Nat.zero_add _).symm (Nat.zero_add _).symm)
