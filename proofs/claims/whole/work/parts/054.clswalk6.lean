set_option maxRecDepth 100000 in
set_option maxHeartbeats 4000000 in
theorem bX6_noteAllUsed_b49 {G : cG} {X : rX} {z0 : cS} {r : Unit × cS} (C : cC G X z0 RX6 4 cX6_noteAllUsed none 2 0 0) (o : Nat) {rec10 : Option Nat → Int32 → cS → Option (Unit × cS)} (hrec10 : ∀ (l1 : Option Nat) (l2 : Int32) (z : cS), rec10 l1 l2 z = some r → cAW false G X z0 (.inl (none), r.2, 0, 0) 4 10 [some (va_rf (some o)), some (va_rf l1), some (.int l2), none] [] z 0 0) (l1 : Option Nat) (l2 : Int32) (z : cS) (hf : fX6_noteAllUsed_b49 o rec10 l1 l2 z = some r) : cAW false G X z0 (.inl (none), r.2, 0, 0) 4 49 [some (va_rf (some o)), some (va_rf l1), some (.int l2), none] [] z 0 0 := by
  unfold fX6_noteAllUsed_b49 at hf
  refine ca_iinc C dX6_noteAllUsed_49 rfl (v := 1) (by decide) (by decide) ?_
  refine ca_goto C dX6_noteAllUsed_52 (tgt := 10) (by decide) ?_
  exact hrec10 _ _ _ hf
set_option maxRecDepth 100000 in
set_option maxHeartbeats 4000000 in
theorem bX6_noteAllUsed_b10_body {G : cG} {X : rX} {z0 : cS} {r : Unit × cS} (C : cC G X z0 RX6 4 cX6_noteAllUsed none 2 0 0) (o : Nat) {rec10 : Option Nat → Int32 → cS → Option (Unit × cS)} (hrec10 : ∀ (l1 : Option Nat) (l2 : Int32) (z : cS), rec10 l1 l2 z = some r → cAW false G X z0 (.inl (none), r.2, 0, 0) 4 10 [some (va_rf (some o)), some (va_rf l1), some (.int l2), none] [] z 0 0) (l1 : Option Nat) (l2 : Int32) (z : cS) (hf : fX6_noteAllUsed_b10_body o rec10 l1 l2 z = some r) : cAW false G X z0 (.inl (none), r.2, 0, 0) 4 10 [some (va_rf (some o)), some (va_rf l1), some (.int l2), none] [] z 0 0 := by
  unfold fX6_noteAllUsed_b10_body at hf
  refine ca_iload_n C dX6_noteAllUsed_10 rfl rfl ?_
  refine ca_aload_n C dX6_noteAllUsed_11 rfl rfl ?_
  obtain ⟨x12, h12, hf⟩ := rob hf
  refine ca_getI C dX6_noteAllUsed_12 tcX6_f295 rfl rfl h12 ?_
  refine ca_icmp_ge C dX6_noteAllUsed_15 (tgt := 55) (by decide) (fun c15 => ?_) (fun c15 => ?_)
  · replace hf := rif_p c15 hf
    obtain rfl := Option.some.inj hf
    exact ca_vret C dX6_noteAllUsed_55 (by omega) (by omega)
  · replace hf := rif_n c15 hf
    refine ca_aload_n C dX6_noteAllUsed_18 rfl rfl ?_
    refine ca_iload_n C dX6_noteAllUsed_19 rfl rfl ?_
    obtain ⟨c20, hc20, hf⟩ := rob hf
    obtain ⟨q20, h20, hf⟩ := rob hf
    refine ca_callV C dX6_noteAllUsed_20 (mX6_unitAt (cC_tr C) h20) (crc_spec hc20) vw6 (by decide) rfl tX6_l303 tI_X6_unitAt tS_X6_unitAt tZ6 tC_X6_unitAt tH_X6_unitAt (by omega) (by decide) (cs1_sum cs1_nil (Nat.le_of_ble_eq_true rfl)) (by omega) (by omega) ?_
    refine ca_astore_n C dX6_noteAllUsed_23 rfl (by decide) ?_
    refine ca_aload_n C dX6_noteAllUsed_24 rfl rfl ?_
    refine ca_ifnull C dX6_noteAllUsed_25 (tgt := 49) (by decide) (fun c25 => ?_) (fun c25 => ?_)
    · replace hf := rif_p c25 hf
      refine ca_mask [true, true, true, false] ?_
      exact bX6_noteAllUsed_b49 C o hrec10 _ _ _ hf
    · replace hf := rif_n c25 hf
      refine ca_aload_n C dX6_noteAllUsed_28 rfl rfl ?_
      refine ca_iload_n C dX6_noteAllUsed_29 rfl rfl ?_
      obtain ⟨c30, hc30, hf⟩ := rob hf
      obtain ⟨q30, h30, hf⟩ := rob hf
      refine ca_callV C dX6_noteAllUsed_30 (mX5_isUsing (cC_tr C) h30) (crc_spec hc30) vw5 (by decide) rfl tX6_l326 tI_X5_isUsing tS_X5_isUsing tZ5 tC_X5_isUsing tH_X5_isUsing (by omega) (by decide) (cs1_sum cs1_nil (Nat.le_of_ble_eq_true rfl)) (by omega) (by omega) ?_
      refine ca_if_eq C dX6_noteAllUsed_33 (tgt := 49) (by decide) (fun c33 => ?_) (fun c33 => ?_)
      · replace hf := rif_p c33 hf
        refine ca_mask [true, true, true, false] ?_
        exact bX6_noteAllUsed_b49 C o hrec10 _ _ _ hf
      · replace hf := rif_n c33 hf
        refine ca_aload_n C dX6_noteAllUsed_36 rfl rfl ?_
        refine ca_iload_n C dX6_noteAllUsed_37 rfl rfl ?_
        refine ca_aload_n C dX6_noteAllUsed_38 rfl rfl ?_
        obtain ⟨q39, hq39, hf⟩ := rob hf
        obtain ⟨x39, h39, hf⟩ := rob hf
        refine ca_getI C dX6_noteAllUsed_39 tcX6_f309 rfl hq39 h39 ?_
        refine ca_aload_n C dX6_noteAllUsed_42 rfl rfl ?_
        obtain ⟨q43, hq43, hf⟩ := rob hf
        obtain ⟨x43, h43, hf⟩ := rob hf
        refine ca_getI C dX6_noteAllUsed_43 tcX6_f312 rfl hq43 h43 ?_
        obtain ⟨c46, hc46, hf⟩ := rob hf
        obtain ⟨q46, h46, hf⟩ := rob hf
        refine ca_callV C dX6_noteAllUsed_46 (mX5_note (cC_tr C) h46) (crc_spec hc46) vw5 (by decide) rfl tX6_l339 tI_X5_note tS_X5_note tZ5 tC_X5_note tH_X5_note (by omega) (by decide) (cs1_sum cs1_nil (Nat.le_of_ble_eq_true rfl)) (by omega) (by omega) ?_
        refine ca_mask [true, true, true, false] ?_
        exact bX6_noteAllUsed_b49 C o hrec10 _ _ _ hf
set_option maxRecDepth 100000 in
set_option maxHeartbeats 4000000 in
theorem bX6_noteAllUsed_b10 {G : cG} {X : rX} {z0 : cS} {r : Unit × cS} (C : cC G X z0 RX6 4 cX6_noteAllUsed none 2 0 0) (o : Nat) : ∀ (n : Nat) (l1 : Option Nat) (l2 : Int32) (z : cS), fX6_noteAllUsed_b10 o n l1 l2 z = some r → cAW false G X z0 (.inl (none), r.2, 0, 0) 4 10 [some (va_rf (some o)), some (va_rf l1), some (.int l2), none] [] z 0 0 := by
  intro n
  induction n with
  | zero => intro l1 l2 z hf; cases hf
  | succ n ih => intro l1 l2 z hf; exact bX6_noteAllUsed_b10_body C o (fun l1 l2 z h => ih l1 l2 z h) l1 l2 z hf
set_option maxRecDepth 100000 in
set_option maxHeartbeats 4000000 in
theorem bX6_noteAllUsed {G : cG} {X : rX} {z0 : cS} {r : Unit × cS} (C : cC G X z0 RX6 4 cX6_noteAllUsed none 2 0 0) (o : Nat) (a0 : Option Nat) (z : cS) (hf : fX6_noteAllUsed o a0 z = some r) : cAW false G X z0 (.inl (none), r.2, 0, 0) 4 0 [some (va_rf (some o)), some (va_rf a0), none, none] [] z 0 0 := by
  unfold fX6_noteAllUsed at hf
  refine ca_aload_n C dX6_noteAllUsed_0 rfl rfl ?_
  refine ca_aload_n C dX6_noteAllUsed_1 rfl rfl ?_
  obtain ⟨q2, hq2, hf⟩ := rob hf
  obtain ⟨x2, h2, hf⟩ := rob hf
  refine ca_getI C dX6_noteAllUsed_2 tcX6_f312 rfl hq2 h2 ?_
  obtain ⟨q5, hq5, hf⟩ := rob hf
  obtain ⟨z5, h5, hf⟩ := rob hf
  refine ca_putI C dX6_noteAllUsed_5 tcX6_f323 nX5_4 rfl tI5_4 hq5 h5 ?_
  refine ca_iconst C dX6_noteAllUsed_8 (v := 0) (by decide) ?_
  refine ca_istore_n C dX6_noteAllUsed_9 rfl (by decide) ?_
  exact bX6_noteAllUsed_b10 C o _ _ _ _ hf
set_option maxRecDepth 100000 in
set_option maxHeartbeats 4000000 in
theorem mX6_noteAllUsed {l : Launch} (hl : l.stackTraces = false) {G : cG} {o : Nat} {a0 : Option Nat} {z : cS} {r : Unit × cS} (hf : fX6_noteAllUsed o a0 z = some r) : cM l G 2 yX6_noteAllUsed cX6_noteAllUsed 4 none [.ref o, va_rf a0] z (.inl (none), r.2, 0, 0) :=
  cM_of (lo0 := [some (va_rf (some o)), some (va_rf a0), none, none]) (by decide +kernel) rfl (cs1_q (cs1_r cs1_nil)) (Nat.le_of_ble_eq_true rfl) rfl hl (fun X hX _ C => bX6_noteAllUsed C o a0 z hf)
set_option maxRecDepth 100000 in
set_option maxHeartbeats 4000000 in
theorem bX6_build_b38 {G : cG} {X : rX} {z0 : cS} {r : Int32 × cS} (C : cC G X z0 RX6 4 cX6_build (some .int) 34 0 0) (o : Nat) {rec4 : Int32 → Int32 → cS → Option (Int32 × cS)} (hrec4 : ∀ (l1 : Int32) (l2 : Int32) (z : cS), rec4 l1 l2 z = some r → cAW false G X z0 (.inl (some (.int r.1)), r.2, 0, 0) 4 4 [some (va_rf (some o)), some (.int l1), some (.int l2), none] [] z 0 0) (l1 : Int32) (l2 : Int32) (z : cS) (hf : fX6_build_b38 o rec4 l1 l2 z = some r) : cAW false G X z0 (.inl (some (.int r.1)), r.2, 0, 0) 4 38 [some (va_rf (some o)), some (.int l1), some (.int l2), none] [] z 0 0 := by
  unfold fX6_build_b38 at hf
  refine ca_iinc C dX6_build_38 rfl (v := 1) (by decide) (by decide) ?_
  refine ca_goto C dX6_build_41 (tgt := 4) (by decide) ?_
  exact hrec4 _ _ _ hf
set_option maxRecDepth 100000 in
set_option maxHeartbeats 4000000 in
theorem bX6_build_b4_body {G : cG} {X : rX} {z0 : cS} {r : Int32 × cS} (C : cC G X z0 RX6 4 cX6_build (some .int) 34 0 0) (o : Nat) {rec4 : Int32 → Int32 → cS → Option (Int32 × cS)} (hrec4 : ∀ (l1 : Int32) (l2 : Int32) (z : cS), rec4 l1 l2 z = some r → cAW false G X z0 (.inl (some (.int r.1)), r.2, 0, 0) 4 4 [some (va_rf (some o)), some (.int l1), some (.int l2), none] [] z 0 0) (l1 : Int32) (l2 : Int32) (z : cS) (hf : fX6_build_b4_body o rec4 l1 l2 z = some r) : cAW false G X z0 (.inl (some (.int r.1)), r.2, 0, 0) 4 4 [some (va_rf (some o)), some (.int l1), some (.int l2), none] [] z 0 0 := by
  unfold fX6_build_b4_body at hf
  refine ca_iload_n C dX6_build_4 rfl rfl ?_
  refine ca_aload_n C dX6_build_5 rfl rfl ?_
  obtain ⟨x6, h6, hf⟩ := rob hf
  refine ca_getI C dX6_build_6 tcX6_f295 rfl rfl h6 ?_
  refine ca_icmp_ge C dX6_build_9 (tgt := 44) (by decide) (fun c9 => ?_) (fun c9 => ?_)
  · replace hf := rif_p c9 hf
    refine ca_iload_n C dX6_build_44 rfl rfl ?_
    obtain rfl := Option.some.inj hf
    exact ca_iret C dX6_build_45 (by omega) (by omega)
  · replace hf := rif_n c9 hf
    refine ca_aload_n C dX6_build_12 rfl rfl ?_
    refine ca_iload_n C dX6_build_13 rfl rfl ?_
    obtain ⟨c14, hc14, hf⟩ := rob hf
    obtain ⟨q14, h14, hf⟩ := rob hf
    refine ca_callV C dX6_build_14 (mX6_unitAt (cC_tr C) h14) (crc_spec hc14) vw6 (by decide) rfl tX6_l303 tI_X6_unitAt tS_X6_unitAt tZ6 tC_X6_unitAt tH_X6_unitAt (by omega) (by decide) (cs1_sum cs1_nil (Nat.le_of_ble_eq_true rfl)) (by omega) (by omega) ?_
    refine ca_astore_n C dX6_build_17 rfl (by decide) ?_
    refine ca_aload_n C dX6_build_18 rfl rfl ?_
    refine ca_ifnull C dX6_build_19 (tgt := 38) (by decide) (fun c19 => ?_) (fun c19 => ?_)
    · replace hf := rif_p c19 hf
      refine ca_mask [true, true, true, false] ?_
      exact bX6_build_b38 C o hrec4 _ _ _ hf
    · replace hf := rif_n c19 hf
      refine ca_aload_n C dX6_build_22 rfl rfl ?_
      refine ca_aload_n C dX6_build_23 rfl rfl ?_
      obtain ⟨c24, hc24, hf⟩ := rob hf
      obtain ⟨q24, h24, hf⟩ := rob hf
      refine ca_callV C dX6_build_24 (mX6_isStale (cC_tr C) h24) (crc_spec hc24) vw6 (by decide) rfl tX6_l315 tI_X6_isStale tS_X6_isStale tZ6 tC_X6_isStale tH_X6_isStale (by omega) (by decide) (cs1_sum cs1_nil (Nat.le_of_ble_eq_true rfl)) (by omega) (by omega) ?_
      refine ca_if_eq C dX6_build_27 (tgt := 38) (by decide) (fun c27 => ?_) (fun c27 => ?_)
      · replace hf := rif_p c27 hf
        refine ca_mask [true, true, true, false] ?_
        exact bX6_build_b38 C o hrec4 _ _ _ hf
      · replace hf := rif_n c27 hf
        refine ca_aload_n C dX6_build_30 rfl rfl ?_
        refine ca_aload_n C dX6_build_31 rfl rfl ?_
        obtain ⟨c32, hc32, hf⟩ := rob hf
        obtain ⟨q32, h32, hf⟩ := rob hf
        refine ca_callV C dX6_build_32 (mX6_noteAllUsed (cC_tr C) h32) (crc_spec hc32) vw6 (by decide) rfl tX6_l319 tI_X6_noteAllUsed tS_X6_noteAllUsed tZ6 tC_X6_noteAllUsed tH_X6_noteAllUsed (by omega) (by decide) (cs1_sum cs1_nil (Nat.le_of_ble_eq_true rfl)) (by omega) (by omega) ?_
        refine ca_iinc C dX6_build_35 rfl (v := 1) (by decide) (by decide) ?_
        refine ca_mask [true, true, true, false] ?_
        exact bX6_build_b38 C o hrec4 _ _ _ hf
set_option maxRecDepth 100000 in
set_option maxHeartbeats 4000000 in
theorem bX6_build_b4 {G : cG} {X : rX} {z0 : cS} {r : Int32 × cS} (C : cC G X z0 RX6 4 cX6_build (some .int) 34 0 0) (o : Nat) : ∀ (n : Nat) (l1 : Int32) (l2 : Int32) (z : cS), fX6_build_b4 o n l1 l2 z = some r → cAW false G X z0 (.inl (some (.int r.1)), r.2, 0, 0) 4 4 [some (va_rf (some o)), some (.int l1), some (.int l2), none] [] z 0 0 := by
  intro n
  induction n with
  | zero => intro l1 l2 z hf; cases hf
  | succ n ih => intro l1 l2 z hf; exact bX6_build_b4_body C o (fun l1 l2 z h => ih l1 l2 z h) l1 l2 z hf
set_option maxRecDepth 100000 in
set_option maxHeartbeats 4000000 in
theorem bX6_build {G : cG} {X : rX} {z0 : cS} {r : Int32 × cS} (C : cC G X z0 RX6 4 cX6_build (some .int) 34 0 0) (o : Nat) (z : cS) (hf : fX6_build o  z = some r) : cAW false G X z0 (.inl (some (.int r.1)), r.2, 0, 0) 4 0 [some (va_rf (some o)), none, none, none] [] z 0 0 := by
  unfold fX6_build at hf
  refine ca_iconst C dX6_build_0 (v := 0) (by decide) ?_
  refine ca_istore_n C dX6_build_1 rfl (by decide) ?_
  refine ca_iconst C dX6_build_2 (v := 0) (by decide) ?_
  refine ca_istore_n C dX6_build_3 rfl (by decide) ?_
  exact bX6_build_b4 C o _ _ _ _ hf
set_option maxRecDepth 100000 in
set_option maxHeartbeats 4000000 in
theorem mX6_build {l : Launch} (hl : l.stackTraces = false) {G : cG} {o : Nat} {z : cS} {r : Int32 × cS} (hf : fX6_build o  z = some r) : cM l G 34 yX6_build cX6_build 4 (some .int) [.ref o] z (.inl (some (.int r.1)), r.2, 0, 0) :=
  cM_of (lo0 := [some (va_rf (some o)), none, none, none]) (by decide +kernel) rfl (cs1_q cs1_nil) (Nat.le_of_ble_eq_true rfl) rfl hl (fun X hX _ C => bX6_build C o  z hf)
