set_option maxRecDepth 100000 in
set_option maxHeartbeats 4000000 in
theorem bX2_init {G : cG} {X : rX} {z0 : cS} {w : Unit} {z' : cS} {A B : Nat} (C : cC G X z0 RX2 1 cX2_init none 1 A B) (hin : X.2.2.2.2.2.2.2.2.1.name = "<init>") (o : Nat) (z : cS) {kc ks ra rb : Nat} (hf : fX2_init o  z = some (w, z', ra, rb)) (ha : A = kc + ra) (hb : B = ks + rb) : cAW false G X z0 (.inl (none), z', A, B) 1 0 [some (va_rf (some o))] [] z kc ks := by
  unfold fX2_init at hf
  refine ca_aload_n C dX2_init_0 rfl rfl ?_
  refine ca_objInit C dX2_init_1 rfl tX2_l3 tO_i tO_c (by omega) (cs1_sum cs1_nil (Nat.le_of_ble_eq_true rfl)) ?_
  refine ca_aload_n C dX2_init_4 rfl rfl ?_
  refine ca_sipush C dX2_init_5 (v := 180) (by decide) ?_
  obtain ⟨z8, h8, hf⟩ := rob hf
  obtain ⟨ra8, rb8, hg8, rfl, rfl⟩ := ause_spec hf
  replace hf := hg8
  refine ca_newaI C dX2_init_8 tAI h8 (N9 := 180) (by decide) (by omega) (by omega) ?_
  obtain ⟨z10, h10, hf⟩ := rob hf
  refine ca_putFR C hin dX2_init_10 tcX2_f9 uX2_f9 rfl rfl h10 ?_
  cases hf
  exact ca_vret C dX2_init_13 (by omega) (by omega)
set_option maxRecDepth 100000 in
set_option maxHeartbeats 4000000 in
theorem mX2_init {l : Launch} (hl : l.stackTraces = false) {G : cG} {o : Nat} {z : cS} {w : Unit} {z' : cS} {A B : Nat} (hf : fX2_init o  z = some (w, z', A, B)) : cM l G 1 yX2_init cX2_init 1 none [.ref o] z (.inl (none), z', A, B) :=
  cM_of (lo0 := [some (va_rf (some o))]) (by decide +kernel) rfl (cs1_q cs1_nil) (Nat.le_of_ble_eq_true rfl) rfl hl (fun X hX hin C => bX2_init C hin o  z (kc := 0) (ks := 0) hf (Nat.zero_add _).symm (Nat.zero_add _).symm)
set_option maxRecDepth 100000 in
set_option maxHeartbeats 4000000 in
theorem bX6_write_b14 {G : cG} {X : rX} {z0 : cS} {r : Unit × cS} (C : cC G X z0 RX6 3 cX6_write none 0 0 0) (z : cS) (hf : fX6_write_b14  z = some r) : cAW false G X z0 (.inl (none), r.2, 0, 0) 3 14 [none, none, none] [] z 0 0 := by
  unfold fX6_write_b14 at hf
  obtain rfl := Option.some.inj hf
  exact ca_vret C dX6_write_14 (by omega) (by omega)
set_option maxRecDepth 100000 in
set_option maxHeartbeats 4000000 in
theorem bX6_write {G : cG} {X : rX} {z0 : cS} {r : Unit × cS} (C : cC G X z0 RX6 3 cX6_write none 0 0 0) (a0 : Option Nat) (a1 : Int32) (a2 : Int32) (z : cS) (hf : fX6_write a0 a1 a2 z = some r) : cAW false G X z0 (.inl (none), r.2, 0, 0) 3 0 [some (va_rf a0), some (.int a1), some (.int a2)] [] z 0 0 := by
  unfold fX6_write at hf
  refine ca_iload_n C dX6_write_0 rfl rfl ?_
  refine ca_if_lt C dX6_write_1 (tgt := 14) (by decide) (fun c1 => ?_) (fun c1 => ?_)
  · replace hf := rif_p c1 hf
    refine ca_mask [false, false, false] ?_
    exact bX6_write_b14 C  _ hf
  · replace hf := rif_n c1 hf
    refine ca_iload_n C dX6_write_4 rfl rfl ?_
    refine ca_aload_n C dX6_write_5 rfl rfl ?_
    obtain ⟨q6, hq6, hf⟩ := rob hf
    obtain ⟨x6, h6, hf⟩ := rob hf
    refine ca_alenI C dX6_write_6 hq6 h6 ?_
    refine ca_icmp_ge C dX6_write_7 (tgt := 14) (by decide) (fun c7 => ?_) (fun c7 => ?_)
    · replace hf := rif_p c7 hf
      refine ca_mask [false, false, false] ?_
      exact bX6_write_b14 C  _ hf
    · replace hf := rif_n c7 hf
      refine ca_aload_n C dX6_write_10 rfl rfl ?_
      refine ca_iload_n C dX6_write_11 rfl rfl ?_
      refine ca_iload_n C dX6_write_12 rfl rfl ?_
      obtain ⟨q13, hq13, hf⟩ := rob hf
      obtain ⟨z13, h13, hf⟩ := rob hf
      refine ca_iast C dX6_write_13 hq13 h13 ?_
      refine ca_mask [false, false, false] ?_
      exact bX6_write_b14 C  _ hf
set_option maxRecDepth 100000 in
set_option maxHeartbeats 4000000 in
theorem mX6_write {l : Launch} (hl : l.stackTraces = false) {G : cG} {a0 : Option Nat} {a1 : Int32} {a2 : Int32} {z : cS} {r : Unit × cS} (hf : fX6_write a0 a1 a2 z = some r) : cM l G 0 yX6_write cX6_write 3 none [va_rf a0, .int a1, .int a2] z (.inl (none), r.2, 0, 0) :=
  cM_of (lo0 := [some (va_rf a0), some (.int a1), some (.int a2)]) (by decide +kernel) rfl (cs1_r (cs1_i (cs1_i cs1_nil))) (Nat.le_of_ble_eq_true rfl) rfl hl (fun X hX _ C => bX6_write C a0 a1 a2 z hf)
set_option maxRecDepth 100000 in
set_option maxHeartbeats 4000000 in
theorem bX0_init_b41_body {G : cG} {X : rX} {z0 : cS} {w : Unit} {z' : cS} {A B : Nat} (C : cC G X z0 RX0 5 cX0_init none 2 A B) (hin : X.2.2.2.2.2.2.2.2.1.name = "<init>") (o : Nat) {rec41 : Int32 → cS → Option (Unit × cS × Nat × Nat)} (hrec41 : ∀ (l4 : Int32) (z : cS) (kc ks ra rb : Nat), rec41 l4 z = some (w, z', ra, rb) → A = kc + ra → B = ks + rb → cAW false G X z0 (.inl (none), z', A, B) 5 41 [some (va_rf (some o)), none, none, none, some (.int l4)] [] z kc ks) (l4 : Int32) (z : cS) {kc ks ra rb : Nat} (hf : fX0_init_b41_body o rec41 l4 z = some (w, z', ra, rb)) (ha : A = kc + ra) (hb : B = ks + rb) : cAW false G X z0 (.inl (none), z', A, B) 5 41 [some (va_rf (some o)), none, none, none, some (.int l4)] [] z kc ks := by
  unfold fX0_init_b41_body at hf
  refine ca_iload C dX0_init_41 rfl ?_
  refine ca_bipush C dX0_init_43 (v := 30) (by decide) ?_
  refine ca_icmp_ge C dX0_init_45 (tgt := 64) (by decide) (fun c45 => ?_) (fun c45 => ?_)
  · replace hf := rif_p c45 hf
    cases hf
    exact ca_vret C dX0_init_64 (by omega) (by omega)
  · replace hf := rif_n c45 hf
    refine ca_aload_n C dX0_init_48 rfl rfl ?_
    obtain ⟨x49, h49, hf⟩ := rob hf
    refine ca_getR C dX0_init_49 tcX0_f29 rfl rfl h49 ?_
    refine ca_iload C dX0_init_52 rfl ?_
    refine ca_iconst C dX0_init_54 (v := (-1)) (by decide) ?_
    obtain ⟨q55, h55, hf⟩ := rob hf
    refine ca_callS C dX0_init_55 (mX6_write (cC_tr C) h55) rfl tX0_l33 tT_X6_write tZ6 tC_X6_write tH_X6_write (by omega) (by decide) (cs1_sum cs1_nil (Nat.le_of_ble_eq_true rfl)) (by omega) (by omega) ?_
    refine ca_iinc C dX0_init_58 rfl (v := 1) (by decide) (by decide) ?_
    refine ca_goto C dX0_init_61 (tgt := 41) (by decide) ?_
    exact hrec41 _ _ _ _ _ _ hf (by omega) (by omega)
set_option maxRecDepth 100000 in
set_option maxHeartbeats 4000000 in
theorem bX0_init_b41 {G : cG} {X : rX} {z0 : cS} {w : Unit} {z' : cS} {A B : Nat} (C : cC G X z0 RX0 5 cX0_init none 2 A B) (hin : X.2.2.2.2.2.2.2.2.1.name = "<init>") (o : Nat) : ∀ (n : Nat) (l4 : Int32) (z : cS) (kc ks ra rb : Nat), fX0_init_b41 o n l4 z = some (w, z', ra, rb) → A = kc + ra → B = ks + rb → cAW false G X z0 (.inl (none), z', A, B) 5 41 [some (va_rf (some o)), none, none, none, some (.int l4)] [] z kc ks := by
  intro n
  induction n with
  | zero => intro l4 z kc ks ra rb hf; cases hf
  | succ n ih => intro l4 z kc ks ra rb hf ha hb; exact bX0_init_b41_body C hin o (fun l4 z kc ks ra rb h1 h2 h3 => ih l4 z kc ks ra rb h1 h2 h3) l4 z hf ha hb
set_option maxRecDepth 100000 in
set_option maxHeartbeats 4000000 in
theorem bX0_init {G : cG} {X : rX} {z0 : cS} {w : Unit} {z' : cS} {A B : Nat} (C : cC G X z0 RX0 5 cX0_init none 2 A B) (hin : X.2.2.2.2.2.2.2.2.1.name = "<init>") (o : Nat) (a0 : Int32) (a1 : Int32) (a2 : Int32) (z : cS) {kc ks ra rb : Nat} (hf : fX0_init o a0 a1 a2 z = some (w, z', ra, rb)) (ha : A = kc + ra) (hb : B = ks + rb) : cAW false G X z0 (.inl (none), z', A, B) 5 0 [some (va_rf (some o)), some (.int a0), some (.int a1), some (.int a2), none] [] z kc ks := by
  unfold fX0_init at hf
  refine ca_aload_n C dX0_init_0 rfl rfl ?_
  refine ca_objInit C dX0_init_1 rfl tX0_l3 tO_i tO_c (by omega) (cs1_sum cs1_nil (Nat.le_of_ble_eq_true rfl)) ?_
  refine ca_aload_n C dX0_init_4 rfl rfl ?_
  refine ca_iload_n C dX0_init_5 rfl rfl ?_
  obtain ⟨z6, h6, hf⟩ := rob hf
  refine ca_putFI C hin dX0_init_6 tcX0_f9 uX0_f9 rfl tI0_0 rfl h6 ?_
  refine ca_aload_n C dX0_init_9 rfl rfl ?_
  refine ca_iload_n C dX0_init_10 rfl rfl ?_
  obtain ⟨z11, h11, hf⟩ := rob hf
  refine ca_putFI C hin dX0_init_11 tcX0_f15 uX0_f15 rfl tI0_1 rfl h11 ?_
  refine ca_aload_n C dX0_init_14 rfl rfl ?_
  refine ca_iload_n C dX0_init_15 rfl rfl ?_
  obtain ⟨z16, h16, hf⟩ := rob hf
  refine ca_putFZ C hin dX0_init_16 tcX0_f18 uX0_f18 rfl rfl h16 ?_
  refine ca_aload_n C dX0_init_19 rfl rfl ?_
  obtain ⟨ra20, rb20, hg20, rfl, rfl⟩ := ause_spec hf
  replace hf := hg20
  refine ca_new C dX0_init_20 vw2 (by decide) tyX2 tyX2_ok rX2_in tX0_k22 tN2 tZ2 dfX2 (by omega) (by omega) ?_
  refine ca_dup C dX0_init_23 (va_rf_cat _) ?_
  obtain ⟨v24, z24, ra24, rb24, sa24, sb24, h24, hg24, rfl, rfl⟩ := abind_spec hf
  replace hf := hg24
  refine ca_callI C dX0_init_24 (mX2_init (cC_tr C) h24) rfl rfl tX0_l24 tI_X2_init rfl tZ2 tC_X2_init tH_X2_init (by omega) (by decide) (cs1_sum (cs1_r (cs1_r cs1_nil)) (Nat.le_of_ble_eq_true rfl)) (by omega) (by omega) ?_
  obtain ⟨z27, h27, hf⟩ := rob hf
  refine ca_putFR C hin dX0_init_27 tcX0_f25 uX0_f25 rfl rfl h27 ?_
  refine ca_aload_n C dX0_init_30 rfl rfl ?_
  refine ca_bipush C dX0_init_31 (v := 30) (by decide) ?_
  obtain ⟨z33, h33, hf⟩ := rob hf
  obtain ⟨ra33, rb33, hg33, rfl, rfl⟩ := ause_spec hf
  replace hf := hg33
  refine ca_newaI C dX0_init_33 tAI h33 (N9 := 30) (by decide) (by omega) (by omega) ?_
  obtain ⟨z35, h35, hf⟩ := rob hf
  refine ca_putFR C hin dX0_init_35 tcX0_f29 uX0_f29 rfl rfl h35 ?_
  refine ca_iconst C dX0_init_38 (v := 0) (by decide) ?_
  refine ca_istore C dX0_init_39 (by decide) ?_
  refine ca_mask [true, false, false, false, true] ?_
  exact bX0_init_b41 C hin o _ _ _ _ _ _ _ hf (by omega) (by omega)
set_option maxRecDepth 100000 in
set_option maxHeartbeats 4000000 in
theorem mX0_init {l : Launch} (hl : l.stackTraces = false) {G : cG} {o : Nat} {a0 : Int32} {a1 : Int32} {a2 : Int32} {z : cS} {w : Unit} {z' : cS} {A B : Nat} (hf : fX0_init o a0 a1 a2 z = some (w, z', A, B)) : cM l G 2 yX0_init cX0_init 5 none [.ref o, .int a0, .int a1, .int a2] z (.inl (none), z', A, B) :=
  cM_of (lo0 := [some (va_rf (some o)), some (.int a0), some (.int a1), some (.int a2), none]) (by decide +kernel) rfl (cs1_q (cs1_i (cs1_i (cs1_i cs1_nil)))) (Nat.le_of_ble_eq_true rfl) rfl hl (fun X hX hin C => bX0_init C hin o a0 a1 a2 z (kc := 0) (ks := 0) hf (Nat.zero_add _).symm (Nat.zero_add _).symm)
set_option maxRecDepth 100000 in
set_option maxHeartbeats 4000000 in
theorem bX6_read_b17 {G : cG} {X : rX} {z0 : cS} {r : Int32 × cS} (C : cC G X z0 RX6 2 cX6_read (some .int) 0 0 0) (s0 : Int32) (z : cS) (hf : fX6_read_b17 s0 z = some r) : cAW false G X z0 (.inl (some (.int r.1)), r.2, 0, 0) 2 17 [none, none] [.int s0] z 0 0 := by
  unfold fX6_read_b17 at hf
  obtain rfl := Option.some.inj hf
  exact ca_iret C dX6_read_17 (by omega) (by omega)
set_option maxRecDepth 100000 in
set_option maxHeartbeats 4000000 in
theorem bX6_read_b16 {G : cG} {X : rX} {z0 : cS} {r : Int32 × cS} (C : cC G X z0 RX6 2 cX6_read (some .int) 0 0 0) (z : cS) (hf : fX6_read_b16  z = some r) : cAW false G X z0 (.inl (some (.int r.1)), r.2, 0, 0) 2 16 [none, none] [] z 0 0 := by
  unfold fX6_read_b16 at hf
  refine ca_iconst C dX6_read_16 (v := (-1)) (by decide) ?_
  exact bX6_read_b17 C _ _ hf
set_option maxRecDepth 100000 in
set_option maxHeartbeats 4000000 in
theorem bX6_read {G : cG} {X : rX} {z0 : cS} {r : Int32 × cS} (C : cC G X z0 RX6 2 cX6_read (some .int) 0 0 0) (a0 : Option Nat) (a1 : Int32) (z : cS) (hf : fX6_read a0 a1 z = some r) : cAW false G X z0 (.inl (some (.int r.1)), r.2, 0, 0) 2 0 [some (va_rf a0), some (.int a1)] [] z 0 0 := by
  unfold fX6_read at hf
  refine ca_iload_n C dX6_read_0 rfl rfl ?_
  refine ca_if_lt C dX6_read_1 (tgt := 16) (by decide) (fun c1 => ?_) (fun c1 => ?_)
  · replace hf := rif_p c1 hf
    refine ca_mask [false, false] ?_
    exact bX6_read_b16 C  _ hf
  · replace hf := rif_n c1 hf
    refine ca_iload_n C dX6_read_4 rfl rfl ?_
    refine ca_aload_n C dX6_read_5 rfl rfl ?_
    obtain ⟨q6, hq6, hf⟩ := rob hf
    obtain ⟨x6, h6, hf⟩ := rob hf
    refine ca_alenI C dX6_read_6 hq6 h6 ?_
    refine ca_icmp_ge C dX6_read_7 (tgt := 16) (by decide) (fun c7 => ?_) (fun c7 => ?_)
    · replace hf := rif_p c7 hf
      refine ca_mask [false, false] ?_
      exact bX6_read_b16 C  _ hf
    · replace hf := rif_n c7 hf
      refine ca_aload_n C dX6_read_10 rfl rfl ?_
      refine ca_iload_n C dX6_read_11 rfl rfl ?_
      obtain ⟨q12, hq12, hf⟩ := rob hf
      obtain ⟨x12, h12, hf⟩ := rob hf
      refine ca_iald C dX6_read_12 hq12 h12 ?_
      refine ca_goto C dX6_read_13 (tgt := 17) (by decide) ?_
      refine ca_mask [false, false] ?_
      exact bX6_read_b17 C _ _ hf
set_option maxRecDepth 100000 in
set_option maxHeartbeats 4000000 in
theorem mX6_read {l : Launch} (hl : l.stackTraces = false) {G : cG} {a0 : Option Nat} {a1 : Int32} {z : cS} {r : Int32 × cS} (hf : fX6_read a0 a1 z = some r) : cM l G 0 yX6_read cX6_read 2 (some .int) [va_rf a0, .int a1] z (.inl (some (.int r.1)), r.2, 0, 0) :=
  cM_of (lo0 := [some (va_rf a0), some (.int a1)]) (by decide +kernel) rfl (cs1_r (cs1_i cs1_nil)) (Nat.le_of_ble_eq_true rfl) rfl hl (fun X hX _ C => bX6_read C a0 a1 z hf)
set_option maxRecDepth 100000 in
set_option maxHeartbeats 4000000 in
theorem bX0_resultOf_b19 {G : cG} {X : rX} {z0 : cS} {r : Int32 × cS} (C : cC G X z0 RX0 2 cX0_resultOf (some .int) 1 0 0) (o : Nat) (s0 : Int32) (z : cS) (hf : fX0_resultOf_b19 o s0 z = some r) : cAW false G X z0 (.inl (some (.int r.1)), r.2, 0, 0) 2 19 [none, none] [.int s0] z 0 0 := by
  unfold fX0_resultOf_b19 at hf
  obtain rfl := Option.some.inj hf
  exact ca_iret C dX0_resultOf_19 (by omega) (by omega)
set_option maxRecDepth 100000 in
set_option maxHeartbeats 4000000 in
theorem bX0_resultOf {G : cG} {X : rX} {z0 : cS} {r : Int32 × cS} (C : cC G X z0 RX0 2 cX0_resultOf (some .int) 1 0 0) (o : Nat) (a0 : Int32) (z : cS) (hf : fX0_resultOf o a0 z = some r) : cAW false G X z0 (.inl (some (.int r.1)), r.2, 0, 0) 2 0 [some (va_rf (some o)), some (.int a0)] [] z 0 0 := by
  unfold fX0_resultOf at hf
  refine ca_aload_n C dX0_resultOf_0 rfl rfl ?_
  obtain ⟨x1, h1, hf⟩ := rob hf
  refine ca_getI C dX0_resultOf_1 tcX0_f18 rfl rfl h1 ?_
  refine ca_if_eq C dX0_resultOf_4 (tgt := 18) (by decide) (fun c4 => ?_) (fun c4 => ?_)
  · replace hf := rif_p c4 hf
    refine ca_iconst C dX0_resultOf_18 (v := (-1)) (by decide) ?_
    refine ca_mask [false, false] ?_
    exact bX0_resultOf_b19 C o _ _ hf
  · replace hf := rif_n c4 hf
    refine ca_aload_n C dX0_resultOf_7 rfl rfl ?_
    obtain ⟨x8, h8, hf⟩ := rob hf
    refine ca_getR C dX0_resultOf_8 tcX0_f29 rfl rfl h8 ?_
    refine ca_iload_n C dX0_resultOf_11 rfl rfl ?_
    obtain ⟨q12, h12, hf⟩ := rob hf
    refine ca_callS C dX0_resultOf_12 (mX6_read (cC_tr C) h12) rfl tX0_l37 tT_X6_read tZ6 tC_X6_read tH_X6_read (by omega) (by decide) (cs1_sum cs1_nil (Nat.le_of_ble_eq_true rfl)) (by omega) (by omega) ?_
    refine ca_goto C dX0_resultOf_15 (tgt := 19) (by decide) ?_
    refine ca_mask [false, false] ?_
    exact bX0_resultOf_b19 C o _ _ hf
set_option maxRecDepth 100000 in
set_option maxHeartbeats 4000000 in
theorem mX0_resultOf {l : Launch} (hl : l.stackTraces = false) {G : cG} {o : Nat} {a0 : Int32} {z : cS} {r : Int32 × cS} (hf : fX0_resultOf o a0 z = some r) : cM l G 1 yX0_resultOf cX0_resultOf 2 (some .int) [.ref o, .int a0] z (.inl (some (.int r.1)), r.2, 0, 0) :=
  cM_of (lo0 := [some (va_rf (some o)), some (.int a0)]) (by decide +kernel) rfl (cs1_q (cs1_i cs1_nil)) (Nat.le_of_ble_eq_true rfl) rfl hl (fun X hX _ C => bX0_resultOf C o a0 z hf)
set_option maxRecDepth 100000 in
set_option maxHeartbeats 4000000 in
theorem bX0_note {G : cG} {X : rX} {z0 : cS} {r : Unit × cS} (C : cC G X z0 RX0 3 cX0_note none 1 0 0) (o : Nat) (a0 : Int32) (a1 : Int32) (z : cS) (hf : fX0_note o a0 a1 z = some r) : cAW false G X z0 (.inl (none), r.2, 0, 0) 3 0 [some (va_rf (some o)), some (.int a0), some (.int a1)] [] z 0 0 := by
  unfold fX0_note at hf
  refine ca_aload_n C dX0_note_0 rfl rfl ?_
  obtain ⟨x1, h1, hf⟩ := rob hf
  refine ca_getR C dX0_note_1 tcX0_f29 rfl rfl h1 ?_
  refine ca_iload_n C dX0_note_4 rfl rfl ?_
  refine ca_iload_n C dX0_note_5 rfl rfl ?_
  obtain ⟨q6, h6, hf⟩ := rob hf
  refine ca_callS C dX0_note_6 (mX6_write (cC_tr C) h6) rfl tX0_l33 tT_X6_write tZ6 tC_X6_write tH_X6_write (by omega) (by decide) (cs1_sum cs1_nil (Nat.le_of_ble_eq_true rfl)) (by omega) (by omega) ?_
  obtain rfl := Option.some.inj hf
  exact ca_vret C dX0_note_9 (by omega) (by omega)
set_option maxRecDepth 100000 in
set_option maxHeartbeats 4000000 in
theorem mX0_note {l : Launch} (hl : l.stackTraces = false) {G : cG} {o : Nat} {a0 : Int32} {a1 : Int32} {z : cS} {r : Unit × cS} (hf : fX0_note o a0 a1 z = some r) : cM l G 1 yX0_note cX0_note 3 none [.ref o, .int a0, .int a1] z (.inl (none), r.2, 0, 0) :=
  cM_of (lo0 := [some (va_rf (some o)), some (.int a0), some (.int a1)]) (by decide +kernel) rfl (cs1_q (cs1_i (cs1_i cs1_nil))) (Nat.le_of_ble_eq_true rfl) rfl hl (fun X hX _ C => bX0_note C o a0 a1 z hf)
set_option maxRecDepth 100000 in
set_option maxHeartbeats 4000000 in
theorem bX1_init {G : cG} {X : rX} {z0 : cS} {r : Unit × cS} (C : cC G X z0 RX1 3 cX1_init none 1 0 0) (hin : X.2.2.2.2.2.2.2.2.1.name = "<init>") (o : Nat) (a0 : Int32) (a1 : Int32) (z : cS) (hf : fX1_init o a0 a1 z = some r) : cAW false G X z0 (.inl (none), r.2, 0, 0) 3 0 [some (va_rf (some o)), some (.int a0), some (.int a1)] [] z 0 0 := by
  unfold fX1_init at hf
  refine ca_aload_n C dX1_init_0 rfl rfl ?_
  refine ca_objInit C dX1_init_1 rfl tX1_l1 tO_i tO_c (by omega) (cs1_sum cs1_nil (Nat.le_of_ble_eq_true rfl)) ?_
  refine ca_aload_n C dX1_init_4 rfl rfl ?_
  refine ca_iload_n C dX1_init_5 rfl rfl ?_
  obtain ⟨z6, h6, hf⟩ := rob hf
  refine ca_putFI C hin dX1_init_6 tcX1_f7 uX1_f7 rfl tI1_0 rfl h6 ?_
  refine ca_aload_n C dX1_init_9 rfl rfl ?_
  refine ca_iload_n C dX1_init_10 rfl rfl ?_
  obtain ⟨z11, h11, hf⟩ := rob hf
  refine ca_putFI C hin dX1_init_11 tcX1_f13 uX1_f13 rfl tI1_1 rfl h11 ?_
  obtain rfl := Option.some.inj hf
  exact ca_vret C dX1_init_14 (by omega) (by omega)
set_option maxRecDepth 100000 in
set_option maxHeartbeats 4000000 in
theorem mX1_init {l : Launch} (hl : l.stackTraces = false) {G : cG} {o : Nat} {a0 : Int32} {a1 : Int32} {z : cS} {r : Unit × cS} (hf : fX1_init o a0 a1 z = some r) : cM l G 1 yX1_init cX1_init 3 none [.ref o, .int a0, .int a1] z (.inl (none), r.2, 0, 0) :=
  cM_of (lo0 := [some (va_rf (some o)), some (.int a0), some (.int a1)]) (by decide +kernel) rfl (cs1_q (cs1_i (cs1_i cs1_nil))) (Nat.le_of_ble_eq_true rfl) rfl hl (fun X hX hin C => bX1_init C hin o a0 a1 z hf)
set_option maxRecDepth 100000 in
set_option maxHeartbeats 4000000 in
theorem bX2_get_b42 {G : cG} {X : rX} {z0 : cS} {r : Int32 × cS} (C : cC G X z0 RX2 4 cX2_get (some .int) 0 0 0) (o : Nat) (s0 : Int32) (z : cS) (hf : fX2_get_b42 o s0 z = some r) : cAW false G X z0 (.inl (some (.int r.1)), r.2, 0, 0) 4 42 [none, none, none, none] [.int s0] z 0 0 := by
  unfold fX2_get_b42 at hf
  obtain rfl := Option.some.inj hf
  exact ca_iret C dX2_get_42 (by omega) (by omega)
set_option maxRecDepth 100000 in
set_option maxHeartbeats 4000000 in
theorem bX2_get_b41 {G : cG} {X : rX} {z0 : cS} {r : Int32 × cS} (C : cC G X z0 RX2 4 cX2_get (some .int) 0 0 0) (o : Nat) (z : cS) (hf : fX2_get_b41 o  z = some r) : cAW false G X z0 (.inl (some (.int r.1)), r.2, 0, 0) 4 41 [none, none, none, none] [] z 0 0 := by
  unfold fX2_get_b41 at hf
  refine ca_iconst C dX2_get_41 (v := (-1)) (by decide) ?_
  exact bX2_get_b42 C o _ _ hf
set_option maxRecDepth 100000 in
set_option maxHeartbeats 4000000 in
theorem bX2_get {G : cG} {X : rX} {z0 : cS} {r : Int32 × cS} (C : cC G X z0 RX2 4 cX2_get (some .int) 0 0 0) (o : Nat) (a0 : Int32) (a1 : Int32) (z : cS) (hf : fX2_get o a0 a1 z = some r) : cAW false G X z0 (.inl (some (.int r.1)), r.2, 0, 0) 4 0 [some (va_rf (some o)), some (.int a0), some (.int a1), none] [] z 0 0 := by
  unfold fX2_get at hf
  refine ca_iload_n C dX2_get_0 rfl rfl ?_
  refine ca_bipush C dX2_get_1 (v := 6) (by decide) ?_
  refine ca_imul C dX2_get_3 ?_
  refine ca_iload_n C dX2_get_4 rfl rfl ?_
  refine ca_iadd C dX2_get_5 ?_
  refine ca_istore_n C dX2_get_6 rfl (by decide) ?_
  refine ca_iload_n C dX2_get_7 rfl rfl ?_
  refine ca_if_lt C dX2_get_8 (tgt := 41) (by decide) (fun c8 => ?_) (fun c8 => ?_)
  · replace hf := rif_p c8 hf
    refine ca_mask [false, false, false, false] ?_
    exact bX2_get_b41 C o  _ hf
  · replace hf := rif_n c8 hf
    refine ca_iload_n C dX2_get_11 rfl rfl ?_
    refine ca_aload_n C dX2_get_12 rfl rfl ?_
    obtain ⟨x13, h13, hf⟩ := rob hf
    refine ca_getI C dX2_get_13 tcX2_f15 rfl rfl h13 ?_
    refine ca_icmp_ge C dX2_get_16 (tgt := 41) (by decide) (fun c16 => ?_) (fun c16 => ?_)
    · replace hf := rif_p c16 hf
      refine ca_mask [false, false, false, false] ?_
      exact bX2_get_b41 C o  _ hf
    · replace hf := rif_n c16 hf
      refine ca_iload_n C dX2_get_19 rfl rfl ?_
      refine ca_if_lt C dX2_get_20 (tgt := 41) (by decide) (fun c20 => ?_) (fun c20 => ?_)
      · replace hf := rif_p c20 hf
        refine ca_mask [false, false, false, false] ?_
        exact bX2_get_b41 C o  _ hf
      · replace hf := rif_n c20 hf
        refine ca_iload_n C dX2_get_23 rfl rfl ?_
        refine ca_aload_n C dX2_get_24 rfl rfl ?_
        obtain ⟨x25, h25, hf⟩ := rob hf
        refine ca_getR C dX2_get_25 tcX2_f9 rfl rfl h25 ?_
        obtain ⟨q28, hq28, hf⟩ := rob hf
        obtain ⟨x28, h28, hf⟩ := rob hf
        refine ca_alenI C dX2_get_28 hq28 h28 ?_
        refine ca_icmp_ge C dX2_get_29 (tgt := 41) (by decide) (fun c29 => ?_) (fun c29 => ?_)
        · replace hf := rif_p c29 hf
          refine ca_mask [false, false, false, false] ?_
          exact bX2_get_b41 C o  _ hf
        · replace hf := rif_n c29 hf
          refine ca_aload_n C dX2_get_32 rfl rfl ?_
          obtain ⟨x33, h33, hf⟩ := rob hf
          refine ca_getR C dX2_get_33 tcX2_f9 rfl rfl h33 ?_
          refine ca_iload_n C dX2_get_36 rfl rfl ?_
          obtain ⟨q37, hq37, hf⟩ := rob hf
          obtain ⟨x37, h37, hf⟩ := rob hf
          refine ca_iald C dX2_get_37 hq37 h37 ?_
          refine ca_goto C dX2_get_38 (tgt := 42) (by decide) ?_
          refine ca_mask [false, false, false, false] ?_
          exact bX2_get_b42 C o _ _ hf
set_option maxRecDepth 100000 in
set_option maxHeartbeats 4000000 in
theorem mX2_get {l : Launch} (hl : l.stackTraces = false) {G : cG} {o : Nat} {a0 : Int32} {a1 : Int32} {z : cS} {r : Int32 × cS} (hf : fX2_get o a0 a1 z = some r) : cM l G 0 yX2_get cX2_get 4 (some .int) [.ref o, .int a0, .int a1] z (.inl (some (.int r.1)), r.2, 0, 0) :=
  cM_of (lo0 := [some (va_rf (some o)), some (.int a0), some (.int a1), none]) (by decide +kernel) rfl (cs1_q (cs1_i (cs1_i cs1_nil))) (Nat.le_of_ble_eq_true rfl) rfl hl (fun X hX _ C => bX2_get C o a0 a1 z hf)
set_option maxRecDepth 100000 in
set_option maxHeartbeats 4000000 in
theorem bX2_set_b43 {G : cG} {X : rX} {z0 : cS} {r : Unit × cS} (C : cC G X z0 RX2 5 cX2_set none 0 0 0) (o : Nat) (z : cS) (hf : fX2_set_b43 o  z = some r) : cAW false G X z0 (.inl (none), r.2, 0, 0) 5 43 [none, none, none, none, none] [] z 0 0 := by
  unfold fX2_set_b43 at hf
  obtain rfl := Option.some.inj hf
  exact ca_vret C dX2_set_43 (by omega) (by omega)
set_option maxRecDepth 100000 in
set_option maxHeartbeats 4000000 in
theorem bX2_set {G : cG} {X : rX} {z0 : cS} {r : Unit × cS} (C : cC G X z0 RX2 5 cX2_set none 0 0 0) (o : Nat) (a0 : Int32) (a1 : Int32) (a2 : Int32) (z : cS) (hf : fX2_set o a0 a1 a2 z = some r) : cAW false G X z0 (.inl (none), r.2, 0, 0) 5 0 [some (va_rf (some o)), some (.int a0), some (.int a1), some (.int a2), none] [] z 0 0 := by
  unfold fX2_set at hf
  refine ca_iload_n C dX2_set_0 rfl rfl ?_
  refine ca_bipush C dX2_set_1 (v := 6) (by decide) ?_
  refine ca_imul C dX2_set_3 ?_
  refine ca_iload_n C dX2_set_4 rfl rfl ?_
  refine ca_iadd C dX2_set_5 ?_
  refine ca_istore C dX2_set_6 (by decide) ?_
  refine ca_iload_n C dX2_set_8 rfl rfl ?_
  refine ca_if_lt C dX2_set_9 (tgt := 43) (by decide) (fun c9 => ?_) (fun c9 => ?_)
  · replace hf := rif_p c9 hf
    refine ca_mask [false, false, false, false, false] ?_
    exact bX2_set_b43 C o  _ hf
  · replace hf := rif_n c9 hf
    refine ca_iload_n C dX2_set_12 rfl rfl ?_
    refine ca_aload_n C dX2_set_13 rfl rfl ?_
    obtain ⟨x14, h14, hf⟩ := rob hf
    refine ca_getI C dX2_set_14 tcX2_f15 rfl rfl h14 ?_
    refine ca_icmp_ge C dX2_set_17 (tgt := 43) (by decide) (fun c17 => ?_) (fun c17 => ?_)
    · replace hf := rif_p c17 hf
      refine ca_mask [false, false, false, false, false] ?_
      exact bX2_set_b43 C o  _ hf
    · replace hf := rif_n c17 hf
      refine ca_iload C dX2_set_20 rfl ?_
      refine ca_if_lt C dX2_set_22 (tgt := 43) (by decide) (fun c22 => ?_) (fun c22 => ?_)
      · replace hf := rif_p c22 hf
        refine ca_mask [false, false, false, false, false] ?_
        exact bX2_set_b43 C o  _ hf
      · replace hf := rif_n c22 hf
        refine ca_iload C dX2_set_25 rfl ?_
        refine ca_aload_n C dX2_set_27 rfl rfl ?_
        obtain ⟨x28, h28, hf⟩ := rob hf
        refine ca_getR C dX2_set_28 tcX2_f9 rfl rfl h28 ?_
        obtain ⟨q31, hq31, hf⟩ := rob hf
        obtain ⟨x31, h31, hf⟩ := rob hf
        refine ca_alenI C dX2_set_31 hq31 h31 ?_
        refine ca_icmp_ge C dX2_set_32 (tgt := 43) (by decide) (fun c32 => ?_) (fun c32 => ?_)
        · replace hf := rif_p c32 hf
          refine ca_mask [false, false, false, false, false] ?_
          exact bX2_set_b43 C o  _ hf
        · replace hf := rif_n c32 hf
          refine ca_aload_n C dX2_set_35 rfl rfl ?_
          obtain ⟨x36, h36, hf⟩ := rob hf
          refine ca_getR C dX2_set_36 tcX2_f9 rfl rfl h36 ?_
          refine ca_iload C dX2_set_39 rfl ?_
          refine ca_iload_n C dX2_set_41 rfl rfl ?_
          obtain ⟨q42, hq42, hf⟩ := rob hf
          obtain ⟨z42, h42, hf⟩ := rob hf
          refine ca_iast C dX2_set_42 hq42 h42 ?_
          refine ca_mask [false, false, false, false, false] ?_
          exact bX2_set_b43 C o  _ hf
set_option maxRecDepth 100000 in
set_option maxHeartbeats 4000000 in
theorem mX2_set {l : Launch} (hl : l.stackTraces = false) {G : cG} {o : Nat} {a0 : Int32} {a1 : Int32} {a2 : Int32} {z : cS} {r : Unit × cS} (hf : fX2_set o a0 a1 a2 z = some r) : cM l G 0 yX2_set cX2_set 5 none [.ref o, .int a0, .int a1, .int a2] z (.inl (none), r.2, 0, 0) :=
  cM_of (lo0 := [some (va_rf (some o)), some (.int a0), some (.int a1), some (.int a2), none]) (by decide +kernel) rfl (cs1_q (cs1_i (cs1_i (cs1_i cs1_nil)))) (Nat.le_of_ble_eq_true rfl) rfl hl (fun X hX _ C => bX2_set C o a0 a1 a2 z hf)
set_option maxRecDepth 100000 in
set_option maxHeartbeats 4000000 in
theorem bX2_placeOf_b32 {G : cG} {X : rX} {z0 : cS} {r : Int32 × cS} (C : cC G X z0 RX2 4 cX2_placeOf (some .int) 1 0 0) (o : Nat) {rec2 : Int32 → Int32 → Int32 → cS → Option (Int32 × cS)} (hrec2 : ∀ (l1 : Int32) (l2 : Int32) (l3 : Int32) (z : cS), rec2 l1 l2 l3 z = some r → cAW false G X z0 (.inl (some (.int r.1)), r.2, 0, 0) 4 2 [some (va_rf (some o)), some (.int l1), some (.int l2), some (.int l3)] [] z 0 0) (l1 : Int32) (l2 : Int32) (l3 : Int32) (z : cS) (hf : fX2_placeOf_b32 o rec2 l1 l2 l3 z = some r) : cAW false G X z0 (.inl (some (.int r.1)), r.2, 0, 0) 4 32 [some (va_rf (some o)), some (.int l1), some (.int l2), some (.int l3)] [] z 0 0 := by
  unfold fX2_placeOf_b32 at hf
  refine ca_iinc C dX2_placeOf_32 rfl (v := 1) (by decide) (by decide) ?_
  refine ca_goto C dX2_placeOf_35 (tgt := 2) (by decide) ?_
  exact hrec2 _ _ _ _ hf
set_option maxRecDepth 100000 in
set_option maxHeartbeats 4000000 in
theorem bX2_placeOf_b2_body {G : cG} {X : rX} {z0 : cS} {r : Int32 × cS} (C : cC G X z0 RX2 4 cX2_placeOf (some .int) 1 0 0) (o : Nat) {rec2 : Int32 → Int32 → Int32 → cS → Option (Int32 × cS)} (hrec2 : ∀ (l1 : Int32) (l2 : Int32) (l3 : Int32) (z : cS), rec2 l1 l2 l3 z = some r → cAW false G X z0 (.inl (some (.int r.1)), r.2, 0, 0) 4 2 [some (va_rf (some o)), some (.int l1), some (.int l2), some (.int l3)] [] z 0 0) (l1 : Int32) (l2 : Int32) (l3 : Int32) (z : cS) (hf : fX2_placeOf_b2_body o rec2 l1 l2 l3 z = some r) : cAW false G X z0 (.inl (some (.int r.1)), r.2, 0, 0) 4 2 [some (va_rf (some o)), some (.int l1), some (.int l2), some (.int l3)] [] z 0 0 := by
  unfold fX2_placeOf_b2_body at hf
  refine ca_iload_n C dX2_placeOf_2 rfl rfl ?_
  refine ca_aload_n C dX2_placeOf_3 rfl rfl ?_
  obtain ⟨x4, h4, hf⟩ := rob hf
  refine ca_getI C dX2_placeOf_4 tcX2_f15 rfl rfl h4 ?_
  refine ca_icmp_ge C dX2_placeOf_7 (tgt := 38) (by decide) (fun c7 => ?_) (fun c7 => ?_)
  · replace hf := rif_p c7 hf
    refine ca_iconst C dX2_placeOf_38 (v := (-1)) (by decide) ?_
    obtain rfl := Option.some.inj hf
    exact ca_iret C dX2_placeOf_39 (by omega) (by omega)
  · replace hf := rif_n c7 hf
    refine ca_aload_n C dX2_placeOf_10 rfl rfl ?_
    refine ca_iload_n C dX2_placeOf_11 rfl rfl ?_
    refine ca_iconst C dX2_placeOf_12 (v := 0) (by decide) ?_
    obtain ⟨c13, hc13, hf⟩ := rob hf
    obtain ⟨q13, h13, hf⟩ := rob hf
    refine ca_callV C dX2_placeOf_13 (mX2_get (cC_tr C) h13) (crc_spec hc13) vw2 (by decide) rfl tX2_l19 tI_X2_get tS_X2_get tZ2 tC_X2_get tH_X2_get (by omega) (by decide) (cs1_sum cs1_nil (Nat.le_of_ble_eq_true rfl)) (by omega) (by omega) ?_
    refine ca_iload_n C dX2_placeOf_16 rfl rfl ?_
    refine ca_icmp_ne C dX2_placeOf_17 (tgt := 32) (by decide) (fun c17 => ?_) (fun c17 => ?_)
    · replace hf := rif_n c17 hf
      exact bX2_placeOf_b32 C o hrec2 _ _ _ _ hf
    · replace hf := rif_p c17 hf
      refine ca_aload_n C dX2_placeOf_20 rfl rfl ?_
      refine ca_iload_n C dX2_placeOf_21 rfl rfl ?_
      refine ca_iconst C dX2_placeOf_22 (v := 1) (by decide) ?_
      obtain ⟨c23, hc23, hf⟩ := rob hf
      obtain ⟨q23, h23, hf⟩ := rob hf
      refine ca_callV C dX2_placeOf_23 (mX2_get (cC_tr C) h23) (crc_spec hc23) vw2 (by decide) rfl tX2_l19 tI_X2_get tS_X2_get tZ2 tC_X2_get tH_X2_get (by omega) (by decide) (cs1_sum cs1_nil (Nat.le_of_ble_eq_true rfl)) (by omega) (by omega) ?_
      refine ca_iload_n C dX2_placeOf_26 rfl rfl ?_
      refine ca_icmp_ne C dX2_placeOf_27 (tgt := 32) (by decide) (fun c27 => ?_) (fun c27 => ?_)
      · replace hf := rif_n c27 hf
        exact bX2_placeOf_b32 C o hrec2 _ _ _ _ hf
      · replace hf := rif_p c27 hf
        refine ca_iload_n C dX2_placeOf_30 rfl rfl ?_
        obtain rfl := Option.some.inj hf
        exact ca_iret C dX2_placeOf_31 (by omega) (by omega)
set_option maxRecDepth 100000 in
set_option maxHeartbeats 4000000 in
theorem bX2_placeOf_b2 {G : cG} {X : rX} {z0 : cS} {r : Int32 × cS} (C : cC G X z0 RX2 4 cX2_placeOf (some .int) 1 0 0) (o : Nat) : ∀ (n : Nat) (l1 : Int32) (l2 : Int32) (l3 : Int32) (z : cS), fX2_placeOf_b2 o n l1 l2 l3 z = some r → cAW false G X z0 (.inl (some (.int r.1)), r.2, 0, 0) 4 2 [some (va_rf (some o)), some (.int l1), some (.int l2), some (.int l3)] [] z 0 0 := by
  intro n
  induction n with
  | zero => intro l1 l2 l3 z hf; cases hf
  | succ n ih => intro l1 l2 l3 z hf; exact bX2_placeOf_b2_body C o (fun l1 l2 l3 z h => ih l1 l2 l3 z h) l1 l2 l3 z hf
set_option maxRecDepth 100000 in
set_option maxHeartbeats 4000000 in
theorem bX2_placeOf {G : cG} {X : rX} {z0 : cS} {r : Int32 × cS} (C : cC G X z0 RX2 4 cX2_placeOf (some .int) 1 0 0) (o : Nat) (a0 : Int32) (a1 : Int32) (z : cS) (hf : fX2_placeOf o a0 a1 z = some r) : cAW false G X z0 (.inl (some (.int r.1)), r.2, 0, 0) 4 0 [some (va_rf (some o)), some (.int a0), some (.int a1), none] [] z 0 0 := by
  unfold fX2_placeOf at hf
  refine ca_iconst C dX2_placeOf_0 (v := 0) (by decide) ?_
  refine ca_istore_n C dX2_placeOf_1 rfl (by decide) ?_
  exact bX2_placeOf_b2 C o _ _ _ _ _ hf
set_option maxRecDepth 100000 in
set_option maxHeartbeats 4000000 in
theorem mX2_placeOf {l : Launch} (hl : l.stackTraces = false) {G : cG} {o : Nat} {a0 : Int32} {a1 : Int32} {z : cS} {r : Int32 × cS} (hf : fX2_placeOf o a0 a1 z = some r) : cM l G 1 yX2_placeOf cX2_placeOf 4 (some .int) [.ref o, .int a0, .int a1] z (.inl (some (.int r.1)), r.2, 0, 0) :=
  cM_of (lo0 := [some (va_rf (some o)), some (.int a0), some (.int a1), none]) (by decide +kernel) rfl (cs1_q (cs1_i (cs1_i cs1_nil))) (Nat.le_of_ble_eq_true rfl) rfl hl (fun X hX _ C => bX2_placeOf C o a0 a1 z hf)
set_option maxRecDepth 100000 in
set_option maxHeartbeats 4000000 in
theorem bX2_add {G : cG} {X : rX} {z0 : cS} {r : Unit × cS} (C : cC G X z0 RX2 8 cX2_add none 1 0 0) (o : Nat) (a0 : Int32) (a1 : Int32) (a2 : Int32) (a3 : Int32) (a4 : Int32) (a5 : Int32) (z : cS) (hf : fX2_add o a0 a1 a2 a3 a4 a5 z = some r) : cAW false G X z0 (.inl (none), r.2, 0, 0) 8 0 [some (va_rf (some o)), some (.int a0), some (.int a1), some (.int a2), some (.int a3), some (.int a4), some (.int a5), none] [] z 0 0 := by
  unfold fX2_add at hf
  refine ca_aload_n C dX2_add_0 rfl rfl ?_
  obtain ⟨x1, h1, hf⟩ := rob hf
  refine ca_getI C dX2_add_1 tcX2_f15 rfl rfl h1 ?_
  refine ca_bipush C dX2_add_4 (v := 30) (by decide) ?_
  refine ca_icmp_lt C dX2_add_6 (tgt := 10) (by decide) (fun c6 => ?_) (fun c6 => ?_)
  · replace hf := rif_p c6 hf
    refine ca_aload_n C dX2_add_10 rfl rfl ?_
    obtain ⟨x11, h11, hf⟩ := rob hf
    refine ca_getI C dX2_add_11 tcX2_f15 rfl rfl h11 ?_
    refine ca_istore C dX2_add_14 (by decide) ?_
    refine ca_aload_n C dX2_add_16 rfl rfl ?_
    refine ca_dup C dX2_add_17 (va_rf_cat _) ?_
    obtain ⟨x18, h18, hf⟩ := rob hf
    refine ca_getI C dX2_add_18 tcX2_f15 rfl rfl h18 ?_
    refine ca_iconst C dX2_add_21 (v := 1) (by decide) ?_
    refine ca_iadd C dX2_add_22 ?_
    obtain ⟨z23, h23, hf⟩ := rob hf
    refine ca_putI C dX2_add_23 tcX2_f15 nX2_1 rfl tI2_1 rfl h23 ?_
    refine ca_aload_n C dX2_add_26 rfl rfl ?_
    refine ca_iload C dX2_add_27 rfl ?_
    refine ca_iconst C dX2_add_29 (v := 0) (by decide) ?_
    refine ca_iload_n C dX2_add_30 rfl rfl ?_
    obtain ⟨c31, hc31, hf⟩ := rob hf
    obtain ⟨q31, h31, hf⟩ := rob hf
    refine ca_callV C dX2_add_31 (mX2_set (cC_tr C) h31) (crc_spec hc31) vw2 (by decide) rfl tX2_l23 tI_X2_set tS_X2_set tZ2 tC_X2_set tH_X2_set (by omega) (by decide) (cs1_sum cs1_nil (Nat.le_of_ble_eq_true rfl)) (by omega) (by omega) ?_
    refine ca_aload_n C dX2_add_34 rfl rfl ?_
    refine ca_iload C dX2_add_35 rfl ?_
    refine ca_iconst C dX2_add_37 (v := 1) (by decide) ?_
    refine ca_iload_n C dX2_add_38 rfl rfl ?_
    obtain ⟨c39, hc39, hf⟩ := rob hf
    obtain ⟨q39, h39, hf⟩ := rob hf
    refine ca_callV C dX2_add_39 (mX2_set (cC_tr C) h39) (crc_spec hc39) vw2 (by decide) rfl tX2_l23 tI_X2_set tS_X2_set tZ2 tC_X2_set tH_X2_set (by omega) (by decide) (cs1_sum cs1_nil (Nat.le_of_ble_eq_true rfl)) (by omega) (by omega) ?_
    refine ca_aload_n C dX2_add_42 rfl rfl ?_
    refine ca_iload C dX2_add_43 rfl ?_
    refine ca_iconst C dX2_add_45 (v := 2) (by decide) ?_
    refine ca_iload_n C dX2_add_46 rfl rfl ?_
    obtain ⟨c47, hc47, hf⟩ := rob hf
    obtain ⟨q47, h47, hf⟩ := rob hf
    refine ca_callV C dX2_add_47 (mX2_set (cC_tr C) h47) (crc_spec hc47) vw2 (by decide) rfl tX2_l23 tI_X2_set tS_X2_set tZ2 tC_X2_set tH_X2_set (by omega) (by decide) (cs1_sum cs1_nil (Nat.le_of_ble_eq_true rfl)) (by omega) (by omega) ?_
    refine ca_aload_n C dX2_add_50 rfl rfl ?_
    refine ca_iload C dX2_add_51 rfl ?_
    refine ca_iconst C dX2_add_53 (v := 3) (by decide) ?_
    refine ca_iload C dX2_add_54 rfl ?_
    obtain ⟨c56, hc56, hf⟩ := rob hf
    obtain ⟨q56, h56, hf⟩ := rob hf
    refine ca_callV C dX2_add_56 (mX2_set (cC_tr C) h56) (crc_spec hc56) vw2 (by decide) rfl tX2_l23 tI_X2_set tS_X2_set tZ2 tC_X2_set tH_X2_set (by omega) (by decide) (cs1_sum cs1_nil (Nat.le_of_ble_eq_true rfl)) (by omega) (by omega) ?_
    refine ca_aload_n C dX2_add_59 rfl rfl ?_
    refine ca_iload C dX2_add_60 rfl ?_
    refine ca_iconst C dX2_add_62 (v := 4) (by decide) ?_
    refine ca_iload C dX2_add_63 rfl ?_
    obtain ⟨c65, hc65, hf⟩ := rob hf
    obtain ⟨q65, h65, hf⟩ := rob hf
    refine ca_callV C dX2_add_65 (mX2_set (cC_tr C) h65) (crc_spec hc65) vw2 (by decide) rfl tX2_l23 tI_X2_set tS_X2_set tZ2 tC_X2_set tH_X2_set (by omega) (by decide) (cs1_sum cs1_nil (Nat.le_of_ble_eq_true rfl)) (by omega) (by omega) ?_
    refine ca_aload_n C dX2_add_68 rfl rfl ?_
    refine ca_iload C dX2_add_69 rfl ?_
    refine ca_iconst C dX2_add_71 (v := 5) (by decide) ?_
    refine ca_iload C dX2_add_72 rfl ?_
    obtain ⟨c74, hc74, hf⟩ := rob hf
    obtain ⟨q74, h74, hf⟩ := rob hf
    refine ca_callV C dX2_add_74 (mX2_set (cC_tr C) h74) (crc_spec hc74) vw2 (by decide) rfl tX2_l23 tI_X2_set tS_X2_set tZ2 tC_X2_set tH_X2_set (by omega) (by decide) (cs1_sum cs1_nil (Nat.le_of_ble_eq_true rfl)) (by omega) (by omega) ?_
    obtain rfl := Option.some.inj hf
    exact ca_vret C dX2_add_77 (by omega) (by omega)
  · replace hf := rif_n c6 hf
    obtain rfl := Option.some.inj hf
    exact ca_vret C dX2_add_9 (by omega) (by omega)
set_option maxRecDepth 100000 in
set_option maxHeartbeats 4000000 in
theorem mX2_add {l : Launch} (hl : l.stackTraces = false) {G : cG} {o : Nat} {a0 : Int32} {a1 : Int32} {a2 : Int32} {a3 : Int32} {a4 : Int32} {a5 : Int32} {z : cS} {r : Unit × cS} (hf : fX2_add o a0 a1 a2 a3 a4 a5 z = some r) : cM l G 1 yX2_add cX2_add 8 none [.ref o, .int a0, .int a1, .int a2, .int a3, .int a4, .int a5] z (.inl (none), r.2, 0, 0) :=
  cM_of (lo0 := [some (va_rf (some o)), some (.int a0), some (.int a1), some (.int a2), some (.int a3), some (.int a4), some (.int a5), none]) (by decide +kernel) rfl (cs1_q (cs1_i (cs1_i (cs1_i (cs1_i (cs1_i (cs1_i cs1_nil))))))) (Nat.le_of_ble_eq_true rfl) rfl hl (fun X hX _ C => bX2_add C o a0 a1 a2 a3 a4 a5 z hf)
set_option maxRecDepth 100000 in
set_option maxHeartbeats 4000000 in
theorem bX2_addAll_b2_body {G : cG} {X : rX} {z0 : cS} {r : Unit × cS} (C : cC G X z0 RX2 3 cX2_addAll none 2 0 0) (o : Nat) {rec2 : Option Nat → Int32 → cS → Option (Unit × cS)} (hrec2 : ∀ (l1 : Option Nat) (l2 : Int32) (z : cS), rec2 l1 l2 z = some r → cAW false G X z0 (.inl (none), r.2, 0, 0) 3 2 [some (va_rf (some o)), some (va_rf l1), some (.int l2)] [] z 0 0) (l1 : Option Nat) (l2 : Int32) (z : cS) (hf : fX2_addAll_b2_body o rec2 l1 l2 z = some r) : cAW false G X z0 (.inl (none), r.2, 0, 0) 3 2 [some (va_rf (some o)), some (va_rf l1), some (.int l2)] [] z 0 0 := by
  unfold fX2_addAll_b2_body at hf
  refine ca_iload_n C dX2_addAll_2 rfl rfl ?_
  refine ca_aload_n C dX2_addAll_3 rfl rfl ?_
  obtain ⟨q4, hq4, hf⟩ := rob hf
  obtain ⟨x4, h4, hf⟩ := rob hf
  refine ca_getI C dX2_addAll_4 tcX2_f15 rfl hq4 h4 ?_
  refine ca_icmp_ge C dX2_addAll_7 (tgt := 56) (by decide) (fun c7 => ?_) (fun c7 => ?_)
  · replace hf := rif_p c7 hf
    refine ca_aload_n C dX2_addAll_56 rfl rfl ?_
    refine ca_dup C dX2_addAll_57 (va_rf_cat _) ?_
    obtain ⟨x58, h58, hf⟩ := rob hf
    refine ca_getI C dX2_addAll_58 tcX2_f31 rfl rfl h58 ?_
    refine ca_aload_n C dX2_addAll_61 rfl rfl ?_
    obtain ⟨q62, hq62, hf⟩ := rob hf
    obtain ⟨x62, h62, hf⟩ := rob hf
    refine ca_getI C dX2_addAll_62 tcX2_f31 rfl hq62 h62 ?_
    refine ca_iadd C dX2_addAll_65 ?_
    obtain ⟨z66, h66, hf⟩ := rob hf
    refine ca_putI C dX2_addAll_66 tcX2_f31 nX2_2 rfl tI2_2 rfl h66 ?_
    refine ca_aload_n C dX2_addAll_69 rfl rfl ?_
    refine ca_dup C dX2_addAll_70 (va_rf_cat _) ?_
    obtain ⟨x71, h71, hf⟩ := rob hf
    refine ca_getI C dX2_addAll_71 tcX2_f34 rfl rfl h71 ?_
    refine ca_aload_n C dX2_addAll_74 rfl rfl ?_
    obtain ⟨q75, hq75, hf⟩ := rob hf
    obtain ⟨x75, h75, hf⟩ := rob hf
    refine ca_getI C dX2_addAll_75 tcX2_f34 rfl hq75 h75 ?_
    refine ca_iadd C dX2_addAll_78 ?_
    obtain ⟨z79, h79, hf⟩ := rob hf
    refine ca_putI C dX2_addAll_79 tcX2_f34 nX2_3 rfl tI2_3 rfl h79 ?_
    obtain rfl := Option.some.inj hf
    exact ca_vret C dX2_addAll_82 (by omega) (by omega)
  · replace hf := rif_n c7 hf
    refine ca_aload_n C dX2_addAll_10 rfl rfl ?_
    refine ca_aload_n C dX2_addAll_11 rfl rfl ?_
    refine ca_iload_n C dX2_addAll_12 rfl rfl ?_
    refine ca_iconst C dX2_addAll_13 (v := 0) (by decide) ?_
    obtain ⟨c14, hc14, hf⟩ := rob hf
    obtain ⟨q14, h14, hf⟩ := rob hf
    refine ca_callV C dX2_addAll_14 (mX2_get (cC_tr C) h14) (crc_spec hc14) vw2 (by decide) rfl tX2_l19 tI_X2_get tS_X2_get tZ2 tC_X2_get tH_X2_get (by omega) (by decide) (cs1_sum (cs1_r cs1_nil) (Nat.le_of_ble_eq_true rfl)) (by omega) (by omega) ?_
    refine ca_aload_n C dX2_addAll_17 rfl rfl ?_
    refine ca_iload_n C dX2_addAll_18 rfl rfl ?_
    refine ca_iconst C dX2_addAll_19 (v := 1) (by decide) ?_
    obtain ⟨c20, hc20, hf⟩ := rob hf
    obtain ⟨q20, h20, hf⟩ := rob hf
    refine ca_callV C dX2_addAll_20 (mX2_get (cC_tr C) h20) (crc_spec hc20) vw2 (by decide) rfl tX2_l19 tI_X2_get tS_X2_get tZ2 tC_X2_get tH_X2_get (by omega) (by decide) (cs1_sum (cs1_i (cs1_r cs1_nil)) (Nat.le_of_ble_eq_true rfl)) (by omega) (by omega) ?_
    refine ca_aload_n C dX2_addAll_23 rfl rfl ?_
    refine ca_iload_n C dX2_addAll_24 rfl rfl ?_
    refine ca_iconst C dX2_addAll_25 (v := 2) (by decide) ?_
    obtain ⟨c26, hc26, hf⟩ := rob hf
    obtain ⟨q26, h26, hf⟩ := rob hf
    refine ca_callV C dX2_addAll_26 (mX2_get (cC_tr C) h26) (crc_spec hc26) vw2 (by decide) rfl tX2_l19 tI_X2_get tS_X2_get tZ2 tC_X2_get tH_X2_get (by omega) (by decide) (cs1_sum (cs1_i (cs1_i (cs1_r cs1_nil))) (Nat.le_of_ble_eq_true rfl)) (by omega) (by omega) ?_
    refine ca_aload_n C dX2_addAll_29 rfl rfl ?_
    refine ca_iload_n C dX2_addAll_30 rfl rfl ?_
    refine ca_iconst C dX2_addAll_31 (v := 3) (by decide) ?_
    obtain ⟨c32, hc32, hf⟩ := rob hf
    obtain ⟨q32, h32, hf⟩ := rob hf
    refine ca_callV C dX2_addAll_32 (mX2_get (cC_tr C) h32) (crc_spec hc32) vw2 (by decide) rfl tX2_l19 tI_X2_get tS_X2_get tZ2 tC_X2_get tH_X2_get (by omega) (by decide) (cs1_sum (cs1_i (cs1_i (cs1_i (cs1_r cs1_nil)))) (Nat.le_of_ble_eq_true rfl)) (by omega) (by omega) ?_
    refine ca_aload_n C dX2_addAll_35 rfl rfl ?_
    refine ca_iload_n C dX2_addAll_36 rfl rfl ?_
    refine ca_iconst C dX2_addAll_37 (v := 4) (by decide) ?_
    obtain ⟨c38, hc38, hf⟩ := rob hf
    obtain ⟨q38, h38, hf⟩ := rob hf
    refine ca_callV C dX2_addAll_38 (mX2_get (cC_tr C) h38) (crc_spec hc38) vw2 (by decide) rfl tX2_l19 tI_X2_get tS_X2_get tZ2 tC_X2_get tH_X2_get (by omega) (by decide) (cs1_sum (cs1_i (cs1_i (cs1_i (cs1_i (cs1_r cs1_nil))))) (Nat.le_of_ble_eq_true rfl)) (by omega) (by omega) ?_
    refine ca_aload_n C dX2_addAll_41 rfl rfl ?_
    refine ca_iload_n C dX2_addAll_42 rfl rfl ?_
    refine ca_iconst C dX2_addAll_43 (v := 5) (by decide) ?_
    obtain ⟨c44, hc44, hf⟩ := rob hf
    obtain ⟨q44, h44, hf⟩ := rob hf
    refine ca_callV C dX2_addAll_44 (mX2_get (cC_tr C) h44) (crc_spec hc44) vw2 (by decide) rfl tX2_l19 tI_X2_get tS_X2_get tZ2 tC_X2_get tH_X2_get (by omega) (by decide) (cs1_sum (cs1_i (cs1_i (cs1_i (cs1_i (cs1_i (cs1_r cs1_nil)))))) (Nat.le_of_ble_eq_true rfl)) (by omega) (by omega) ?_
    obtain ⟨c47, hc47, hf⟩ := rob hf
    obtain ⟨q47, h47, hf⟩ := rob hf
    refine ca_callV C dX2_addAll_47 (mX2_add (cC_tr C) h47) (crc_spec hc47) vw2 (by decide) rfl tX2_l27 tI_X2_add tS_X2_add tZ2 tC_X2_add tH_X2_add (by omega) (by decide) (cs1_sum cs1_nil (Nat.le_of_ble_eq_true rfl)) (by omega) (by omega) ?_
    refine ca_iinc C dX2_addAll_50 rfl (v := 1) (by decide) (by decide) ?_
    refine ca_goto C dX2_addAll_53 (tgt := 2) (by decide) ?_
    exact hrec2 _ _ _ hf
set_option maxRecDepth 100000 in
set_option maxHeartbeats 4000000 in
theorem bX2_addAll_b2 {G : cG} {X : rX} {z0 : cS} {r : Unit × cS} (C : cC G X z0 RX2 3 cX2_addAll none 2 0 0) (o : Nat) : ∀ (n : Nat) (l1 : Option Nat) (l2 : Int32) (z : cS), fX2_addAll_b2 o n l1 l2 z = some r → cAW false G X z0 (.inl (none), r.2, 0, 0) 3 2 [some (va_rf (some o)), some (va_rf l1), some (.int l2)] [] z 0 0 := by
  intro n
  induction n with
  | zero => intro l1 l2 z hf; cases hf
  | succ n ih => intro l1 l2 z hf; exact bX2_addAll_b2_body C o (fun l1 l2 z h => ih l1 l2 z h) l1 l2 z hf
set_option maxRecDepth 100000 in
set_option maxHeartbeats 4000000 in
theorem bX2_addAll {G : cG} {X : rX} {z0 : cS} {r : Unit × cS} (C : cC G X z0 RX2 3 cX2_addAll none 2 0 0) (o : Nat) (a0 : Option Nat) (z : cS) (hf : fX2_addAll o a0 z = some r) : cAW false G X z0 (.inl (none), r.2, 0, 0) 3 0 [some (va_rf (some o)), some (va_rf a0), none] [] z 0 0 := by
  unfold fX2_addAll at hf
  refine ca_iconst C dX2_addAll_0 (v := 0) (by decide) ?_
  refine ca_istore_n C dX2_addAll_1 rfl (by decide) ?_
  exact bX2_addAll_b2 C o _ _ _ _ hf
set_option maxRecDepth 100000 in
set_option maxHeartbeats 4000000 in
theorem mX2_addAll {l : Launch} (hl : l.stackTraces = false) {G : cG} {o : Nat} {a0 : Option Nat} {z : cS} {r : Unit × cS} (hf : fX2_addAll o a0 z = some r) : cM l G 2 yX2_addAll cX2_addAll 3 none [.ref o, va_rf a0] z (.inl (none), r.2, 0, 0) :=
  cM_of (lo0 := [some (va_rf (some o)), some (va_rf a0), none]) (by decide +kernel) rfl (cs1_q (cs1_r cs1_nil)) (Nat.le_of_ble_eq_true rfl) rfl hl (fun X hX _ C => bX2_addAll C o a0 z hf)
set_option maxRecDepth 100000 in
set_option maxHeartbeats 4000000 in
theorem bX2_takeOut_b14_body {G : cG} {X : rX} {z0 : cS} {r : Unit × cS} (C : cC G X z0 RX2 4 cX2_takeOut none 1 0 0) (o : Nat) {rec14 : Int32 → Int32 → cS → Option (Unit × cS)} (hrec14 : ∀ (l2 : Int32) (l3 : Int32) (z : cS), rec14 l2 l3 z = some r → cAW false G X z0 (.inl (none), r.2, 0, 0) 4 14 [some (va_rf (some o)), none, some (.int l2), some (.int l3)] [] z 0 0) {rec2 : Int32 → cS → Option (Unit × cS)} (hrec2 : ∀ (l2 : Int32) (z : cS), rec2 l2 z = some r → cAW false G X z0 (.inl (none), r.2, 0, 0) 4 2 [some (va_rf (some o)), none, some (.int l2), none] [] z 0 0) (l2 : Int32) (l3 : Int32) (z : cS) (hf : fX2_takeOut_b14_body o rec14 rec2 l2 l3 z = some r) : cAW false G X z0 (.inl (none), r.2, 0, 0) 4 14 [some (va_rf (some o)), none, some (.int l2), some (.int l3)] [] z 0 0 := by
  unfold fX2_takeOut_b14_body at hf
  refine ca_iload_n C dX2_takeOut_14 rfl rfl ?_
  refine ca_bipush C dX2_takeOut_15 (v := 6) (by decide) ?_
  refine ca_icmp_ge C dX2_takeOut_17 (tgt := 40) (by decide) (fun c17 => ?_) (fun c17 => ?_)
  · replace hf := rif_p c17 hf
    refine ca_iinc C dX2_takeOut_40 rfl (v := 1) (by decide) (by decide) ?_
    refine ca_goto C dX2_takeOut_43 (tgt := 2) (by decide) ?_
    refine ca_mask [true, false, true, false] ?_
    exact hrec2 _ _ hf
  · replace hf := rif_n c17 hf
    refine ca_aload_n C dX2_takeOut_20 rfl rfl ?_
    refine ca_iload_n C dX2_takeOut_21 rfl rfl ?_
    refine ca_iload_n C dX2_takeOut_22 rfl rfl ?_
    refine ca_aload_n C dX2_takeOut_23 rfl rfl ?_
    refine ca_iload_n C dX2_takeOut_24 rfl rfl ?_
    refine ca_iconst C dX2_takeOut_25 (v := 1) (by decide) ?_
    refine ca_iadd C dX2_takeOut_26 ?_
    refine ca_iload_n C dX2_takeOut_27 rfl rfl ?_
    obtain ⟨c28, hc28, hf⟩ := rob hf
    obtain ⟨q28, h28, hf⟩ := rob hf
    refine ca_callV C dX2_takeOut_28 (mX2_get (cC_tr C) h28) (crc_spec hc28) vw2 (by decide) rfl tX2_l19 tI_X2_get tS_X2_get tZ2 tC_X2_get tH_X2_get (by omega) (by decide) (cs1_sum (cs1_i (cs1_i (cs1_r cs1_nil))) (Nat.le_of_ble_eq_true rfl)) (by omega) (by omega) ?_
    obtain ⟨c31, hc31, hf⟩ := rob hf
    obtain ⟨q31, h31, hf⟩ := rob hf
    refine ca_callV C dX2_takeOut_31 (mX2_set (cC_tr C) h31) (crc_spec hc31) vw2 (by decide) rfl tX2_l23 tI_X2_set tS_X2_set tZ2 tC_X2_set tH_X2_set (by omega) (by decide) (cs1_sum cs1_nil (Nat.le_of_ble_eq_true rfl)) (by omega) (by omega) ?_
    refine ca_iinc C dX2_takeOut_34 rfl (v := 1) (by decide) (by decide) ?_
    refine ca_goto C dX2_takeOut_37 (tgt := 14) (by decide) ?_
    exact hrec14 _ _ _ hf
set_option maxRecDepth 100000 in
set_option maxHeartbeats 4000000 in
theorem bX2_takeOut_b14 {G : cG} {X : rX} {z0 : cS} {r : Unit × cS} (C : cC G X z0 RX2 4 cX2_takeOut none 1 0 0) (o : Nat) {rec2 : Int32 → cS → Option (Unit × cS)} (hrec2 : ∀ (l2 : Int32) (z : cS), rec2 l2 z = some r → cAW false G X z0 (.inl (none), r.2, 0, 0) 4 2 [some (va_rf (some o)), none, some (.int l2), none] [] z 0 0) : ∀ (n : Nat) (l2 : Int32) (l3 : Int32) (z : cS), fX2_takeOut_b14 o rec2 n l2 l3 z = some r → cAW false G X z0 (.inl (none), r.2, 0, 0) 4 14 [some (va_rf (some o)), none, some (.int l2), some (.int l3)] [] z 0 0 := by
  intro n
  induction n with
  | zero => intro l2 l3 z hf; cases hf
  | succ n ih => intro l2 l3 z hf; exact bX2_takeOut_b14_body C o (fun l2 l3 z h => ih l2 l3 z h) hrec2 l2 l3 z hf
set_option maxRecDepth 100000 in
set_option maxHeartbeats 4000000 in
theorem bX2_takeOut_b2_body {G : cG} {X : rX} {z0 : cS} {r : Unit × cS} (C : cC G X z0 RX2 4 cX2_takeOut none 1 0 0) (o : Nat) {rec2 : Int32 → cS → Option (Unit × cS)} (hrec2 : ∀ (l2 : Int32) (z : cS), rec2 l2 z = some r → cAW false G X z0 (.inl (none), r.2, 0, 0) 4 2 [some (va_rf (some o)), none, some (.int l2), none] [] z 0 0) (l2 : Int32) (z : cS) (hf : fX2_takeOut_b2_body o rec2 l2 z = some r) : cAW false G X z0 (.inl (none), r.2, 0, 0) 4 2 [some (va_rf (some o)), none, some (.int l2), none] [] z 0 0 := by
  unfold fX2_takeOut_b2_body at hf
  refine ca_iload_n C dX2_takeOut_2 rfl rfl ?_
  refine ca_aload_n C dX2_takeOut_3 rfl rfl ?_
  obtain ⟨x4, h4, hf⟩ := rob hf
  refine ca_getI C dX2_takeOut_4 tcX2_f15 rfl rfl h4 ?_
  refine ca_iconst C dX2_takeOut_7 (v := 1) (by decide) ?_
  refine ca_isub C dX2_takeOut_8 ?_
  refine ca_icmp_ge C dX2_takeOut_9 (tgt := 46) (by decide) (fun c9 => ?_) (fun c9 => ?_)
  · replace hf := rif_p c9 hf
    refine ca_aload_n C dX2_takeOut_46 rfl rfl ?_
    refine ca_dup C dX2_takeOut_47 (va_rf_cat _) ?_
    obtain ⟨x48, h48, hf⟩ := rob hf
    refine ca_getI C dX2_takeOut_48 tcX2_f15 rfl rfl h48 ?_
    refine ca_iconst C dX2_takeOut_51 (v := 1) (by decide) ?_
    refine ca_isub C dX2_takeOut_52 ?_
    obtain ⟨z53, h53, hf⟩ := rob hf
    refine ca_putI C dX2_takeOut_53 tcX2_f15 nX2_1 rfl tI2_1 rfl h53 ?_
    obtain rfl := Option.some.inj hf
    exact ca_vret C dX2_takeOut_56 (by omega) (by omega)
  · replace hf := rif_n c9 hf
    refine ca_iconst C dX2_takeOut_12 (v := 0) (by decide) ?_
    refine ca_istore_n C dX2_takeOut_13 rfl (by decide) ?_
    exact bX2_takeOut_b14 C o hrec2 _ _ _ _ hf
set_option maxRecDepth 100000 in
set_option maxHeartbeats 4000000 in
theorem bX2_takeOut_b2 {G : cG} {X : rX} {z0 : cS} {r : Unit × cS} (C : cC G X z0 RX2 4 cX2_takeOut none 1 0 0) (o : Nat) : ∀ (n : Nat) (l2 : Int32) (z : cS), fX2_takeOut_b2 o n l2 z = some r → cAW false G X z0 (.inl (none), r.2, 0, 0) 4 2 [some (va_rf (some o)), none, some (.int l2), none] [] z 0 0 := by
  intro n
  induction n with
  | zero => intro l2 z hf; cases hf
  | succ n ih => intro l2 z hf; exact bX2_takeOut_b2_body C o (fun l2 z h => ih l2 z h) l2 z hf
set_option maxRecDepth 100000 in
set_option maxHeartbeats 4000000 in
theorem bX2_takeOut {G : cG} {X : rX} {z0 : cS} {r : Unit × cS} (C : cC G X z0 RX2 4 cX2_takeOut none 1 0 0) (o : Nat) (a0 : Int32) (z : cS) (hf : fX2_takeOut o a0 z = some r) : cAW false G X z0 (.inl (none), r.2, 0, 0) 4 0 [some (va_rf (some o)), some (.int a0), none, none] [] z 0 0 := by
  unfold fX2_takeOut at hf
  refine ca_iload_n C dX2_takeOut_0 rfl rfl ?_
  refine ca_istore_n C dX2_takeOut_1 rfl (by decide) ?_
  refine ca_mask [true, false, true, false] ?_
  exact bX2_takeOut_b2 C o _ _ _ hf
set_option maxRecDepth 100000 in
set_option maxHeartbeats 4000000 in
theorem mX2_takeOut {l : Launch} (hl : l.stackTraces = false) {G : cG} {o : Nat} {a0 : Int32} {z : cS} {r : Unit × cS} (hf : fX2_takeOut o a0 z = some r) : cM l G 1 yX2_takeOut cX2_takeOut 4 none [.ref o, .int a0] z (.inl (none), r.2, 0, 0) :=
  cM_of (lo0 := [some (va_rf (some o)), some (.int a0), none, none]) (by decide +kernel) rfl (cs1_q (cs1_i cs1_nil)) (Nat.le_of_ble_eq_true rfl) rfl hl (fun X hX _ C => bX2_takeOut C o a0 z hf)
set_option maxRecDepth 100000 in
set_option maxHeartbeats 4000000 in
theorem bX2_clear {G : cG} {X : rX} {z0 : cS} {r : Unit × cS} (C : cC G X z0 RX2 1 cX2_clear none 0 0 0) (o : Nat) (z : cS) (hf : fX2_clear o  z = some r) : cAW false G X z0 (.inl (none), r.2, 0, 0) 1 0 [some (va_rf (some o))] [] z 0 0 := by
  unfold fX2_clear at hf
  refine ca_aload_n C dX2_clear_0 rfl rfl ?_
  refine ca_iconst C dX2_clear_1 (v := 0) (by decide) ?_
  obtain ⟨z2, h2, hf⟩ := rob hf
  refine ca_putI C dX2_clear_2 tcX2_f15 nX2_1 rfl tI2_1 rfl h2 ?_
  refine ca_aload_n C dX2_clear_5 rfl rfl ?_
  refine ca_iconst C dX2_clear_6 (v := 0) (by decide) ?_
  obtain ⟨z7, h7, hf⟩ := rob hf
  refine ca_putI C dX2_clear_7 tcX2_f31 nX2_2 rfl tI2_2 rfl h7 ?_
  refine ca_aload_n C dX2_clear_10 rfl rfl ?_
  refine ca_iconst C dX2_clear_11 (v := 0) (by decide) ?_
  obtain ⟨z12, h12, hf⟩ := rob hf
  refine ca_putI C dX2_clear_12 tcX2_f34 nX2_3 rfl tI2_3 rfl h12 ?_
  obtain rfl := Option.some.inj hf
  exact ca_vret C dX2_clear_15 (by omega) (by omega)
set_option maxRecDepth 100000 in
set_option maxHeartbeats 4000000 in
theorem mX2_clear {l : Launch} (hl : l.stackTraces = false) {G : cG} {o : Nat} {z : cS} {r : Unit × cS} (hf : fX2_clear o  z = some r) : cM l G 0 yX2_clear cX2_clear 1 none [.ref o] z (.inl (none), r.2, 0, 0) :=
  cM_of (lo0 := [some (va_rf (some o))]) (by decide +kernel) rfl (cs1_q cs1_nil) (Nat.le_of_ble_eq_true rfl) rfl hl (fun X hX _ C => bX2_clear C o  z hf)
set_option maxRecDepth 100000 in
set_option maxHeartbeats 4000000 in
theorem bX2_tellEverywhere_b44 {G : cG} {X : rX} {z0 : cS} {r : Unit × cS} (C : cC G X z0 RX2 4 cX2_tellEverywhere none 1 0 0) (o : Nat) {rec2 : Int32 → Int32 → Int32 → cS → Option (Unit × cS)} (hrec2 : ∀ (l1 : Int32) (l2 : Int32) (l3 : Int32) (z : cS), rec2 l1 l2 l3 z = some r → cAW false G X z0 (.inl (none), r.2, 0, 0) 4 2 [some (va_rf (some o)), some (.int l1), some (.int l2), some (.int l3)] [] z 0 0) (l1 : Int32) (l2 : Int32) (l3 : Int32) (z : cS) (hf : fX2_tellEverywhere_b44 o rec2 l1 l2 l3 z = some r) : cAW false G X z0 (.inl (none), r.2, 0, 0) 4 44 [some (va_rf (some o)), some (.int l1), some (.int l2), some (.int l3)] [] z 0 0 := by
  unfold fX2_tellEverywhere_b44 at hf
  refine ca_iinc C dX2_tellEverywhere_44 rfl (v := 1) (by decide) (by decide) ?_
  refine ca_goto C dX2_tellEverywhere_47 (tgt := 2) (by decide) ?_
  exact hrec2 _ _ _ _ hf
set_option maxRecDepth 100000 in
set_option maxHeartbeats 4000000 in
theorem bX2_tellEverywhere_b27 {G : cG} {X : rX} {z0 : cS} {r : Unit × cS} (C : cC G X z0 RX2 4 cX2_tellEverywhere none 1 0 0) (o : Nat) {rec2 : Int32 → Int32 → Int32 → cS → Option (Unit × cS)} (hrec2 : ∀ (l1 : Int32) (l2 : Int32) (l3 : Int32) (z : cS), rec2 l1 l2 l3 z = some r → cAW false G X z0 (.inl (none), r.2, 0, 0) 4 2 [some (va_rf (some o)), some (.int l1), some (.int l2), some (.int l3)] [] z 0 0) (l1 : Int32) (l2 : Int32) (l3 : Int32) (z : cS) (hf : fX2_tellEverywhere_b27 o rec2 l1 l2 l3 z = some r) : cAW false G X z0 (.inl (none), r.2, 0, 0) 4 27 [some (va_rf (some o)), some (.int l1), some (.int l2), some (.int l3)] [] z 0 0 := by
  unfold fX2_tellEverywhere_b27 at hf
  refine ca_aload_n C dX2_tellEverywhere_27 rfl rfl ?_
  refine ca_iload_n C dX2_tellEverywhere_28 rfl rfl ?_
  refine ca_iconst C dX2_tellEverywhere_29 (v := 3) (by decide) ?_
  obtain ⟨c30, hc30, hf⟩ := rob hf
  obtain ⟨q30, h30, hf⟩ := rob hf
  refine ca_callV C dX2_tellEverywhere_30 (mX2_get (cC_tr C) h30) (crc_spec hc30) vw2 (by decide) rfl tX2_l19 tI_X2_get tS_X2_get tZ2 tC_X2_get tH_X2_get (by omega) (by decide) (cs1_sum cs1_nil (Nat.le_of_ble_eq_true rfl)) (by omega) (by omega) ?_
  refine ca_iload_n C dX2_tellEverywhere_33 rfl rfl ?_
  refine ca_icmp_ne C dX2_tellEverywhere_34 (tgt := 44) (by decide) (fun c34 => ?_) (fun c34 => ?_)
  · replace hf := rif_n c34 hf
    exact bX2_tellEverywhere_b44 C o hrec2 _ _ _ _ hf
  · replace hf := rif_p c34 hf
    refine ca_aload_n C dX2_tellEverywhere_37 rfl rfl ?_
    refine ca_iload_n C dX2_tellEverywhere_38 rfl rfl ?_
    refine ca_iconst C dX2_tellEverywhere_39 (v := 3) (by decide) ?_
    refine ca_iload_n C dX2_tellEverywhere_40 rfl rfl ?_
    obtain ⟨c41, hc41, hf⟩ := rob hf
    obtain ⟨q41, h41, hf⟩ := rob hf
    refine ca_callV C dX2_tellEverywhere_41 (mX2_set (cC_tr C) h41) (crc_spec hc41) vw2 (by decide) rfl tX2_l23 tI_X2_set tS_X2_set tZ2 tC_X2_set tH_X2_set (by omega) (by decide) (cs1_sum cs1_nil (Nat.le_of_ble_eq_true rfl)) (by omega) (by omega) ?_
    exact bX2_tellEverywhere_b44 C o hrec2 _ _ _ _ hf
set_option maxRecDepth 100000 in
set_option maxHeartbeats 4000000 in
theorem bX2_tellEverywhere_b2_body {G : cG} {X : rX} {z0 : cS} {r : Unit × cS} (C : cC G X z0 RX2 4 cX2_tellEverywhere none 1 0 0) (o : Nat) {rec2 : Int32 → Int32 → Int32 → cS → Option (Unit × cS)} (hrec2 : ∀ (l1 : Int32) (l2 : Int32) (l3 : Int32) (z : cS), rec2 l1 l2 l3 z = some r → cAW false G X z0 (.inl (none), r.2, 0, 0) 4 2 [some (va_rf (some o)), some (.int l1), some (.int l2), some (.int l3)] [] z 0 0) (l1 : Int32) (l2 : Int32) (l3 : Int32) (z : cS) (hf : fX2_tellEverywhere_b2_body o rec2 l1 l2 l3 z = some r) : cAW false G X z0 (.inl (none), r.2, 0, 0) 4 2 [some (va_rf (some o)), some (.int l1), some (.int l2), some (.int l3)] [] z 0 0 := by
  unfold fX2_tellEverywhere_b2_body at hf
  refine ca_iload_n C dX2_tellEverywhere_2 rfl rfl ?_
  refine ca_aload_n C dX2_tellEverywhere_3 rfl rfl ?_
  obtain ⟨x4, h4, hf⟩ := rob hf
  refine ca_getI C dX2_tellEverywhere_4 tcX2_f15 rfl rfl h4 ?_
  refine ca_icmp_ge C dX2_tellEverywhere_7 (tgt := 50) (by decide) (fun c7 => ?_) (fun c7 => ?_)
  · replace hf := rif_p c7 hf
    obtain rfl := Option.some.inj hf
    exact ca_vret C dX2_tellEverywhere_50 (by omega) (by omega)
  · replace hf := rif_n c7 hf
    refine ca_aload_n C dX2_tellEverywhere_10 rfl rfl ?_
    refine ca_iload_n C dX2_tellEverywhere_11 rfl rfl ?_
    refine ca_iconst C dX2_tellEverywhere_12 (v := 2) (by decide) ?_
    obtain ⟨c13, hc13, hf⟩ := rob hf
    obtain ⟨q13, h13, hf⟩ := rob hf
    refine ca_callV C dX2_tellEverywhere_13 (mX2_get (cC_tr C) h13) (crc_spec hc13) vw2 (by decide) rfl tX2_l19 tI_X2_get tS_X2_get tZ2 tC_X2_get tH_X2_get (by omega) (by decide) (cs1_sum cs1_nil (Nat.le_of_ble_eq_true rfl)) (by omega) (by omega) ?_
    refine ca_iload_n C dX2_tellEverywhere_16 rfl rfl ?_
    refine ca_icmp_ne C dX2_tellEverywhere_17 (tgt := 27) (by decide) (fun c17 => ?_) (fun c17 => ?_)
    · replace hf := rif_n c17 hf
      exact bX2_tellEverywhere_b27 C o hrec2 _ _ _ _ hf
    · replace hf := rif_p c17 hf
      refine ca_aload_n C dX2_tellEverywhere_20 rfl rfl ?_
      refine ca_iload_n C dX2_tellEverywhere_21 rfl rfl ?_
      refine ca_iconst C dX2_tellEverywhere_22 (v := 2) (by decide) ?_
      refine ca_iload_n C dX2_tellEverywhere_23 rfl rfl ?_
      obtain ⟨c24, hc24, hf⟩ := rob hf
      obtain ⟨q24, h24, hf⟩ := rob hf
      refine ca_callV C dX2_tellEverywhere_24 (mX2_set (cC_tr C) h24) (crc_spec hc24) vw2 (by decide) rfl tX2_l23 tI_X2_set tS_X2_set tZ2 tC_X2_set tH_X2_set (by omega) (by decide) (cs1_sum cs1_nil (Nat.le_of_ble_eq_true rfl)) (by omega) (by omega) ?_
      exact bX2_tellEverywhere_b27 C o hrec2 _ _ _ _ hf
set_option maxRecDepth 100000 in
set_option maxHeartbeats 4000000 in
theorem bX2_tellEverywhere_b2 {G : cG} {X : rX} {z0 : cS} {r : Unit × cS} (C : cC G X z0 RX2 4 cX2_tellEverywhere none 1 0 0) (o : Nat) : ∀ (n : Nat) (l1 : Int32) (l2 : Int32) (l3 : Int32) (z : cS), fX2_tellEverywhere_b2 o n l1 l2 l3 z = some r → cAW false G X z0 (.inl (none), r.2, 0, 0) 4 2 [some (va_rf (some o)), some (.int l1), some (.int l2), some (.int l3)] [] z 0 0 := by
  intro n
  induction n with
  | zero => intro l1 l2 l3 z hf; cases hf
  | succ n ih => intro l1 l2 l3 z hf; exact bX2_tellEverywhere_b2_body C o (fun l1 l2 l3 z h => ih l1 l2 l3 z h) l1 l2 l3 z hf
set_option maxRecDepth 100000 in
set_option maxHeartbeats 4000000 in
theorem bX2_tellEverywhere {G : cG} {X : rX} {z0 : cS} {r : Unit × cS} (C : cC G X z0 RX2 4 cX2_tellEverywhere none 1 0 0) (o : Nat) (a0 : Int32) (a1 : Int32) (z : cS) (hf : fX2_tellEverywhere o a0 a1 z = some r) : cAW false G X z0 (.inl (none), r.2, 0, 0) 4 0 [some (va_rf (some o)), some (.int a0), some (.int a1), none] [] z 0 0 := by
  unfold fX2_tellEverywhere at hf
  refine ca_iconst C dX2_tellEverywhere_0 (v := 0) (by decide) ?_
  refine ca_istore_n C dX2_tellEverywhere_1 rfl (by decide) ?_
  exact bX2_tellEverywhere_b2 C o _ _ _ _ _ hf
set_option maxRecDepth 100000 in
set_option maxHeartbeats 4000000 in
theorem mX2_tellEverywhere {l : Launch} (hl : l.stackTraces = false) {G : cG} {o : Nat} {a0 : Int32} {a1 : Int32} {z : cS} {r : Unit × cS} (hf : fX2_tellEverywhere o a0 a1 z = some r) : cM l G 1 yX2_tellEverywhere cX2_tellEverywhere 4 none [.ref o, .int a0, .int a1] z (.inl (none), r.2, 0, 0) :=
  cM_of (lo0 := [some (va_rf (some o)), some (.int a0), some (.int a1), none]) (by decide +kernel) rfl (cs1_q (cs1_i (cs1_i cs1_nil))) (Nat.le_of_ble_eq_true rfl) rfl hl (fun X hX _ C => bX2_tellEverywhere C o a0 a1 z hf)
set_option maxRecDepth 100000 in
set_option maxHeartbeats 4000000 in
theorem bX2_typeOf_b71 {G : cG} {X : rX} {z0 : cS} {r : Int32 × cS} (C : cC G X z0 RX2 5 cX2_typeOf (some .int) 2 0 0) (o : Nat) (l2 : Int32) (z : cS) (hf : fX2_typeOf_b71 o l2 z = some r) : cAW false G X z0 (.inl (some (.int r.1)), r.2, 0, 0) 5 71 [none, none, some (.int l2), none, none] [] z 0 0 := by
  unfold fX2_typeOf_b71 at hf
  refine ca_iload_n C dX2_typeOf_71 rfl rfl ?_
  obtain rfl := Option.some.inj hf
  exact ca_iret C dX2_typeOf_72 (by omega) (by omega)
set_option maxRecDepth 100000 in
set_option maxHeartbeats 4000000 in
theorem bX2_typeOf_b13_body {G : cG} {X : rX} {z0 : cS} {r : Int32 × cS} (C : cC G X z0 RX2 5 cX2_typeOf (some .int) 2 0 0) (o : Nat) {rec13 : Int32 → Int32 → cS → Option (Int32 × cS)} (hrec13 : ∀ (l2 : Int32) (l3 : Int32) (z : cS), rec13 l2 l3 z = some r → cAW false G X z0 (.inl (some (.int r.1)), r.2, 0, 0) 5 13 [some (va_rf (some o)), none, some (.int l2), some (.int l3), none] [] z 0 0) (l2 : Int32) (l3 : Int32) (z : cS) (hf : fX2_typeOf_b13_body o rec13 l2 l3 z = some r) : cAW false G X z0 (.inl (some (.int r.1)), r.2, 0, 0) 5 13 [some (va_rf (some o)), none, some (.int l2), some (.int l3), none] [] z 0 0 := by
  unfold fX2_typeOf_b13_body at hf
  refine ca_iload_n C dX2_typeOf_13 rfl rfl ?_
  refine ca_bipush C dX2_typeOf_14 (v := 10) (by decide) ?_
  refine ca_icmp_gt C dX2_typeOf_16 (tgt := 71) (by decide) (fun c16 => ?_) (fun c16 => ?_)
  · replace hf := rif_p c16 hf
    refine ca_mask [false, false, true, false, false] ?_
    exact bX2_typeOf_b71 C o _ _ hf
  · replace hf := rif_n c16 hf
    refine ca_iload_n C dX2_typeOf_19 rfl rfl ?_
    refine ca_if_ge C dX2_typeOf_20 (tgt := 71) (by decide) (fun c20 => ?_) (fun c20 => ?_)
    · replace hf := rif_p c20 hf
      refine ca_mask [false, false, true, false, false] ?_
      exact bX2_typeOf_b71 C o _ _ hf
    · replace hf := rif_n c20 hf
      refine ca_aload_n C dX2_typeOf_23 rfl rfl ?_
      refine ca_iconst C dX2_typeOf_24 (v := 0) (by decide) ?_
      refine ca_iconst C dX2_typeOf_25 (v := (-1)) (by decide) ?_
      refine ca_iload_n C dX2_typeOf_26 rfl rfl ?_
      refine ca_isub C dX2_typeOf_27 ?_
      obtain ⟨c28, hc28, hf⟩ := rob hf
      obtain ⟨q28, h28, hf⟩ := rob hf
      refine ca_callV C dX2_typeOf_28 (mX2_placeOf (cC_tr C) h28) (crc_spec hc28) vw2 (by decide) rfl tX2_l37 tI_X2_placeOf tS_X2_placeOf tZ2 tC_X2_placeOf tH_X2_placeOf (by omega) (by decide) (cs1_sum cs1_nil (Nat.le_of_ble_eq_true rfl)) (by omega) (by omega) ?_
      refine ca_istore C dX2_typeOf_31 (by decide) ?_
      refine ca_iload C dX2_typeOf_33 rfl ?_
      refine ca_iconst C dX2_typeOf_35 (v := (-1)) (by decide) ?_
      refine ca_icmp_ne C dX2_typeOf_36 (tgt := 43) (by decide) (fun c36 => ?_) (fun c36 => ?_)
      · replace hf := rif_n c36 hf
        refine ca_aload_n C dX2_typeOf_43 rfl rfl ?_
        refine ca_iload C dX2_typeOf_44 rfl ?_
        refine ca_iconst C dX2_typeOf_46 (v := 2) (by decide) ?_
        obtain ⟨c47, hc47, hf⟩ := rob hf
        obtain ⟨q47, h47, hf⟩ := rob hf
        refine ca_callV C dX2_typeOf_47 (mX2_get (cC_tr C) h47) (crc_spec hc47) vw2 (by decide) rfl tX2_l19 tI_X2_get tS_X2_get tZ2 tC_X2_get tH_X2_get (by omega) (by decide) (cs1_sum cs1_nil (Nat.le_of_ble_eq_true rfl)) (by omega) (by omega) ?_
        refine ca_bipush C dX2_typeOf_50 (v := (-100)) (by decide) ?_
        refine ca_icmp_ne C dX2_typeOf_52 (tgt := 57) (by decide) (fun c52 => ?_) (fun c52 => ?_)
        · replace hf := rif_n c52 hf
          refine ca_aload_n C dX2_typeOf_57 rfl rfl ?_
          refine ca_iload C dX2_typeOf_58 rfl ?_
          refine ca_iconst C dX2_typeOf_60 (v := 2) (by decide) ?_
          obtain ⟨c61, hc61, hf⟩ := rob hf
          obtain ⟨q61, h61, hf⟩ := rob hf
          refine ca_callV C dX2_typeOf_61 (mX2_get (cC_tr C) h61) (crc_spec hc61) vw2 (by decide) rfl tX2_l19 tI_X2_get tS_X2_get tZ2 tC_X2_get tH_X2_get (by omega) (by decide) (cs1_sum cs1_nil (Nat.le_of_ble_eq_true rfl)) (by omega) (by omega) ?_
          refine ca_istore_n C dX2_typeOf_64 rfl (by decide) ?_
          refine ca_iinc C dX2_typeOf_65 rfl (v := 1) (by decide) (by decide) ?_
          refine ca_goto C dX2_typeOf_68 (tgt := 13) (by decide) ?_
          refine ca_mask [true, false, true, true, false] ?_
          exact hrec13 _ _ _ hf
        · replace hf := rif_p c52 hf
          refine ca_iload_n C dX2_typeOf_55 rfl rfl ?_
          obtain rfl := Option.some.inj hf
          exact ca_iret C dX2_typeOf_56 (by omega) (by omega)
      · replace hf := rif_p c36 hf
        refine ca_sipush C dX2_typeOf_39 (v := (-200)) (by decide) ?_
        obtain rfl := Option.some.inj hf
        exact ca_iret C dX2_typeOf_42 (by omega) (by omega)
set_option maxRecDepth 100000 in
set_option maxHeartbeats 4000000 in
theorem bX2_typeOf_b13 {G : cG} {X : rX} {z0 : cS} {r : Int32 × cS} (C : cC G X z0 RX2 5 cX2_typeOf (some .int) 2 0 0) (o : Nat) : ∀ (n : Nat) (l2 : Int32) (l3 : Int32) (z : cS), fX2_typeOf_b13 o n l2 l3 z = some r → cAW false G X z0 (.inl (some (.int r.1)), r.2, 0, 0) 5 13 [some (va_rf (some o)), none, some (.int l2), some (.int l3), none] [] z 0 0 := by
  intro n
  induction n with
  | zero => intro l2 l3 z hf; cases hf
  | succ n ih => intro l2 l3 z hf; exact bX2_typeOf_b13_body C o (fun l2 l3 z h => ih l2 l3 z h) l2 l3 z hf
set_option maxRecDepth 100000 in
set_option maxHeartbeats 4000000 in
theorem bX2_typeOf {G : cG} {X : rX} {z0 : cS} {r : Int32 × cS} (C : cC G X z0 RX2 5 cX2_typeOf (some .int) 2 0 0) (o : Nat) (a0 : Int32) (z : cS) (hf : fX2_typeOf o a0 z = some r) : cAW false G X z0 (.inl (some (.int r.1)), r.2, 0, 0) 5 0 [some (va_rf (some o)), some (.int a0), none, none, none] [] z 0 0 := by
  unfold fX2_typeOf at hf
  refine ca_iload_n C dX2_typeOf_0 rfl rfl ?_
  refine ca_bipush C dX2_typeOf_1 (v := (-100)) (by decide) ?_
  refine ca_icmp_ne C dX2_typeOf_3 (tgt := 9) (by decide) (fun c3 => ?_) (fun c3 => ?_)
  · replace hf := rif_n c3 hf
    refine ca_iload_n C dX2_typeOf_9 rfl rfl ?_
    refine ca_istore_n C dX2_typeOf_10 rfl (by decide) ?_
    refine ca_iconst C dX2_typeOf_11 (v := 0) (by decide) ?_
    refine ca_istore_n C dX2_typeOf_12 rfl (by decide) ?_
    refine ca_mask [true, false, true, true, false] ?_
    exact bX2_typeOf_b13 C o _ _ _ _ hf
  · replace hf := rif_p c3 hf
    refine ca_bipush C dX2_typeOf_6 (v := (-100)) (by decide) ?_
    obtain rfl := Option.some.inj hf
    exact ca_iret C dX2_typeOf_8 (by omega) (by omega)
set_option maxRecDepth 100000 in
set_option maxHeartbeats 4000000 in
theorem mX2_typeOf {l : Launch} (hl : l.stackTraces = false) {G : cG} {o : Nat} {a0 : Int32} {z : cS} {r : Int32 × cS} (hf : fX2_typeOf o a0 z = some r) : cM l G 2 yX2_typeOf cX2_typeOf 5 (some .int) [.ref o, .int a0] z (.inl (some (.int r.1)), r.2, 0, 0) :=
  cM_of (lo0 := [some (va_rf (some o)), some (.int a0), none, none, none]) (by decide +kernel) rfl (cs1_q (cs1_i cs1_nil)) (Nat.le_of_ble_eq_true rfl) rfl hl (fun X hX _ C => bX2_typeOf C o a0 z hf)
set_option maxRecDepth 100000 in
set_option maxHeartbeats 4000000 in
theorem bX3_init {G : cG} {X : rX} {z0 : cS} {r : Unit × cS} (C : cC G X z0 RX3 2 cX3_init none 1 0 0) (hin : X.2.2.2.2.2.2.2.2.1.name = "<init>") (o : Nat) (a0 : Option Nat) (z : cS) (hf : fX3_init o a0 z = some r) : cAW false G X z0 (.inl (none), r.2, 0, 0) 2 0 [some (va_rf (some o)), some (va_rf a0)] [] z 0 0 := by
  unfold fX3_init at hf
  refine ca_aload_n C dX3_init_0 rfl rfl ?_
  refine ca_objInit C dX3_init_1 rfl tX3_l3 tO_i tO_c (by omega) (cs1_sum cs1_nil (Nat.le_of_ble_eq_true rfl)) ?_
  refine ca_aload_n C dX3_init_4 rfl rfl ?_
  refine ca_aload_n C dX3_init_5 rfl rfl ?_
  obtain ⟨z6, h6, hf⟩ := rob hf
  refine ca_putFR C hin dX3_init_6 tcX3_f9 uX3_f9 rfl rfl h6 ?_
  obtain rfl := Option.some.inj hf
  exact ca_vret C dX3_init_9 (by omega) (by omega)
set_option maxRecDepth 100000 in
set_option maxHeartbeats 4000000 in
theorem mX3_init {l : Launch} (hl : l.stackTraces = false) {G : cG} {o : Nat} {a0 : Option Nat} {z : cS} {r : Unit × cS} (hf : fX3_init o a0 z = some r) : cM l G 1 yX3_init cX3_init 2 none [.ref o, va_rf a0] z (.inl (none), r.2, 0, 0) :=
  cM_of (lo0 := [some (va_rf (some o)), some (va_rf a0)]) (by decide +kernel) rfl (cs1_q (cs1_r cs1_nil)) (Nat.le_of_ble_eq_true rfl) rfl hl (fun X hX hin C => bX3_init C hin o a0 z hf)
set_option maxRecDepth 100000 in
set_option maxHeartbeats 4000000 in
theorem bX3_at_b31 {G : cG} {X : rX} {z0 : cS} {r : (Option Nat) × cS} (C : cC G X z0 RX3 2 cX3_at (some (.object "ModuleLoft$Row")) 0 0 0) (o : Nat) (s0 : Option Nat) (z : cS) (hf : fX3_at_b31 o s0 z = some r) : cAW false G X z0 (.inl (some (va_rf r.1)), r.2, 0, 0) 2 31 [none, none] [va_rf s0] z 0 0 := by
  unfold fX3_at_b31 at hf
  obtain rfl := Option.some.inj hf
  exact ca_aret C dX3_at_31 (by omega) (by omega)
set_option maxRecDepth 100000 in
set_option maxHeartbeats 4000000 in
theorem bX3_at_b30 {G : cG} {X : rX} {z0 : cS} {r : (Option Nat) × cS} (C : cC G X z0 RX3 2 cX3_at (some (.object "ModuleLoft$Row")) 0 0 0) (o : Nat) (z : cS) (hf : fX3_at_b30 o  z = some r) : cAW false G X z0 (.inl (some (va_rf r.1)), r.2, 0, 0) 2 30 [none, none] [] z 0 0 := by
  unfold fX3_at_b30 at hf
  refine ca_null C dX3_at_30 ?_
  exact bX3_at_b31 C o _ _ hf
set_option maxRecDepth 100000 in
set_option maxHeartbeats 4000000 in
theorem bX3_at {G : cG} {X : rX} {z0 : cS} {r : (Option Nat) × cS} (C : cC G X z0 RX3 2 cX3_at (some (.object "ModuleLoft$Row")) 0 0 0) (o : Nat) (a0 : Int32) (z : cS) (hf : fX3_at o a0 z = some r) : cAW false G X z0 (.inl (some (va_rf r.1)), r.2, 0, 0) 2 0 [some (va_rf (some o)), some (.int a0)] [] z 0 0 := by
  unfold fX3_at at hf
  refine ca_iload_n C dX3_at_0 rfl rfl ?_
  refine ca_if_lt C dX3_at_1 (tgt := 30) (by decide) (fun c1 => ?_) (fun c1 => ?_)
  · replace hf := rif_p c1 hf
    refine ca_mask [false, false] ?_
    exact bX3_at_b30 C o  _ hf
  · replace hf := rif_n c1 hf
    refine ca_iload_n C dX3_at_4 rfl rfl ?_
    refine ca_aload_n C dX3_at_5 rfl rfl ?_
    obtain ⟨x6, h6, hf⟩ := rob hf
    refine ca_getI C dX3_at_6 tcX3_f15 rfl rfl h6 ?_
    refine ca_icmp_ge C dX3_at_9 (tgt := 30) (by decide) (fun c9 => ?_) (fun c9 => ?_)
    · replace hf := rif_p c9 hf
      refine ca_mask [false, false] ?_
      exact bX3_at_b30 C o  _ hf
    · replace hf := rif_n c9 hf
      refine ca_iload_n C dX3_at_12 rfl rfl ?_
      refine ca_aload_n C dX3_at_13 rfl rfl ?_
      obtain ⟨x14, h14, hf⟩ := rob hf
      refine ca_getR C dX3_at_14 tcX3_f9 rfl rfl h14 ?_
      obtain ⟨q17, hq17, hf⟩ := rob hf
      obtain ⟨x17, h17, hf⟩ := rob hf
      refine ca_alenR C dX3_at_17 hq17 h17 ck12 ?_
      refine ca_icmp_ge C dX3_at_18 (tgt := 30) (by decide) (fun c18 => ?_) (fun c18 => ?_)
      · replace hf := rif_p c18 hf
        refine ca_mask [false, false] ?_
        exact bX3_at_b30 C o  _ hf
      · replace hf := rif_n c18 hf
        refine ca_aload_n C dX3_at_21 rfl rfl ?_
        obtain ⟨x22, h22, hf⟩ := rob hf
        refine ca_getR C dX3_at_22 tcX3_f9 rfl rfl h22 ?_
        refine ca_iload_n C dX3_at_25 rfl rfl ?_
        obtain ⟨q26, hq26, hf⟩ := rob hf
        obtain ⟨x26, h26, hf⟩ := rob hf
        refine ca_aald C dX3_at_26 hq26 h26 ck12 ?_
        refine ca_goto C dX3_at_27 (tgt := 31) (by decide) ?_
        refine ca_mask [false, false] ?_
        exact bX3_at_b31 C o _ _ hf
set_option maxRecDepth 100000 in
set_option maxHeartbeats 4000000 in
theorem mX3_at {l : Launch} (hl : l.stackTraces = false) {G : cG} {o : Nat} {a0 : Int32} {z : cS} {r : (Option Nat) × cS} (hf : fX3_at o a0 z = some r) : cM l G 0 yX3_at cX3_at 2 (some (.object "ModuleLoft$Row")) [.ref o, .int a0] z (.inl (some (va_rf r.1)), r.2, 0, 0) :=
  cM_of (lo0 := [some (va_rf (some o)), some (.int a0)]) (by decide +kernel) rfl (cs1_q (cs1_i cs1_nil)) (Nat.le_of_ble_eq_true rfl) rfl hl (fun X hX _ C => bX3_at C o a0 z hf)
set_option maxRecDepth 100000 in
set_option maxHeartbeats 4000000 in
theorem bX3_blank_b21 {G : cG} {X : rX} {z0 : cS} {w : Option Nat} {z' : cS} {A B : Nat} (C : cC G X z0 RX3 3 cX3_blank (some (.object "ModuleLoft$Row")) 2 A B) (o : Nat) (z : cS) {kc ks ra rb : Nat} (hf : fX3_blank_b21 o  z = some (w, z', ra, rb)) (ha : A = kc + ra) (hb : B = ks + rb) : cAW false G X z0 (.inl (some (va_rf w)), z', A, B) 3 21 [none, none, none] [] z kc ks := by
  unfold fX3_blank_b21 at hf
  refine ca_null C dX3_blank_21 ?_
  cases hf
  exact ca_aret C dX3_blank_22 (by omega) (by omega)
set_option maxRecDepth 100000 in
set_option maxHeartbeats 4000000 in
theorem bX3_blank_b49 {G : cG} {X : rX} {z0 : cS} {w : Option Nat} {z' : cS} {A B : Nat} (C : cC G X z0 RX3 3 cX3_blank (some (.object "ModuleLoft$Row")) 2 A B) (o : Nat) (l2 : Option Nat) (z : cS) {kc ks ra rb : Nat} (hf : fX3_blank_b49 o l2 z = some (w, z', ra, rb)) (ha : A = kc + ra) (hb : B = ks + rb) : cAW false G X z0 (.inl (some (va_rf w)), z', A, B) 3 49 [none, none, some (va_rf l2)] [] z kc ks := by
  unfold fX3_blank_b49 at hf
  refine ca_aload_n C dX3_blank_49 rfl rfl ?_
  obtain ⟨c50, hc50, hf⟩ := rob hf
  obtain ⟨q50, h50, hf⟩ := rob hf
  refine ca_callV C dX3_blank_50 (mX2_clear (cC_tr C) h50) (crc_spec hc50) vw2 (by decide) rfl tX3_l22 tI_X2_clear tS_X2_clear tZ2 tC_X2_clear tH_X2_clear (by omega) (by decide) (cs1_sum cs1_nil (Nat.le_of_ble_eq_true rfl)) (by omega) (by omega) ?_
  refine ca_aload_n C dX3_blank_53 rfl rfl ?_
  cases hf
  exact ca_aret C dX3_blank_54 (by omega) (by omega)
set_option maxRecDepth 100000 in
set_option maxHeartbeats 4000000 in
theorem bX3_blank {G : cG} {X : rX} {z0 : cS} {w : Option Nat} {z' : cS} {A B : Nat} (C : cC G X z0 RX3 3 cX3_blank (some (.object "ModuleLoft$Row")) 2 A B) (o : Nat) (a0 : Int32) (z : cS) {kc ks ra rb : Nat} (hf : fX3_blank o a0 z = some (w, z', ra, rb)) (ha : A = kc + ra) (hb : B = ks + rb) : cAW false G X z0 (.inl (some (va_rf w)), z', A, B) 3 0 [some (va_rf (some o)), some (.int a0), none] [] z kc ks := by
  unfold fX3_blank at hf
  refine ca_iload_n C dX3_blank_0 rfl rfl ?_
  refine ca_aload_n C dX3_blank_1 rfl rfl ?_
  obtain ⟨x2, h2, hf⟩ := rob hf
  refine ca_getI C dX3_blank_2 tcX3_f15 rfl rfl h2 ?_
  refine ca_icmp_lt C dX3_blank_5 (tgt := 21) (by decide) (fun c5 => ?_) (fun c5 => ?_)
  · replace hf := rif_p c5 hf
    refine ca_mask [false, false, false] ?_
    exact bX3_blank_b21 C o  _ hf (by omega) (by omega)
  · replace hf := rif_n c5 hf
    refine ca_iload_n C dX3_blank_8 rfl rfl ?_
    refine ca_if_lt C dX3_blank_9 (tgt := 21) (by decide) (fun c9 => ?_) (fun c9 => ?_)
    · replace hf := rif_p c9 hf
      refine ca_mask [false, false, false] ?_
      exact bX3_blank_b21 C o  _ hf (by omega) (by omega)
    · replace hf := rif_n c9 hf
      refine ca_iload_n C dX3_blank_12 rfl rfl ?_
      refine ca_aload_n C dX3_blank_13 rfl rfl ?_
      obtain ⟨x14, h14, hf⟩ := rob hf
      refine ca_getR C dX3_blank_14 tcX3_f9 rfl rfl h14 ?_
      obtain ⟨q17, hq17, hf⟩ := rob hf
      obtain ⟨x17, h17, hf⟩ := rob hf
      refine ca_alenR C dX3_blank_17 hq17 h17 ck12 ?_
      refine ca_icmp_lt C dX3_blank_18 (tgt := 23) (by decide) (fun c18 => ?_) (fun c18 => ?_)
      · replace hf := rif_p c18 hf
        refine ca_aload_n C dX3_blank_23 rfl rfl ?_
        obtain ⟨x24, h24, hf⟩ := rob hf
        refine ca_getR C dX3_blank_24 tcX3_f9 rfl rfl h24 ?_
        refine ca_iload_n C dX3_blank_27 rfl rfl ?_
        obtain ⟨q28, hq28, hf⟩ := rob hf
        obtain ⟨x28, h28, hf⟩ := rob hf
        refine ca_aald C dX3_blank_28 hq28 h28 ck12 ?_
        refine ca_astore_n C dX3_blank_29 rfl (by decide) ?_
        refine ca_aload_n C dX3_blank_30 rfl rfl ?_
        refine ca_ifnonnull C dX3_blank_31 (tgt := 49) (by decide) (fun c31 => ?_) (fun c31 => ?_)
        · replace hf := rif_n c31 hf
          refine ca_mask [false, false, true] ?_
          exact bX3_blank_b49 C o _ _ hf (by omega) (by omega)
        · replace hf := rif_p c31 hf
          obtain ⟨ra34, rb34, hg34, rfl, rfl⟩ := ause_spec hf
          replace hf := hg34
          refine ca_new C dX3_blank_34 vw2 (by decide) tyX2 tyX2_ok rX2_in tX3_k19 tN2 tZ2 dfX2 (by omega) (by omega) ?_
          refine ca_dup C dX3_blank_37 (va_rf_cat _) ?_
          obtain ⟨v38, z38, ra38, rb38, sa38, sb38, h38, hg38, rfl, rfl⟩ := abind_spec hf
          replace hf := hg38
          refine ca_callI C dX3_blank_38 (mX2_init (cC_tr C) h38) rfl rfl tX3_l21 tI_X2_init rfl tZ2 tC_X2_init tH_X2_init (by omega) (by decide) (cs1_sum (cs1_r cs1_nil) (Nat.le_of_ble_eq_true rfl)) (by omega) (by omega) ?_
          refine ca_astore_n C dX3_blank_41 rfl (by decide) ?_
          refine ca_aload_n C dX3_blank_42 rfl rfl ?_
          obtain ⟨x43, h43, hf⟩ := rob hf
          refine ca_getR C dX3_blank_43 tcX3_f9 rfl rfl h43 ?_
          refine ca_iload_n C dX3_blank_46 rfl rfl ?_
          refine ca_aload_n C dX3_blank_47 rfl rfl ?_
          obtain ⟨q48, hq48, hf⟩ := rob hf
          obtain ⟨z48, h48, hf⟩ := rob hf
          refine ca_aast C dX3_blank_48 hq48 h48 ck12 ?_
          refine ca_mask [false, false, true] ?_
          exact bX3_blank_b49 C o _ _ hf (by omega) (by omega)
      · replace hf := rif_n c18 hf
        refine ca_mask [false, false, false] ?_
        exact bX3_blank_b21 C o  _ hf (by omega) (by omega)
set_option maxRecDepth 100000 in
set_option maxHeartbeats 4000000 in
theorem mX3_blank {l : Launch} (hl : l.stackTraces = false) {G : cG} {o : Nat} {a0 : Int32} {z : cS} {w : Option Nat} {z' : cS} {A B : Nat} (hf : fX3_blank o a0 z = some (w, z', A, B)) : cM l G 2 yX3_blank cX3_blank 3 (some (.object "ModuleLoft$Row")) [.ref o, .int a0] z (.inl (some (va_rf w)), z', A, B) :=
  cM_of (lo0 := [some (va_rf (some o)), some (.int a0), none]) (by decide +kernel) rfl (cs1_q (cs1_i cs1_nil)) (Nat.le_of_ble_eq_true rfl) rfl hl (fun X hX _ C => bX3_blank C o a0 z (kc := 0) (ks := 0) hf (Nat.zero_add _).symm (Nat.zero_add _).symm)
set_option maxRecDepth 100000 in
set_option maxHeartbeats 4000000 in
theorem bX3_keep {G : cG} {X : rX} {z0 : cS} {w : Int32} {z' : cS} {A B : Nat} (C : cC G X z0 RX3 3 cX3_keep (some .int) 3 A B) (o : Nat) (a0 : Option Nat) (z : cS) {kc ks ra rb : Nat} (hf : fX3_keep o a0 z = some (w, z', ra, rb)) (ha : A = kc + ra) (hb : B = ks + rb) : cAW false G X z0 (.inl (some (.int w)), z', A, B) 3 0 [some (va_rf (some o)), some (va_rf a0), none] [] z kc ks := by
  unfold fX3_keep at hf
  refine ca_aload_n C dX3_keep_0 rfl rfl ?_
  refine ca_aload_n C dX3_keep_1 rfl rfl ?_
  obtain ⟨x2, h2, hf⟩ := rob hf
  refine ca_getI C dX3_keep_2 tcX3_f15 rfl rfl h2 ?_
  obtain ⟨c5, hc5, hf⟩ := rob hf
  obtain ⟨v5, z5, ra5, rb5, sa5, sb5, h5, hg5, rfl, rfl⟩ := abind_spec hf
  replace hf := hg5
  refine ca_callV C dX3_keep_5 (mX3_blank (cC_tr C) h5) (crc_spec hc5) vw3 (by decide) rfl tX3_l25 tI_X3_blank tS_X3_blank tZ3 tC_X3_blank tH_X3_blank (by omega) (by decide) (cs1_sum cs1_nil (Nat.le_of_ble_eq_true rfl)) (by omega) (by omega) ?_
  refine ca_astore_n C dX3_keep_8 rfl (by decide) ?_
  refine ca_aload_n C dX3_keep_9 rfl rfl ?_
  refine ca_ifnonnull C dX3_keep_10 (tgt := 15) (by decide) (fun c10 => ?_) (fun c10 => ?_)
  · replace hf := rif_n c10 hf
    refine ca_aload_n C dX3_keep_15 rfl rfl ?_
    refine ca_aload_n C dX3_keep_16 rfl rfl ?_
    obtain ⟨c17, hc17, hf⟩ := rob hf
    obtain ⟨q17, h17, hf⟩ := rob hf
    refine ca_callV C dX3_keep_17 (mX2_addAll (cC_tr C) h17) (crc_spec hc17) vw2 (by decide) rfl tX3_l29 tI_X2_addAll tS_X2_addAll tZ2 tC_X2_addAll tH_X2_addAll (by omega) (by decide) (cs1_sum cs1_nil (Nat.le_of_ble_eq_true rfl)) (by omega) (by omega) ?_
    refine ca_aload_n C dX3_keep_20 rfl rfl ?_
    obtain ⟨c21, hc21, hf⟩ := rob hf
    obtain ⟨q21, h21, hf⟩ := rob hf
    refine ca_callV C dX3_keep_21 (mX2_clear (cC_tr C) h21) (crc_spec hc21) vw2 (by decide) rfl tX3_l22 tI_X2_clear tS_X2_clear tZ2 tC_X2_clear tH_X2_clear (by omega) (by decide) (cs1_sum cs1_nil (Nat.le_of_ble_eq_true rfl)) (by omega) (by omega) ?_
    refine ca_aload_n C dX3_keep_24 rfl rfl ?_
    refine ca_dup C dX3_keep_25 (va_rf_cat _) ?_
    obtain ⟨x26, h26, hf⟩ := rob hf
    refine ca_getI C dX3_keep_26 tcX3_f15 rfl rfl h26 ?_
    refine ca_iconst C dX3_keep_29 (v := 1) (by decide) ?_
    refine ca_iadd C dX3_keep_30 ?_
    obtain ⟨z31, h31, hf⟩ := rob hf
    refine ca_putI C dX3_keep_31 tcX3_f15 nX3_1 rfl tI3_1 rfl h31 ?_
    refine ca_aload_n C dX3_keep_34 rfl rfl ?_
    obtain ⟨x35, h35, hf⟩ := rob hf
    refine ca_getI C dX3_keep_35 tcX3_f15 rfl rfl h35 ?_
    refine ca_iconst C dX3_keep_38 (v := 1) (by decide) ?_
    refine ca_isub C dX3_keep_39 ?_
    cases hf
    exact ca_iret C dX3_keep_40 (by omega) (by omega)
  · replace hf := rif_p c10 hf
    refine ca_iconst C dX3_keep_13 (v := (-1)) (by decide) ?_
    cases hf
    exact ca_iret C dX3_keep_14 (by omega) (by omega)
set_option maxRecDepth 100000 in
set_option maxHeartbeats 4000000 in
theorem mX3_keep {l : Launch} (hl : l.stackTraces = false) {G : cG} {o : Nat} {a0 : Option Nat} {z : cS} {w : Int32} {z' : cS} {A B : Nat} (hf : fX3_keep o a0 z = some (w, z', A, B)) : cM l G 3 yX3_keep cX3_keep 3 (some .int) [.ref o, va_rf a0] z (.inl (some (.int w)), z', A, B) :=
  cM_of (lo0 := [some (va_rf (some o)), some (va_rf a0), none]) (by decide +kernel) rfl (cs1_q (cs1_r cs1_nil)) (Nat.le_of_ble_eq_true rfl) rfl hl (fun X hX _ C => bX3_keep C o a0 z (kc := 0) (ks := 0) hf (Nat.zero_add _).symm (Nat.zero_add _).symm)
set_option maxRecDepth 100000 in
set_option maxHeartbeats 4000000 in
theorem bX4_append {G : cG} {X : rX} {z0 : cS} {r : Int32 × cS} (C : cC G X z0 RX4 3 cX4_append (some .int) 1 0 0) (o : Nat) (a0 : Int32) (a1 : Int32) (z : cS) (hf : fX4_append o a0 a1 z = some r) : cAW false G X z0 (.inl (some (.int r.1)), r.2, 0, 0) 3 0 [some (va_rf (some o)), some (.int a0), some (.int a1)] [] z 0 0 := by
  unfold fX4_append at hf
  refine ca_aload_n C dX4_append_0 rfl rfl ?_
  obtain ⟨x1, h1, hf⟩ := rob hf
  refine ca_getI C dX4_append_1 tcX4_f22 rfl rfl h1 ?_
  refine ca_sipush C dX4_append_4 (v := 200) (by decide) ?_
  refine ca_icmp_lt C dX4_append_7 (tgt := 12) (by decide) (fun c7 => ?_) (fun c7 => ?_)
  · replace hf := rif_p c7 hf
    refine ca_aload_n C dX4_append_12 rfl rfl ?_
    obtain ⟨x13, h13, hf⟩ := rob hf
    refine ca_getR C dX4_append_13 tcX4_f9 rfl rfl h13 ?_
    refine ca_aload_n C dX4_append_16 rfl rfl ?_
    obtain ⟨x17, h17, hf⟩ := rob hf
    refine ca_getI C dX4_append_17 tcX4_f22 rfl rfl h17 ?_
    refine ca_iload_n C dX4_append_20 rfl rfl ?_
    obtain ⟨q21, h21, hf⟩ := rob hf
    refine ca_callS C dX4_append_21 (mX6_write (cC_tr C) h21) rfl tX4_l44 tT_X6_write tZ6 tC_X6_write tH_X6_write (by omega) (by decide) (cs1_sum cs1_nil (Nat.le_of_ble_eq_true rfl)) (by omega) (by omega) ?_
    refine ca_aload_n C dX4_append_24 rfl rfl ?_
    obtain ⟨x25, h25, hf⟩ := rob hf
    refine ca_getR C dX4_append_25 tcX4_f15 rfl rfl h25 ?_
    refine ca_aload_n C dX4_append_28 rfl rfl ?_
    obtain ⟨x29, h29, hf⟩ := rob hf
    refine ca_getI C dX4_append_29 tcX4_f22 rfl rfl h29 ?_
    refine ca_iload_n C dX4_append_32 rfl rfl ?_
    obtain ⟨q33, h33, hf⟩ := rob hf
    refine ca_callS C dX4_append_33 (mX6_write (cC_tr C) h33) rfl tX4_l44 tT_X6_write tZ6 tC_X6_write tH_X6_write (by omega) (by decide) (cs1_sum cs1_nil (Nat.le_of_ble_eq_true rfl)) (by omega) (by omega) ?_
    refine ca_aload_n C dX4_append_36 rfl rfl ?_
    refine ca_dup C dX4_append_37 (va_rf_cat _) ?_
    obtain ⟨x38, h38, hf⟩ := rob hf
    refine ca_getI C dX4_append_38 tcX4_f22 rfl rfl h38 ?_
    refine ca_iconst C dX4_append_41 (v := 1) (by decide) ?_
    refine ca_iadd C dX4_append_42 ?_
    obtain ⟨z43, h43, hf⟩ := rob hf
    refine ca_putI C dX4_append_43 tcX4_f22 nX4_2 rfl tI4_2 rfl h43 ?_
    refine ca_aload_n C dX4_append_46 rfl rfl ?_
    obtain ⟨x47, h47, hf⟩ := rob hf
    refine ca_getI C dX4_append_47 tcX4_f22 rfl rfl h47 ?_
    refine ca_iconst C dX4_append_50 (v := 1) (by decide) ?_
    refine ca_isub C dX4_append_51 ?_
    obtain rfl := Option.some.inj hf
    exact ca_iret C dX4_append_52 (by omega) (by omega)
  · replace hf := rif_n c7 hf
    refine ca_iconst C dX4_append_10 (v := (-1)) (by decide) ?_
    obtain rfl := Option.some.inj hf
    exact ca_iret C dX4_append_11 (by omega) (by omega)
set_option maxRecDepth 100000 in
set_option maxHeartbeats 4000000 in
theorem mX4_append {l : Launch} (hl : l.stackTraces = false) {G : cG} {o : Nat} {a0 : Int32} {a1 : Int32} {z : cS} {r : Int32 × cS} (hf : fX4_append o a0 a1 z = some r) : cM l G 1 yX4_append cX4_append 3 (some .int) [.ref o, .int a0, .int a1] z (.inl (some (.int r.1)), r.2, 0, 0) :=
  cM_of (lo0 := [some (va_rf (some o)), some (.int a0), some (.int a1)]) (by decide +kernel) rfl (cs1_q (cs1_i (cs1_i cs1_nil))) (Nat.le_of_ble_eq_true rfl) rfl hl (fun X hX _ C => bX4_append C o a0 a1 z hf)
set_option maxRecDepth 100000 in
set_option maxHeartbeats 4000000 in
theorem bX4_init {G : cG} {X : rX} {z0 : cS} {w : Unit} {z' : cS} {A B : Nat} (C : cC G X z0 RX4 1 cX4_init none 2 A B) (hin : X.2.2.2.2.2.2.2.2.1.name = "<init>") (o : Nat) (z : cS) {kc ks ra rb : Nat} (hf : fX4_init o  z = some (w, z', ra, rb)) (ha : A = kc + ra) (hb : B = ks + rb) : cAW false G X z0 (.inl (none), z', A, B) 1 0 [some (va_rf (some o))] [] z kc ks := by
  unfold fX4_init at hf
  refine ca_aload_n C dX4_init_0 rfl rfl ?_
  refine ca_objInit C dX4_init_1 rfl tX4_l3 tO_i tO_c (by omega) (cs1_sum cs1_nil (Nat.le_of_ble_eq_true rfl)) ?_
  refine ca_aload_n C dX4_init_4 rfl rfl ?_
  refine ca_sipush C dX4_init_5 (v := 200) (by decide) ?_
  obtain ⟨z8, h8, hf⟩ := rob hf
  obtain ⟨ra8, rb8, hg8, rfl, rfl⟩ := ause_spec hf
  replace hf := hg8
  refine ca_newaI C dX4_init_8 tAI h8 (N9 := 200) (by decide) (by omega) (by omega) ?_
  obtain ⟨z10, h10, hf⟩ := rob hf
  refine ca_putFR C hin dX4_init_10 tcX4_f9 uX4_f9 rfl rfl h10 ?_
  refine ca_aload_n C dX4_init_13 rfl rfl ?_
  refine ca_sipush C dX4_init_14 (v := 200) (by decide) ?_
  obtain ⟨z17, h17, hf⟩ := rob hf
  obtain ⟨ra17, rb17, hg17, rfl, rfl⟩ := ause_spec hf
  replace hf := hg17
  refine ca_newaI C dX4_init_17 tAI h17 (N9 := 200) (by decide) (by omega) (by omega) ?_
  obtain ⟨z19, h19, hf⟩ := rob hf
  refine ca_putFR C hin dX4_init_19 tcX4_f15 uX4_f15 rfl rfl h19 ?_
  refine ca_aload_n C dX4_init_22 rfl rfl ?_
  refine ca_iconst C dX4_init_23 (v := (-1)) (by decide) ?_
  refine ca_iconst C dX4_init_24 (v := (-1)) (by decide) ?_
  obtain ⟨c25, hc25, hf⟩ := rob hf
  obtain ⟨q25, h25, hf⟩ := rob hf
  refine ca_callV C dX4_init_25 (mX4_append (cC_tr C) h25) (crc_spec hc25) vw4 (by decide) rfl tX4_l18 tI_X4_append tS_X4_append tZ4 tC_X4_append tH_X4_append (by omega) (by decide) (cs1_sum cs1_nil (Nat.le_of_ble_eq_true rfl)) (by omega) (by omega) ?_
  refine ca_pop C dX4_init_28 rfl ?_
  refine ca_aload_n C dX4_init_29 rfl rfl ?_
  refine ca_iconst C dX4_init_30 (v := (-1)) (by decide) ?_
  refine ca_iconst C dX4_init_31 (v := (-1)) (by decide) ?_
  obtain ⟨c32, hc32, hf⟩ := rob hf
  obtain ⟨q32, h32, hf⟩ := rob hf
  refine ca_callV C dX4_init_32 (mX4_append (cC_tr C) h32) (crc_spec hc32) vw4 (by decide) rfl tX4_l18 tI_X4_append tS_X4_append tZ4 tC_X4_append tH_X4_append (by omega) (by decide) (cs1_sum cs1_nil (Nat.le_of_ble_eq_true rfl)) (by omega) (by omega) ?_
  refine ca_pop C dX4_init_35 rfl ?_
  cases hf
  exact ca_vret C dX4_init_36 (by omega) (by omega)
set_option maxRecDepth 100000 in
set_option maxHeartbeats 4000000 in
theorem mX4_init {l : Launch} (hl : l.stackTraces = false) {G : cG} {o : Nat} {z : cS} {w : Unit} {z' : cS} {A B : Nat} (hf : fX4_init o  z = some (w, z', A, B)) : cM l G 2 yX4_init cX4_init 1 none [.ref o] z (.inl (none), z', A, B) :=
  cM_of (lo0 := [some (va_rf (some o))]) (by decide +kernel) rfl (cs1_q cs1_nil) (Nat.le_of_ble_eq_true rfl) rfl hl (fun X hX hin C => bX4_init C hin o  z (kc := 0) (ks := 0) hf (Nat.zero_add _).symm (Nat.zero_add _).symm)
