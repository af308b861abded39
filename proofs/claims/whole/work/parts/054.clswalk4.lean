set_option maxRecDepth 100000 in
set_option maxHeartbeats 4000000 in
theorem bX6_firstMisfit_b34 {G : cG} {X : rX} {z0 : cS} {r : Int32 × cS} {fn : Nat} (C : cC G X z0 RX6 12 cX6_firstMisfit (some .int) (4 + (fn + 1)) 0 0) {self : Nat → Option Nat → Int32 → Int32 → Int32 → cS → Option (Int32 × cS)} (hself : ∀ (o : Nat) (a0 : Option Nat) (a1 : Int32) (a2 : Int32) (a3 : Int32) (z : cS) (r : Int32 × cS), self o a0 a1 a2 a3 z = some r → cM X.2.1 G (4 + fn) yX6_firstMisfit cX6_firstMisfit 12 (some .int) [.ref o, va_rf a0, .int a1, .int a2, .int a3] z (.inl (some (.int r.1)), r.2, 0, 0)) (o : Nat) (z : cS) (hf : fX6_firstMisfit_b34 self o  z = some r) : cAW false G X z0 (.inl (some (.int r.1)), r.2, 0, 0) 12 34 [none, none, none, none, none, none, none, none, none, none, none, none] [] z 0 0 := by
  unfold fX6_firstMisfit_b34 at hf
  refine ca_iconst C dX6_firstMisfit_34 (v := (-1)) (by decide) ?_
  obtain rfl := Option.some.inj hf
  exact ca_iret C dX6_firstMisfit_35 (by omega) (by omega)
set_option maxRecDepth 100000 in
set_option maxHeartbeats 4000000 in
theorem bX6_firstMisfit_b153 {G : cG} {X : rX} {z0 : cS} {r : Int32 × cS} {fn : Nat} (C : cC G X z0 RX6 12 cX6_firstMisfit (some .int) (4 + (fn + 1)) 0 0) {self : Nat → Option Nat → Int32 → Int32 → Int32 → cS → Option (Int32 × cS)} (hself : ∀ (o : Nat) (a0 : Option Nat) (a1 : Int32) (a2 : Int32) (a3 : Int32) (z : cS) (r : Int32 × cS), self o a0 a1 a2 a3 z = some r → cM X.2.1 G (4 + fn) yX6_firstMisfit cX6_firstMisfit 12 (some .int) [.ref o, va_rf a0, .int a1, .int a2, .int a3] z (.inl (some (.int r.1)), r.2, 0, 0)) (o : Nat) {rec39 : Option Nat → Int32 → Option Nat → Option Nat → Int32 → cS → Option (Int32 × cS)} (hrec39 : ∀ (l1 : Option Nat) (l4 : Int32) (l5 : Option Nat) (l6 : Option Nat) (l7 : Int32) (z : cS), rec39 l1 l4 l5 l6 l7 z = some r → cAW false G X z0 (.inl (some (.int r.1)), r.2, 0, 0) 12 39 [some (va_rf (some o)), some (va_rf l1), none, none, some (.int l4), some (va_rf l5), some (va_rf l6), some (.int l7), none, none, none, none] [] z 0 0) (l1 : Option Nat) (l4 : Int32) (l5 : Option Nat) (l6 : Option Nat) (l7 : Int32) (l8 : Int32) (l9 : Int32) (s0 : Int32) (z : cS) (hf : fX6_firstMisfit_b153 self o rec39 l1 l4 l5 l6 l7 l8 l9 s0 z = some r) : cAW false G X z0 (.inl (some (.int r.1)), r.2, 0, 0) 12 153 [some (va_rf (some o)), some (va_rf l1), none, none, some (.int l4), some (va_rf l5), some (va_rf l6), some (.int l7), some (.int l8), some (.int l9), none, none] [.int s0] z 0 0 := by
  unfold fX6_firstMisfit_b153 at hf
  refine ca_istore C dX6_firstMisfit_153 (by decide) ?_
  refine ca_iload C dX6_firstMisfit_155 rfl ?_
  refine ca_if_ne C dX6_firstMisfit_157 (tgt := 173) (by decide) (fun c157 => ?_) (fun c157 => ?_)
  · replace hf := rif_n c157 hf
    refine ca_iinc C dX6_firstMisfit_173 rfl (v := 1) (by decide) (by decide) ?_
    refine ca_goto C dX6_firstMisfit_176 (tgt := 39) (by decide) ?_
    refine ca_mask [true, true, false, false, true, true, true, true, false, false, false, false] ?_
    exact hrec39 _ _ _ _ _ _ hf
  · replace hf := rif_p c157 hf
    refine ca_bipush C dX6_firstMisfit_160 (v := 10) (by decide) ?_
    refine ca_iconst C dX6_firstMisfit_162 (v := 2) (by decide) ?_
    refine ca_iload C dX6_firstMisfit_163 rfl ?_
    refine ca_imul C dX6_firstMisfit_165 ?_
    refine ca_iconst C dX6_firstMisfit_166 (v := 2) (by decide) ?_
    refine ca_iadd C dX6_firstMisfit_167 ?_
    refine ca_imul C dX6_firstMisfit_168 ?_
    refine ca_iload C dX6_firstMisfit_169 rfl ?_
    refine ca_iadd C dX6_firstMisfit_171 ?_
    obtain rfl := Option.some.inj hf
    exact ca_iret C dX6_firstMisfit_172 (by omega) (by omega)
set_option maxRecDepth 100000 in
set_option maxHeartbeats 4000000 in
theorem bX6_firstMisfit_b39_body {G : cG} {X : rX} {z0 : cS} {r : Int32 × cS} {fn : Nat} (C : cC G X z0 RX6 12 cX6_firstMisfit (some .int) (4 + (fn + 1)) 0 0) {self : Nat → Option Nat → Int32 → Int32 → Int32 → cS → Option (Int32 × cS)} (hself : ∀ (o : Nat) (a0 : Option Nat) (a1 : Int32) (a2 : Int32) (a3 : Int32) (z : cS) (r : Int32 × cS), self o a0 a1 a2 a3 z = some r → cM X.2.1 G (4 + fn) yX6_firstMisfit cX6_firstMisfit 12 (some .int) [.ref o, va_rf a0, .int a1, .int a2, .int a3] z (.inl (some (.int r.1)), r.2, 0, 0)) (o : Nat) {rec39 : Option Nat → Int32 → Option Nat → Option Nat → Int32 → cS → Option (Int32 × cS)} (hrec39 : ∀ (l1 : Option Nat) (l4 : Int32) (l5 : Option Nat) (l6 : Option Nat) (l7 : Int32) (z : cS), rec39 l1 l4 l5 l6 l7 z = some r → cAW false G X z0 (.inl (some (.int r.1)), r.2, 0, 0) 12 39 [some (va_rf (some o)), some (va_rf l1), none, none, some (.int l4), some (va_rf l5), some (va_rf l6), some (.int l7), none, none, none, none] [] z 0 0) (l1 : Option Nat) (l4 : Int32) (l5 : Option Nat) (l6 : Option Nat) (l7 : Int32) (z : cS) (hf : fX6_firstMisfit_b39_body self o rec39 l1 l4 l5 l6 l7 z = some r) : cAW false G X z0 (.inl (some (.int r.1)), r.2, 0, 0) 12 39 [some (va_rf (some o)), some (va_rf l1), none, none, some (.int l4), some (va_rf l5), some (va_rf l6), some (.int l7), none, none, none, none] [] z 0 0 := by
  unfold fX6_firstMisfit_b39_body at hf
  refine ca_iload C dX6_firstMisfit_39 rfl ?_
  refine ca_aload C dX6_firstMisfit_41 rfl ?_
  obtain ⟨q43, hq43, hf⟩ := rob hf
  obtain ⟨x43, h43, hf⟩ := rob hf
  refine ca_getI C dX6_firstMisfit_43 tcX6_f116 rfl hq43 h43 ?_
  refine ca_icmp_ge C dX6_firstMisfit_46 (tgt := 179) (by decide) (fun c46 => ?_) (fun c46 => ?_)
  · replace hf := rif_p c46 hf
    refine ca_iconst C dX6_firstMisfit_179 (v := 0) (by decide) ?_
    obtain rfl := Option.some.inj hf
    exact ca_iret C dX6_firstMisfit_180 (by omega) (by omega)
  · replace hf := rif_n c46 hf
    refine ca_aload C dX6_firstMisfit_49 rfl ?_
    refine ca_iload C dX6_firstMisfit_51 rfl ?_
    refine ca_iconst C dX6_firstMisfit_53 (v := 0) (by decide) ?_
    obtain ⟨c54, hc54, hf⟩ := rob hf
    obtain ⟨q54, h54, hf⟩ := rob hf
    refine ca_callV C dX6_firstMisfit_54 (mX2_get (cC_tr C) h54) (crc_spec hc54) vw2 (by decide) rfl tX6_l120 tI_X2_get tS_X2_get tZ2 tC_X2_get tH_X2_get (by omega) (by decide) (cs1_sum cs1_nil (Nat.le_of_ble_eq_true rfl)) (by omega) (by omega) ?_
    refine ca_istore C dX6_firstMisfit_57 (by decide) ?_
    refine ca_aload C dX6_firstMisfit_59 rfl ?_
    refine ca_iload C dX6_firstMisfit_61 rfl ?_
    refine ca_iconst C dX6_firstMisfit_63 (v := 1) (by decide) ?_
    obtain ⟨c64, hc64, hf⟩ := rob hf
    obtain ⟨q64, h64, hf⟩ := rob hf
    refine ca_callV C dX6_firstMisfit_64 (mX2_get (cC_tr C) h64) (crc_spec hc64) vw2 (by decide) rfl tX6_l120 tI_X2_get tS_X2_get tZ2 tC_X2_get tH_X2_get (by omega) (by decide) (cs1_sum cs1_nil (Nat.le_of_ble_eq_true rfl)) (by omega) (by omega) ?_
    refine ca_istore C dX6_firstMisfit_67 (by decide) ?_
    refine ca_aload C dX6_firstMisfit_69 rfl ?_
    refine ca_iload C dX6_firstMisfit_71 rfl ?_
    refine ca_iload C dX6_firstMisfit_73 rfl ?_
    obtain ⟨c75, hc75, hf⟩ := rob hf
    obtain ⟨q75, h75, hf⟩ := rob hf
    refine ca_callV C dX6_firstMisfit_75 (mX2_placeOf (cC_tr C) h75) (crc_spec hc75) vw2 (by decide) rfl tX6_l131 tI_X2_placeOf tS_X2_placeOf tZ2 tC_X2_placeOf tH_X2_placeOf (by omega) (by decide) (cs1_sum cs1_nil (Nat.le_of_ble_eq_true rfl)) (by omega) (by omega) ?_
    refine ca_istore C dX6_firstMisfit_78 (by decide) ?_
    refine ca_iload C dX6_firstMisfit_80 rfl ?_
    refine ca_iconst C dX6_firstMisfit_82 (v := (-1)) (by decide) ?_
    refine ca_icmp_ne C dX6_firstMisfit_83 (tgt := 99) (by decide) (fun c83 => ?_) (fun c83 => ?_)
    · replace hf := rif_n c83 hf
      refine ca_iload C dX6_firstMisfit_99 rfl ?_
      refine ca_iconst C dX6_firstMisfit_101 (v := 2) (by decide) ?_
      refine ca_icmp_ne C dX6_firstMisfit_102 (tgt := 141) (by decide) (fun c102 => ?_) (fun c102 => ?_)
      · replace hf := rif_n c102 hf
        refine ca_aload_n C dX6_firstMisfit_141 rfl rfl ?_
        refine ca_aload C dX6_firstMisfit_142 rfl ?_
        refine ca_iload C dX6_firstMisfit_144 rfl ?_
        refine ca_aload C dX6_firstMisfit_146 rfl ?_
        refine ca_iload C dX6_firstMisfit_148 rfl ?_
        obtain ⟨c150, hc150, hf⟩ := rob hf
        obtain ⟨q150, h150, hf⟩ := rob hf
        refine ca_callV C dX6_firstMisfit_150 (mX6_fitsType (cC_tr C) h150) (crc_spec hc150) vw6 (by decide) rfl tX6_l195 tI_X6_fitsType tS_X6_fitsType tZ6 tC_X6_fitsType tH_X6_fitsType (by omega) (by decide) (cs1_sum cs1_nil (Nat.le_of_ble_eq_true rfl)) (by omega) (by omega) ?_
        refine ca_mask [true, true, false, false, true, true, true, true, true, true, false, false] ?_
        exact bX6_firstMisfit_b153 C hself o hrec39 _ _ _ _ _ _ _ _ _ hf
      · replace hf := rif_p c102 hf
        refine ca_aload_n C dX6_firstMisfit_105 rfl rfl ?_
        refine ca_aload_n C dX6_firstMisfit_106 rfl rfl ?_
        refine ca_aload C dX6_firstMisfit_107 rfl ?_
        refine ca_iload C dX6_firstMisfit_109 rfl ?_
        refine ca_iconst C dX6_firstMisfit_111 (v := 2) (by decide) ?_
        obtain ⟨c112, hc112, hf⟩ := rob hf
        obtain ⟨q112, h112, hf⟩ := rob hf
        refine ca_callV C dX6_firstMisfit_112 (mX2_get (cC_tr C) h112) (crc_spec hc112) vw2 (by decide) rfl tX6_l120 tI_X2_get tS_X2_get tZ2 tC_X2_get tH_X2_get (by omega) (by decide) (cs1_sum (cs1_r (cs1_r cs1_nil)) (Nat.le_of_ble_eq_true rfl)) (by omega) (by omega) ?_
        refine ca_aload C dX6_firstMisfit_115 rfl ?_
        refine ca_iload C dX6_firstMisfit_117 rfl ?_
        refine ca_iconst C dX6_firstMisfit_119 (v := 2) (by decide) ?_
        obtain ⟨c120, hc120, hf⟩ := rob hf
        obtain ⟨q120, h120, hf⟩ := rob hf
        refine ca_callV C dX6_firstMisfit_120 (mX2_get (cC_tr C) h120) (crc_spec hc120) vw2 (by decide) rfl tX6_l120 tI_X2_get tS_X2_get tZ2 tC_X2_get tH_X2_get (by omega) (by decide) (cs1_sum (cs1_i (cs1_r (cs1_r cs1_nil))) (Nat.le_of_ble_eq_true rfl)) (by omega) (by omega) ?_
        refine ca_iload C dX6_firstMisfit_123 rfl ?_
        refine ca_iconst C dX6_firstMisfit_125 (v := 1) (by decide) ?_
        refine ca_iadd C dX6_firstMisfit_126 ?_
        obtain ⟨c127, hc127, hf⟩ := rob hf
        obtain ⟨q127, h127, hf⟩ := rob hf
        refine ca_callV C dX6_firstMisfit_127 (hself _ _ _ _ _ _ _ h127) (crc_spec hc127) vw6 (by decide) rfl tX6_l183 tI_X6_firstMisfit tS_X6_firstMisfit tZ6 tC_X6_firstMisfit tH_X6_firstMisfit (by omega) (by decide) (cs1_sum cs1_nil (Nat.le_of_ble_eq_true rfl)) (by omega) (by omega) ?_
        refine ca_if_ne C dX6_firstMisfit_130 (tgt := 137) (by decide) (fun c130 => ?_) (fun c130 => ?_)
        · replace hf := rif_n c130 hf
          refine ca_iconst C dX6_firstMisfit_137 (v := 0) (by decide) ?_
          refine ca_goto C dX6_firstMisfit_138 (tgt := 153) (by decide) ?_
          refine ca_mask [true, true, false, false, true, true, true, true, true, true, false, false] ?_
          exact bX6_firstMisfit_b153 C hself o hrec39 _ _ _ _ _ _ _ _ _ hf
        · replace hf := rif_p c130 hf
          refine ca_iconst C dX6_firstMisfit_133 (v := 1) (by decide) ?_
          refine ca_goto C dX6_firstMisfit_134 (tgt := 153) (by decide) ?_
          refine ca_mask [true, true, false, false, true, true, true, true, true, true, false, false] ?_
          exact bX6_firstMisfit_b153 C hself o hrec39 _ _ _ _ _ _ _ _ _ hf
    · replace hf := rif_p c83 hf
      refine ca_bipush C dX6_firstMisfit_86 (v := 10) (by decide) ?_
      refine ca_iconst C dX6_firstMisfit_88 (v := 2) (by decide) ?_
      refine ca_iload C dX6_firstMisfit_89 rfl ?_
      refine ca_imul C dX6_firstMisfit_91 ?_
      refine ca_iconst C dX6_firstMisfit_92 (v := 1) (by decide) ?_
      refine ca_iadd C dX6_firstMisfit_93 ?_
      refine ca_imul C dX6_firstMisfit_94 ?_
      refine ca_iload C dX6_firstMisfit_95 rfl ?_
      refine ca_iadd C dX6_firstMisfit_97 ?_
      obtain rfl := Option.some.inj hf
      exact ca_iret C dX6_firstMisfit_98 (by omega) (by omega)
set_option maxRecDepth 100000 in
set_option maxHeartbeats 4000000 in
theorem bX6_firstMisfit_b39 {G : cG} {X : rX} {z0 : cS} {r : Int32 × cS} {fn : Nat} (C : cC G X z0 RX6 12 cX6_firstMisfit (some .int) (4 + (fn + 1)) 0 0) {self : Nat → Option Nat → Int32 → Int32 → Int32 → cS → Option (Int32 × cS)} (hself : ∀ (o : Nat) (a0 : Option Nat) (a1 : Int32) (a2 : Int32) (a3 : Int32) (z : cS) (r : Int32 × cS), self o a0 a1 a2 a3 z = some r → cM X.2.1 G (4 + fn) yX6_firstMisfit cX6_firstMisfit 12 (some .int) [.ref o, va_rf a0, .int a1, .int a2, .int a3] z (.inl (some (.int r.1)), r.2, 0, 0)) (o : Nat) : ∀ (n : Nat) (l1 : Option Nat) (l4 : Int32) (l5 : Option Nat) (l6 : Option Nat) (l7 : Int32) (z : cS), fX6_firstMisfit_b39 self o n l1 l4 l5 l6 l7 z = some r → cAW false G X z0 (.inl (some (.int r.1)), r.2, 0, 0) 12 39 [some (va_rf (some o)), some (va_rf l1), none, none, some (.int l4), some (va_rf l5), some (va_rf l6), some (.int l7), none, none, none, none] [] z 0 0 := by
  intro n
  induction n with
  | zero => intro l1 l4 l5 l6 l7 z hf; cases hf
  | succ n ih => intro l1 l4 l5 l6 l7 z hf; exact bX6_firstMisfit_b39_body C hself o (fun l1 l4 l5 l6 l7 z h => ih l1 l4 l5 l6 l7 z h) l1 l4 l5 l6 l7 z hf
set_option maxRecDepth 100000 in
set_option maxHeartbeats 4000000 in
theorem bX6_firstMisfit {G : cG} {X : rX} {z0 : cS} {r : Int32 × cS} {fn : Nat} (C : cC G X z0 RX6 12 cX6_firstMisfit (some .int) (4 + (fn + 1)) 0 0) {self : Nat → Option Nat → Int32 → Int32 → Int32 → cS → Option (Int32 × cS)} (hself : ∀ (o : Nat) (a0 : Option Nat) (a1 : Int32) (a2 : Int32) (a3 : Int32) (z : cS) (r : Int32 × cS), self o a0 a1 a2 a3 z = some r → cM X.2.1 G (4 + fn) yX6_firstMisfit cX6_firstMisfit 12 (some .int) [.ref o, va_rf a0, .int a1, .int a2, .int a3] z (.inl (some (.int r.1)), r.2, 0, 0)) (o : Nat) (a0 : Option Nat) (a1 : Int32) (a2 : Int32) (a3 : Int32) (z : cS) (hf : fX6_firstMisfit_fun self o a0 a1 a2 a3 z = some r) : cAW false G X z0 (.inl (some (.int r.1)), r.2, 0, 0) 12 0 [some (va_rf (some o)), some (va_rf a0), some (.int a1), some (.int a2), some (.int a3), none, none, none, none, none, none, none] [] z 0 0 := by
  unfold fX6_firstMisfit_fun at hf
  refine ca_aload_n C dX6_firstMisfit_0 rfl rfl ?_
  refine ca_iload_n C dX6_firstMisfit_1 rfl rfl ?_
  obtain ⟨c2, hc2, hf⟩ := rob hf
  obtain ⟨q2, h2, hf⟩ := rob hf
  refine ca_callV C dX6_firstMisfit_2 (mX3_at (cC_tr C) h2) (crc_spec hc2) vw3 (by decide) rfl tX6_l103 tI_X3_at tS_X3_at tZ3 tC_X3_at tH_X3_at (by omega) (by decide) (cs1_sum cs1_nil (Nat.le_of_ble_eq_true rfl)) (by omega) (by omega) ?_
  refine ca_astore C dX6_firstMisfit_5 (by decide) ?_
  refine ca_aload_n C dX6_firstMisfit_7 rfl rfl ?_
  obtain ⟨x8, h8, hf⟩ := rob hf
  refine ca_getR C dX6_firstMisfit_8 tcX6_f27 rfl rfl h8 ?_
  refine ca_iload_n C dX6_firstMisfit_11 rfl rfl ?_
  obtain ⟨c12, hc12, hf⟩ := rob hf
  obtain ⟨q12, h12, hf⟩ := rob hf
  refine ca_callV C dX6_firstMisfit_12 (mX3_at (cC_tr C) h12) (crc_spec hc12) vw3 (by decide) rfl tX6_l103 tI_X3_at tS_X3_at tZ3 tC_X3_at tH_X3_at (by omega) (by decide) (cs1_sum cs1_nil (Nat.le_of_ble_eq_true rfl)) (by omega) (by omega) ?_
  refine ca_astore C dX6_firstMisfit_15 (by decide) ?_
  refine ca_aload C dX6_firstMisfit_17 rfl ?_
  refine ca_ifnull C dX6_firstMisfit_19 (tgt := 34) (by decide) (fun c19 => ?_) (fun c19 => ?_)
  · replace hf := rif_p c19 hf
    refine ca_mask [false, false, false, false, false, false, false, false, false, false, false, false] ?_
    exact bX6_firstMisfit_b34 C hself o  _ hf
  · replace hf := rif_n c19 hf
    refine ca_aload C dX6_firstMisfit_22 rfl ?_
    refine ca_ifnull C dX6_firstMisfit_24 (tgt := 34) (by decide) (fun c24 => ?_) (fun c24 => ?_)
    · replace hf := rif_p c24 hf
      refine ca_mask [false, false, false, false, false, false, false, false, false, false, false, false] ?_
      exact bX6_firstMisfit_b34 C hself o  _ hf
    · replace hf := rif_n c24 hf
      refine ca_iload C dX6_firstMisfit_27 rfl ?_
      refine ca_bipush C dX6_firstMisfit_29 (v := 20) (by decide) ?_
      refine ca_icmp_le C dX6_firstMisfit_31 (tgt := 36) (by decide) (fun c31 => ?_) (fun c31 => ?_)
      · replace hf := rif_p c31 hf
        refine ca_iconst C dX6_firstMisfit_36 (v := 0) (by decide) ?_
        refine ca_istore C dX6_firstMisfit_37 (by decide) ?_
        refine ca_mask [true, true, false, false, true, true, true, true, false, false, false, false] ?_
        exact bX6_firstMisfit_b39 C hself o _ _ _ _ _ _ _ hf
      · replace hf := rif_n c31 hf
        refine ca_mask [false, false, false, false, false, false, false, false, false, false, false, false] ?_
        exact bX6_firstMisfit_b34 C hself o  _ hf
set_option maxRecDepth 100000 in
set_option maxHeartbeats 4000000 in
theorem mX6_firstMisfit {l : Launch} (hl : l.stackTraces = false) {G : cG} : ∀ (fn : Nat) (o : Nat) (a0 : Option Nat) (a1 : Int32) (a2 : Int32) (a3 : Int32) (z : cS) (r : Int32 × cS) (hf : fX6_firstMisfit fn o a0 a1 a2 a3 z = some r), cM l G (4 + fn) yX6_firstMisfit cX6_firstMisfit 12 (some .int) [.ref o, va_rf a0, .int a1, .int a2, .int a3] z (.inl (some (.int r.1)), r.2, 0, 0) := by
  intro fn
  induction fn with
  | zero => intro o a0 a1 a2 a3 z r hf; cases hf
  | succ fn ih =>
    intro o a0 a1 a2 a3 z r hf
    exact cM_of (lo0 := [some (va_rf (some o)), some (va_rf a0), some (.int a1), some (.int a2), some (.int a3), none, none, none, none, none, none, none]) (by decide +kernel) rfl (cs1_q (cs1_r (cs1_i (cs1_i (cs1_i cs1_nil))))) (Nat.le_of_ble_eq_true rfl) rfl hl (fun X hX _ C => bX6_firstMisfit C (fun o a0 a1 a2 a3 z r h => by rw [hX]; exact ih o a0 a1 a2 a3 z r h) o a0 a1 a2 a3 z hf)
set_option maxRecDepth 100000 in
set_option maxHeartbeats 4000000 in
theorem bX6_match {G : cG} {X : rX} {z0 : cS} {w : Int32 ⊕ Nat} {z' : cS} {A B : Nat} (C : cC G X z0 RX6 3 cX6_match (some .int) 35 A B) (o : Nat) (a0 : Int32) (a1 : Int32) (z : cS) {kc ks ra rb : Nat} (hf : fX6_match o a0 a1 z = some (w, z', ra, rb)) (ha : A = kc + ra) (hb : B = ks + rb) : cAW true G X z0 (cOi w, z', A, B) 3 0 [some (va_rf (some o)), some (.int a0), some (.int a1)] [] z kc ks := by
  unfold fX6_match at hf
  refine ca_aload_n C dX6_match_0 rfl rfl ?_
  obtain ⟨x1, h1, hf⟩ := rob hf
  refine ca_getR C dX6_match_1 tcX6_f23 rfl rfl h1 ?_
  refine ca_iload_n C dX6_match_4 rfl rfl ?_
  obtain ⟨c5, hc5, hf⟩ := rob hf
  obtain ⟨q5, h5, hf⟩ := rob hf
  refine ca_callV C dX6_match_5 (mX3_at (cC_tr C) h5) (crc_spec hc5) vw3 (by decide) rfl tX6_l103 tI_X3_at tS_X3_at tZ3 tC_X3_at tH_X3_at (by omega) (by decide) (cs1_sum cs1_nil (Nat.le_of_ble_eq_true rfl)) (by omega) (by omega) ?_
  rcases tbind_spec hf with ⟨e8, h8, rfl⟩ | ⟨v8, z8, ra8, rb8, sa8, sb8, h8, hg8, rfl, rfl⟩
  · exact ca_callXSt C dX6_match_8 (mX6_needRow (cC_tr C) h8) rfl tX6_m107 tT_X6_needRow tZ6 tC_X6_needRow tH_X6_needRow (by omega) (by decide) (cs1_sum cs1_nil (Nat.le_of_ble_eq_true rfl)) (by omega) (by omega)
  replace hf := hg8
  refine ca_callXSr C dX6_match_8 (mX6_needRow (cC_tr C) h8) rfl tX6_m107 tT_X6_needRow tZ6 tC_X6_needRow tH_X6_needRow (by omega) (by decide) (cs1_sum cs1_nil (Nat.le_of_ble_eq_true rfl)) (by omega) (by omega) ?_
  refine ca_aload_n C dX6_match_11 rfl rfl ?_
  obtain ⟨x12, h12, hf⟩ := rob hf
  refine ca_getR C dX6_match_12 tcX6_f27 rfl rfl h12 ?_
  refine ca_iload_n C dX6_match_15 rfl rfl ?_
  obtain ⟨c16, hc16, hf⟩ := rob hf
  obtain ⟨q16, h16, hf⟩ := rob hf
  refine ca_callV C dX6_match_16 (mX3_at (cC_tr C) h16) (crc_spec hc16) vw3 (by decide) rfl tX6_l103 tI_X3_at tS_X3_at tZ3 tC_X3_at tH_X3_at (by omega) (by decide) (cs1_sum cs1_nil (Nat.le_of_ble_eq_true rfl)) (by omega) (by omega) ?_
  rcases tbind_spec hf with ⟨e19, h19, rfl⟩ | ⟨v19, z19, ra19, rb19, sa19, sb19, h19, hg19, rfl, rfl⟩
  · exact ca_callXSt C dX6_match_19 (mX6_needRow (cC_tr C) h19) rfl tX6_m107 tT_X6_needRow tZ6 tC_X6_needRow tH_X6_needRow (by omega) (by decide) (cs1_sum cs1_nil (Nat.le_of_ble_eq_true rfl)) (by omega) (by omega)
  replace hf := hg19
  refine ca_callXSr C dX6_match_19 (mX6_needRow (cC_tr C) h19) rfl tX6_m107 tT_X6_needRow tZ6 tC_X6_needRow tH_X6_needRow (by omega) (by decide) (cs1_sum cs1_nil (Nat.le_of_ble_eq_true rfl)) (by omega) (by omega) ?_
  refine ca_aload_n C dX6_match_22 rfl rfl ?_
  refine ca_aload_n C dX6_match_23 rfl rfl ?_
  obtain ⟨x24, h24, hf⟩ := rob hf
  refine ca_getR C dX6_match_24 tcX6_f23 rfl rfl h24 ?_
  refine ca_iload_n C dX6_match_27 rfl rfl ?_
  refine ca_iload_n C dX6_match_28 rfl rfl ?_
  refine ca_iconst C dX6_match_29 (v := 0) (by decide) ?_
  obtain ⟨c30, hc30, hf⟩ := rob hf
  obtain ⟨q30, h30, hf⟩ := rob hf
  refine ca_callV C dX6_match_30 (mX6_firstMisfit (cC_tr C) _ _ _ _ _ _ _ _ h30) (crc_spec hc30) vw6 (by decide) rfl tX6_l183 tI_X6_firstMisfit tS_X6_firstMisfit tZ6 tC_X6_firstMisfit tH_X6_firstMisfit (by omega) (by decide) (cs1_sum cs1_nil (Nat.le_of_ble_eq_true rfl)) (by omega) (by omega) ?_
  cases hf
  exact ca_iret C dX6_match_33 (by omega) (by omega)
set_option maxRecDepth 100000 in
set_option maxHeartbeats 4000000 in
theorem mX6_match {l : Launch} (hl : l.stackTraces = false) {G : cG} {o : Nat} {a0 : Int32} {a1 : Int32} {z : cS} {w : Int32 ⊕ Nat} {z' : cS} {A B : Nat} (hf : fX6_match o a0 a1 z = some (w, z', A, B)) : cMx l G 35 yX6_match cX6_match 3 (some .int) [.ref o, .int a0, .int a1] z (cOi w, z', A, B) :=
  cMx_of (lo0 := [some (va_rf (some o)), some (.int a0), some (.int a1)]) (by decide +kernel) rfl (cs1_q (cs1_i (cs1_i cs1_nil))) (Nat.le_of_ble_eq_true rfl) rfl hl (fun X hX C => bX6_match C o a0 a1 z (kc := 0) (ks := 0) hf (Nat.zero_add _).symm (Nat.zero_add _).symm)
set_option maxRecDepth 100000 in
set_option maxHeartbeats 4000000 in
theorem bX6_typeTold_b31 {G : cG} {X : rX} {z0 : cS} {r : Int32 × cS} (C : cC G X z0 RX6 4 cX6_typeTold (some .int) 3 0 0) (o : Nat) (s0 : Int32) (z : cS) (hf : fX6_typeTold_b31 o s0 z = some r) : cAW false G X z0 (.inl (some (.int r.1)), r.2, 0, 0) 4 31 [none, none, none, none] [.int s0] z 0 0 := by
  unfold fX6_typeTold_b31 at hf
  obtain rfl := Option.some.inj hf
  exact ca_iret C dX6_typeTold_31 (by omega) (by omega)
set_option maxRecDepth 100000 in
set_option maxHeartbeats 4000000 in
theorem bX6_typeTold {G : cG} {X : rX} {z0 : cS} {r : Int32 × cS} (C : cC G X z0 RX6 4 cX6_typeTold (some .int) 3 0 0) (o : Nat) (a0 : Option Nat) (a1 : Int32) (a2 : Int32) (z : cS) (hf : fX6_typeTold o a0 a1 a2 z = some r) : cAW false G X z0 (.inl (some (.int r.1)), r.2, 0, 0) 4 0 [some (va_rf (some o)), some (va_rf a0), some (.int a1), some (.int a2)] [] z 0 0 := by
  unfold fX6_typeTold at hf
  refine ca_iload_n C dX6_typeTold_0 rfl rfl ?_
  refine ca_bipush C dX6_typeTold_1 (v := (-100)) (by decide) ?_
  refine ca_icmp_ne C dX6_typeTold_3 (tgt := 14) (by decide) (fun c3 => ?_) (fun c3 => ?_)
  · replace hf := rif_n c3 hf
    refine ca_aload_n C dX6_typeTold_14 rfl rfl ?_
    obtain ⟨x15, h15, hf⟩ := rob hf
    refine ca_getR C dX6_typeTold_15 tcX6_f12 rfl rfl h15 ?_
    refine ca_aload_n C dX6_typeTold_18 rfl rfl ?_
    refine ca_iload_n C dX6_typeTold_19 rfl rfl ?_
    obtain ⟨c20, hc20, hf⟩ := rob hf
    obtain ⟨q20, h20, hf⟩ := rob hf
    refine ca_callV C dX6_typeTold_20 (mX2_typeOf (cC_tr C) h20) (crc_spec hc20) vw2 (by decide) rfl tX6_l199 tI_X2_typeOf tS_X2_typeOf tZ2 tC_X2_typeOf tH_X2_typeOf (by omega) (by decide) (cs1_sum (cs1_r cs1_nil) (Nat.le_of_ble_eq_true rfl)) (by omega) (by omega) ?_
    refine ca_aload_n C dX6_typeTold_23 rfl rfl ?_
    refine ca_iload_n C dX6_typeTold_24 rfl rfl ?_
    obtain ⟨c25, hc25, hf⟩ := rob hf
    obtain ⟨q25, h25, hf⟩ := rob hf
    refine ca_callV C dX6_typeTold_25 (mX2_typeOf (cC_tr C) h25) (crc_spec hc25) vw2 (by decide) rfl tX6_l199 tI_X2_typeOf tS_X2_typeOf tZ2 tC_X2_typeOf tH_X2_typeOf (by omega) (by decide) (cs1_sum (cs1_i (cs1_r cs1_nil)) (Nat.le_of_ble_eq_true rfl)) (by omega) (by omega) ?_
    obtain ⟨c28, hc28, hf⟩ := rob hf
    obtain ⟨q28, h28, hf⟩ := rob hf
    refine ca_callV C dX6_typeTold_28 (mX4_arrowOf (cC_tr C) h28) (crc_spec hc28) vw4 (by decide) rfl tX6_l63 tI_X4_arrowOf tS_X4_arrowOf tZ4 tC_X4_arrowOf tH_X4_arrowOf (by omega) (by decide) (cs1_sum cs1_nil (Nat.le_of_ble_eq_true rfl)) (by omega) (by omega) ?_
    refine ca_mask [false, false, false, false] ?_
    exact bX6_typeTold_b31 C o _ _ hf
  · replace hf := rif_p c3 hf
    refine ca_aload_n C dX6_typeTold_6 rfl rfl ?_
    refine ca_iload_n C dX6_typeTold_7 rfl rfl ?_
    obtain ⟨c8, hc8, hf⟩ := rob hf
    obtain ⟨q8, h8, hf⟩ := rob hf
    refine ca_callV C dX6_typeTold_8 (mX2_typeOf (cC_tr C) h8) (crc_spec hc8) vw2 (by decide) rfl tX6_l199 tI_X2_typeOf tS_X2_typeOf tZ2 tC_X2_typeOf tH_X2_typeOf (by omega) (by decide) (cs1_sum cs1_nil (Nat.le_of_ble_eq_true rfl)) (by omega) (by omega) ?_
    refine ca_goto C dX6_typeTold_11 (tgt := 31) (by decide) ?_
    refine ca_mask [false, false, false, false] ?_
    exact bX6_typeTold_b31 C o _ _ hf
set_option maxRecDepth 100000 in
set_option maxHeartbeats 4000000 in
theorem mX6_typeTold {l : Launch} (hl : l.stackTraces = false) {G : cG} {o : Nat} {a0 : Option Nat} {a1 : Int32} {a2 : Int32} {z : cS} {r : Int32 × cS} (hf : fX6_typeTold o a0 a1 a2 z = some r) : cM l G 3 yX6_typeTold cX6_typeTold 4 (some .int) [.ref o, va_rf a0, .int a1, .int a2] z (.inl (some (.int r.1)), r.2, 0, 0) :=
  cM_of (lo0 := [some (va_rf (some o)), some (va_rf a0), some (.int a1), some (.int a2)]) (by decide +kernel) rfl (cs1_q (cs1_r (cs1_i (cs1_i cs1_nil)))) (Nat.le_of_ble_eq_true rfl) rfl hl (fun X hX _ C => bX6_typeTold C o a0 a1 a2 z hf)
set_option maxRecDepth 100000 in
set_option maxHeartbeats 4000000 in
theorem bX6_remake_b37 {G : cG} {X : rX} {z0 : cS} {w : Int32} {z' : cS} {A B : Nat} {fn : Nat} (C : cC G X z0 RX6 16 cX6_remake (some .int) (4 + (fn + 1)) A B) {self : Nat → Int32 → Int32 → Int32 → Int32 → Int32 → cS → Option (Int32 × cS × Nat × Nat)} (hself : ∀ (o : Nat) (a0 : Int32) (a1 : Int32) (a2 : Int32) (a3 : Int32) (a4 : Int32) (z : cS) (w : Int32) (z' : cS) (ra rb : Nat), self o a0 a1 a2 a3 a4 z = some (w, z', ra, rb) → cM X.2.1 G (4 + fn) yX6_remake cX6_remake 16 (some .int) [.ref o, .int a0, .int a1, .int a2, .int a3, .int a4] z (.inl (some (.int w)), z', ra, rb)) (o : Nat) (z : cS) {kc ks ra rb : Nat} (hf : fX6_remake_b37 self o  z = some (w, z', ra, rb)) (ha : A = kc + ra) (hb : B = ks + rb) : cAW false G X z0 (.inl (some (.int w)), z', A, B) 16 37 [none, none, none, none, none, none, none, none, none, none, none, none, none, none, none, none] [] z kc ks := by
  unfold fX6_remake_b37 at hf
  refine ca_iconst C dX6_remake_37 (v := (-1)) (by decide) ?_
  cases hf
  exact ca_iret C dX6_remake_38 (by omega) (by omega)
set_option maxRecDepth 100000 in
set_option maxHeartbeats 4000000 in
theorem bX6_remake_b223 {G : cG} {X : rX} {z0 : cS} {w : Int32} {z' : cS} {A B : Nat} {fn : Nat} (C : cC G X z0 RX6 16 cX6_remake (some .int) (4 + (fn + 1)) A B) {self : Nat → Int32 → Int32 → Int32 → Int32 → Int32 → cS → Option (Int32 × cS × Nat × Nat)} (hself : ∀ (o : Nat) (a0 : Int32) (a1 : Int32) (a2 : Int32) (a3 : Int32) (a4 : Int32) (z : cS) (w : Int32) (z' : cS) (ra rb : Nat), self o a0 a1 a2 a3 a4 z = some (w, z', ra, rb) → cM X.2.1 G (4 + fn) yX6_remake cX6_remake 16 (some .int) [.ref o, .int a0, .int a1, .int a2, .int a3, .int a4] z (.inl (some (.int w)), z', ra, rb)) (o : Nat) {rec72 : Int32 → Int32 → Option Nat → Option Nat → Int32 → Option Nat → Int32 → Int32 → cS → Option (Int32 × cS × Nat × Nat)} (hrec72 : ∀ (l4 : Int32) (l5 : Int32) (l6 : Option Nat) (l7 : Option Nat) (l8 : Int32) (l9 : Option Nat) (l10 : Int32) (l11 : Int32) (z : cS) (kc ks ra rb : Nat), rec72 l4 l5 l6 l7 l8 l9 l10 l11 z = some (w, z', ra, rb) → A = kc + ra → B = ks + rb → cAW false G X z0 (.inl (some (.int w)), z', A, B) 16 72 [some (va_rf (some o)), none, none, none, some (.int l4), some (.int l5), some (va_rf l6), some (va_rf l7), some (.int l8), some (va_rf l9), some (.int l10), some (.int l11), none, none, none, none] [] z kc ks) (l4 : Int32) (l5 : Int32) (l6 : Option Nat) (l7 : Option Nat) (l8 : Int32) (l9 : Option Nat) (l10 : Int32) (l11 : Int32) (l12 : Int32) (l13 : Int32) (l14 : Int32) (l15 : Int32) (z : cS) {kc ks ra rb : Nat} (hf : fX6_remake_b223 self o rec72 l4 l5 l6 l7 l8 l9 l10 l11 l12 l13 l14 l15 z = some (w, z', ra, rb)) (ha : A = kc + ra) (hb : B = ks + rb) : cAW false G X z0 (.inl (some (.int w)), z', A, B) 16 223 [some (va_rf (some o)), none, none, none, some (.int l4), some (.int l5), some (va_rf l6), some (va_rf l7), some (.int l8), some (va_rf l9), some (.int l10), some (.int l11), some (.int l12), some (.int l13), some (.int l14), some (.int l15)] [] z kc ks := by
  unfold fX6_remake_b223 at hf
  refine ca_iload C dX6_remake_223 rfl ?_
  refine ca_if_ge C dX6_remake_225 (tgt := 230) (by decide) (fun c225 => ?_) (fun c225 => ?_)
  · replace hf := rif_p c225 hf
    refine ca_aload C dX6_remake_230 rfl ?_
    refine ca_iload C dX6_remake_232 rfl ?_
    refine ca_iload C dX6_remake_234 rfl ?_
    refine ca_iload C dX6_remake_236 rfl ?_
    refine ca_bipush C dX6_remake_238 (v := (-100)) (by decide) ?_
    refine ca_aload C dX6_remake_240 rfl ?_
    refine ca_iload C dX6_remake_242 rfl ?_
    refine ca_iconst C dX6_remake_244 (v := 4) (by decide) ?_
    obtain ⟨c245, hc245, hf⟩ := rob hf
    obtain ⟨q245, h245, hf⟩ := rob hf
    refine ca_callV C dX6_remake_245 (mX2_get (cC_tr C) h245) (crc_spec hc245) vw2 (by decide) rfl tX6_l120 tI_X2_get tS_X2_get tZ2 tC_X2_get tH_X2_get (by omega) (by decide) (cs1_sum (cs1_i (cs1_i (cs1_i (cs1_i (cs1_r cs1_nil))))) (Nat.le_of_ble_eq_true rfl)) (by omega) (by omega) ?_
    refine ca_iconst C dX6_remake_248 (v := (-1)) (by decide) ?_
    obtain ⟨c249, hc249, hf⟩ := rob hf
    obtain ⟨q249, h249, hf⟩ := rob hf
    refine ca_callV C dX6_remake_249 (mX2_add (cC_tr C) h249) (crc_spec hc249) vw2 (by decide) rfl tX6_l139 tI_X2_add tS_X2_add tZ2 tC_X2_add tH_X2_add (by omega) (by decide) (cs1_sum cs1_nil (Nat.le_of_ble_eq_true rfl)) (by omega) (by omega) ?_
    refine ca_iinc C dX6_remake_252 rfl (v := 1) (by decide) (by decide) ?_
    refine ca_goto C dX6_remake_255 (tgt := 72) (by decide) ?_
    refine ca_mask [true, false, false, false, true, true, true, true, true, true, true, true, false, false, false, false] ?_
    exact hrec72 _ _ _ _ _ _ _ _ _ _ _ _ _ hf (by omega) (by omega)
  · replace hf := rif_n c225 hf
    refine ca_iconst C dX6_remake_228 (v := (-1)) (by decide) ?_
    cases hf
    exact ca_iret C dX6_remake_229 (by omega) (by omega)
set_option maxRecDepth 100000 in
set_option maxHeartbeats 4000000 in
theorem bX6_remake_b194 {G : cG} {X : rX} {z0 : cS} {w : Int32} {z' : cS} {A B : Nat} {fn : Nat} (C : cC G X z0 RX6 16 cX6_remake (some .int) (4 + (fn + 1)) A B) {self : Nat → Int32 → Int32 → Int32 → Int32 → Int32 → cS → Option (Int32 × cS × Nat × Nat)} (hself : ∀ (o : Nat) (a0 : Int32) (a1 : Int32) (a2 : Int32) (a3 : Int32) (a4 : Int32) (z : cS) (w : Int32) (z' : cS) (ra rb : Nat), self o a0 a1 a2 a3 a4 z = some (w, z', ra, rb) → cM X.2.1 G (4 + fn) yX6_remake cX6_remake 16 (some .int) [.ref o, .int a0, .int a1, .int a2, .int a3, .int a4] z (.inl (some (.int w)), z', ra, rb)) (o : Nat) {rec72 : Int32 → Int32 → Option Nat → Option Nat → Int32 → Option Nat → Int32 → Int32 → cS → Option (Int32 × cS × Nat × Nat)} (hrec72 : ∀ (l4 : Int32) (l5 : Int32) (l6 : Option Nat) (l7 : Option Nat) (l8 : Int32) (l9 : Option Nat) (l10 : Int32) (l11 : Int32) (z : cS) (kc ks ra rb : Nat), rec72 l4 l5 l6 l7 l8 l9 l10 l11 z = some (w, z', ra, rb) → A = kc + ra → B = ks + rb → cAW false G X z0 (.inl (some (.int w)), z', A, B) 16 72 [some (va_rf (some o)), none, none, none, some (.int l4), some (.int l5), some (va_rf l6), some (va_rf l7), some (.int l8), some (va_rf l9), some (.int l10), some (.int l11), none, none, none, none] [] z kc ks) (l4 : Int32) (l5 : Int32) (l6 : Option Nat) (l7 : Option Nat) (l8 : Int32) (l9 : Option Nat) (l10 : Int32) (l11 : Int32) (l12 : Int32) (l13 : Int32) (l14 : Int32) (s0 : Int32) (z : cS) {kc ks ra rb : Nat} (hf : fX6_remake_b194 self o rec72 l4 l5 l6 l7 l8 l9 l10 l11 l12 l13 l14 s0 z = some (w, z', ra, rb)) (ha : A = kc + ra) (hb : B = ks + rb) : cAW false G X z0 (.inl (some (.int w)), z', A, B) 16 194 [some (va_rf (some o)), none, none, none, some (.int l4), some (.int l5), some (va_rf l6), some (va_rf l7), some (.int l8), some (va_rf l9), some (.int l10), some (.int l11), some (.int l12), some (.int l13), some (.int l14), none] [.int s0] z kc ks := by
  unfold fX6_remake_b194 at hf
  refine ca_istore C dX6_remake_194 (by decide) ?_
  refine ca_goto C dX6_remake_196 (tgt := 223) (by decide) ?_
  exact bX6_remake_b223 C hself o hrec72 _ _ _ _ _ _ _ _ _ _ _ _ _ hf (by omega) (by omega)
set_option maxRecDepth 100000 in
set_option maxHeartbeats 4000000 in
theorem bX6_remake_b72_body {G : cG} {X : rX} {z0 : cS} {w : Int32} {z' : cS} {A B : Nat} {fn : Nat} (C : cC G X z0 RX6 16 cX6_remake (some .int) (4 + (fn + 1)) A B) {self : Nat → Int32 → Int32 → Int32 → Int32 → Int32 → cS → Option (Int32 × cS × Nat × Nat)} (hself : ∀ (o : Nat) (a0 : Int32) (a1 : Int32) (a2 : Int32) (a3 : Int32) (a4 : Int32) (z : cS) (w : Int32) (z' : cS) (ra rb : Nat), self o a0 a1 a2 a3 a4 z = some (w, z', ra, rb) → cM X.2.1 G (4 + fn) yX6_remake cX6_remake 16 (some .int) [.ref o, .int a0, .int a1, .int a2, .int a3, .int a4] z (.inl (some (.int w)), z', ra, rb)) (o : Nat) {rec72 : Int32 → Int32 → Option Nat → Option Nat → Int32 → Option Nat → Int32 → Int32 → cS → Option (Int32 × cS × Nat × Nat)} (hrec72 : ∀ (l4 : Int32) (l5 : Int32) (l6 : Option Nat) (l7 : Option Nat) (l8 : Int32) (l9 : Option Nat) (l10 : Int32) (l11 : Int32) (z : cS) (kc ks ra rb : Nat), rec72 l4 l5 l6 l7 l8 l9 l10 l11 z = some (w, z', ra, rb) → A = kc + ra → B = ks + rb → cAW false G X z0 (.inl (some (.int w)), z', A, B) 16 72 [some (va_rf (some o)), none, none, none, some (.int l4), some (.int l5), some (va_rf l6), some (va_rf l7), some (.int l8), some (va_rf l9), some (.int l10), some (.int l11), none, none, none, none] [] z kc ks) (l4 : Int32) (l5 : Int32) (l6 : Option Nat) (l7 : Option Nat) (l8 : Int32) (l9 : Option Nat) (l10 : Int32) (l11 : Int32) (z : cS) {kc ks ra rb : Nat} (hf : fX6_remake_b72_body self o rec72 l4 l5 l6 l7 l8 l9 l10 l11 z = some (w, z', ra, rb)) (ha : A = kc + ra) (hb : B = ks + rb) : cAW false G X z0 (.inl (some (.int w)), z', A, B) 16 72 [some (va_rf (some o)), none, none, none, some (.int l4), some (.int l5), some (va_rf l6), some (va_rf l7), some (.int l8), some (va_rf l9), some (.int l10), some (.int l11), none, none, none, none] [] z kc ks := by
  unfold fX6_remake_b72_body at hf
  refine ca_iload C dX6_remake_72 rfl ?_
  refine ca_aload C dX6_remake_74 rfl ?_
  obtain ⟨q76, hq76, hf⟩ := rob hf
  obtain ⟨x76, h76, hf⟩ := rob hf
  refine ca_getI C dX6_remake_76 tcX6_f116 rfl hq76 h76 ?_
  refine ca_icmp_ge C dX6_remake_79 (tgt := 258) (by decide) (fun c79 => ?_) (fun c79 => ?_)
  · replace hf := rif_p c79 hf
    refine ca_iload C dX6_remake_258 rfl ?_
    cases hf
    exact ca_iret C dX6_remake_260 (by omega) (by omega)
  · replace hf := rif_n c79 hf
    refine ca_aload C dX6_remake_82 rfl ?_
    refine ca_iload C dX6_remake_84 rfl ?_
    refine ca_iconst C dX6_remake_86 (v := 0) (by decide) ?_
    obtain ⟨c87, hc87, hf⟩ := rob hf
    obtain ⟨q87, h87, hf⟩ := rob hf
    refine ca_callV C dX6_remake_87 (mX2_get (cC_tr C) h87) (crc_spec hc87) vw2 (by decide) rfl tX6_l120 tI_X2_get tS_X2_get tZ2 tC_X2_get tH_X2_get (by omega) (by decide) (cs1_sum cs1_nil (Nat.le_of_ble_eq_true rfl)) (by omega) (by omega) ?_
    refine ca_istore C dX6_remake_90 (by decide) ?_
    refine ca_aload C dX6_remake_92 rfl ?_
    refine ca_iload C dX6_remake_94 rfl ?_
    refine ca_iconst C dX6_remake_96 (v := 1) (by decide) ?_
    obtain ⟨c97, hc97, hf⟩ := rob hf
    obtain ⟨q97, h97, hf⟩ := rob hf
    refine ca_callV C dX6_remake_97 (mX2_get (cC_tr C) h97) (crc_spec hc97) vw2 (by decide) rfl tX6_l120 tI_X2_get tS_X2_get tZ2 tC_X2_get tH_X2_get (by omega) (by decide) (cs1_sum cs1_nil (Nat.le_of_ble_eq_true rfl)) (by omega) (by omega) ?_
    refine ca_istore C dX6_remake_100 (by decide) ?_
    refine ca_aload C dX6_remake_102 rfl ?_
    refine ca_iload C dX6_remake_104 rfl ?_
    refine ca_iload C dX6_remake_106 rfl ?_
    obtain ⟨c108, hc108, hf⟩ := rob hf
    obtain ⟨q108, h108, hf⟩ := rob hf
    refine ca_callV C dX6_remake_108 (mX2_placeOf (cC_tr C) h108) (crc_spec hc108) vw2 (by decide) rfl tX6_l131 tI_X2_placeOf tS_X2_placeOf tZ2 tC_X2_placeOf tH_X2_placeOf (by omega) (by decide) (cs1_sum cs1_nil (Nat.le_of_ble_eq_true rfl)) (by omega) (by omega) ?_
    refine ca_istore C dX6_remake_111 (by decide) ?_
    refine ca_iload C dX6_remake_113 rfl ?_
    refine ca_iconst C dX6_remake_115 (v := 2) (by decide) ?_
    refine ca_icmp_ne C dX6_remake_116 (tgt := 158) (by decide) (fun c116 => ?_) (fun c116 => ?_)
    · replace hf := rif_n c116 hf
      refine ca_aload C dX6_remake_158 rfl ?_
      refine ca_iload C dX6_remake_160 rfl ?_
      refine ca_iconst C dX6_remake_162 (v := 2) (by decide) ?_
      obtain ⟨c163, hc163, hf⟩ := rob hf
      obtain ⟨q163, h163, hf⟩ := rob hf
      refine ca_callV C dX6_remake_163 (mX2_get (cC_tr C) h163) (crc_spec hc163) vw2 (by decide) rfl tX6_l120 tI_X2_get tS_X2_get tZ2 tC_X2_get tH_X2_get (by omega) (by decide) (cs1_sum cs1_nil (Nat.le_of_ble_eq_true rfl)) (by omega) (by omega) ?_
      refine ca_bipush C dX6_remake_166 (v := (-100)) (by decide) ?_
      refine ca_icmp_ne C dX6_remake_168 (tgt := 199) (by decide) (fun c168 => ?_) (fun c168 => ?_)
      · replace hf := rif_n c168 hf
        refine ca_aload_n C dX6_remake_199 rfl rfl ?_
        refine ca_aload C dX6_remake_200 rfl ?_
        refine ca_aload C dX6_remake_202 rfl ?_
        refine ca_iload C dX6_remake_204 rfl ?_
        refine ca_iconst C dX6_remake_206 (v := 2) (by decide) ?_
        obtain ⟨c207, hc207, hf⟩ := rob hf
        obtain ⟨q207, h207, hf⟩ := rob hf
        refine ca_callV C dX6_remake_207 (mX2_get (cC_tr C) h207) (crc_spec hc207) vw2 (by decide) rfl tX6_l120 tI_X2_get tS_X2_get tZ2 tC_X2_get tH_X2_get (by omega) (by decide) (cs1_sum (cs1_r (cs1_r cs1_nil)) (Nat.le_of_ble_eq_true rfl)) (by omega) (by omega) ?_
        refine ca_aload C dX6_remake_210 rfl ?_
        refine ca_iload C dX6_remake_212 rfl ?_
        refine ca_iconst C dX6_remake_214 (v := 3) (by decide) ?_
        obtain ⟨c215, hc215, hf⟩ := rob hf
        obtain ⟨q215, h215, hf⟩ := rob hf
        refine ca_callV C dX6_remake_215 (mX2_get (cC_tr C) h215) (crc_spec hc215) vw2 (by decide) rfl tX6_l120 tI_X2_get tS_X2_get tZ2 tC_X2_get tH_X2_get (by omega) (by decide) (cs1_sum (cs1_i (cs1_r (cs1_r cs1_nil))) (Nat.le_of_ble_eq_true rfl)) (by omega) (by omega) ?_
        obtain ⟨c218, hc218, hf⟩ := rob hf
        obtain ⟨q218, h218, hf⟩ := rob hf
        refine ca_callV C dX6_remake_218 (mX6_typeTold (cC_tr C) h218) (crc_spec hc218) vw6 (by decide) rfl tX6_l218 tI_X6_typeTold tS_X6_typeTold tZ6 tC_X6_typeTold tH_X6_typeTold (by omega) (by decide) (cs1_sum cs1_nil (Nat.le_of_ble_eq_true rfl)) (by omega) (by omega) ?_
        refine ca_istore C dX6_remake_221 (by decide) ?_
        exact bX6_remake_b223 C hself o hrec72 _ _ _ _ _ _ _ _ _ _ _ _ _ hf (by omega) (by omega)
      · replace hf := rif_p c168 hf
        refine ca_iload C dX6_remake_171 rfl ?_
        refine ca_if_eq C dX6_remake_173 (tgt := 186) (by decide) (fun c173 => ?_) (fun c173 => ?_)
        · replace hf := rif_p c173 hf
          refine ca_aload C dX6_remake_186 rfl ?_
          refine ca_iload C dX6_remake_188 rfl ?_
          refine ca_iconst C dX6_remake_190 (v := 2) (by decide) ?_
          obtain ⟨c191, hc191, hf⟩ := rob hf
          obtain ⟨q191, h191, hf⟩ := rob hf
          refine ca_callV C dX6_remake_191 (mX2_get (cC_tr C) h191) (crc_spec hc191) vw2 (by decide) rfl tX6_l120 tI_X2_get tS_X2_get tZ2 tC_X2_get tH_X2_get (by omega) (by decide) (cs1_sum cs1_nil (Nat.le_of_ble_eq_true rfl)) (by omega) (by omega) ?_
          exact bX6_remake_b194 C hself o hrec72 _ _ _ _ _ _ _ _ _ _ _ _ _ hf (by omega) (by omega)
        · replace hf := rif_n c173 hf
          refine ca_aload_n C dX6_remake_176 rfl rfl ?_
          obtain ⟨x177, h177, hf⟩ := rob hf
          refine ca_getR C dX6_remake_177 tcX6_f12 rfl rfl h177 ?_
          obtain ⟨c180, hc180, hf⟩ := rob hf
          obtain ⟨q180, h180, hf⟩ := rob hf
          refine ca_callV C dX6_remake_180 (mX4_newOne (cC_tr C) h180) (crc_spec hc180) vw4 (by decide) rfl tX6_l92 tI_X4_newOne tS_X4_newOne tZ4 tC_X4_newOne tH_X4_newOne (by omega) (by decide) (cs1_sum cs1_nil (Nat.le_of_ble_eq_true rfl)) (by omega) (by omega) ?_
          refine ca_goto C dX6_remake_183 (tgt := 194) (by decide) ?_
          exact bX6_remake_b194 C hself o hrec72 _ _ _ _ _ _ _ _ _ _ _ _ _ hf (by omega) (by omega)
    · replace hf := rif_p c116 hf
      refine ca_aload_n C dX6_remake_119 rfl rfl ?_
      refine ca_aload C dX6_remake_120 rfl ?_
      refine ca_iload C dX6_remake_122 rfl ?_
      refine ca_iconst C dX6_remake_124 (v := 2) (by decide) ?_
      obtain ⟨c125, hc125, hf⟩ := rob hf
      obtain ⟨q125, h125, hf⟩ := rob hf
      refine ca_callV C dX6_remake_125 (mX2_get (cC_tr C) h125) (crc_spec hc125) vw2 (by decide) rfl tX6_l120 tI_X2_get tS_X2_get tZ2 tC_X2_get tH_X2_get (by omega) (by decide) (cs1_sum (cs1_r cs1_nil) (Nat.le_of_ble_eq_true rfl)) (by omega) (by omega) ?_
      refine ca_aload C dX6_remake_128 rfl ?_
      refine ca_iload C dX6_remake_130 rfl ?_
      refine ca_iconst C dX6_remake_132 (v := 2) (by decide) ?_
      obtain ⟨c133, hc133, hf⟩ := rob hf
      obtain ⟨q133, h133, hf⟩ := rob hf
      refine ca_callV C dX6_remake_133 (mX2_get (cC_tr C) h133) (crc_spec hc133) vw2 (by decide) rfl tX6_l120 tI_X2_get tS_X2_get tZ2 tC_X2_get tH_X2_get (by omega) (by decide) (cs1_sum (cs1_i (cs1_r cs1_nil)) (Nat.le_of_ble_eq_true rfl)) (by omega) (by omega) ?_
      refine ca_iload C dX6_remake_136 rfl ?_
      refine ca_iload C dX6_remake_138 rfl ?_
      refine ca_iload C dX6_remake_140 rfl ?_
      refine ca_iconst C dX6_remake_142 (v := 1) (by decide) ?_
      refine ca_iadd C dX6_remake_143 ?_
      obtain ⟨c144, hc144, hf⟩ := rob hf
      obtain ⟨v144, z144, ra144, rb144, sa144, sb144, h144, hg144, rfl, rfl⟩ := abind_spec hf
      replace hf := hg144
      refine ca_callV C dX6_remake_144 (hself _ _ _ _ _ _ _ _ _ _ _ h144) (crc_spec hc144) vw6 (by decide) rfl tX6_l212 tI_X6_remake tS_X6_remake tZ6 tC_X6_remake tH_X6_remake (by omega) (by decide) (cs1_sum cs1_nil (Nat.le_of_ble_eq_true rfl)) (by omega) (by omega) ?_
      refine ca_istore C dX6_remake_147 (by decide) ?_
      refine ca_iload C dX6_remake_149 rfl ?_
      refine ca_iconst C dX6_remake_151 (v := 1) (by decide) ?_
      refine ca_iadd C dX6_remake_152 ?_
      refine ca_istore C dX6_remake_153 (by decide) ?_
      refine ca_goto C dX6_remake_155 (tgt := 223) (by decide) ?_
      exact bX6_remake_b223 C hself o hrec72 _ _ _ _ _ _ _ _ _ _ _ _ _ hf (by omega) (by omega)
set_option maxRecDepth 100000 in
set_option maxHeartbeats 4000000 in
theorem bX6_remake_b72 {G : cG} {X : rX} {z0 : cS} {w : Int32} {z' : cS} {A B : Nat} {fn : Nat} (C : cC G X z0 RX6 16 cX6_remake (some .int) (4 + (fn + 1)) A B) {self : Nat → Int32 → Int32 → Int32 → Int32 → Int32 → cS → Option (Int32 × cS × Nat × Nat)} (hself : ∀ (o : Nat) (a0 : Int32) (a1 : Int32) (a2 : Int32) (a3 : Int32) (a4 : Int32) (z : cS) (w : Int32) (z' : cS) (ra rb : Nat), self o a0 a1 a2 a3 a4 z = some (w, z', ra, rb) → cM X.2.1 G (4 + fn) yX6_remake cX6_remake 16 (some .int) [.ref o, .int a0, .int a1, .int a2, .int a3, .int a4] z (.inl (some (.int w)), z', ra, rb)) (o : Nat) : ∀ (n : Nat) (l4 : Int32) (l5 : Int32) (l6 : Option Nat) (l7 : Option Nat) (l8 : Int32) (l9 : Option Nat) (l10 : Int32) (l11 : Int32) (z : cS) (kc ks ra rb : Nat), fX6_remake_b72 self o n l4 l5 l6 l7 l8 l9 l10 l11 z = some (w, z', ra, rb) → A = kc + ra → B = ks + rb → cAW false G X z0 (.inl (some (.int w)), z', A, B) 16 72 [some (va_rf (some o)), none, none, none, some (.int l4), some (.int l5), some (va_rf l6), some (va_rf l7), some (.int l8), some (va_rf l9), some (.int l10), some (.int l11), none, none, none, none] [] z kc ks := by
  intro n
  induction n with
  | zero => intro l4 l5 l6 l7 l8 l9 l10 l11 z kc ks ra rb hf; cases hf
  | succ n ih => intro l4 l5 l6 l7 l8 l9 l10 l11 z kc ks ra rb hf ha hb; exact bX6_remake_b72_body C hself o (fun l4 l5 l6 l7 l8 l9 l10 l11 z kc ks ra rb h1 h2 h3 => ih l4 l5 l6 l7 l8 l9 l10 l11 z kc ks ra rb h1 h2 h3) l4 l5 l6 l7 l8 l9 l10 l11 z hf ha hb
set_option maxRecDepth 100000 in
set_option maxHeartbeats 4000000 in
theorem bX6_remake {G : cG} {X : rX} {z0 : cS} {w : Int32} {z' : cS} {A B : Nat} {fn : Nat} (C : cC G X z0 RX6 16 cX6_remake (some .int) (4 + (fn + 1)) A B) {self : Nat → Int32 → Int32 → Int32 → Int32 → Int32 → cS → Option (Int32 × cS × Nat × Nat)} (hself : ∀ (o : Nat) (a0 : Int32) (a1 : Int32) (a2 : Int32) (a3 : Int32) (a4 : Int32) (z : cS) (w : Int32) (z' : cS) (ra rb : Nat), self o a0 a1 a2 a3 a4 z = some (w, z', ra, rb) → cM X.2.1 G (4 + fn) yX6_remake cX6_remake 16 (some .int) [.ref o, .int a0, .int a1, .int a2, .int a3, .int a4] z (.inl (some (.int w)), z', ra, rb)) (o : Nat) (a0 : Int32) (a1 : Int32) (a2 : Int32) (a3 : Int32) (a4 : Int32) (z : cS) {kc ks ra rb : Nat} (hf : fX6_remake_fun self o a0 a1 a2 a3 a4 z = some (w, z', ra, rb)) (ha : A = kc + ra) (hb : B = ks + rb) : cAW false G X z0 (.inl (some (.int w)), z', A, B) 16 0 [some (va_rf (some o)), some (.int a0), some (.int a1), some (.int a2), some (.int a3), some (.int a4), none, none, none, none, none, none, none, none, none, none] [] z kc ks := by
  unfold fX6_remake_fun at hf
  refine ca_aload_n C dX6_remake_0 rfl rfl ?_
  obtain ⟨x1, h1, hf⟩ := rob hf
  refine ca_getR C dX6_remake_1 tcX6_f23 rfl rfl h1 ?_
  refine ca_iload_n C dX6_remake_4 rfl rfl ?_
  obtain ⟨c5, hc5, hf⟩ := rob hf
  obtain ⟨q5, h5, hf⟩ := rob hf
  refine ca_callV C dX6_remake_5 (mX3_at (cC_tr C) h5) (crc_spec hc5) vw3 (by decide) rfl tX6_l103 tI_X3_at tS_X3_at tZ3 tC_X3_at tH_X3_at (by omega) (by decide) (cs1_sum cs1_nil (Nat.le_of_ble_eq_true rfl)) (by omega) (by omega) ?_
  refine ca_astore C dX6_remake_8 (by decide) ?_
  refine ca_aload_n C dX6_remake_10 rfl rfl ?_
  obtain ⟨x11, h11, hf⟩ := rob hf
  refine ca_getR C dX6_remake_11 tcX6_f27 rfl rfl h11 ?_
  refine ca_iload_n C dX6_remake_14 rfl rfl ?_
  obtain ⟨c15, hc15, hf⟩ := rob hf
  obtain ⟨q15, h15, hf⟩ := rob hf
  refine ca_callV C dX6_remake_15 (mX3_at (cC_tr C) h15) (crc_spec hc15) vw3 (by decide) rfl tX6_l103 tI_X3_at tS_X3_at tZ3 tC_X3_at tH_X3_at (by omega) (by decide) (cs1_sum cs1_nil (Nat.le_of_ble_eq_true rfl)) (by omega) (by omega) ?_
  refine ca_astore C dX6_remake_18 (by decide) ?_
  refine ca_aload C dX6_remake_20 rfl ?_
  refine ca_ifnull C dX6_remake_22 (tgt := 37) (by decide) (fun c22 => ?_) (fun c22 => ?_)
  · replace hf := rif_p c22 hf
    refine ca_mask [false, false, false, false, false, false, false, false, false, false, false, false, false, false, false, false] ?_
    exact bX6_remake_b37 C hself o  _ hf (by omega) (by omega)
  · replace hf := rif_n c22 hf
    refine ca_aload C dX6_remake_25 rfl ?_
    refine ca_ifnull C dX6_remake_27 (tgt := 37) (by decide) (fun c27 => ?_) (fun c27 => ?_)
    · replace hf := rif_p c27 hf
      refine ca_mask [false, false, false, false, false, false, false, false, false, false, false, false, false, false, false, false] ?_
      exact bX6_remake_b37 C hself o  _ hf (by omega) (by omega)
    · replace hf := rif_n c27 hf
      refine ca_iload C dX6_remake_30 rfl ?_
      refine ca_bipush C dX6_remake_32 (v := 20) (by decide) ?_
      refine ca_icmp_le C dX6_remake_34 (tgt := 39) (by decide) (fun c34 => ?_) (fun c34 => ?_)
      · replace hf := rif_p c34 hf
        refine ca_iload_n C dX6_remake_39 rfl rfl ?_
        refine ca_aload C dX6_remake_40 rfl ?_
        obtain ⟨q42, hq42, hf⟩ := rob hf
        obtain ⟨x42, h42, hf⟩ := rob hf
        refine ca_getI C dX6_remake_42 tcX6_f159 rfl hq42 h42 ?_
        refine ca_iadd C dX6_remake_45 ?_
        refine ca_istore C dX6_remake_46 (by decide) ?_
        refine ca_aload_n C dX6_remake_48 rfl rfl ?_
        obtain ⟨x49, h49, hf⟩ := rob hf
        refine ca_getR C dX6_remake_49 tcX6_f23 rfl rfl h49 ?_
        refine ca_iload C dX6_remake_52 rfl ?_
        obtain ⟨c54, hc54, hf⟩ := rob hf
        obtain ⟨v54, z54, ra54, rb54, sa54, sb54, h54, hg54, rfl, rfl⟩ := abind_spec hf
        replace hf := hg54
        refine ca_callV C dX6_remake_54 (mX3_blank (cC_tr C) h54) (crc_spec hc54) vw3 (by decide) rfl tX6_l170 tI_X3_blank tS_X3_blank tZ3 tC_X3_blank tH_X3_blank (by omega) (by decide) (cs1_sum cs1_nil (Nat.le_of_ble_eq_true rfl)) (by omega) (by omega) ?_
        refine ca_astore C dX6_remake_57 (by decide) ?_
        refine ca_aload C dX6_remake_59 rfl ?_
        refine ca_ifnonnull C dX6_remake_61 (tgt := 66) (by decide) (fun c61 => ?_) (fun c61 => ?_)
        · replace hf := rif_n c61 hf
          refine ca_iload_n C dX6_remake_66 rfl rfl ?_
          refine ca_istore C dX6_remake_67 (by decide) ?_
          refine ca_iconst C dX6_remake_69 (v := 0) (by decide) ?_
          refine ca_istore C dX6_remake_70 (by decide) ?_
          refine ca_mask [true, false, false, false, true, true, true, true, true, true, true, true, false, false, false, false] ?_
          exact bX6_remake_b72 C hself o _ _ _ _ _ _ _ _ _ _ _ _ _ _ hf (by omega) (by omega)
        · replace hf := rif_p c61 hf
          refine ca_iconst C dX6_remake_64 (v := (-1)) (by decide) ?_
          cases hf
          exact ca_iret C dX6_remake_65 (by omega) (by omega)
      · replace hf := rif_n c34 hf
        refine ca_mask [false, false, false, false, false, false, false, false, false, false, false, false, false, false, false, false] ?_
        exact bX6_remake_b37 C hself o  _ hf (by omega) (by omega)
set_option maxRecDepth 100000 in
set_option maxHeartbeats 4000000 in
theorem mX6_remake {l : Launch} (hl : l.stackTraces = false) {G : cG} : ∀ (fn : Nat) (o : Nat) (a0 : Int32) (a1 : Int32) (a2 : Int32) (a3 : Int32) (a4 : Int32) (z : cS) (w : Int32) (z' : cS) (A B : Nat) (hf : fX6_remake fn o a0 a1 a2 a3 a4 z = some (w, z', A, B)), cM l G (4 + fn) yX6_remake cX6_remake 16 (some .int) [.ref o, .int a0, .int a1, .int a2, .int a3, .int a4] z (.inl (some (.int w)), z', A, B) := by
  intro fn
  induction fn with
  | zero => intro o a0 a1 a2 a3 a4 z w z' A B hf; cases hf
  | succ fn ih =>
    intro o a0 a1 a2 a3 a4 z w z' A B hf
    exact cM_of (lo0 := [some (va_rf (some o)), some (.int a0), some (.int a1), some (.int a2), some (.int a3), some (.int a4), none, none, none, none, none, none, none, none, none, none]) (by decide +kernel) rfl (cs1_q (cs1_i (cs1_i (cs1_i (cs1_i (cs1_i cs1_nil)))))) (Nat.le_of_ble_eq_true rfl) rfl hl (fun X hX _ C => bX6_remake C (fun o a0 a1 a2 a3 a4 z w z' ra rb h => by rw [hX]; exact ih o a0 a1 a2 a3 a4 z w z' ra rb h) o a0 a1 a2 a3 a4 z (kc := 0) (ks := 0) hf (Nat.zero_add _).symm (Nat.zero_add _).symm)
set_option maxRecDepth 100000 in
set_option maxHeartbeats 4000000 in
theorem bX6_remade {G : cG} {X : rX} {z0 : cS} {w : Int32 ⊕ Nat} {z' : cS} {A B : Nat} (C : cC G X z0 RX6 6 cX6_remade (some .int) 35 A B) (o : Nat) (a0 : Int32) (a1 : Int32) (a2 : Int32) (z : cS) {kc ks ra rb : Nat} (hf : fX6_remade o a0 a1 a2 z = some (w, z', ra, rb)) (ha : A = kc + ra) (hb : B = ks + rb) : cAW true G X z0 (cOi w, z', A, B) 6 0 [some (va_rf (some o)), some (.int a0), some (.int a1), some (.int a2), none, none] [] z kc ks := by
  unfold fX6_remade at hf
  refine ca_aload_n C dX6_remade_0 rfl rfl ?_
  refine ca_aload_n C dX6_remade_1 rfl rfl ?_
  obtain ⟨x2, h2, hf⟩ := rob hf
  refine ca_getR C dX6_remade_2 tcX6_f23 rfl rfl h2 ?_
  refine ca_iload_n C dX6_remade_5 rfl rfl ?_
  refine ca_iload_n C dX6_remade_6 rfl rfl ?_
  refine ca_iconst C dX6_remade_7 (v := 0) (by decide) ?_
  obtain ⟨c8, hc8, hf⟩ := rob hf
  obtain ⟨q8, h8, hf⟩ := rob hf
  refine ca_callV C dX6_remade_8 (mX6_firstMisfit (cC_tr C) _ _ _ _ _ _ _ _ h8) (crc_spec hc8) vw6 (by decide) rfl tX6_l183 tI_X6_firstMisfit tS_X6_firstMisfit tZ6 tC_X6_firstMisfit tH_X6_firstMisfit (by omega) (by decide) (cs1_sum cs1_nil (Nat.le_of_ble_eq_true rfl)) (by omega) (by omega) ?_
  refine ca_if_eq C dX6_remade_11 (tgt := 24) (by decide) (fun c11 => ?_) (fun c11 => ?_)
  · replace hf := rif_p c11 hf
    refine ca_aload_n C dX6_remade_24 rfl rfl ?_
    obtain ⟨x25, h25, hf⟩ := rob hf
    refine ca_getR C dX6_remade_25 tcX6_f12 rfl rfl h25 ?_
    obtain ⟨q28, hq28, hf⟩ := rob hf
    obtain ⟨x28, h28, hf⟩ := rob hf
    refine ca_getI C dX6_remade_28 tcX6_f211 rfl hq28 h28 ?_
    refine ca_istore C dX6_remade_31 (by decide) ?_
    refine ca_aload_n C dX6_remade_33 rfl rfl ?_
    refine ca_iload_n C dX6_remade_34 rfl rfl ?_
    refine ca_iload_n C dX6_remade_35 rfl rfl ?_
    refine ca_aload_n C dX6_remade_36 rfl rfl ?_
    obtain ⟨x37, h37, hf⟩ := rob hf
    refine ca_getR C dX6_remade_37 tcX6_f23 rfl rfl h37 ?_
    obtain ⟨q40, hq40, hf⟩ := rob hf
    obtain ⟨x40, h40, hf⟩ := rob hf
    refine ca_getI C dX6_remade_40 tcX6_f169 rfl hq40 h40 ?_
    refine ca_iload_n C dX6_remade_43 rfl rfl ?_
    refine ca_iconst C dX6_remade_44 (v := 0) (by decide) ?_
    obtain ⟨c45, hc45, hf⟩ := rob hf
    obtain ⟨v45, z45, ra45, rb45, sa45, sb45, h45, hg45, rfl, rfl⟩ := abind_spec hf
    replace hf := hg45
    refine ca_callV C dX6_remade_45 (mX6_remake (cC_tr C) _ _ _ _ _ _ _ _ _ _ _ _ h45) (crc_spec hc45) vw6 (by decide) rfl tX6_l212 tI_X6_remake tS_X6_remake tZ6 tC_X6_remake tH_X6_remake (by omega) (by decide) (cs1_sum cs1_nil (Nat.le_of_ble_eq_true rfl)) (by omega) (by omega) ?_
    refine ca_istore C dX6_remade_48 (by decide) ?_
    refine ca_iload C dX6_remade_50 rfl ?_
    refine ca_iconst C dX6_remade_52 (v := (-1)) (by decide) ?_
    refine ca_icmp_ne C dX6_remade_53 (tgt := 75) (by decide) (fun c53 => ?_) (fun c53 => ?_)
    · replace hf := rif_n c53 hf
      refine ca_aload_n C dX6_remade_75 rfl rfl ?_
      obtain ⟨x76, h76, hf⟩ := rob hf
      refine ca_getR C dX6_remade_76 tcX6_f23 rfl rfl h76 ?_
      refine ca_iload C dX6_remade_79 rfl ?_
      refine ca_iconst C dX6_remade_81 (v := 1) (by decide) ?_
      refine ca_iadd C dX6_remade_82 ?_
      obtain ⟨q83, hq83, hf⟩ := rob hf
      obtain ⟨z83, h83, hf⟩ := rob hf
      refine ca_putI C dX6_remade_83 tcX6_f169 nX3_1 rfl tI3_1 hq83 h83 ?_
      refine ca_iload C dX6_remade_86 rfl ?_
      cases hf
      exact ca_iret C dX6_remade_88 (by omega) (by omega)
    · replace hf := rif_p c53 hf
      refine ca_aload_n C dX6_remade_56 rfl rfl ?_
      obtain ⟨x57, h57, hf⟩ := rob hf
      refine ca_getR C dX6_remade_57 tcX6_f12 rfl rfl h57 ?_
      refine ca_iload C dX6_remade_60 rfl ?_
      obtain ⟨q62, hq62, hf⟩ := rob hf
      obtain ⟨z62, h62, hf⟩ := rob hf
      refine ca_putI C dX6_remade_62 tcX6_f211 nX4_2 rfl tI4_2 hq62 h62 ?_
      cases hf
      exact ca_throw C dX6_remade_65 dX6_remade_68 dX6_remade_69 dX6_remade_71 dX6_remade_74 cfit2 tX6_k67 tX6_e2 tX6_t216 tX6_w71 tX6_g67_71 (by omega) (cs1_sum cs1_nil (Nat.le_of_ble_eq_true rfl)) (by omega) (by omega)
  · replace hf := rif_n c11 hf
    cases hf
    exact ca_throw C dX6_remade_14 dX6_remade_17 dX6_remade_18 dX6_remade_20 dX6_remade_23 cfit2 tX6_k67 tX6_e2 tX6_t209 tX6_w71 tX6_g67_71 (by omega) (cs1_sum cs1_nil (Nat.le_of_ble_eq_true rfl)) (by omega) (by omega)
set_option maxRecDepth 100000 in
set_option maxHeartbeats 4000000 in
theorem mX6_remade {l : Launch} (hl : l.stackTraces = false) {G : cG} {o : Nat} {a0 : Int32} {a1 : Int32} {a2 : Int32} {z : cS} {w : Int32 ⊕ Nat} {z' : cS} {A B : Nat} (hf : fX6_remade o a0 a1 a2 z = some (w, z', A, B)) : cMx l G 35 yX6_remade cX6_remade 6 (some .int) [.ref o, .int a0, .int a1, .int a2] z (cOi w, z', A, B) :=
  cMx_of (lo0 := [some (va_rf (some o)), some (.int a0), some (.int a1), some (.int a2), none, none]) (by decide +kernel) rfl (cs1_q (cs1_i (cs1_i (cs1_i cs1_nil)))) (Nat.le_of_ble_eq_true rfl) rfl hl (fun X hX C => bX6_remade C o a0 a1 a2 z (kc := 0) (ks := 0) hf (Nat.zero_add _).symm (Nat.zero_add _).symm)
set_option maxRecDepth 100000 in
set_option maxHeartbeats 4000000 in
theorem bX6_seal {G : cG} {X : rX} {z0 : cS} {w : Int32 ⊕ Nat} {z' : cS} {A B : Nat} (C : cC G X z0 RX6 3 cX6_seal (some .int) 36 A B) (o : Nat) (a0 : Int32) (a1 : Int32) (z : cS) {kc ks ra rb : Nat} (hf : fX6_seal o a0 a1 z = some (w, z', ra, rb)) (ha : A = kc + ra) (hb : B = ks + rb) : cAW true G X z0 (cOi w, z', A, B) 3 0 [some (va_rf (some o)), some (.int a0), some (.int a1)] [] z kc ks := by
  unfold fX6_seal at hf
  refine ca_aload_n C dX6_seal_0 rfl rfl ?_
  obtain ⟨x1, h1, hf⟩ := rob hf
  refine ca_getR C dX6_seal_1 tcX6_f23 rfl rfl h1 ?_
  refine ca_iload_n C dX6_seal_4 rfl rfl ?_
  obtain ⟨c5, hc5, hf⟩ := rob hf
  obtain ⟨q5, h5, hf⟩ := rob hf
  refine ca_callV C dX6_seal_5 (mX3_at (cC_tr C) h5) (crc_spec hc5) vw3 (by decide) rfl tX6_l103 tI_X3_at tS_X3_at tZ3 tC_X3_at tH_X3_at (by omega) (by decide) (cs1_sum cs1_nil (Nat.le_of_ble_eq_true rfl)) (by omega) (by omega) ?_
  rcases tbind_spec hf with ⟨e8, h8, rfl⟩ | ⟨v8, z8, ra8, rb8, sa8, sb8, h8, hg8, rfl, rfl⟩
  · exact ca_callXSt C dX6_seal_8 (mX6_needRow (cC_tr C) h8) rfl tX6_m107 tT_X6_needRow tZ6 tC_X6_needRow tH_X6_needRow (by omega) (by decide) (cs1_sum cs1_nil (Nat.le_of_ble_eq_true rfl)) (by omega) (by omega)
  replace hf := hg8
  refine ca_callXSr C dX6_seal_8 (mX6_needRow (cC_tr C) h8) rfl tX6_m107 tT_X6_needRow tZ6 tC_X6_needRow tH_X6_needRow (by omega) (by decide) (cs1_sum cs1_nil (Nat.le_of_ble_eq_true rfl)) (by omega) (by omega) ?_
  refine ca_aload_n C dX6_seal_11 rfl rfl ?_
  obtain ⟨x12, h12, hf⟩ := rob hf
  refine ca_getR C dX6_seal_12 tcX6_f27 rfl rfl h12 ?_
  refine ca_iload_n C dX6_seal_15 rfl rfl ?_
  obtain ⟨c16, hc16, hf⟩ := rob hf
  obtain ⟨q16, h16, hf⟩ := rob hf
  refine ca_callV C dX6_seal_16 (mX3_at (cC_tr C) h16) (crc_spec hc16) vw3 (by decide) rfl tX6_l103 tI_X3_at tS_X3_at tZ3 tC_X3_at tH_X3_at (by omega) (by decide) (cs1_sum cs1_nil (Nat.le_of_ble_eq_true rfl)) (by omega) (by omega) ?_
  rcases tbind_spec hf with ⟨e19, h19, rfl⟩ | ⟨v19, z19, ra19, rb19, sa19, sb19, h19, hg19, rfl, rfl⟩
  · exact ca_callXSt C dX6_seal_19 (mX6_needRow (cC_tr C) h19) rfl tX6_m107 tT_X6_needRow tZ6 tC_X6_needRow tH_X6_needRow (by omega) (by decide) (cs1_sum cs1_nil (Nat.le_of_ble_eq_true rfl)) (by omega) (by omega)
  replace hf := hg19
  refine ca_callXSr C dX6_seal_19 (mX6_needRow (cC_tr C) h19) rfl tX6_m107 tT_X6_needRow tZ6 tC_X6_needRow tH_X6_needRow (by omega) (by decide) (cs1_sum cs1_nil (Nat.le_of_ble_eq_true rfl)) (by omega) (by omega) ?_
  refine ca_aload_n C dX6_seal_22 rfl rfl ?_
  refine ca_iload_n C dX6_seal_23 rfl rfl ?_
  refine ca_iload_n C dX6_seal_24 rfl rfl ?_
  refine ca_iconst C dX6_seal_25 (v := 1) (by decide) ?_
  obtain ⟨c26, hc26, hf⟩ := rob hf
  rcases tbind_spec hf with ⟨e26, h26, rfl⟩ | ⟨v26, z26, ra26, rb26, sa26, sb26, h26, hg26, rfl, rfl⟩
  · exact ca_callXt C dX6_seal_26 (mX6_remade (cC_tr C) h26) (crc_spec hc26) vw6 (by decide) rfl tX6_m187 tI_X6_remade tS_X6_remade tZ6 tC_X6_remade tH_X6_remade (by omega) (by decide) (cs1_sum cs1_nil (Nat.le_of_ble_eq_true rfl)) (by omega) (by omega)
  replace hf := hg26
  refine ca_callXr C dX6_seal_26 (mX6_remade (cC_tr C) h26) (crc_spec hc26) vw6 (by decide) rfl tX6_m187 tI_X6_remade tS_X6_remade tZ6 tC_X6_remade tH_X6_remade (by omega) (by decide) (cs1_sum cs1_nil (Nat.le_of_ble_eq_true rfl)) (by omega) (by omega) ?_
  cases hf
  exact ca_iret C dX6_seal_29 (by omega) (by omega)
set_option maxRecDepth 100000 in
set_option maxHeartbeats 4000000 in
theorem mX6_seal {l : Launch} (hl : l.stackTraces = false) {G : cG} {o : Nat} {a0 : Int32} {a1 : Int32} {z : cS} {w : Int32 ⊕ Nat} {z' : cS} {A B : Nat} (hf : fX6_seal o a0 a1 z = some (w, z', A, B)) : cMx l G 36 yX6_seal cX6_seal 3 (some .int) [.ref o, .int a0, .int a1] z (cOi w, z', A, B) :=
  cMx_of (lo0 := [some (va_rf (some o)), some (.int a0), some (.int a1)]) (by decide +kernel) rfl (cs1_q (cs1_i (cs1_i cs1_nil))) (Nat.le_of_ble_eq_true rfl) rfl hl (fun X hX C => bX6_seal C o a0 a1 z (kc := 0) (ks := 0) hf (Nat.zero_add _).symm (Nat.zero_add _).symm)
set_option maxRecDepth 100000 in
set_option maxHeartbeats 4000000 in
theorem bX6_view {G : cG} {X : rX} {z0 : cS} {w : Int32 ⊕ Nat} {z' : cS} {A B : Nat} (C : cC G X z0 RX6 3 cX6_view (some .int) 36 A B) (o : Nat) (a0 : Int32) (a1 : Int32) (z : cS) {kc ks ra rb : Nat} (hf : fX6_view o a0 a1 z = some (w, z', ra, rb)) (ha : A = kc + ra) (hb : B = ks + rb) : cAW true G X z0 (cOi w, z', A, B) 3 0 [some (va_rf (some o)), some (.int a0), some (.int a1)] [] z kc ks := by
  unfold fX6_view at hf
  refine ca_aload_n C dX6_view_0 rfl rfl ?_
  obtain ⟨x1, h1, hf⟩ := rob hf
  refine ca_getR C dX6_view_1 tcX6_f23 rfl rfl h1 ?_
  refine ca_iload_n C dX6_view_4 rfl rfl ?_
  obtain ⟨c5, hc5, hf⟩ := rob hf
  obtain ⟨q5, h5, hf⟩ := rob hf
  refine ca_callV C dX6_view_5 (mX3_at (cC_tr C) h5) (crc_spec hc5) vw3 (by decide) rfl tX6_l103 tI_X3_at tS_X3_at tZ3 tC_X3_at tH_X3_at (by omega) (by decide) (cs1_sum cs1_nil (Nat.le_of_ble_eq_true rfl)) (by omega) (by omega) ?_
  rcases tbind_spec hf with ⟨e8, h8, rfl⟩ | ⟨v8, z8, ra8, rb8, sa8, sb8, h8, hg8, rfl, rfl⟩
  · exact ca_callXSt C dX6_view_8 (mX6_needRow (cC_tr C) h8) rfl tX6_m107 tT_X6_needRow tZ6 tC_X6_needRow tH_X6_needRow (by omega) (by decide) (cs1_sum cs1_nil (Nat.le_of_ble_eq_true rfl)) (by omega) (by omega)
  replace hf := hg8
  refine ca_callXSr C dX6_view_8 (mX6_needRow (cC_tr C) h8) rfl tX6_m107 tT_X6_needRow tZ6 tC_X6_needRow tH_X6_needRow (by omega) (by decide) (cs1_sum cs1_nil (Nat.le_of_ble_eq_true rfl)) (by omega) (by omega) ?_
  refine ca_aload_n C dX6_view_11 rfl rfl ?_
  obtain ⟨x12, h12, hf⟩ := rob hf
  refine ca_getR C dX6_view_12 tcX6_f27 rfl rfl h12 ?_
  refine ca_iload_n C dX6_view_15 rfl rfl ?_
  obtain ⟨c16, hc16, hf⟩ := rob hf
  obtain ⟨q16, h16, hf⟩ := rob hf
  refine ca_callV C dX6_view_16 (mX3_at (cC_tr C) h16) (crc_spec hc16) vw3 (by decide) rfl tX6_l103 tI_X3_at tS_X3_at tZ3 tC_X3_at tH_X3_at (by omega) (by decide) (cs1_sum cs1_nil (Nat.le_of_ble_eq_true rfl)) (by omega) (by omega) ?_
  rcases tbind_spec hf with ⟨e19, h19, rfl⟩ | ⟨v19, z19, ra19, rb19, sa19, sb19, h19, hg19, rfl, rfl⟩
  · exact ca_callXSt C dX6_view_19 (mX6_needRow (cC_tr C) h19) rfl tX6_m107 tT_X6_needRow tZ6 tC_X6_needRow tH_X6_needRow (by omega) (by decide) (cs1_sum cs1_nil (Nat.le_of_ble_eq_true rfl)) (by omega) (by omega)
  replace hf := hg19
  refine ca_callXSr C dX6_view_19 (mX6_needRow (cC_tr C) h19) rfl tX6_m107 tT_X6_needRow tZ6 tC_X6_needRow tH_X6_needRow (by omega) (by decide) (cs1_sum cs1_nil (Nat.le_of_ble_eq_true rfl)) (by omega) (by omega) ?_
  refine ca_aload_n C dX6_view_22 rfl rfl ?_
  refine ca_iload_n C dX6_view_23 rfl rfl ?_
  refine ca_iload_n C dX6_view_24 rfl rfl ?_
  refine ca_iconst C dX6_view_25 (v := 0) (by decide) ?_
  obtain ⟨c26, hc26, hf⟩ := rob hf
  rcases tbind_spec hf with ⟨e26, h26, rfl⟩ | ⟨v26, z26, ra26, rb26, sa26, sb26, h26, hg26, rfl, rfl⟩
  · exact ca_callXt C dX6_view_26 (mX6_remade (cC_tr C) h26) (crc_spec hc26) vw6 (by decide) rfl tX6_m187 tI_X6_remade tS_X6_remade tZ6 tC_X6_remade tH_X6_remade (by omega) (by decide) (cs1_sum cs1_nil (Nat.le_of_ble_eq_true rfl)) (by omega) (by omega)
  replace hf := hg26
  refine ca_callXr C dX6_view_26 (mX6_remade (cC_tr C) h26) (crc_spec hc26) vw6 (by decide) rfl tX6_m187 tI_X6_remade tS_X6_remade tZ6 tC_X6_remade tH_X6_remade (by omega) (by decide) (cs1_sum cs1_nil (Nat.le_of_ble_eq_true rfl)) (by omega) (by omega) ?_
  cases hf
  exact ca_iret C dX6_view_29 (by omega) (by omega)
set_option maxRecDepth 100000 in
set_option maxHeartbeats 4000000 in
theorem mX6_view {l : Launch} (hl : l.stackTraces = false) {G : cG} {o : Nat} {a0 : Int32} {a1 : Int32} {z : cS} {w : Int32 ⊕ Nat} {z' : cS} {A B : Nat} (hf : fX6_view o a0 a1 z = some (w, z', A, B)) : cMx l G 36 yX6_view cX6_view 3 (some .int) [.ref o, .int a0, .int a1] z (cOi w, z', A, B) :=
  cMx_of (lo0 := [some (va_rf (some o)), some (.int a0), some (.int a1)]) (by decide +kernel) rfl (cs1_q (cs1_i (cs1_i cs1_nil))) (Nat.le_of_ble_eq_true rfl) rfl hl (fun X hX C => bX6_view C o a0 a1 z (kc := 0) (ks := 0) hf (Nat.zero_add _).symm (Nat.zero_add _).symm)
set_option maxRecDepth 100000 in
set_option maxHeartbeats 4000000 in
theorem bX6_finer_b41 {G : cG} {X : rX} {z0 : cS} {w : Int32 ⊕ Nat} {z' : cS} {A B : Nat} (C : cC G X z0 RX6 3 cX6_finer (some .boolean) 35 A B) (o : Nat) (s0 : Int32) (z : cS) {kc ks ra rb : Nat} (hf : fX6_finer_b41 o s0 z = some (w, z', ra, rb)) (ha : A = kc + ra) (hb : B = ks + rb) : cAW true G X z0 (cOi w, z', A, B) 3 41 [none, none, none] [.int s0] z kc ks := by
  unfold fX6_finer_b41 at hf
  obtain ⟨hn, hf⟩ := cbo_spec hf
  cases hf
  exact ca_zret C hn dX6_finer_41 (by omega) (by omega)
set_option maxRecDepth 100000 in
set_option maxHeartbeats 4000000 in
theorem bX6_finer {G : cG} {X : rX} {z0 : cS} {w : Int32 ⊕ Nat} {z' : cS} {A B : Nat} (C : cC G X z0 RX6 3 cX6_finer (some .boolean) 35 A B) (o : Nat) (a0 : Int32) (a1 : Int32) (z : cS) {kc ks ra rb : Nat} (hf : fX6_finer o a0 a1 z = some (w, z', ra, rb)) (ha : A = kc + ra) (hb : B = ks + rb) : cAW true G X z0 (cOi w, z', A, B) 3 0 [some (va_rf (some o)), some (.int a0), some (.int a1)] [] z kc ks := by
  unfold fX6_finer at hf
  refine ca_aload_n C dX6_finer_0 rfl rfl ?_
  obtain ⟨x1, h1, hf⟩ := rob hf
  refine ca_getR C dX6_finer_1 tcX6_f27 rfl rfl h1 ?_
  refine ca_iload_n C dX6_finer_4 rfl rfl ?_
  obtain ⟨c5, hc5, hf⟩ := rob hf
  obtain ⟨q5, h5, hf⟩ := rob hf
  refine ca_callV C dX6_finer_5 (mX3_at (cC_tr C) h5) (crc_spec hc5) vw3 (by decide) rfl tX6_l103 tI_X3_at tS_X3_at tZ3 tC_X3_at tH_X3_at (by omega) (by decide) (cs1_sum cs1_nil (Nat.le_of_ble_eq_true rfl)) (by omega) (by omega) ?_
  rcases tbind_spec hf with ⟨e8, h8, rfl⟩ | ⟨v8, z8, ra8, rb8, sa8, sb8, h8, hg8, rfl, rfl⟩
  · exact ca_callXSt C dX6_finer_8 (mX6_needRow (cC_tr C) h8) rfl tX6_m107 tT_X6_needRow tZ6 tC_X6_needRow tH_X6_needRow (by omega) (by decide) (cs1_sum cs1_nil (Nat.le_of_ble_eq_true rfl)) (by omega) (by omega)
  replace hf := hg8
  refine ca_callXSr C dX6_finer_8 (mX6_needRow (cC_tr C) h8) rfl tX6_m107 tT_X6_needRow tZ6 tC_X6_needRow tH_X6_needRow (by omega) (by decide) (cs1_sum cs1_nil (Nat.le_of_ble_eq_true rfl)) (by omega) (by omega) ?_
  refine ca_aload_n C dX6_finer_11 rfl rfl ?_
  obtain ⟨x12, h12, hf⟩ := rob hf
  refine ca_getR C dX6_finer_12 tcX6_f27 rfl rfl h12 ?_
  refine ca_iload_n C dX6_finer_15 rfl rfl ?_
  obtain ⟨c16, hc16, hf⟩ := rob hf
  obtain ⟨q16, h16, hf⟩ := rob hf
  refine ca_callV C dX6_finer_16 (mX3_at (cC_tr C) h16) (crc_spec hc16) vw3 (by decide) rfl tX6_l103 tI_X3_at tS_X3_at tZ3 tC_X3_at tH_X3_at (by omega) (by decide) (cs1_sum cs1_nil (Nat.le_of_ble_eq_true rfl)) (by omega) (by omega) ?_
  rcases tbind_spec hf with ⟨e19, h19, rfl⟩ | ⟨v19, z19, ra19, rb19, sa19, sb19, h19, hg19, rfl, rfl⟩
  · exact ca_callXSt C dX6_finer_19 (mX6_needRow (cC_tr C) h19) rfl tX6_m107 tT_X6_needRow tZ6 tC_X6_needRow tH_X6_needRow (by omega) (by decide) (cs1_sum cs1_nil (Nat.le_of_ble_eq_true rfl)) (by omega) (by omega)
  replace hf := hg19
  refine ca_callXSr C dX6_finer_19 (mX6_needRow (cC_tr C) h19) rfl tX6_m107 tT_X6_needRow tZ6 tC_X6_needRow tH_X6_needRow (by omega) (by decide) (cs1_sum cs1_nil (Nat.le_of_ble_eq_true rfl)) (by omega) (by omega) ?_
  refine ca_aload_n C dX6_finer_22 rfl rfl ?_
  refine ca_aload_n C dX6_finer_23 rfl rfl ?_
  obtain ⟨x24, h24, hf⟩ := rob hf
  refine ca_getR C dX6_finer_24 tcX6_f27 rfl rfl h24 ?_
  refine ca_iload_n C dX6_finer_27 rfl rfl ?_
  refine ca_iload_n C dX6_finer_28 rfl rfl ?_
  refine ca_iconst C dX6_finer_29 (v := 0) (by decide) ?_
  obtain ⟨c30, hc30, hf⟩ := rob hf
  obtain ⟨q30, h30, hf⟩ := rob hf
  refine ca_callV C dX6_finer_30 (mX6_firstMisfit (cC_tr C) _ _ _ _ _ _ _ _ h30) (crc_spec hc30) vw6 (by decide) rfl tX6_l183 tI_X6_firstMisfit tS_X6_firstMisfit tZ6 tC_X6_firstMisfit tH_X6_firstMisfit (by omega) (by decide) (cs1_sum cs1_nil (Nat.le_of_ble_eq_true rfl)) (by omega) (by omega) ?_
  refine ca_if_ne C dX6_finer_33 (tgt := 40) (by decide) (fun c33 => ?_) (fun c33 => ?_)
  · replace hf := rif_n c33 hf
    refine ca_iconst C dX6_finer_40 (v := 0) (by decide) ?_
    refine ca_mask [false, false, false] ?_
    exact bX6_finer_b41 C o _ _ hf (by omega) (by omega)
  · replace hf := rif_p c33 hf
    refine ca_iconst C dX6_finer_36 (v := 1) (by decide) ?_
    refine ca_goto C dX6_finer_37 (tgt := 41) (by decide) ?_
    refine ca_mask [false, false, false] ?_
    exact bX6_finer_b41 C o _ _ hf (by omega) (by omega)
set_option maxRecDepth 100000 in
set_option maxHeartbeats 4000000 in
theorem mX6_finer {l : Launch} (hl : l.stackTraces = false) {G : cG} {o : Nat} {a0 : Int32} {a1 : Int32} {z : cS} {w : Int32 ⊕ Nat} {z' : cS} {A B : Nat} (hf : fX6_finer o a0 a1 z = some (w, z', A, B)) : cMx l G 35 yX6_finer cX6_finer 3 (some .boolean) [.ref o, .int a0, .int a1] z (cOi w, z', A, B) :=
  cMx_of (lo0 := [some (va_rf (some o)), some (.int a0), some (.int a1)]) (by decide +kernel) rfl (cs1_q (cs1_i (cs1_i cs1_nil))) (Nat.le_of_ble_eq_true rfl) rfl hl (fun X hX C => bX6_finer C o a0 a1 z (kc := 0) (ks := 0) hf (Nat.zero_add _).symm (Nat.zero_add _).symm)
set_option maxRecDepth 100000 in
set_option maxHeartbeats 4000000 in
theorem bX6_areAlike_b49 {G : cG} {X : rX} {z0 : cS} {r : Int32 × cS} {fn : Nat} (C : cC G X z0 RX6 11 cX6_areAlike (some .boolean) (1 + (fn + 1)) 0 0) {self : Nat → Int32 → Int32 → Int32 → cS → Option (Int32 × cS)} (hself : ∀ (o : Nat) (a0 : Int32) (a1 : Int32) (a2 : Int32) (z : cS) (r : Int32 × cS), self o a0 a1 a2 z = some r → cM X.2.1 G (1 + fn) yX6_areAlike cX6_areAlike 11 (some .boolean) [.ref o, .int a0, .int a1, .int a2] z (.inl (some (.int r.1)), r.2, 0, 0)) (o : Nat) (z : cS) (hf : fX6_areAlike_b49 self o  z = some r) : cAW false G X z0 (.inl (some (.int r.1)), r.2, 0, 0) 11 49 [none, none, none, none, none, none, none, none, none, none, none] [] z 0 0 := by
  unfold fX6_areAlike_b49 at hf
  refine ca_iconst C dX6_areAlike_49 (v := 0) (by decide) ?_
  obtain ⟨hn, hf⟩ := cbo_spec hf
  obtain rfl := Option.some.inj hf
  exact ca_zret C hn dX6_areAlike_50 (by omega) (by omega)
set_option maxRecDepth 100000 in
set_option maxHeartbeats 4000000 in
theorem bX6_areAlike_b193 {G : cG} {X : rX} {z0 : cS} {r : Int32 × cS} {fn : Nat} (C : cC G X z0 RX6 11 cX6_areAlike (some .boolean) (1 + (fn + 1)) 0 0) {self : Nat → Int32 → Int32 → Int32 → cS → Option (Int32 × cS)} (hself : ∀ (o : Nat) (a0 : Int32) (a1 : Int32) (a2 : Int32) (z : cS) (r : Int32 × cS), self o a0 a1 a2 z = some r → cM X.2.1 G (1 + fn) yX6_areAlike cX6_areAlike 11 (some .boolean) [.ref o, .int a0, .int a1, .int a2] z (.inl (some (.int r.1)), r.2, 0, 0)) (o : Nat) {rec54 : Int32 → Option Nat → Option Nat → Int32 → cS → Option (Int32 × cS)} (hrec54 : ∀ (l3 : Int32) (l4 : Option Nat) (l5 : Option Nat) (l6 : Int32) (z : cS), rec54 l3 l4 l5 l6 z = some r → cAW false G X z0 (.inl (some (.int r.1)), r.2, 0, 0) 11 54 [some (va_rf (some o)), none, none, some (.int l3), some (va_rf l4), some (va_rf l5), some (.int l6), none, none, none, none] [] z 0 0) (l3 : Int32) (l4 : Option Nat) (l5 : Option Nat) (l6 : Int32) (s0 : Int32) (z : cS) (hf : fX6_areAlike_b193 self o rec54 l3 l4 l5 l6 s0 z = some r) : cAW false G X z0 (.inl (some (.int r.1)), r.2, 0, 0) 11 193 [some (va_rf (some o)), none, none, some (.int l3), some (va_rf l4), some (va_rf l5), some (.int l6), none, none, none, none] [.int s0] z 0 0 := by
  unfold fX6_areAlike_b193 at hf
  refine ca_istore C dX6_areAlike_193 (by decide) ?_
  refine ca_iload C dX6_areAlike_195 rfl ?_
  refine ca_if_ne C dX6_areAlike_197 (tgt := 202) (by decide) (fun c197 => ?_) (fun c197 => ?_)
  · replace hf := rif_n c197 hf
    refine ca_iinc C dX6_areAlike_202 rfl (v := 1) (by decide) (by decide) ?_
    refine ca_goto C dX6_areAlike_205 (tgt := 54) (by decide) ?_
    refine ca_mask [true, false, false, true, true, true, true, false, false, false, false] ?_
    exact hrec54 _ _ _ _ _ hf
  · replace hf := rif_p c197 hf
    refine ca_iconst C dX6_areAlike_200 (v := 0) (by decide) ?_
    obtain ⟨hn, hf⟩ := cbo_spec hf
    obtain rfl := Option.some.inj hf
    exact ca_zret C hn dX6_areAlike_201 (by omega) (by omega)
set_option maxRecDepth 100000 in
set_option maxHeartbeats 4000000 in
theorem bX6_areAlike_b146 {G : cG} {X : rX} {z0 : cS} {r : Int32 × cS} {fn : Nat} (C : cC G X z0 RX6 11 cX6_areAlike (some .boolean) (1 + (fn + 1)) 0 0) {self : Nat → Int32 → Int32 → Int32 → cS → Option (Int32 × cS)} (hself : ∀ (o : Nat) (a0 : Int32) (a1 : Int32) (a2 : Int32) (z : cS) (r : Int32 × cS), self o a0 a1 a2 z = some r → cM X.2.1 G (1 + fn) yX6_areAlike cX6_areAlike 11 (some .boolean) [.ref o, .int a0, .int a1, .int a2] z (.inl (some (.int r.1)), r.2, 0, 0)) (o : Nat) {rec54 : Int32 → Option Nat → Option Nat → Int32 → cS → Option (Int32 × cS)} (hrec54 : ∀ (l3 : Int32) (l4 : Option Nat) (l5 : Option Nat) (l6 : Int32) (z : cS), rec54 l3 l4 l5 l6 z = some r → cAW false G X z0 (.inl (some (.int r.1)), r.2, 0, 0) 11 54 [some (va_rf (some o)), none, none, some (.int l3), some (va_rf l4), some (va_rf l5), some (.int l6), none, none, none, none] [] z 0 0) (l3 : Int32) (l4 : Option Nat) (l5 : Option Nat) (l6 : Int32) (l7 : Int32) (l8 : Int32) (s0 : Int32) (z : cS) (hf : fX6_areAlike_b146 self o rec54 l3 l4 l5 l6 l7 l8 s0 z = some r) : cAW false G X z0 (.inl (some (.int r.1)), r.2, 0, 0) 11 146 [some (va_rf (some o)), none, none, some (.int l3), some (va_rf l4), some (va_rf l5), some (.int l6), some (.int l7), some (.int l8), none, none] [.int s0] z 0 0 := by
  unfold fX6_areAlike_b146 at hf
  refine ca_istore C dX6_areAlike_146 (by decide) ?_
  refine ca_iload C dX6_areAlike_148 rfl ?_
  refine ca_if_ne C dX6_areAlike_150 (tgt := 155) (by decide) (fun c150 => ?_) (fun c150 => ?_)
  · replace hf := rif_n c150 hf
    refine ca_aload C dX6_areAlike_155 rfl ?_
    refine ca_iload C dX6_areAlike_157 rfl ?_
    refine ca_iconst C dX6_areAlike_159 (v := 0) (by decide) ?_
    obtain ⟨c160, hc160, hf⟩ := rob hf
    obtain ⟨q160, h160, hf⟩ := rob hf
    refine ca_callV C dX6_areAlike_160 (mX2_get (cC_tr C) h160) (crc_spec hc160) vw2 (by decide) rfl tX6_l120 tI_X2_get tS_X2_get tZ2 tC_X2_get tH_X2_get (by omega) (by decide) (cs1_sum cs1_nil (Nat.le_of_ble_eq_true rfl)) (by omega) (by omega) ?_
    refine ca_iconst C dX6_areAlike_163 (v := 2) (by decide) ?_
    refine ca_icmp_ne C dX6_areAlike_164 (tgt := 181) (by decide) (fun c164 => ?_) (fun c164 => ?_)
    · replace hf := rif_n c164 hf
      refine ca_iload C dX6_areAlike_181 rfl ?_
      refine ca_iload C dX6_areAlike_183 rfl ?_
      refine ca_icmp_ne C dX6_areAlike_185 (tgt := 192) (by decide) (fun c185 => ?_) (fun c185 => ?_)
      · replace hf := rif_n c185 hf
        refine ca_iconst C dX6_areAlike_192 (v := 0) (by decide) ?_
        refine ca_mask [true, false, false, true, true, true, true, false, false, false, false] ?_
        exact bX6_areAlike_b193 C hself o hrec54 _ _ _ _ _ _ hf
      · replace hf := rif_p c185 hf
        refine ca_iconst C dX6_areAlike_188 (v := 1) (by decide) ?_
        refine ca_goto C dX6_areAlike_189 (tgt := 193) (by decide) ?_
        refine ca_mask [true, false, false, true, true, true, true, false, false, false, false] ?_
        exact bX6_areAlike_b193 C hself o hrec54 _ _ _ _ _ _ hf
    · replace hf := rif_p c164 hf
      refine ca_aload_n C dX6_areAlike_167 rfl rfl ?_
      refine ca_iload C dX6_areAlike_168 rfl ?_
      refine ca_iload C dX6_areAlike_170 rfl ?_
      refine ca_iload_n C dX6_areAlike_172 rfl rfl ?_
      refine ca_iconst C dX6_areAlike_173 (v := 1) (by decide) ?_
      refine ca_iadd C dX6_areAlike_174 ?_
      obtain ⟨c175, hc175, hf⟩ := rob hf
      obtain ⟨q175, h175, hf⟩ := rob hf
      refine ca_callV C dX6_areAlike_175 (hself _ _ _ _ _ _ h175) (crc_spec hc175) vw6 (by decide) rfl tX6_l191 tI_X6_areAlike tS_X6_areAlike tZ6 tC_X6_areAlike tH_X6_areAlike (by omega) (by decide) (cs1_sum cs1_nil (Nat.le_of_ble_eq_true rfl)) (by omega) (by omega) ?_
      refine ca_goto C dX6_areAlike_178 (tgt := 193) (by decide) ?_
      refine ca_mask [true, false, false, true, true, true, true, false, false, false, false] ?_
      exact bX6_areAlike_b193 C hself o hrec54 _ _ _ _ _ _ hf
  · replace hf := rif_p c150 hf
    refine ca_iconst C dX6_areAlike_153 (v := 0) (by decide) ?_
    obtain ⟨hn, hf⟩ := cbo_spec hf
    obtain rfl := Option.some.inj hf
    exact ca_zret C hn dX6_areAlike_154 (by omega) (by omega)
set_option maxRecDepth 100000 in
set_option maxHeartbeats 4000000 in
theorem bX6_areAlike_b145 {G : cG} {X : rX} {z0 : cS} {r : Int32 × cS} {fn : Nat} (C : cC G X z0 RX6 11 cX6_areAlike (some .boolean) (1 + (fn + 1)) 0 0) {self : Nat → Int32 → Int32 → Int32 → cS → Option (Int32 × cS)} (hself : ∀ (o : Nat) (a0 : Int32) (a1 : Int32) (a2 : Int32) (z : cS) (r : Int32 × cS), self o a0 a1 a2 z = some r → cM X.2.1 G (1 + fn) yX6_areAlike cX6_areAlike 11 (some .boolean) [.ref o, .int a0, .int a1, .int a2] z (.inl (some (.int r.1)), r.2, 0, 0)) (o : Nat) {rec54 : Int32 → Option Nat → Option Nat → Int32 → cS → Option (Int32 × cS)} (hrec54 : ∀ (l3 : Int32) (l4 : Option Nat) (l5 : Option Nat) (l6 : Int32) (z : cS), rec54 l3 l4 l5 l6 z = some r → cAW false G X z0 (.inl (some (.int r.1)), r.2, 0, 0) 11 54 [some (va_rf (some o)), none, none, some (.int l3), some (va_rf l4), some (va_rf l5), some (.int l6), none, none, none, none] [] z 0 0) (l3 : Int32) (l4 : Option Nat) (l5 : Option Nat) (l6 : Int32) (l7 : Int32) (l8 : Int32) (z : cS) (hf : fX6_areAlike_b145 self o rec54 l3 l4 l5 l6 l7 l8 z = some r) : cAW false G X z0 (.inl (some (.int r.1)), r.2, 0, 0) 11 145 [some (va_rf (some o)), none, none, some (.int l3), some (va_rf l4), some (va_rf l5), some (.int l6), some (.int l7), some (.int l8), none, none] [] z 0 0 := by
  unfold fX6_areAlike_b145 at hf
  refine ca_iconst C dX6_areAlike_145 (v := 0) (by decide) ?_
  exact bX6_areAlike_b146 C hself o hrec54 _ _ _ _ _ _ _ _ hf
set_option maxRecDepth 100000 in
set_option maxHeartbeats 4000000 in
theorem bX6_areAlike_b54_body {G : cG} {X : rX} {z0 : cS} {r : Int32 × cS} {fn : Nat} (C : cC G X z0 RX6 11 cX6_areAlike (some .boolean) (1 + (fn + 1)) 0 0) {self : Nat → Int32 → Int32 → Int32 → cS → Option (Int32 × cS)} (hself : ∀ (o : Nat) (a0 : Int32) (a1 : Int32) (a2 : Int32) (z : cS) (r : Int32 × cS), self o a0 a1 a2 z = some r → cM X.2.1 G (1 + fn) yX6_areAlike cX6_areAlike 11 (some .boolean) [.ref o, .int a0, .int a1, .int a2] z (.inl (some (.int r.1)), r.2, 0, 0)) (o : Nat) {rec54 : Int32 → Option Nat → Option Nat → Int32 → cS → Option (Int32 × cS)} (hrec54 : ∀ (l3 : Int32) (l4 : Option Nat) (l5 : Option Nat) (l6 : Int32) (z : cS), rec54 l3 l4 l5 l6 z = some r → cAW false G X z0 (.inl (some (.int r.1)), r.2, 0, 0) 11 54 [some (va_rf (some o)), none, none, some (.int l3), some (va_rf l4), some (va_rf l5), some (.int l6), none, none, none, none] [] z 0 0) (l3 : Int32) (l4 : Option Nat) (l5 : Option Nat) (l6 : Int32) (z : cS) (hf : fX6_areAlike_b54_body self o rec54 l3 l4 l5 l6 z = some r) : cAW false G X z0 (.inl (some (.int r.1)), r.2, 0, 0) 11 54 [some (va_rf (some o)), none, none, some (.int l3), some (va_rf l4), some (va_rf l5), some (.int l6), none, none, none, none] [] z 0 0 := by
  unfold fX6_areAlike_b54_body at hf
  refine ca_iload C dX6_areAlike_54 rfl ?_
  refine ca_aload C dX6_areAlike_56 rfl ?_
  obtain ⟨q58, hq58, hf⟩ := rob hf
  obtain ⟨x58, h58, hf⟩ := rob hf
  refine ca_getI C dX6_areAlike_58 tcX6_f116 rfl hq58 h58 ?_
  refine ca_icmp_ge C dX6_areAlike_61 (tgt := 208) (by decide) (fun c61 => ?_) (fun c61 => ?_)
  · replace hf := rif_p c61 hf
    refine ca_iconst C dX6_areAlike_208 (v := 1) (by decide) ?_
    obtain ⟨hn, hf⟩ := cbo_spec hf
    obtain rfl := Option.some.inj hf
    exact ca_zret C hn dX6_areAlike_209 (by omega) (by omega)
  · replace hf := rif_n c61 hf
    refine ca_aload C dX6_areAlike_64 rfl ?_
    refine ca_iload C dX6_areAlike_66 rfl ?_
    refine ca_iconst C dX6_areAlike_68 (v := 2) (by decide) ?_
    obtain ⟨c69, hc69, hf⟩ := rob hf
    obtain ⟨q69, h69, hf⟩ := rob hf
    refine ca_callV C dX6_areAlike_69 (mX2_get (cC_tr C) h69) (crc_spec hc69) vw2 (by decide) rfl tX6_l120 tI_X2_get tS_X2_get tZ2 tC_X2_get tH_X2_get (by omega) (by decide) (cs1_sum cs1_nil (Nat.le_of_ble_eq_true rfl)) (by omega) (by omega) ?_
    refine ca_istore C dX6_areAlike_72 (by decide) ?_
    refine ca_aload C dX6_areAlike_74 rfl ?_
    refine ca_iload C dX6_areAlike_76 rfl ?_
    refine ca_iconst C dX6_areAlike_78 (v := 2) (by decide) ?_
    obtain ⟨c79, hc79, hf⟩ := rob hf
    obtain ⟨q79, h79, hf⟩ := rob hf
    refine ca_callV C dX6_areAlike_79 (mX2_get (cC_tr C) h79) (crc_spec hc79) vw2 (by decide) rfl tX6_l120 tI_X2_get tS_X2_get tZ2 tC_X2_get tH_X2_get (by omega) (by decide) (cs1_sum cs1_nil (Nat.le_of_ble_eq_true rfl)) (by omega) (by omega) ?_
    refine ca_istore C dX6_areAlike_82 (by decide) ?_
    refine ca_aload C dX6_areAlike_84 rfl ?_
    refine ca_iload C dX6_areAlike_86 rfl ?_
    refine ca_iconst C dX6_areAlike_88 (v := 0) (by decide) ?_
    obtain ⟨c89, hc89, hf⟩ := rob hf
    obtain ⟨q89, h89, hf⟩ := rob hf
    refine ca_callV C dX6_areAlike_89 (mX2_get (cC_tr C) h89) (crc_spec hc89) vw2 (by decide) rfl tX6_l120 tI_X2_get tS_X2_get tZ2 tC_X2_get tH_X2_get (by omega) (by decide) (cs1_sum cs1_nil (Nat.le_of_ble_eq_true rfl)) (by omega) (by omega) ?_
    refine ca_aload C dX6_areAlike_92 rfl ?_
    refine ca_iload C dX6_areAlike_94 rfl ?_
    refine ca_iconst C dX6_areAlike_96 (v := 0) (by decide) ?_
    obtain ⟨c97, hc97, hf⟩ := rob hf
    obtain ⟨q97, h97, hf⟩ := rob hf
    refine ca_callV C dX6_areAlike_97 (mX2_get (cC_tr C) h97) (crc_spec hc97) vw2 (by decide) rfl tX6_l120 tI_X2_get tS_X2_get tZ2 tC_X2_get tH_X2_get (by omega) (by decide) (cs1_sum (cs1_i cs1_nil) (Nat.le_of_ble_eq_true rfl)) (by omega) (by omega) ?_
    refine ca_icmp_ne C dX6_areAlike_100 (tgt := 145) (by decide) (fun c100 => ?_) (fun c100 => ?_)
    · replace hf := rif_n c100 hf
      exact bX6_areAlike_b145 C hself o hrec54 _ _ _ _ _ _ _ hf
    · replace hf := rif_p c100 hf
      refine ca_aload C dX6_areAlike_103 rfl ?_
      refine ca_iload C dX6_areAlike_105 rfl ?_
      refine ca_iconst C dX6_areAlike_107 (v := 1) (by decide) ?_
      obtain ⟨c108, hc108, hf⟩ := rob hf
      obtain ⟨q108, h108, hf⟩ := rob hf
      refine ca_callV C dX6_areAlike_108 (mX2_get (cC_tr C) h108) (crc_spec hc108) vw2 (by decide) rfl tX6_l120 tI_X2_get tS_X2_get tZ2 tC_X2_get tH_X2_get (by omega) (by decide) (cs1_sum cs1_nil (Nat.le_of_ble_eq_true rfl)) (by omega) (by omega) ?_
      refine ca_aload C dX6_areAlike_111 rfl ?_
      refine ca_iload C dX6_areAlike_113 rfl ?_
      refine ca_iconst C dX6_areAlike_115 (v := 1) (by decide) ?_
      obtain ⟨c116, hc116, hf⟩ := rob hf
      obtain ⟨q116, h116, hf⟩ := rob hf
      refine ca_callV C dX6_areAlike_116 (mX2_get (cC_tr C) h116) (crc_spec hc116) vw2 (by decide) rfl tX6_l120 tI_X2_get tS_X2_get tZ2 tC_X2_get tH_X2_get (by omega) (by decide) (cs1_sum (cs1_i cs1_nil) (Nat.le_of_ble_eq_true rfl)) (by omega) (by omega) ?_
      refine ca_icmp_ne C dX6_areAlike_119 (tgt := 145) (by decide) (fun c119 => ?_) (fun c119 => ?_)
      · replace hf := rif_n c119 hf
        exact bX6_areAlike_b145 C hself o hrec54 _ _ _ _ _ _ _ hf
      · replace hf := rif_p c119 hf
        refine ca_aload C dX6_areAlike_122 rfl ?_
        refine ca_iload C dX6_areAlike_124 rfl ?_
        refine ca_iconst C dX6_areAlike_126 (v := 3) (by decide) ?_
        obtain ⟨c127, hc127, hf⟩ := rob hf
        obtain ⟨q127, h127, hf⟩ := rob hf
        refine ca_callV C dX6_areAlike_127 (mX2_get (cC_tr C) h127) (crc_spec hc127) vw2 (by decide) rfl tX6_l120 tI_X2_get tS_X2_get tZ2 tC_X2_get tH_X2_get (by omega) (by decide) (cs1_sum cs1_nil (Nat.le_of_ble_eq_true rfl)) (by omega) (by omega) ?_
        refine ca_aload C dX6_areAlike_130 rfl ?_
        refine ca_iload C dX6_areAlike_132 rfl ?_
        refine ca_iconst C dX6_areAlike_134 (v := 3) (by decide) ?_
        obtain ⟨c135, hc135, hf⟩ := rob hf
        obtain ⟨q135, h135, hf⟩ := rob hf
        refine ca_callV C dX6_areAlike_135 (mX2_get (cC_tr C) h135) (crc_spec hc135) vw2 (by decide) rfl tX6_l120 tI_X2_get tS_X2_get tZ2 tC_X2_get tH_X2_get (by omega) (by decide) (cs1_sum (cs1_i cs1_nil) (Nat.le_of_ble_eq_true rfl)) (by omega) (by omega) ?_
        refine ca_icmp_ne C dX6_areAlike_138 (tgt := 145) (by decide) (fun c138 => ?_) (fun c138 => ?_)
        · replace hf := rif_n c138 hf
          exact bX6_areAlike_b145 C hself o hrec54 _ _ _ _ _ _ _ hf
        · replace hf := rif_p c138 hf
          refine ca_iconst C dX6_areAlike_141 (v := 1) (by decide) ?_
          refine ca_goto C dX6_areAlike_142 (tgt := 146) (by decide) ?_
          exact bX6_areAlike_b146 C hself o hrec54 _ _ _ _ _ _ _ _ hf
set_option maxRecDepth 100000 in
set_option maxHeartbeats 4000000 in
theorem bX6_areAlike_b54 {G : cG} {X : rX} {z0 : cS} {r : Int32 × cS} {fn : Nat} (C : cC G X z0 RX6 11 cX6_areAlike (some .boolean) (1 + (fn + 1)) 0 0) {self : Nat → Int32 → Int32 → Int32 → cS → Option (Int32 × cS)} (hself : ∀ (o : Nat) (a0 : Int32) (a1 : Int32) (a2 : Int32) (z : cS) (r : Int32 × cS), self o a0 a1 a2 z = some r → cM X.2.1 G (1 + fn) yX6_areAlike cX6_areAlike 11 (some .boolean) [.ref o, .int a0, .int a1, .int a2] z (.inl (some (.int r.1)), r.2, 0, 0)) (o : Nat) : ∀ (n : Nat) (l3 : Int32) (l4 : Option Nat) (l5 : Option Nat) (l6 : Int32) (z : cS), fX6_areAlike_b54 self o n l3 l4 l5 l6 z = some r → cAW false G X z0 (.inl (some (.int r.1)), r.2, 0, 0) 11 54 [some (va_rf (some o)), none, none, some (.int l3), some (va_rf l4), some (va_rf l5), some (.int l6), none, none, none, none] [] z 0 0 := by
  intro n
  induction n with
  | zero => intro l3 l4 l5 l6 z hf; cases hf
  | succ n ih => intro l3 l4 l5 l6 z hf; exact bX6_areAlike_b54_body C hself o (fun l3 l4 l5 l6 z h => ih l3 l4 l5 l6 z h) l3 l4 l5 l6 z hf
set_option maxRecDepth 100000 in
set_option maxHeartbeats 4000000 in
theorem bX6_areAlike {G : cG} {X : rX} {z0 : cS} {r : Int32 × cS} {fn : Nat} (C : cC G X z0 RX6 11 cX6_areAlike (some .boolean) (1 + (fn + 1)) 0 0) {self : Nat → Int32 → Int32 → Int32 → cS → Option (Int32 × cS)} (hself : ∀ (o : Nat) (a0 : Int32) (a1 : Int32) (a2 : Int32) (z : cS) (r : Int32 × cS), self o a0 a1 a2 z = some r → cM X.2.1 G (1 + fn) yX6_areAlike cX6_areAlike 11 (some .boolean) [.ref o, .int a0, .int a1, .int a2] z (.inl (some (.int r.1)), r.2, 0, 0)) (o : Nat) (a0 : Int32) (a1 : Int32) (a2 : Int32) (z : cS) (hf : fX6_areAlike_fun self o a0 a1 a2 z = some r) : cAW false G X z0 (.inl (some (.int r.1)), r.2, 0, 0) 11 0 [some (va_rf (some o)), some (.int a0), some (.int a1), some (.int a2), none, none, none, none, none, none, none] [] z 0 0 := by
  unfold fX6_areAlike_fun at hf
  refine ca_aload_n C dX6_areAlike_0 rfl rfl ?_
  obtain ⟨x1, h1, hf⟩ := rob hf
  refine ca_getR C dX6_areAlike_1 tcX6_f27 rfl rfl h1 ?_
  refine ca_iload_n C dX6_areAlike_4 rfl rfl ?_
  obtain ⟨c5, hc5, hf⟩ := rob hf
  obtain ⟨q5, h5, hf⟩ := rob hf
  refine ca_callV C dX6_areAlike_5 (mX3_at (cC_tr C) h5) (crc_spec hc5) vw3 (by decide) rfl tX6_l103 tI_X3_at tS_X3_at tZ3 tC_X3_at tH_X3_at (by omega) (by decide) (cs1_sum cs1_nil (Nat.le_of_ble_eq_true rfl)) (by omega) (by omega) ?_
  refine ca_astore C dX6_areAlike_8 (by decide) ?_
  refine ca_aload_n C dX6_areAlike_10 rfl rfl ?_
  obtain ⟨x11, h11, hf⟩ := rob hf
  refine ca_getR C dX6_areAlike_11 tcX6_f27 rfl rfl h11 ?_
  refine ca_iload_n C dX6_areAlike_14 rfl rfl ?_
  obtain ⟨c15, hc15, hf⟩ := rob hf
  obtain ⟨q15, h15, hf⟩ := rob hf
  refine ca_callV C dX6_areAlike_15 (mX3_at (cC_tr C) h15) (crc_spec hc15) vw3 (by decide) rfl tX6_l103 tI_X3_at tS_X3_at tZ3 tC_X3_at tH_X3_at (by omega) (by decide) (cs1_sum cs1_nil (Nat.le_of_ble_eq_true rfl)) (by omega) (by omega) ?_
  refine ca_astore C dX6_areAlike_18 (by decide) ?_
  refine ca_aload C dX6_areAlike_20 rfl ?_
  refine ca_ifnull C dX6_areAlike_22 (tgt := 49) (by decide) (fun c22 => ?_) (fun c22 => ?_)
  · replace hf := rif_p c22 hf
    refine ca_mask [false, false, false, false, false, false, false, false, false, false, false] ?_
    exact bX6_areAlike_b49 C hself o  _ hf
  · replace hf := rif_n c22 hf
    refine ca_aload C dX6_areAlike_25 rfl ?_
    refine ca_ifnull C dX6_areAlike_27 (tgt := 49) (by decide) (fun c27 => ?_) (fun c27 => ?_)
    · replace hf := rif_p c27 hf
      refine ca_mask [false, false, false, false, false, false, false, false, false, false, false] ?_
      exact bX6_areAlike_b49 C hself o  _ hf
    · replace hf := rif_n c27 hf
      refine ca_iload_n C dX6_areAlike_30 rfl rfl ?_
      refine ca_bipush C dX6_areAlike_31 (v := 20) (by decide) ?_
      refine ca_icmp_gt C dX6_areAlike_33 (tgt := 49) (by decide) (fun c33 => ?_) (fun c33 => ?_)
      · replace hf := rif_p c33 hf
        refine ca_mask [false, false, false, false, false, false, false, false, false, false, false] ?_
        exact bX6_areAlike_b49 C hself o  _ hf
      · replace hf := rif_n c33 hf
        refine ca_aload C dX6_areAlike_36 rfl ?_
        obtain ⟨q38, hq38, hf⟩ := rob hf
        obtain ⟨x38, h38, hf⟩ := rob hf
        refine ca_getI C dX6_areAlike_38 tcX6_f116 rfl hq38 h38 ?_
        refine ca_aload C dX6_areAlike_41 rfl ?_
        obtain ⟨q43, hq43, hf⟩ := rob hf
        obtain ⟨x43, h43, hf⟩ := rob hf
        refine ca_getI C dX6_areAlike_43 tcX6_f116 rfl hq43 h43 ?_
        refine ca_icmp_eq C dX6_areAlike_46 (tgt := 51) (by decide) (fun c46 => ?_) (fun c46 => ?_)
        · replace hf := rif_p c46 hf
          refine ca_iconst C dX6_areAlike_51 (v := 0) (by decide) ?_
          refine ca_istore C dX6_areAlike_52 (by decide) ?_
          refine ca_mask [true, false, false, true, true, true, true, false, false, false, false] ?_
          exact bX6_areAlike_b54 C hself o _ _ _ _ _ _ hf
        · replace hf := rif_n c46 hf
          refine ca_mask [false, false, false, false, false, false, false, false, false, false, false] ?_
          exact bX6_areAlike_b49 C hself o  _ hf
set_option maxRecDepth 100000 in
set_option maxHeartbeats 4000000 in
theorem mX6_areAlike {l : Launch} (hl : l.stackTraces = false) {G : cG} : ∀ (fn : Nat) (o : Nat) (a0 : Int32) (a1 : Int32) (a2 : Int32) (z : cS) (r : Int32 × cS) (hf : fX6_areAlike fn o a0 a1 a2 z = some r), cM l G (1 + fn) yX6_areAlike cX6_areAlike 11 (some .boolean) [.ref o, .int a0, .int a1, .int a2] z (.inl (some (.int r.1)), r.2, 0, 0) := by
  intro fn
  induction fn with
  | zero => intro o a0 a1 a2 z r hf; cases hf
  | succ fn ih =>
    intro o a0 a1 a2 z r hf
    exact cM_of (lo0 := [some (va_rf (some o)), some (.int a0), some (.int a1), some (.int a2), none, none, none, none, none, none, none]) (by decide +kernel) rfl (cs1_q (cs1_i (cs1_i (cs1_i cs1_nil)))) (Nat.le_of_ble_eq_true rfl) rfl hl (fun X hX _ C => bX6_areAlike C (fun o a0 a1 a2 z r h => by rw [hX]; exact ih o a0 a1 a2 z r h) o a0 a1 a2 z hf)
set_option maxRecDepth 100000 in
set_option maxHeartbeats 4000000 in
theorem bX6_alike {G : cG} {X : rX} {z0 : cS} {w : Int32 ⊕ Nat} {z' : cS} {A B : Nat} (C : cC G X z0 RX6 3 cX6_alike (some .boolean) 32 A B) (o : Nat) (a0 : Int32) (a1 : Int32) (z : cS) {kc ks ra rb : Nat} (hf : fX6_alike o a0 a1 z = some (w, z', ra, rb)) (ha : A = kc + ra) (hb : B = ks + rb) : cAW true G X z0 (cOi w, z', A, B) 3 0 [some (va_rf (some o)), some (.int a0), some (.int a1)] [] z kc ks := by
  unfold fX6_alike at hf
  refine ca_aload_n C dX6_alike_0 rfl rfl ?_
  obtain ⟨x1, h1, hf⟩ := rob hf
  refine ca_getR C dX6_alike_1 tcX6_f27 rfl rfl h1 ?_
  refine ca_iload_n C dX6_alike_4 rfl rfl ?_
  obtain ⟨c5, hc5, hf⟩ := rob hf
  obtain ⟨q5, h5, hf⟩ := rob hf
  refine ca_callV C dX6_alike_5 (mX3_at (cC_tr C) h5) (crc_spec hc5) vw3 (by decide) rfl tX6_l103 tI_X3_at tS_X3_at tZ3 tC_X3_at tH_X3_at (by omega) (by decide) (cs1_sum cs1_nil (Nat.le_of_ble_eq_true rfl)) (by omega) (by omega) ?_
  rcases tbind_spec hf with ⟨e8, h8, rfl⟩ | ⟨v8, z8, ra8, rb8, sa8, sb8, h8, hg8, rfl, rfl⟩
  · exact ca_callXSt C dX6_alike_8 (mX6_needRow (cC_tr C) h8) rfl tX6_m107 tT_X6_needRow tZ6 tC_X6_needRow tH_X6_needRow (by omega) (by decide) (cs1_sum cs1_nil (Nat.le_of_ble_eq_true rfl)) (by omega) (by omega)
  replace hf := hg8
  refine ca_callXSr C dX6_alike_8 (mX6_needRow (cC_tr C) h8) rfl tX6_m107 tT_X6_needRow tZ6 tC_X6_needRow tH_X6_needRow (by omega) (by decide) (cs1_sum cs1_nil (Nat.le_of_ble_eq_true rfl)) (by omega) (by omega) ?_
  refine ca_aload_n C dX6_alike_11 rfl rfl ?_
  obtain ⟨x12, h12, hf⟩ := rob hf
  refine ca_getR C dX6_alike_12 tcX6_f27 rfl rfl h12 ?_
  refine ca_iload_n C dX6_alike_15 rfl rfl ?_
  obtain ⟨c16, hc16, hf⟩ := rob hf
  obtain ⟨q16, h16, hf⟩ := rob hf
  refine ca_callV C dX6_alike_16 (mX3_at (cC_tr C) h16) (crc_spec hc16) vw3 (by decide) rfl tX6_l103 tI_X3_at tS_X3_at tZ3 tC_X3_at tH_X3_at (by omega) (by decide) (cs1_sum cs1_nil (Nat.le_of_ble_eq_true rfl)) (by omega) (by omega) ?_
  rcases tbind_spec hf with ⟨e19, h19, rfl⟩ | ⟨v19, z19, ra19, rb19, sa19, sb19, h19, hg19, rfl, rfl⟩
  · exact ca_callXSt C dX6_alike_19 (mX6_needRow (cC_tr C) h19) rfl tX6_m107 tT_X6_needRow tZ6 tC_X6_needRow tH_X6_needRow (by omega) (by decide) (cs1_sum cs1_nil (Nat.le_of_ble_eq_true rfl)) (by omega) (by omega)
  replace hf := hg19
  refine ca_callXSr C dX6_alike_19 (mX6_needRow (cC_tr C) h19) rfl tX6_m107 tT_X6_needRow tZ6 tC_X6_needRow tH_X6_needRow (by omega) (by decide) (cs1_sum cs1_nil (Nat.le_of_ble_eq_true rfl)) (by omega) (by omega) ?_
  refine ca_aload_n C dX6_alike_22 rfl rfl ?_
  refine ca_iload_n C dX6_alike_23 rfl rfl ?_
  refine ca_iload_n C dX6_alike_24 rfl rfl ?_
  refine ca_iconst C dX6_alike_25 (v := 0) (by decide) ?_
  obtain ⟨c26, hc26, hf⟩ := rob hf
  obtain ⟨q26, h26, hf⟩ := rob hf
  refine ca_callV C dX6_alike_26 (mX6_areAlike (cC_tr C) _ _ _ _ _ _ _ h26) (crc_spec hc26) vw6 (by decide) rfl tX6_l191 tI_X6_areAlike tS_X6_areAlike tZ6 tC_X6_areAlike tH_X6_areAlike (by omega) (by decide) (cs1_sum cs1_nil (Nat.le_of_ble_eq_true rfl)) (by omega) (by omega) ?_
  obtain ⟨hn, hf⟩ := cbo_spec hf
  cases hf
  exact ca_zret C hn dX6_alike_29 (by omega) (by omega)
set_option maxRecDepth 100000 in
set_option maxHeartbeats 4000000 in
theorem mX6_alike {l : Launch} (hl : l.stackTraces = false) {G : cG} {o : Nat} {a0 : Int32} {a1 : Int32} {z : cS} {w : Int32 ⊕ Nat} {z' : cS} {A B : Nat} (hf : fX6_alike o a0 a1 z = some (w, z', A, B)) : cMx l G 32 yX6_alike cX6_alike 3 (some .boolean) [.ref o, .int a0, .int a1] z (cOi w, z', A, B) :=
  cMx_of (lo0 := [some (va_rf (some o)), some (.int a0), some (.int a1)]) (by decide +kernel) rfl (cs1_q (cs1_i (cs1_i cs1_nil))) (Nat.le_of_ble_eq_true rfl) rfl hl (fun X hX C => bX6_alike C o a0 a1 z (kc := 0) (ks := 0) hf (Nat.zero_add _).symm (Nat.zero_add _).symm)
set_option maxRecDepth 100000 in
set_option maxHeartbeats 4000000 in
theorem bX6_bodyType_b13 {G : cG} {X : rX} {z0 : cS} {w : Int32 ⊕ Nat} {z' : cS} {A B : Nat} (C : cC G X z0 RX6 3 cX6_bodyType (some .int) 7 A B) (o : Nat) (l1 : Int32) (l2 : Int32) (z : cS) {kc ks ra rb : Nat} (hf : fX6_bodyType_b13 o l1 l2 z = some (w, z', ra, rb)) (ha : A = kc + ra) (hb : B = ks + rb) : cAW true G X z0 (cOi w, z', A, B) 3 13 [some (va_rf (some o)), some (.int l1), some (.int l2)] [] z kc ks := by
  unfold fX6_bodyType_b13 at hf
  refine ca_aload_n C dX6_bodyType_13 rfl rfl ?_
  obtain ⟨x14, h14, hf⟩ := rob hf
  refine ca_getR C dX6_bodyType_14 tcX6_f38 rfl rfl h14 ?_
  refine ca_iconst C dX6_bodyType_17 (v := 0) (by decide) ?_
  refine ca_iload_n C dX6_bodyType_18 rfl rfl ?_
  rcases tbind_spec hf with ⟨e19, h19, rfl⟩ | ⟨v19, z19, ra19, rb19, sa19, sb19, h19, hg19, rfl, rfl⟩
  · exact ca_callXSt C dX6_bodyType_19 (mX6_needPlace (cC_tr C) h19) rfl tX6_m147 tT_X6_needPlace tZ6 tC_X6_needPlace tH_X6_needPlace (by omega) (by decide) (cs1_sum cs1_nil (Nat.le_of_ble_eq_true rfl)) (by omega) (by omega)
  replace hf := hg19
  refine ca_callXSr C dX6_bodyType_19 (mX6_needPlace (cC_tr C) h19) rfl tX6_m147 tT_X6_needPlace tZ6 tC_X6_needPlace tH_X6_needPlace (by omega) (by decide) (cs1_sum cs1_nil (Nat.le_of_ble_eq_true rfl)) (by omega) (by omega) ?_
  refine ca_aload_n C dX6_bodyType_22 rfl rfl ?_
  obtain ⟨x23, h23, hf⟩ := rob hf
  refine ca_getR C dX6_bodyType_23 tcX6_f38 rfl rfl h23 ?_
  refine ca_iconst C dX6_bodyType_26 (v := 0) (by decide) ?_
  refine ca_iload_n C dX6_bodyType_27 rfl rfl ?_
  refine ca_bipush C dX6_bodyType_28 (v := (-100)) (by decide) ?_
  refine ca_bipush C dX6_bodyType_30 (v := (-100)) (by decide) ?_
  refine ca_iconst C dX6_bodyType_32 (v := 0) (by decide) ?_
  refine ca_iload_n C dX6_bodyType_33 rfl rfl ?_
  obtain ⟨c34, hc34, hf⟩ := rob hf
  obtain ⟨q34, h34, hf⟩ := rob hf
  refine ca_callV C dX6_bodyType_34 (mX2_add (cC_tr C) h34) (crc_spec hc34) vw2 (by decide) rfl tX6_l139 tI_X2_add tS_X2_add tZ2 tC_X2_add tH_X2_add (by omega) (by decide) (cs1_sum cs1_nil (Nat.le_of_ble_eq_true rfl)) (by omega) (by omega) ?_
  refine ca_aload_n C dX6_bodyType_37 rfl rfl ?_
  obtain ⟨x38, h38, hf⟩ := rob hf
  refine ca_getR C dX6_bodyType_38 tcX6_f38 rfl rfl h38 ?_
  obtain ⟨q41, hq41, hf⟩ := rob hf
  obtain ⟨x41, h41, hf⟩ := rob hf
  refine ca_getI C dX6_bodyType_41 tcX6_f116 rfl hq41 h41 ?_
  cases hf
  exact ca_iret C dX6_bodyType_44 (by omega) (by omega)
set_option maxRecDepth 100000 in
set_option maxHeartbeats 4000000 in
theorem bX6_bodyType {G : cG} {X : rX} {z0 : cS} {w : Int32 ⊕ Nat} {z' : cS} {A B : Nat} (C : cC G X z0 RX6 3 cX6_bodyType (some .int) 7 A B) (o : Nat) (a0 : Int32) (a1 : Int32) (z : cS) {kc ks ra rb : Nat} (hf : fX6_bodyType o a0 a1 z = some (w, z', ra, rb)) (ha : A = kc + ra) (hb : B = ks + rb) : cAW true G X z0 (cOi w, z', A, B) 3 0 [some (va_rf (some o)), some (.int a0), some (.int a1)] [] z kc ks := by
  unfold fX6_bodyType at hf
  refine ca_iload_n C dX6_bodyType_0 rfl rfl ?_
  rcases tbind_spec hf with ⟨e1, h1, rfl⟩ | ⟨v1, z1, ra1, rb1, sa1, sb1, h1, hg1, rfl, rfl⟩
  · exact ca_callXSt C dX6_bodyType_1 (mX6_needName (cC_tr C) h1) rfl tX6_m89 tT_X6_needName tZ6 tC_X6_needName tH_X6_needName (by omega) (by decide) (cs1_sum cs1_nil (Nat.le_of_ble_eq_true rfl)) (by omega) (by omega)
  replace hf := hg1
  refine ca_callXSr C dX6_bodyType_1 (mX6_needName (cC_tr C) h1) rfl tX6_m89 tT_X6_needName tZ6 tC_X6_needName tH_X6_needName (by omega) (by decide) (cs1_sum cs1_nil (Nat.le_of_ble_eq_true rfl)) (by omega) (by omega) ?_
  refine ca_iload_n C dX6_bodyType_4 rfl rfl ?_
  refine ca_iconst C dX6_bodyType_5 (v := (-1)) (by decide) ?_
  refine ca_icmp_eq C dX6_bodyType_6 (tgt := 13) (by decide) (fun c6 => ?_) (fun c6 => ?_)
  · replace hf := rif_p c6 hf
    exact bX6_bodyType_b13 C o _ _ _ hf (by omega) (by omega)
  · replace hf := rif_n c6 hf
    refine ca_iload_n C dX6_bodyType_9 rfl rfl ?_
    rcases tbind_spec hf with ⟨e10, h10, rfl⟩ | ⟨v10, z10, ra10, rb10, sa10, sb10, h10, hg10, rfl, rfl⟩
    · exact ca_callXSt C dX6_bodyType_10 (mX6_needName (cC_tr C) h10) rfl tX6_m89 tT_X6_needName tZ6 tC_X6_needName tH_X6_needName (by omega) (by decide) (cs1_sum cs1_nil (Nat.le_of_ble_eq_true rfl)) (by omega) (by omega)
    replace hf := hg10
    refine ca_callXSr C dX6_bodyType_10 (mX6_needName (cC_tr C) h10) rfl tX6_m89 tT_X6_needName tZ6 tC_X6_needName tH_X6_needName (by omega) (by decide) (cs1_sum cs1_nil (Nat.le_of_ble_eq_true rfl)) (by omega) (by omega) ?_
    exact bX6_bodyType_b13 C o _ _ _ hf (by omega) (by omega)
set_option maxRecDepth 100000 in
set_option maxHeartbeats 4000000 in
theorem mX6_bodyType {l : Launch} (hl : l.stackTraces = false) {G : cG} {o : Nat} {a0 : Int32} {a1 : Int32} {z : cS} {w : Int32 ⊕ Nat} {z' : cS} {A B : Nat} (hf : fX6_bodyType o a0 a1 z = some (w, z', A, B)) : cMx l G 7 yX6_bodyType cX6_bodyType 3 (some .int) [.ref o, .int a0, .int a1] z (cOi w, z', A, B) :=
  cMx_of (lo0 := [some (va_rf (some o)), some (.int a0), some (.int a1)]) (by decide +kernel) rfl (cs1_q (cs1_i (cs1_i cs1_nil))) (Nat.le_of_ble_eq_true rfl) rfl hl (fun X hX C => bX6_bodyType C o a0 a1 z (kc := 0) (ks := 0) hf (Nat.zero_add _).symm (Nat.zero_add _).symm)
