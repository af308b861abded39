set_option maxRecDepth 100000 in
set_option maxHeartbeats 4000000 in
theorem bX7_init_b412_body {G : cG} {X : rX} {z0 : cS} {w : Unit} {z' : cS} {A B : Nat} (C : cC G X z0 RX7 2 cX7_init none 1 A B) (hin : X.2.2.2.2.2.2.2.2.1.name = "<init>") (o : Nat) {rec412 : Int32 → cS → Option (Unit × cS × Nat × Nat)} (hrec412 : ∀ (l1 : Int32) (z : cS) (kc ks ra rb : Nat), rec412 l1 z = some (w, z', ra, rb) → A = kc + ra → B = ks + rb → cAW false G X z0 (.inl (none), z', A, B) 2 412 [some (va_rf (some o)), some (.int l1)] [] z kc ks) (l1 : Int32) (z : cS) {kc ks ra rb : Nat} (hf : fX7_init_b412_body o rec412 l1 z = some (w, z', ra, rb)) (ha : A = kc + ra) (hb : B = ks + rb) : cAW false G X z0 (.inl (none), z', A, B) 2 412 [some (va_rf (some o)), some (.int l1)] [] z kc ks := by
  unfold fX7_init_b412_body at hf
  refine ca_iload_n C dX7_init_412 rfl rfl ?_
  refine ca_sipush C dX7_init_413 (v := 240) (by decide) ?_
  refine ca_icmp_ge C dX7_init_416 (tgt := 432) (by decide) (fun c416 => ?_) (fun c416 => ?_)
  · replace hf := rif_p c416 hf
    cases hf
    exact ca_vret C dX7_init_432 (by omega) (by omega)
  · replace hf := rif_n c416 hf
    refine ca_aload_n C dX7_init_419 rfl rfl ?_
    obtain ⟨x420, h420, hf⟩ := rob hf
    refine ca_getR C dX7_init_420 tcX7_f87 rfl rfl h420 ?_
    refine ca_iload_n C dX7_init_423 rfl rfl ?_
    refine ca_iconst C dX7_init_424 (v := (-1)) (by decide) ?_
    obtain ⟨q425, hq425, hf⟩ := rob hf
    obtain ⟨z425, h425, hf⟩ := rob hf
    refine ca_iast C dX7_init_425 hq425 h425 ?_
    refine ca_iinc C dX7_init_426 rfl (v := 1) (by decide) (by decide) ?_
    refine ca_goto C dX7_init_429 (tgt := 412) (by decide) ?_
    exact hrec412 _ _ _ _ _ _ hf (by omega) (by omega)
set_option maxRecDepth 100000 in
set_option maxHeartbeats 4000000 in
theorem bX7_init_b412 {G : cG} {X : rX} {z0 : cS} {w : Unit} {z' : cS} {A B : Nat} (C : cC G X z0 RX7 2 cX7_init none 1 A B) (hin : X.2.2.2.2.2.2.2.2.1.name = "<init>") (o : Nat) : ∀ (n : Nat) (l1 : Int32) (z : cS) (kc ks ra rb : Nat), fX7_init_b412 o n l1 z = some (w, z', ra, rb) → A = kc + ra → B = ks + rb → cAW false G X z0 (.inl (none), z', A, B) 2 412 [some (va_rf (some o)), some (.int l1)] [] z kc ks := by
  intro n
  induction n with
  | zero => intro l1 z kc ks ra rb hf; cases hf
  | succ n ih => intro l1 z kc ks ra rb hf ha hb; exact bX7_init_b412_body C hin o (fun l1 z kc ks ra rb h1 h2 h3 => ih l1 z kc ks ra rb h1 h2 h3) l1 z hf ha hb
set_option maxRecDepth 100000 in
set_option maxHeartbeats 4000000 in
theorem bX7_init {G : cG} {X : rX} {z0 : cS} {w : Unit} {z' : cS} {A B : Nat} (C : cC G X z0 RX7 2 cX7_init none 1 A B) (hin : X.2.2.2.2.2.2.2.2.1.name = "<init>") (o : Nat) (z : cS) {kc ks ra rb : Nat} (hf : fX7_init o  z = some (w, z', ra, rb)) (ha : A = kc + ra) (hb : B = ks + rb) : cAW false G X z0 (.inl (none), z', A, B) 2 0 [some (va_rf (some o)), none] [] z kc ks := by
  unfold fX7_init at hf
  refine ca_aload_n C dX7_init_0 rfl rfl ?_
  refine ca_objInit C dX7_init_1 rfl tX7_l1 tO_i tO_c (by omega) (cs1_sum cs1_nil (Nat.le_of_ble_eq_true rfl)) ?_
  refine ca_aload_n C dX7_init_4 rfl rfl ?_
  refine ca_iconst C dX7_init_5 (v := 2) (by decide) ?_
  obtain ⟨z6, h6, hf⟩ := rob hf
  refine ca_putI C dX7_init_6 tcX7_f7 nX7_0 rfl tI7_0 rfl h6 ?_
  refine ca_aload_n C dX7_init_9 rfl rfl ?_
  refine ca_sipush C dX7_init_10 (v := 400) (by decide) ?_
  obtain ⟨z13, h13, hf⟩ := rob hf
  obtain ⟨ra13, rb13, hg13, rfl, rfl⟩ := ause_spec hf
  replace hf := hg13
  refine ca_newaI C dX7_init_13 tAI h13 (N9 := 400) (by decide) (by omega) (by omega) ?_
  obtain ⟨z15, h15, hf⟩ := rob hf
  refine ca_putFR C hin dX7_init_15 tcX7_f13 uX7_f13 rfl rfl h15 ?_
  refine ca_aload_n C dX7_init_18 rfl rfl ?_
  refine ca_sipush C dX7_init_19 (v := 400) (by decide) ?_
  obtain ⟨z22, h22, hf⟩ := rob hf
  obtain ⟨ra22, rb22, hg22, rfl, rfl⟩ := ause_spec hf
  replace hf := hg22
  refine ca_newaI C dX7_init_22 tAI h22 (N9 := 400) (by decide) (by omega) (by omega) ?_
  obtain ⟨z24, h24, hf⟩ := rob hf
  refine ca_putFR C hin dX7_init_24 tcX7_f17 uX7_f17 rfl rfl h24 ?_
  refine ca_aload_n C dX7_init_27 rfl rfl ?_
  refine ca_sipush C dX7_init_28 (v := 400) (by decide) ?_
  obtain ⟨z31, h31, hf⟩ := rob hf
  obtain ⟨ra31, rb31, hg31, rfl, rfl⟩ := ause_spec hf
  replace hf := hg31
  refine ca_newaI C dX7_init_31 tAI h31 (N9 := 400) (by decide) (by omega) (by omega) ?_
  obtain ⟨z33, h33, hf⟩ := rob hf
  refine ca_putFR C hin dX7_init_33 tcX7_f20 uX7_f20 rfl rfl h33 ?_
  refine ca_aload_n C dX7_init_36 rfl rfl ?_
  refine ca_bipush C dX7_init_37 (v := 101) (by decide) ?_
  obtain ⟨z39, h39, hf⟩ := rob hf
  obtain ⟨ra39, rb39, hg39, rfl, rfl⟩ := ause_spec hf
  replace hf := hg39
  refine ca_newaI C dX7_init_39 tAI h39 (N9 := 101) (by decide) (by omega) (by omega) ?_
  obtain ⟨z41, h41, hf⟩ := rob hf
  refine ca_putFR C hin dX7_init_41 tcX7_f23 uX7_f23 rfl rfl h41 ?_
  refine ca_aload_n C dX7_init_44 rfl rfl ?_
  refine ca_sipush C dX7_init_45 (v := 6060) (by decide) ?_
  obtain ⟨z48, h48, hf⟩ := rob hf
  obtain ⟨ra48, rb48, hg48, rfl, rfl⟩ := ause_spec hf
  replace hf := hg48
  refine ca_newaI C dX7_init_48 tAI h48 (N9 := 6060) (by decide) (by omega) (by omega) ?_
  obtain ⟨z50, h50, hf⟩ := rob hf
  refine ca_putFR C hin dX7_init_50 tcX7_f26 uX7_f26 rfl rfl h50 ?_
  refine ca_aload_n C dX7_init_53 rfl rfl ?_
  refine ca_sipush C dX7_init_54 (v := 6060) (by decide) ?_
  obtain ⟨z57, h57, hf⟩ := rob hf
  obtain ⟨ra57, rb57, hg57, rfl, rfl⟩ := ause_spec hf
  replace hf := hg57
  refine ca_newaI C dX7_init_57 tAI h57 (N9 := 6060) (by decide) (by omega) (by omega) ?_
  obtain ⟨z59, h59, hf⟩ := rob hf
  refine ca_putFR C hin dX7_init_59 tcX7_f29 uX7_f29 rfl rfl h59 ?_
  refine ca_aload_n C dX7_init_62 rfl rfl ?_
  refine ca_sipush C dX7_init_63 (v := 6060) (by decide) ?_
  obtain ⟨z66, h66, hf⟩ := rob hf
  obtain ⟨ra66, rb66, hg66, rfl, rfl⟩ := ause_spec hf
  replace hf := hg66
  refine ca_newaI C dX7_init_66 tAI h66 (N9 := 6060) (by decide) (by omega) (by omega) ?_
  obtain ⟨z68, h68, hf⟩ := rob hf
  refine ca_putFR C hin dX7_init_68 tcX7_f32 uX7_f32 rfl rfl h68 ?_
  refine ca_aload_n C dX7_init_71 rfl rfl ?_
  refine ca_sipush C dX7_init_72 (v := 6060) (by decide) ?_
  obtain ⟨z75, h75, hf⟩ := rob hf
  obtain ⟨ra75, rb75, hg75, rfl, rfl⟩ := ause_spec hf
  replace hf := hg75
  refine ca_newaI C dX7_init_75 tAI h75 (N9 := 6060) (by decide) (by omega) (by omega) ?_
  obtain ⟨z77, h77, hf⟩ := rob hf
  refine ca_putFR C hin dX7_init_77 tcX7_f35 uX7_f35 rfl rfl h77 ?_
  refine ca_aload_n C dX7_init_80 rfl rfl ?_
  refine ca_bipush C dX7_init_81 (v := 21) (by decide) ?_
  obtain ⟨z83, h83, hf⟩ := rob hf
  obtain ⟨ra83, rb83, hg83, rfl, rfl⟩ := ause_spec hf
  replace hf := hg83
  refine ca_newaI C dX7_init_83 tAI h83 (N9 := 21) (by decide) (by omega) (by omega) ?_
  obtain ⟨z85, h85, hf⟩ := rob hf
  refine ca_putFR C hin dX7_init_85 tcX7_f38 uX7_f38 rfl rfl h85 ?_
  refine ca_aload_n C dX7_init_88 rfl rfl ?_
  refine ca_bipush C dX7_init_89 (v := 21) (by decide) ?_
  obtain ⟨z91, h91, hf⟩ := rob hf
  obtain ⟨ra91, rb91, hg91, rfl, rfl⟩ := ause_spec hf
  replace hf := hg91
  refine ca_newaI C dX7_init_91 tAI h91 (N9 := 21) (by decide) (by omega) (by omega) ?_
  obtain ⟨z93, h93, hf⟩ := rob hf
  refine ca_putFR C hin dX7_init_93 tcX7_f41 uX7_f41 rfl rfl h93 ?_
  refine ca_aload_n C dX7_init_96 rfl rfl ?_
  refine ca_sipush C dX7_init_97 (v := 1260) (by decide) ?_
  obtain ⟨z100, h100, hf⟩ := rob hf
  obtain ⟨ra100, rb100, hg100, rfl, rfl⟩ := ause_spec hf
  replace hf := hg100
  refine ca_newaI C dX7_init_100 tAI h100 (N9 := 1260) (by decide) (by omega) (by omega) ?_
  obtain ⟨z102, h102, hf⟩ := rob hf
  refine ca_putFR C hin dX7_init_102 tcX7_f44 uX7_f44 rfl rfl h102 ?_
  refine ca_aload_n C dX7_init_105 rfl rfl ?_
  refine ca_sipush C dX7_init_106 (v := 1260) (by decide) ?_
  obtain ⟨z109, h109, hf⟩ := rob hf
  obtain ⟨ra109, rb109, hg109, rfl, rfl⟩ := ause_spec hf
  replace hf := hg109
  refine ca_newaI C dX7_init_109 tAI h109 (N9 := 1260) (by decide) (by omega) (by omega) ?_
  obtain ⟨z111, h111, hf⟩ := rob hf
  refine ca_putFR C hin dX7_init_111 tcX7_f47 uX7_f47 rfl rfl h111 ?_
  refine ca_aload_n C dX7_init_114 rfl rfl ?_
  refine ca_sipush C dX7_init_115 (v := 1260) (by decide) ?_
  obtain ⟨z118, h118, hf⟩ := rob hf
  obtain ⟨ra118, rb118, hg118, rfl, rfl⟩ := ause_spec hf
  replace hf := hg118
  refine ca_newaI C dX7_init_118 tAI h118 (N9 := 1260) (by decide) (by omega) (by omega) ?_
  obtain ⟨z120, h120, hf⟩ := rob hf
  refine ca_putFR C hin dX7_init_120 tcX7_f50 uX7_f50 rfl rfl h120 ?_
  refine ca_aload_n C dX7_init_123 rfl rfl ?_
  refine ca_sipush C dX7_init_124 (v := 1260) (by decide) ?_
  obtain ⟨z127, h127, hf⟩ := rob hf
  obtain ⟨ra127, rb127, hg127, rfl, rfl⟩ := ause_spec hf
  replace hf := hg127
  refine ca_newaI C dX7_init_127 tAI h127 (N9 := 1260) (by decide) (by omega) (by omega) ?_
  obtain ⟨z129, h129, hf⟩ := rob hf
  refine ca_putFR C hin dX7_init_129 tcX7_f53 uX7_f53 rfl rfl h129 ?_
  refine ca_aload_n C dX7_init_132 rfl rfl ?_
  refine ca_bipush C dX7_init_133 (v := 9) (by decide) ?_
  obtain ⟨z135, h135, hf⟩ := rob hf
  obtain ⟨ra135, rb135, hg135, rfl, rfl⟩ := ause_spec hf
  replace hf := hg135
  refine ca_newaI C dX7_init_135 tAI h135 (N9 := 9) (by decide) (by omega) (by omega) ?_
  obtain ⟨z137, h137, hf⟩ := rob hf
  refine ca_putFR C hin dX7_init_137 tcX7_f56 uX7_f56 rfl rfl h137 ?_
  refine ca_aload_n C dX7_init_140 rfl rfl ?_
  refine ca_sipush C dX7_init_141 (v := 180) (by decide) ?_
  obtain ⟨z144, h144, hf⟩ := rob hf
  obtain ⟨ra144, rb144, hg144, rfl, rfl⟩ := ause_spec hf
  replace hf := hg144
  refine ca_newaI C dX7_init_144 tAI h144 (N9 := 180) (by decide) (by omega) (by omega) ?_
  obtain ⟨z146, h146, hf⟩ := rob hf
  refine ca_putFR C hin dX7_init_146 tcX7_f59 uX7_f59 rfl rfl h146 ?_
  refine ca_aload_n C dX7_init_149 rfl rfl ?_
  refine ca_sipush C dX7_init_150 (v := 180) (by decide) ?_
  obtain ⟨z153, h153, hf⟩ := rob hf
  obtain ⟨ra153, rb153, hg153, rfl, rfl⟩ := ause_spec hf
  replace hf := hg153
  refine ca_newaI C dX7_init_153 tAI h153 (N9 := 180) (by decide) (by omega) (by omega) ?_
  obtain ⟨z155, h155, hf⟩ := rob hf
  refine ca_putFR C hin dX7_init_155 tcX7_f62 uX7_f62 rfl rfl h155 ?_
  refine ca_aload_n C dX7_init_158 rfl rfl ?_
  refine ca_sipush C dX7_init_159 (v := 180) (by decide) ?_
  obtain ⟨z162, h162, hf⟩ := rob hf
  obtain ⟨ra162, rb162, hg162, rfl, rfl⟩ := ause_spec hf
  replace hf := hg162
  refine ca_newaI C dX7_init_162 tAI h162 (N9 := 180) (by decide) (by omega) (by omega) ?_
  obtain ⟨z164, h164, hf⟩ := rob hf
  refine ca_putFR C hin dX7_init_164 tcX7_f65 uX7_f65 rfl rfl h164 ?_
  refine ca_aload_n C dX7_init_167 rfl rfl ?_
  refine ca_sipush C dX7_init_168 (v := 180) (by decide) ?_
  obtain ⟨z171, h171, hf⟩ := rob hf
  obtain ⟨ra171, rb171, hg171, rfl, rfl⟩ := ause_spec hf
  replace hf := hg171
  refine ca_newaI C dX7_init_171 tAI h171 (N9 := 180) (by decide) (by omega) (by omega) ?_
  obtain ⟨z173, h173, hf⟩ := rob hf
  refine ca_putFR C hin dX7_init_173 tcX7_f68 uX7_f68 rfl rfl h173 ?_
  refine ca_aload_n C dX7_init_176 rfl rfl ?_
  refine ca_sipush C dX7_init_177 (v := 180) (by decide) ?_
  obtain ⟨z180, h180, hf⟩ := rob hf
  obtain ⟨ra180, rb180, hg180, rfl, rfl⟩ := ause_spec hf
  replace hf := hg180
  refine ca_newaI C dX7_init_180 tAI h180 (N9 := 180) (by decide) (by omega) (by omega) ?_
  obtain ⟨z182, h182, hf⟩ := rob hf
  refine ca_putFR C hin dX7_init_182 tcX7_f71 uX7_f71 rfl rfl h182 ?_
  refine ca_aload_n C dX7_init_185 rfl rfl ?_
  refine ca_sipush C dX7_init_186 (v := 180) (by decide) ?_
  obtain ⟨z189, h189, hf⟩ := rob hf
  obtain ⟨ra189, rb189, hg189, rfl, rfl⟩ := ause_spec hf
  replace hf := hg189
  refine ca_newaI C dX7_init_189 tAI h189 (N9 := 180) (by decide) (by omega) (by omega) ?_
  obtain ⟨z191, h191, hf⟩ := rob hf
  refine ca_putFR C hin dX7_init_191 tcX7_f74 uX7_f74 rfl rfl h191 ?_
  refine ca_aload_n C dX7_init_194 rfl rfl ?_
  refine ca_bipush C dX7_init_195 (v := 8) (by decide) ?_
  obtain ⟨z197, h197, hf⟩ := rob hf
  obtain ⟨ra197, rb197, hg197, rfl, rfl⟩ := ause_spec hf
  replace hf := hg197
  refine ca_newaI C dX7_init_197 tAI h197 (N9 := 8) (by decide) (by omega) (by omega) ?_
  obtain ⟨z199, h199, hf⟩ := rob hf
  refine ca_putFR C hin dX7_init_199 tcX7_f77 uX7_f77 rfl rfl h199 ?_
  refine ca_aload_n C dX7_init_202 rfl rfl ?_
  refine ca_bipush C dX7_init_203 (v := 8) (by decide) ?_
  obtain ⟨z205, h205, hf⟩ := rob hf
  obtain ⟨ra205, rb205, hg205, rfl, rfl⟩ := ause_spec hf
  replace hf := hg205
  refine ca_newaI C dX7_init_205 tAI h205 (N9 := 8) (by decide) (by omega) (by omega) ?_
  obtain ⟨z207, h207, hf⟩ := rob hf
  refine ca_putFR C hin dX7_init_207 tcX7_f80 uX7_f80 rfl rfl h207 ?_
  refine ca_aload_n C dX7_init_210 rfl rfl ?_
  refine ca_bipush C dX7_init_211 (v := 8) (by decide) ?_
  obtain ⟨z213, h213, hf⟩ := rob hf
  obtain ⟨ra213, rb213, hg213, rfl, rfl⟩ := ause_spec hf
  replace hf := hg213
  refine ca_newaZ C dX7_init_213 tAZ h213 (N9 := 8) (by decide) (by omega) (by omega) ?_
  obtain ⟨z215, h215, hf⟩ := rob hf
  refine ca_putFR C hin dX7_init_215 tcX7_f83 uX7_f83 rfl rfl h215 ?_
  refine ca_aload_n C dX7_init_218 rfl rfl ?_
  refine ca_sipush C dX7_init_219 (v := 240) (by decide) ?_
  obtain ⟨z222, h222, hf⟩ := rob hf
  obtain ⟨ra222, rb222, hg222, rfl, rfl⟩ := ause_spec hf
  replace hf := hg222
  refine ca_newaI C dX7_init_222 tAI h222 (N9 := 240) (by decide) (by omega) (by omega) ?_
  obtain ⟨z224, h224, hf⟩ := rob hf
  refine ca_putFR C hin dX7_init_224 tcX7_f87 uX7_f87 rfl rfl h224 ?_
  refine ca_aload_n C dX7_init_227 rfl rfl ?_
  refine ca_bipush C dX7_init_228 (v := 10) (by decide) ?_
  obtain ⟨z230, h230, hf⟩ := rob hf
  obtain ⟨ra230, rb230, hg230, rfl, rfl⟩ := ause_spec hf
  replace hf := hg230
  refine ca_newaI C dX7_init_230 tAI h230 (N9 := 10) (by decide) (by omega) (by omega) ?_
  obtain ⟨z232, h232, hf⟩ := rob hf
  refine ca_putFR C hin dX7_init_232 tcX7_f90 uX7_f90 rfl rfl h232 ?_
  refine ca_aload_n C dX7_init_235 rfl rfl ?_
  refine ca_bipush C dX7_init_236 (v := 10) (by decide) ?_
  obtain ⟨z238, h238, hf⟩ := rob hf
  obtain ⟨ra238, rb238, hg238, rfl, rfl⟩ := ause_spec hf
  replace hf := hg238
  refine ca_newaI C dX7_init_238 tAI h238 (N9 := 10) (by decide) (by omega) (by omega) ?_
  obtain ⟨z240, h240, hf⟩ := rob hf
  refine ca_putFR C hin dX7_init_240 tcX7_f93 uX7_f93 rfl rfl h240 ?_
  refine ca_aload_n C dX7_init_243 rfl rfl ?_
  refine ca_bipush C dX7_init_244 (v := 8) (by decide) ?_
  obtain ⟨z246, h246, hf⟩ := rob hf
  obtain ⟨ra246, rb246, hg246, rfl, rfl⟩ := ause_spec hf
  replace hf := hg246
  refine ca_newaI C dX7_init_246 tAI h246 (N9 := 8) (by decide) (by omega) (by omega) ?_
  obtain ⟨z248, h248, hf⟩ := rob hf
  refine ca_putFR C hin dX7_init_248 tcX7_f96 uX7_f96 rfl rfl h248 ?_
  refine ca_aload_n C dX7_init_251 rfl rfl ?_
  refine ca_bipush C dX7_init_252 (v := 8) (by decide) ?_
  obtain ⟨z254, h254, hf⟩ := rob hf
  obtain ⟨ra254, rb254, hg254, rfl, rfl⟩ := ause_spec hf
  replace hf := hg254
  refine ca_newaI C dX7_init_254 tAI h254 (N9 := 8) (by decide) (by omega) (by omega) ?_
  obtain ⟨z256, h256, hf⟩ := rob hf
  refine ca_putFR C hin dX7_init_256 tcX7_f99 uX7_f99 rfl rfl h256 ?_
  refine ca_aload_n C dX7_init_259 rfl rfl ?_
  refine ca_bipush C dX7_init_260 (v := 8) (by decide) ?_
  obtain ⟨z262, h262, hf⟩ := rob hf
  obtain ⟨ra262, rb262, hg262, rfl, rfl⟩ := ause_spec hf
  replace hf := hg262
  refine ca_newaZ C dX7_init_262 tAZ h262 (N9 := 8) (by decide) (by omega) (by omega) ?_
  obtain ⟨z264, h264, hf⟩ := rob hf
  refine ca_putFR C hin dX7_init_264 tcX7_f102 uX7_f102 rfl rfl h264 ?_
  refine ca_aload_n C dX7_init_267 rfl rfl ?_
  refine ca_bipush C dX7_init_268 (v := 8) (by decide) ?_
  obtain ⟨z270, h270, hf⟩ := rob hf
  obtain ⟨ra270, rb270, hg270, rfl, rfl⟩ := ause_spec hf
  replace hf := hg270
  refine ca_newaI C dX7_init_270 tAI h270 (N9 := 8) (by decide) (by omega) (by omega) ?_
  obtain ⟨z272, h272, hf⟩ := rob hf
  refine ca_putFR C hin dX7_init_272 tcX7_f105 uX7_f105 rfl rfl h272 ?_
  refine ca_aload_n C dX7_init_275 rfl rfl ?_
  refine ca_bipush C dX7_init_276 (v := 8) (by decide) ?_
  obtain ⟨z278, h278, hf⟩ := rob hf
  obtain ⟨ra278, rb278, hg278, rfl, rfl⟩ := ause_spec hf
  replace hf := hg278
  refine ca_newaZ C dX7_init_278 tAZ h278 (N9 := 8) (by decide) (by omega) (by omega) ?_
  obtain ⟨z280, h280, hf⟩ := rob hf
  refine ca_putFR C hin dX7_init_280 tcX7_f108 uX7_f108 rfl rfl h280 ?_
  refine ca_aload_n C dX7_init_283 rfl rfl ?_
  refine ca_bipush C dX7_init_284 (v := 8) (by decide) ?_
  obtain ⟨z286, h286, hf⟩ := rob hf
  obtain ⟨ra286, rb286, hg286, rfl, rfl⟩ := ause_spec hf
  replace hf := hg286
  refine ca_newaI C dX7_init_286 tAI h286 (N9 := 8) (by decide) (by omega) (by omega) ?_
  obtain ⟨z288, h288, hf⟩ := rob hf
  refine ca_putFR C hin dX7_init_288 tcX7_f111 uX7_f111 rfl rfl h288 ?_
  refine ca_aload_n C dX7_init_291 rfl rfl ?_
  refine ca_bipush C dX7_init_292 (v := 64) (by decide) ?_
  obtain ⟨z294, h294, hf⟩ := rob hf
  obtain ⟨ra294, rb294, hg294, rfl, rfl⟩ := ause_spec hf
  replace hf := hg294
  refine ca_newaI C dX7_init_294 tAI h294 (N9 := 64) (by decide) (by omega) (by omega) ?_
  obtain ⟨z296, h296, hf⟩ := rob hf
  refine ca_putFR C hin dX7_init_296 tcX7_f114 uX7_f114 rfl rfl h296 ?_
  refine ca_aload_n C dX7_init_299 rfl rfl ?_
  refine ca_bipush C dX7_init_300 (v := 64) (by decide) ?_
  obtain ⟨z302, h302, hf⟩ := rob hf
  obtain ⟨ra302, rb302, hg302, rfl, rfl⟩ := ause_spec hf
  replace hf := hg302
  refine ca_newaI C dX7_init_302 tAI h302 (N9 := 64) (by decide) (by omega) (by omega) ?_
  obtain ⟨z304, h304, hf⟩ := rob hf
  refine ca_putFR C hin dX7_init_304 tcX7_f117 uX7_f117 rfl rfl h304 ?_
  refine ca_aload_n C dX7_init_307 rfl rfl ?_
  refine ca_bipush C dX7_init_308 (v := 22) (by decide) ?_
  obtain ⟨z310, h310, hf⟩ := rob hf
  obtain ⟨ra310, rb310, hg310, rfl, rfl⟩ := ause_spec hf
  replace hf := hg310
  refine ca_newaI C dX7_init_310 tAI h310 (N9 := 22) (by decide) (by omega) (by omega) ?_
  obtain ⟨z312, h312, hf⟩ := rob hf
  refine ca_putFR C hin dX7_init_312 tcX7_f120 uX7_f120 rfl rfl h312 ?_
  refine ca_aload_n C dX7_init_315 rfl rfl ?_
  refine ca_bipush C dX7_init_316 (v := 22) (by decide) ?_
  obtain ⟨z318, h318, hf⟩ := rob hf
  obtain ⟨ra318, rb318, hg318, rfl, rfl⟩ := ause_spec hf
  replace hf := hg318
  refine ca_newaI C dX7_init_318 tAI h318 (N9 := 22) (by decide) (by omega) (by omega) ?_
  obtain ⟨z320, h320, hf⟩ := rob hf
  refine ca_putFR C hin dX7_init_320 tcX7_f123 uX7_f123 rfl rfl h320 ?_
  refine ca_aload_n C dX7_init_323 rfl rfl ?_
  refine ca_bipush C dX7_init_324 (v := 22) (by decide) ?_
  obtain ⟨z326, h326, hf⟩ := rob hf
  obtain ⟨ra326, rb326, hg326, rfl, rfl⟩ := ause_spec hf
  replace hf := hg326
  refine ca_newaI C dX7_init_326 tAI h326 (N9 := 22) (by decide) (by omega) (by omega) ?_
  obtain ⟨z328, h328, hf⟩ := rob hf
  refine ca_putFR C hin dX7_init_328 tcX7_f126 uX7_f126 rfl rfl h328 ?_
  refine ca_aload_n C dX7_init_331 rfl rfl ?_
  refine ca_bipush C dX7_init_332 (v := 22) (by decide) ?_
  obtain ⟨z334, h334, hf⟩ := rob hf
  obtain ⟨ra334, rb334, hg334, rfl, rfl⟩ := ause_spec hf
  replace hf := hg334
  refine ca_newaI C dX7_init_334 tAI h334 (N9 := 22) (by decide) (by omega) (by omega) ?_
  obtain ⟨z336, h336, hf⟩ := rob hf
  refine ca_putFR C hin dX7_init_336 tcX7_f129 uX7_f129 rfl rfl h336 ?_
  refine ca_aload_n C dX7_init_339 rfl rfl ?_
  refine ca_sipush C dX7_init_340 (v := 220) (by decide) ?_
  obtain ⟨z343, h343, hf⟩ := rob hf
  obtain ⟨ra343, rb343, hg343, rfl, rfl⟩ := ause_spec hf
  replace hf := hg343
  refine ca_newaI C dX7_init_343 tAI h343 (N9 := 220) (by decide) (by omega) (by omega) ?_
  obtain ⟨z345, h345, hf⟩ := rob hf
  refine ca_putFR C hin dX7_init_345 tcX7_f132 uX7_f132 rfl rfl h345 ?_
  refine ca_aload_n C dX7_init_348 rfl rfl ?_
  refine ca_bipush C dX7_init_349 (v := 22) (by decide) ?_
  obtain ⟨z351, h351, hf⟩ := rob hf
  obtain ⟨ra351, rb351, hg351, rfl, rfl⟩ := ause_spec hf
  replace hf := hg351
  refine ca_newaI C dX7_init_351 tAI h351 (N9 := 22) (by decide) (by omega) (by omega) ?_
  obtain ⟨z353, h353, hf⟩ := rob hf
  refine ca_putFR C hin dX7_init_353 tcX7_f135 uX7_f135 rfl rfl h353 ?_
  refine ca_aload_n C dX7_init_356 rfl rfl ?_
  refine ca_sipush C dX7_init_357 (v := 1320) (by decide) ?_
  obtain ⟨z360, h360, hf⟩ := rob hf
  obtain ⟨ra360, rb360, hg360, rfl, rfl⟩ := ause_spec hf
  replace hf := hg360
  refine ca_newaI C dX7_init_360 tAI h360 (N9 := 1320) (by decide) (by omega) (by omega) ?_
  obtain ⟨z362, h362, hf⟩ := rob hf
  refine ca_putFR C hin dX7_init_362 tcX7_f138 uX7_f138 rfl rfl h362 ?_
  refine ca_aload_n C dX7_init_365 rfl rfl ?_
  refine ca_sipush C dX7_init_366 (v := 1320) (by decide) ?_
  obtain ⟨z369, h369, hf⟩ := rob hf
  obtain ⟨ra369, rb369, hg369, rfl, rfl⟩ := ause_spec hf
  replace hf := hg369
  refine ca_newaI C dX7_init_369 tAI h369 (N9 := 1320) (by decide) (by omega) (by omega) ?_
  obtain ⟨z371, h371, hf⟩ := rob hf
  refine ca_putFR C hin dX7_init_371 tcX7_f141 uX7_f141 rfl rfl h371 ?_
  refine ca_aload_n C dX7_init_374 rfl rfl ?_
  refine ca_sipush C dX7_init_375 (v := 1320) (by decide) ?_
  obtain ⟨z378, h378, hf⟩ := rob hf
  obtain ⟨ra378, rb378, hg378, rfl, rfl⟩ := ause_spec hf
  replace hf := hg378
  refine ca_newaI C dX7_init_378 tAI h378 (N9 := 1320) (by decide) (by omega) (by omega) ?_
  obtain ⟨z380, h380, hf⟩ := rob hf
  refine ca_putFR C hin dX7_init_380 tcX7_f144 uX7_f144 rfl rfl h380 ?_
  refine ca_aload_n C dX7_init_383 rfl rfl ?_
  refine ca_sipush C dX7_init_384 (v := 1320) (by decide) ?_
  obtain ⟨z387, h387, hf⟩ := rob hf
  obtain ⟨ra387, rb387, hg387, rfl, rfl⟩ := ause_spec hf
  replace hf := hg387
  refine ca_newaI C dX7_init_387 tAI h387 (N9 := 1320) (by decide) (by omega) (by omega) ?_
  obtain ⟨z389, h389, hf⟩ := rob hf
  refine ca_putFR C hin dX7_init_389 tcX7_f147 uX7_f147 rfl rfl h389 ?_
  refine ca_aload_n C dX7_init_392 rfl rfl ?_
  refine ca_sipush C dX7_init_393 (v := 2000) (by decide) ?_
  obtain ⟨z396, h396, hf⟩ := rob hf
  obtain ⟨ra396, rb396, hg396, rfl, rfl⟩ := ause_spec hf
  replace hf := hg396
  refine ca_newaI C dX7_init_396 tAI h396 (N9 := 2000) (by decide) (by omega) (by omega) ?_
  obtain ⟨z398, h398, hf⟩ := rob hf
  refine ca_putFR C hin dX7_init_398 tcX7_f150 uX7_f150 rfl rfl h398 ?_
  refine ca_aload_n C dX7_init_401 rfl rfl ?_
  refine ca_sipush C dX7_init_402 (v := 400) (by decide) ?_
  obtain ⟨z405, h405, hf⟩ := rob hf
  obtain ⟨ra405, rb405, hg405, rfl, rfl⟩ := ause_spec hf
  replace hf := hg405
  refine ca_newaZ C dX7_init_405 tAZ h405 (N9 := 400) (by decide) (by omega) (by omega) ?_
  obtain ⟨z407, h407, hf⟩ := rob hf
  refine ca_putFR C hin dX7_init_407 tcX7_f153 uX7_f153 rfl rfl h407 ?_
  refine ca_iconst C dX7_init_410 (v := 0) (by decide) ?_
  refine ca_istore_n C dX7_init_411 rfl (by decide) ?_
  exact bX7_init_b412 C hin o _ _ _ _ _ _ _ hf (by rw [ha]; simp only [Nat.add_assoc]) (by rw [hb]; simp only [Nat.add_assoc])
set_option maxRecDepth 100000 in
set_option maxHeartbeats 4000000 in
theorem mX7_init {l : Launch} (hl : l.stackTraces = false) {G : cG} {o : Nat} {z : cS} {w : Unit} {z' : cS} {A B : Nat} (hf : fX7_init o  z = some (w, z', A, B)) : cM l G 1 yX7_init cX7_init 2 none [.ref o] z (.inl (none), z', A, B) :=
  cM_of (lo0 := [some (va_rf (some o)), none]) (by decide +kernel) rfl (cs1_q cs1_nil) (Nat.le_of_ble_eq_true rfl) rfl hl (fun X hX hin C => bX7_init C hin o  z (kc := 0) (ks := 0) hf (Nat.zero_add _).symm (Nat.zero_add _).symm)
