set_option maxRecDepth 100000 in
set_option maxHeartbeats 4000000 in
theorem bX7_matches_b108 {G : rG} {X : rX} (C : rC G X 6 cX7_matches none 3) {r : rS} {rec2 : Int32 → rS → Option (rS)} (hrec2 : ∀ (l1 : Int32) (S : rS), rec2 l1 S = some r → rAW G X 6 (none, r) 2 [some (.ref G.2.2.2.1), some (.int l1), none, none, none, none] [] S) {rec12 : Int32 → Int32 → rS → Option (rS)} (hrec12 : ∀ (l1 : Int32) (l2 : Int32) (S : rS), rec12 l1 l2 S = some r → rAW G X 6 (none, r) 12 [some (.ref G.2.2.2.1), some (.int l1), some (.int l2), none, none, none] [] S) (l1 : Int32) (l2 : Int32) (S : rS) (hf : fX7_matches_b108 rec2 rec12 l1 l2 S = some r) : rAW G X 6 (none, r) 108 [some (.ref G.2.2.2.1), some (.int l1), some (.int l2), none, none, none] [] S := by
  unfold fX7_matches_b108 at hf
  refine ra_iinc C dX7_matches_108 rfl (v := 1) (by decide) (by decide) ?_
  refine ra_goto C dX7_matches_111 (tgt := 12) (by decide) ?_
  exact hrec12 _ _ _ hf
set_option maxRecDepth 100000 in
set_option maxHeartbeats 4000000 in
theorem bX7_matches_b101 {G : rG} {X : rX} (C : rC G X 6 cX7_matches none 3) {r : rS} {rec2 : Int32 → rS → Option (rS)} (hrec2 : ∀ (l1 : Int32) (S : rS), rec2 l1 S = some r → rAW G X 6 (none, r) 2 [some (.ref G.2.2.2.1), some (.int l1), none, none, none, none] [] S) {rec12 : Int32 → Int32 → rS → Option (rS)} (hrec12 : ∀ (l1 : Int32) (l2 : Int32) (S : rS), rec12 l1 l2 S = some r → rAW G X 6 (none, r) 12 [some (.ref G.2.2.2.1), some (.int l1), some (.int l2), none, none, none] [] S) {rec40 : Int32 → Int32 → Int32 → Int32 → rS → Option (rS)} (hrec40 : ∀ (l1 : Int32) (l2 : Int32) (l3 : Int32) (l4 : Int32) (S : rS), rec40 l1 l2 l3 l4 S = some r → rAW G X 6 (none, r) 40 [some (.ref G.2.2.2.1), some (.int l1), some (.int l2), some (.int l3), some (.int l4), none] [] S) (l1 : Int32) (l2 : Int32) (l3 : Int32) (l4 : Int32) (s0 : Int32) (s1 : Int32) (S : rS) (hf : fX7_matches_b101 rec2 rec12 rec40 l1 l2 l3 l4 s0 s1 S = some r) : rAW G X 6 (none, r) 101 [some (.ref G.2.2.2.1), some (.int l1), some (.int l2), some (.int l3), some (.int l4), none] [.int s0, .int s1, .ref (G.2.2.2.2 52)] S := by
  unfold fX7_matches_b101 at hf
  obtain ⟨S101, h101, hf⟩ := rob hf
  refine ra_iast C dX7_matches_101 h101 (by decide) rfl rfl ?_
  refine ra_iinc C dX7_matches_102 rfl (v := 1) (by decide) (by decide) ?_
  refine ra_goto C dX7_matches_105 (tgt := 40) (by decide) ?_
  exact hrec40 _ _ _ _ _ hf
set_option maxRecDepth 100000 in
set_option maxHeartbeats 4000000 in
theorem bX7_matches_b40_body {G : rG} {X : rX} (C : rC G X 6 cX7_matches none 3) {r : rS} {rec40 : Int32 → Int32 → Int32 → Int32 → rS → Option (rS)} (hrec40 : ∀ (l1 : Int32) (l2 : Int32) (l3 : Int32) (l4 : Int32) (S : rS), rec40 l1 l2 l3 l4 S = some r → rAW G X 6 (none, r) 40 [some (.ref G.2.2.2.1), some (.int l1), some (.int l2), some (.int l3), some (.int l4), none] [] S) {rec2 : Int32 → rS → Option (rS)} (hrec2 : ∀ (l1 : Int32) (S : rS), rec2 l1 S = some r → rAW G X 6 (none, r) 2 [some (.ref G.2.2.2.1), some (.int l1), none, none, none, none] [] S) {rec12 : Int32 → Int32 → rS → Option (rS)} (hrec12 : ∀ (l1 : Int32) (l2 : Int32) (S : rS), rec12 l1 l2 S = some r → rAW G X 6 (none, r) 12 [some (.ref G.2.2.2.1), some (.int l1), some (.int l2), none, none, none] [] S) (l1 : Int32) (l2 : Int32) (l3 : Int32) (l4 : Int32) (S : rS) (hf : fX7_matches_b40_body rec40 rec2 rec12 l1 l2 l3 l4 S = some r) : rAW G X 6 (none, r) 40 [some (.ref G.2.2.2.1), some (.int l1), some (.int l2), some (.int l3), some (.int l4), none] [] S := by
  unfold fX7_matches_b40_body at hf
  refine ra_iload C dX7_matches_40 rfl ?_
  refine ra_bipush C dX7_matches_42 (v := 60) (by decide) ?_
  refine ra_iload_n C dX7_matches_44 rfl rfl ?_
  refine ra_imul C dX7_matches_45 ?_
  refine ra_aload_n C dX7_matches_46 rfl rfl ?_
  refine ra_getR C dX7_matches_47 (k := 11) (by decide) rfl rX7_in tX7_f38 rfl ?_
  refine ra_iload_n C dX7_matches_50 rfl rfl ?_
  obtain ⟨x51, h51, hf⟩ := rob hf
  refine ra_iald C dX7_matches_51 h51 (by decide) rfl rfl ?_
  refine ra_iadd C dX7_matches_52 ?_
  refine ra_icmp_ge C dX7_matches_53 (tgt := 108) (by decide) (fun c53 => ?_) (fun c53 => ?_)
  · replace hf := rif_p c53 hf
    refine ra_mask [true, true, true, false, false, false] ?_
    exact bX7_matches_b108 C hrec2 hrec12 _ _ _ hf
  · replace hf := rif_n c53 hf
    refine ra_aload_n C dX7_matches_56 rfl rfl ?_
    refine ra_getR C dX7_matches_57 (k := 52) (by decide) rfl rX7_in tX7_f150 rfl ?_
    refine ra_iload_n C dX7_matches_60 rfl rfl ?_
    obtain ⟨x61, h61, hf⟩ := rob hf
    refine ra_iald C dX7_matches_61 h61 (by decide) rfl rfl ?_
    refine ra_if_ne C dX7_matches_62 (tgt := 108) (by decide) (fun c62 => ?_) (fun c62 => ?_)
    · replace hf := rif_n c62 hf
      refine ra_mask [true, true, true, false, false, false] ?_
      exact bX7_matches_b108 C hrec2 hrec12 _ _ _ hf
    · replace hf := rif_p c62 hf
      refine ra_aload_n C dX7_matches_65 rfl rfl ?_
      refine ra_iload_n C dX7_matches_66 rfl rfl ?_
      refine ra_iload C dX7_matches_67 rfl ?_
      obtain ⟨q69, h69, hf⟩ := rob hf
      refine ra_callVi C dX7_matches_69 (mX7_misfit h69) rfl tX7_l227 tX7_i_X7_misfit tX7_s_X7_misfit tX7_init tX7_c_X7_misfit tX7_d_X7_misfit (by decide) (by decide) (Nat.le_of_ble_eq_true rfl) ?_
      refine ra_istore C dX7_matches_72 (by decide) ?_
      refine ra_aload_n C dX7_matches_74 rfl rfl ?_
      refine ra_getR C dX7_matches_75 (k := 52) (by decide) rfl rX7_in tX7_f150 rfl ?_
      refine ra_iload_n C dX7_matches_78 rfl rfl ?_
      refine ra_iload C dX7_matches_79 rfl ?_
      refine ra_if_le C dX7_matches_81 (tgt := 100) (by decide) (fun c81 => ?_) (fun c81 => ?_)
      · replace hf := rif_p c81 hf
        refine ra_iconst C dX7_matches_100 (v := 0) (by decide) ?_
        refine ra_mask [true, true, true, true, true, false] ?_
        exact bX7_matches_b101 C hrec2 hrec12 hrec40 _ _ _ _ _ _ _ hf
      · replace hf := rif_n c81 hf
        refine ra_bipush C dX7_matches_84 (v := 10) (by decide) ?_
        refine ra_iload C dX7_matches_86 rfl ?_
        refine ra_imul C dX7_matches_88 ?_
        refine ra_aload_n C dX7_matches_89 rfl rfl ?_
        refine ra_getR C dX7_matches_90 (k := 14) (by decide) rfl rX7_in tX7_f47 rfl ?_
        refine ra_iload C dX7_matches_93 rfl ?_
        obtain ⟨x95, h95, hf⟩ := rob hf
        refine ra_iald C dX7_matches_95 h95 (by decide) rfl rfl ?_
        refine ra_iadd C dX7_matches_96 ?_
        refine ra_goto C dX7_matches_97 (tgt := 101) (by decide) ?_
        refine ra_mask [true, true, true, true, true, false] ?_
        exact bX7_matches_b101 C hrec2 hrec12 hrec40 _ _ _ _ _ _ _ hf
set_option maxRecDepth 100000 in
set_option maxHeartbeats 4000000 in
theorem bX7_matches_b40 {G : rG} {X : rX} (C : rC G X 6 cX7_matches none 3) {r : rS} {rec2 : Int32 → rS → Option (rS)} (hrec2 : ∀ (l1 : Int32) (S : rS), rec2 l1 S = some r → rAW G X 6 (none, r) 2 [some (.ref G.2.2.2.1), some (.int l1), none, none, none, none] [] S) {rec12 : Int32 → Int32 → rS → Option (rS)} (hrec12 : ∀ (l1 : Int32) (l2 : Int32) (S : rS), rec12 l1 l2 S = some r → rAW G X 6 (none, r) 12 [some (.ref G.2.2.2.1), some (.int l1), some (.int l2), none, none, none] [] S) : ∀ (n : Nat) (l1 : Int32) (l2 : Int32) (l3 : Int32) (l4 : Int32) (S : rS), fX7_matches_b40 rec2 rec12 n l1 l2 l3 l4 S = some r → rAW G X 6 (none, r) 40 [some (.ref G.2.2.2.1), some (.int l1), some (.int l2), some (.int l3), some (.int l4), none] [] S := by
  intro n
  induction n with
  | zero => intro l1 l2 l3 l4 S hf; cases hf
  | succ n ih => intro l1 l2 l3 l4 S hf; exact bX7_matches_b40_body C (fun l1 l2 l3 l4 S h => ih l1 l2 l3 l4 S h) hrec2 hrec12 l1 l2 l3 l4 S hf
set_option maxRecDepth 100000 in
set_option maxHeartbeats 4000000 in
theorem bX7_matches_b12_body {G : rG} {X : rX} (C : rC G X 6 cX7_matches none 3) {r : rS} {rec12 : Int32 → Int32 → rS → Option (rS)} (hrec12 : ∀ (l1 : Int32) (l2 : Int32) (S : rS), rec12 l1 l2 S = some r → rAW G X 6 (none, r) 12 [some (.ref G.2.2.2.1), some (.int l1), some (.int l2), none, none, none] [] S) {rec2 : Int32 → rS → Option (rS)} (hrec2 : ∀ (l1 : Int32) (S : rS), rec2 l1 S = some r → rAW G X 6 (none, r) 2 [some (.ref G.2.2.2.1), some (.int l1), none, none, none, none] [] S) (l1 : Int32) (l2 : Int32) (S : rS) (hf : fX7_matches_b12_body rec12 rec2 l1 l2 S = some r) : rAW G X 6 (none, r) 12 [some (.ref G.2.2.2.1), some (.int l1), some (.int l2), none, none, none] [] S := by
  unfold fX7_matches_b12_body at hf
  refine ra_iload_n C dX7_matches_12 rfl rfl ?_
  refine ra_aload_n C dX7_matches_13 rfl rfl ?_
  refine ra_getI C dX7_matches_14 (k := 4) (by decide) rfl rX7_in tX7_f198 rfl ?_
  refine ra_icmp_ge C dX7_matches_17 (tgt := 114) (by decide) (fun c17 => ?_) (fun c17 => ?_)
  · replace hf := rif_p c17 hf
    refine ra_iinc C dX7_matches_114 rfl (v := 1) (by decide) (by decide) ?_
    refine ra_goto C dX7_matches_117 (tgt := 2) (by decide) ?_
    refine ra_mask [true, true, false, false, false, false] ?_
    exact hrec2 _ _ hf
  · replace hf := rif_n c17 hf
    refine ra_bipush C dX7_matches_20 (v := 20) (by decide) ?_
    refine ra_iload_n C dX7_matches_22 rfl rfl ?_
    refine ra_imul C dX7_matches_23 ?_
    refine ra_iload_n C dX7_matches_24 rfl rfl ?_
    refine ra_iadd C dX7_matches_25 ?_
    refine ra_istore_n C dX7_matches_26 rfl (by decide) ?_
    refine ra_aload_n C dX7_matches_27 rfl rfl ?_
    refine ra_getR C dX7_matches_28 (k := 52) (by decide) rfl rX7_in tX7_f150 rfl ?_
    refine ra_iload_n C dX7_matches_31 rfl rfl ?_
    refine ra_iconst C dX7_matches_32 (v := 0) (by decide) ?_
    obtain ⟨S33, h33, hf⟩ := rob hf
    refine ra_iast C dX7_matches_33 h33 (by decide) rfl rfl ?_
    refine ra_bipush C dX7_matches_34 (v := 60) (by decide) ?_
    refine ra_iload_n C dX7_matches_36 rfl rfl ?_
    refine ra_imul C dX7_matches_37 ?_
    refine ra_istore C dX7_matches_38 (by decide) ?_
    exact bX7_matches_b40 C hrec2 hrec12 _ _ _ _ _ _ hf
set_option maxRecDepth 100000 in
set_option maxHeartbeats 4000000 in
theorem bX7_matches_b12 {G : rG} {X : rX} (C : rC G X 6 cX7_matches none 3) {r : rS} {rec2 : Int32 → rS → Option (rS)} (hrec2 : ∀ (l1 : Int32) (S : rS), rec2 l1 S = some r → rAW G X 6 (none, r) 2 [some (.ref G.2.2.2.1), some (.int l1), none, none, none, none] [] S) : ∀ (n : Nat) (l1 : Int32) (l2 : Int32) (S : rS), fX7_matches_b12 rec2 n l1 l2 S = some r → rAW G X 6 (none, r) 12 [some (.ref G.2.2.2.1), some (.int l1), some (.int l2), none, none, none] [] S := by
  intro n
  induction n with
  | zero => intro l1 l2 S hf; cases hf
  | succ n ih => intro l1 l2 S hf; exact bX7_matches_b12_body C (fun l1 l2 S h => ih l1 l2 S h) hrec2 l1 l2 S hf
set_option maxRecDepth 100000 in
set_option maxHeartbeats 4000000 in
theorem bX7_matches_b2_body {G : rG} {X : rX} (C : rC G X 6 cX7_matches none 3) {r : rS} {rec2 : Int32 → rS → Option (rS)} (hrec2 : ∀ (l1 : Int32) (S : rS), rec2 l1 S = some r → rAW G X 6 (none, r) 2 [some (.ref G.2.2.2.1), some (.int l1), none, none, none, none] [] S) (l1 : Int32) (S : rS) (hf : fX7_matches_b2_body rec2 l1 S = some r) : rAW G X 6 (none, r) 2 [some (.ref G.2.2.2.1), some (.int l1), none, none, none, none] [] S := by
  unfold fX7_matches_b2_body at hf
  refine ra_iload_n C dX7_matches_2 rfl rfl ?_
  refine ra_aload_n C dX7_matches_3 rfl rfl ?_
  refine ra_getI C dX7_matches_4 (k := 10) (by decide) rfl rX7_in tX7_f204 rfl ?_
  refine ra_icmp_ge C dX7_matches_7 (tgt := 120) (by decide) (fun c7 => ?_) (fun c7 => ?_)
  · replace hf := rif_p c7 hf
    obtain rfl := Option.some.inj hf
    exact ra_vret C dX7_matches_120
  · replace hf := rif_n c7 hf
    refine ra_iconst C dX7_matches_10 (v := 0) (by decide) ?_
    refine ra_istore_n C dX7_matches_11 rfl (by decide) ?_
    exact bX7_matches_b12 C hrec2 _ _ _ _ hf
set_option maxRecDepth 100000 in
set_option maxHeartbeats 4000000 in
theorem bX7_matches_b2 {G : rG} {X : rX} (C : rC G X 6 cX7_matches none 3) {r : rS} : ∀ (n : Nat) (l1 : Int32) (S : rS), fX7_matches_b2 n l1 S = some r → rAW G X 6 (none, r) 2 [some (.ref G.2.2.2.1), some (.int l1), none, none, none, none] [] S := by
  intro n
  induction n with
  | zero => intro l1 S hf; cases hf
  | succ n ih => intro l1 S hf; exact bX7_matches_b2_body C (fun l1 S h => ih l1 S h) l1 S hf
set_option maxRecDepth 100000 in
set_option maxHeartbeats 4000000 in
theorem bX7_matches {G : rG} {X : rX} (C : rC G X 6 cX7_matches none 3) (S : rS) {r : rS} (hf : fX7_matches  S = some r) : rAW G X 6 (none, r) 0 [some (.ref G.2.2.2.1), none, none, none, none, none] [] S := by
  unfold fX7_matches at hf
  refine ra_iconst C dX7_matches_0 (v := 0) (by decide) ?_
  refine ra_istore_n C dX7_matches_1 rfl (by decide) ?_
  exact bX7_matches_b2 C _ _ _ hf
set_option maxRecDepth 100000 in
set_option maxHeartbeats 4000000 in
theorem mX7_matches {l : Launch} {G : rG} {S : rS} {r : rS} (hf : fX7_matches  S = some r) : rM l G 3 yX7_matches cX7_matches 6 none [.ref G.2.2.2.1] S (none, r) :=
  rM_of (lo0 := [some (.ref G.2.2.2.1), none, none, none, none, none]) (by decide +kernel) rfl (Nat.le_of_ble_eq_true rfl) (by simp [Value.category]) rfl (fun X _ C => bX7_matches C  S hf)
set_option maxRecDepth 100000 in
set_option maxHeartbeats 4000000 in
theorem bX7_matchOf {G : rG} {X : rX} (C : rC G X 3 cX7_matchOf (some .int) 4) (a0 : Int32) (a1 : Int32) (S : rS) {r : Int32 × rS} (hf : fX7_matchOf a0 a1 S = some r) : rAW G X 3 (some (.int r.1), r.2) 0 [some (.ref G.2.2.2.1), some (.int a0), some (.int a1)] [] S := by
  unfold fX7_matchOf at hf
  refine ra_aload_n C dX7_matchOf_0 rfl rfl ?_
  obtain ⟨q1, h1, hf⟩ := rob hf
  refine ra_callVv C dX7_matchOf_1 (mX7_matches h1) rfl tX7_l230 tX7_i_X7_matches tX7_s_X7_matches tX7_init tX7_c_X7_matches tX7_d_X7_matches (by decide) (by decide) (Nat.le_of_ble_eq_true rfl) ?_
  refine ra_aload_n C dX7_matchOf_4 rfl rfl ?_
  refine ra_getR C dX7_matchOf_5 (k := 52) (by decide) rfl rX7_in tX7_f150 rfl ?_
  refine ra_bipush C dX7_matchOf_8 (v := 20) (by decide) ?_
  refine ra_iload_n C dX7_matchOf_10 rfl rfl ?_
  refine ra_imul C dX7_matchOf_11 ?_
  refine ra_iload_n C dX7_matchOf_12 rfl rfl ?_
  refine ra_iadd C dX7_matchOf_13 ?_
  obtain ⟨x14, h14, hf⟩ := rob hf
  refine ra_iald C dX7_matchOf_14 h14 (by decide) rfl rfl ?_
  obtain rfl := Option.some.inj hf
  exact ra_iret C dX7_matchOf_15
set_option maxRecDepth 100000 in
set_option maxHeartbeats 4000000 in
theorem mX7_matchOf {l : Launch} {G : rG} {a0 : Int32} {a1 : Int32} {S : rS} {r : Int32 × rS} (hf : fX7_matchOf a0 a1 S = some r) : rM l G 4 yX7_matchOf cX7_matchOf 3 (some .int) [.ref G.2.2.2.1, .int a0, .int a1] S (some (.int r.1), r.2) :=
  rM_of (lo0 := [some (.ref G.2.2.2.1), some (.int a0), some (.int a1)]) (by decide +kernel) rfl (Nat.le_of_ble_eq_true rfl) (by simp [Value.category]) rfl (fun X _ C => bX7_matchOf C a0 a1 S hf)
set_option maxRecDepth 100000 in
set_option maxHeartbeats 4000000 in
theorem bX7_match_b38 {G : rG} {X : rX} (C : rC G X 3 cX7_match (some .int) 5) {r : Int32 × rS} (s0 : Int32) (S : rS) (hf : fX7_match_b38 s0 S = some r) : rAW G X 3 (some (.int r.1), r.2) 38 [none, none, none] [.int s0] S := by
  unfold fX7_match_b38 at hf
  obtain rfl := Option.some.inj hf
  exact ra_iret C dX7_match_38
set_option maxRecDepth 100000 in
set_option maxHeartbeats 4000000 in
theorem bX7_match_b22 {G : rG} {X : rX} (C : rC G X 3 cX7_match (some .int) 5) {r : Int32 × rS} (l1 : Int32) (l2 : Int32) (s0 : Int32) (S : rS) (hf : fX7_match_b22 l1 l2 s0 S = some r) : rAW G X 3 (some (.int r.1), r.2) 22 [some (.ref G.2.2.2.1), some (.int l1), some (.int l2)] [.int s0, .ref G.2.2.2.1] S := by
  unfold fX7_match_b22 at hf
  obtain ⟨q22, h22, hf⟩ := rob hf
  refine ra_callVi C dX7_match_22 (mX7_fails h22) rfl tX7_l175 tX7_i_X7_fails tX7_s_X7_fails tX7_init tX7_c_X7_fails tX7_d_X7_fails (by decide) (by decide) (Nat.le_of_ble_eq_true rfl) ?_
  refine ra_if_eq C dX7_match_25 (tgt := 32) (by decide) (fun c25 => ?_) (fun c25 => ?_)
  · replace hf := rif_p c25 hf
    refine ra_aload_n C dX7_match_32 rfl rfl ?_
    refine ra_iload_n C dX7_match_33 rfl rfl ?_
    refine ra_iload_n C dX7_match_34 rfl rfl ?_
    obtain ⟨q35, h35, hf⟩ := rob hf
    refine ra_callVi C dX7_match_35 (mX7_matchOf h35) rfl tX7_l233 tX7_i_X7_matchOf tX7_s_X7_matchOf tX7_init tX7_c_X7_matchOf tX7_d_X7_matchOf (by decide) (by decide) (Nat.le_of_ble_eq_true rfl) ?_
    refine ra_mask [false, false, false] ?_
    exact bX7_match_b38 C _ _ hf
  · replace hf := rif_n c25 hf
    refine ra_iconst C dX7_match_28 (v := 0) (by decide) ?_
    refine ra_goto C dX7_match_29 (tgt := 38) (by decide) ?_
    refine ra_mask [false, false, false] ?_
    exact bX7_match_b38 C _ _ hf
set_option maxRecDepth 100000 in
set_option maxHeartbeats 4000000 in
theorem bX7_match_b21 {G : rG} {X : rX} (C : rC G X 3 cX7_match (some .int) 5) {r : Int32 × rS} (l1 : Int32) (l2 : Int32) (S : rS) (hf : fX7_match_b21 l1 l2 S = some r) : rAW G X 3 (some (.int r.1), r.2) 21 [some (.ref G.2.2.2.1), some (.int l1), some (.int l2)] [.ref G.2.2.2.1] S := by
  unfold fX7_match_b21 at hf
  refine ra_iconst C dX7_match_21 (v := 1) (by decide) ?_
  exact bX7_match_b22 C _ _ _ _ hf
set_option maxRecDepth 100000 in
set_option maxHeartbeats 4000000 in
theorem bX7_match {G : rG} {X : rX} (C : rC G X 3 cX7_match (some .int) 5) (a0 : Int32) (a1 : Int32) (S : rS) {r : Int32 × rS} (hf : fX7_match a0 a1 S = some r) : rAW G X 3 (some (.int r.1), r.2) 0 [some (.ref G.2.2.2.1), some (.int a0), some (.int a1)] [] S := by
  unfold fX7_match at hf
  refine ra_aload_n C dX7_match_0 rfl rfl ?_
  refine ra_aload_n C dX7_match_1 rfl rfl ?_
  refine ra_iload_n C dX7_match_2 rfl rfl ?_
  obtain ⟨q3, h3, hf⟩ := rob hf
  refine ra_callVi C dX7_match_3 (mX7_isStructure h3) rfl tX7_l201 tX7_i_X7_isStructure tX7_s_X7_isStructure tX7_init tX7_c_X7_isStructure tX7_d_X7_isStructure (by decide) (by decide) (Nat.le_of_ble_eq_true rfl) ?_
  refine ra_if_eq C dX7_match_6 (tgt := 21) (by decide) (fun c6 => ?_) (fun c6 => ?_)
  · replace hf := rif_p c6 hf
    exact bX7_match_b21 C _ _ _ hf
  · replace hf := rif_n c6 hf
    refine ra_aload_n C dX7_match_9 rfl rfl ?_
    refine ra_iload_n C dX7_match_10 rfl rfl ?_
    obtain ⟨q11, h11, hf⟩ := rob hf
    refine ra_callVi C dX7_match_11 (mX7_isSignature h11) rfl tX7_l217 tX7_i_X7_isSignature tX7_s_X7_isSignature tX7_init tX7_c_X7_isSignature tX7_d_X7_isSignature (by decide) (by decide) (Nat.le_of_ble_eq_true rfl) ?_
    refine ra_if_eq C dX7_match_14 (tgt := 21) (by decide) (fun c14 => ?_) (fun c14 => ?_)
    · replace hf := rif_p c14 hf
      exact bX7_match_b21 C _ _ _ hf
    · replace hf := rif_n c14 hf
      refine ra_iconst C dX7_match_17 (v := 0) (by decide) ?_
      refine ra_goto C dX7_match_18 (tgt := 22) (by decide) ?_
      exact bX7_match_b22 C _ _ _ _ hf
set_option maxRecDepth 100000 in
set_option maxHeartbeats 4000000 in
theorem mX7_match {l : Launch} {G : rG} {a0 : Int32} {a1 : Int32} {S : rS} {r : Int32 × rS} (hf : fX7_match a0 a1 S = some r) : rM l G 5 yX7_match cX7_match 3 (some .int) [.ref G.2.2.2.1, .int a0, .int a1] S (some (.int r.1), r.2) :=
  rM_of (lo0 := [some (.ref G.2.2.2.1), some (.int a0), some (.int a1)]) (by decide +kernel) rfl (Nat.le_of_ble_eq_true rfl) (by simp [Value.category]) rfl (fun X _ C => bX7_match C a0 a1 S hf)
set_option maxRecDepth 100000 in
set_option maxHeartbeats 4000000 in
theorem bX7_enters {G : rG} {X : rX} (C : rC G X 3 cX7_enters none 0) (a0 : Int32) (a1 : Int32) (S : rS) {r : rS} (hf : fX7_enters a0 a1 S = some r) : rAW G X 3 (none, r) 0 [some (.ref G.2.2.2.1), some (.int a0), some (.int a1)] [] S := by
  unfold fX7_enters at hf
  refine ra_aload_n C dX7_enters_0 rfl rfl ?_
  refine ra_getR C dX7_enters_1 (k := 42) (by decide) rfl rX7_in tX7_f120 rfl ?_
  refine ra_aload_n C dX7_enters_4 rfl rfl ?_
  refine ra_getI C dX7_enters_5 (k := 41) (by decide) rfl rX7_in tX7_f236 rfl ?_
  refine ra_iload_n C dX7_enters_8 rfl rfl ?_
  obtain ⟨S9, h9, hf⟩ := rob hf
  refine ra_iast C dX7_enters_9 h9 (by decide) rfl rfl ?_
  refine ra_aload_n C dX7_enters_10 rfl rfl ?_
  refine ra_getR C dX7_enters_11 (k := 43) (by decide) rfl rX7_in tX7_f123 rfl ?_
  refine ra_aload_n C dX7_enters_14 rfl rfl ?_
  refine ra_getI C dX7_enters_15 (k := 41) (by decide) rfl rX7_in tX7_f236 rfl ?_
  refine ra_iload_n C dX7_enters_18 rfl rfl ?_
  obtain ⟨S19, h19, hf⟩ := rob hf
  refine ra_iast C dX7_enters_19 h19 (by decide) rfl rfl ?_
  refine ra_aload_n C dX7_enters_20 rfl rfl ?_
  refine ra_getR C dX7_enters_21 (k := 44) (by decide) rfl rX7_in tX7_f126 rfl ?_
  refine ra_aload_n C dX7_enters_24 rfl rfl ?_
  refine ra_getI C dX7_enters_25 (k := 41) (by decide) rfl rX7_in tX7_f236 rfl ?_
  refine ra_bipush C dX7_enters_28 (v := 60) (by decide) ?_
  refine ra_iload_n C dX7_enters_30 rfl rfl ?_
  refine ra_imul C dX7_enters_31 ?_
  obtain ⟨S32, h32, hf⟩ := rob hf
  refine ra_iast C dX7_enters_32 h32 (by decide) rfl rfl ?_
  refine ra_aload_n C dX7_enters_33 rfl rfl ?_
  refine ra_getR C dX7_enters_34 (k := 47) (by decide) rfl rX7_in tX7_f135 rfl ?_
  refine ra_aload_n C dX7_enters_37 rfl rfl ?_
  refine ra_getI C dX7_enters_38 (k := 41) (by decide) rfl rX7_in tX7_f236 rfl ?_
  refine ra_iconst C dX7_enters_41 (v := 0) (by decide) ?_
  obtain ⟨S42, h42, hf⟩ := rob hf
  refine ra_iast C dX7_enters_42 h42 (by decide) rfl rfl ?_
  refine ra_aload_n C dX7_enters_43 rfl rfl ?_
  refine ra_dup C dX7_enters_44 rfl ?_
  refine ra_getI C dX7_enters_45 (k := 41) (by decide) rfl rX7_in tX7_f236 rfl ?_
  refine ra_iconst C dX7_enters_48 (v := 1) (by decide) ?_
  refine ra_iadd C dX7_enters_49 ?_
  refine ra_putI C dX7_enters_50 (k := 41) (by decide) rfl rX7_in tX7_f236 rfl rfl (tyX7_ok 41 (by decide)) ?_
  obtain rfl := Option.some.inj hf
  exact ra_vret C dX7_enters_53
set_option maxRecDepth 100000 in
set_option maxHeartbeats 4000000 in
theorem mX7_enters {l : Launch} {G : rG} {a0 : Int32} {a1 : Int32} {S : rS} {r : rS} (hf : fX7_enters a0 a1 S = some r) : rM l G 0 yX7_enters cX7_enters 3 none [.ref G.2.2.2.1, .int a0, .int a1] S (none, r) :=
  rM_of (lo0 := [some (.ref G.2.2.2.1), some (.int a0), some (.int a1)]) (by decide +kernel) rfl (Nat.le_of_ble_eq_true rfl) (by simp [Value.category]) rfl (fun X _ C => bX7_enters C a0 a1 S hf)
set_option maxRecDepth 100000 in
set_option maxHeartbeats 4000000 in
theorem bX7_lays {G : rG} {X : rX} (C : rC G X 6 cX7_lays none 0) (a0 : Int32) (a1 : Int32) (a2 : Int32) (a3 : Int32) (S : rS) {r : rS} (hf : fX7_lays a0 a1 a2 a3 S = some r) : rAW G X 6 (none, r) 0 [some (.ref G.2.2.2.1), some (.int a0), some (.int a1), some (.int a2), some (.int a3), none] [] S := by
  unfold fX7_lays at hf
  refine ra_bipush C dX7_lays_0 (v := 60) (by decide) ?_
  refine ra_aload_n C dX7_lays_2 rfl rfl ?_
  refine ra_getI C dX7_lays_3 (k := 41) (by decide) rfl rX7_in tX7_f236 rfl ?_
  refine ra_iconst C dX7_lays_6 (v := 1) (by decide) ?_
  refine ra_isub C dX7_lays_7 ?_
  refine ra_imul C dX7_lays_8 ?_
  refine ra_aload_n C dX7_lays_9 rfl rfl ?_
  refine ra_getR C dX7_lays_10 (k := 47) (by decide) rfl rX7_in tX7_f135 rfl ?_
  refine ra_aload_n C dX7_lays_13 rfl rfl ?_
  refine ra_getI C dX7_lays_14 (k := 41) (by decide) rfl rX7_in tX7_f236 rfl ?_
  refine ra_iconst C dX7_lays_17 (v := 1) (by decide) ?_
  refine ra_isub C dX7_lays_18 ?_
  obtain ⟨x19, h19, hf⟩ := rob hf
  refine ra_iald C dX7_lays_19 h19 (by decide) rfl rfl ?_
  refine ra_iadd C dX7_lays_20 ?_
  refine ra_istore C dX7_lays_21 (by decide) ?_
  refine ra_aload_n C dX7_lays_23 rfl rfl ?_
  refine ra_getR C dX7_lays_24 (k := 48) (by decide) rfl rX7_in tX7_f138 rfl ?_
  refine ra_iload C dX7_lays_27 rfl ?_
  refine ra_iload_n C dX7_lays_29 rfl rfl ?_
  obtain ⟨S30, h30, hf⟩ := rob hf
  refine ra_iast C dX7_lays_30 h30 (by decide) rfl rfl ?_
  refine ra_aload_n C dX7_lays_31 rfl rfl ?_
  refine ra_getR C dX7_lays_32 (k := 49) (by decide) rfl rX7_in tX7_f141 rfl ?_
  refine ra_iload C dX7_lays_35 rfl ?_
  refine ra_iload_n C dX7_lays_37 rfl rfl ?_
  obtain ⟨S38, h38, hf⟩ := rob hf
  refine ra_iast C dX7_lays_38 h38 (by decide) rfl rfl ?_
  refine ra_aload_n C dX7_lays_39 rfl rfl ?_
  refine ra_getR C dX7_lays_40 (k := 50) (by decide) rfl rX7_in tX7_f144 rfl ?_
  refine ra_iload C dX7_lays_43 rfl ?_
  refine ra_iload_n C dX7_lays_45 rfl rfl ?_
  obtain ⟨S46, h46, hf⟩ := rob hf
  refine ra_iast C dX7_lays_46 h46 (by decide) rfl rfl ?_
  refine ra_aload_n C dX7_lays_47 rfl rfl ?_
  refine ra_getR C dX7_lays_48 (k := 51) (by decide) rfl rX7_in tX7_f147 rfl ?_
  refine ra_iload C dX7_lays_51 rfl ?_
  refine ra_iload C dX7_lays_53 rfl ?_
  obtain ⟨S55, h55, hf⟩ := rob hf
  refine ra_iast C dX7_lays_55 h55 (by decide) rfl rfl ?_
  refine ra_aload_n C dX7_lays_56 rfl rfl ?_
  refine ra_getR C dX7_lays_57 (k := 47) (by decide) rfl rX7_in tX7_f135 rfl ?_
  refine ra_aload_n C dX7_lays_60 rfl rfl ?_
  refine ra_getI C dX7_lays_61 (k := 41) (by decide) rfl rX7_in tX7_f236 rfl ?_
  refine ra_iconst C dX7_lays_64 (v := 1) (by decide) ?_
  refine ra_isub C dX7_lays_65 ?_
  refine ra_dup2 C dX7_lays_66 rfl rfl ?_
  obtain ⟨x67, h67, hf⟩ := rob hf
  refine ra_iald C dX7_lays_67 h67 (by decide) rfl rfl ?_
  refine ra_iconst C dX7_lays_68 (v := 1) (by decide) ?_
  refine ra_iadd C dX7_lays_69 ?_
  obtain ⟨S70, h70, hf⟩ := rob hf
  refine ra_iast C dX7_lays_70 h70 (by decide) rfl rfl ?_
  obtain rfl := Option.some.inj hf
  exact ra_vret C dX7_lays_71
set_option maxRecDepth 100000 in
set_option maxHeartbeats 4000000 in
theorem mX7_lays {l : Launch} {G : rG} {a0 : Int32} {a1 : Int32} {a2 : Int32} {a3 : Int32} {S : rS} {r : rS} (hf : fX7_lays a0 a1 a2 a3 S = some r) : rM l G 0 yX7_lays cX7_lays 6 none [.ref G.2.2.2.1, .int a0, .int a1, .int a2, .int a3] S (none, r) :=
  rM_of (lo0 := [some (.ref G.2.2.2.1), some (.int a0), some (.int a1), some (.int a2), some (.int a3), none]) (by decide +kernel) rfl (Nat.le_of_ble_eq_true rfl) (by simp [Value.category]) rfl (fun X _ C => bX7_lays C a0 a1 a2 a3 S hf)
set_option maxRecDepth 100000 in
set_option maxHeartbeats 4000000 in
theorem bX7_meansNow_b26 {G : rG} {X : rX} (C : rC G X 2 cX7_meansNow (some .int) 0) {r : Int32 × rS} (s0 : Int32) (S : rS) (hf : fX7_meansNow_b26 s0 S = some r) : rAW G X 2 (some (.int r.1), r.2) 26 [none, none] [.int s0] S := by
  unfold fX7_meansNow_b26 at hf
  obtain rfl := Option.some.inj hf
  exact ra_iret C dX7_meansNow_26
set_option maxRecDepth 100000 in
set_option maxHeartbeats 4000000 in
theorem bX7_meansNow {G : rG} {X : rX} (C : rC G X 2 cX7_meansNow (some .int) 0) (a0 : Int32) (S : rS) {r : Int32 × rS} (hf : fX7_meansNow a0 S = some r) : rAW G X 2 (some (.int r.1), r.2) 0 [some (.ref G.2.2.2.1), some (.int a0)] [] S := by
  unfold fX7_meansNow at hf
  refine ra_iload_n C dX7_meansNow_0 rfl rfl ?_
  refine ra_if_lt C dX7_meansNow_1 (tgt := 8) (by decide) (fun c1 => ?_) (fun c1 => ?_)
  · replace hf := rif_p c1 hf
    refine ra_aload_n C dX7_meansNow_8 rfl rfl ?_
    refine ra_getR C dX7_meansNow_9 (k := 46) (by decide) rfl rX7_in tX7_f132 rfl ?_
    refine ra_bipush C dX7_meansNow_12 (v := 10) (by decide) ?_
    refine ra_aload_n C dX7_meansNow_14 rfl rfl ?_
    refine ra_getI C dX7_meansNow_15 (k := 41) (by decide) rfl rX7_in tX7_f236 rfl ?_
    refine ra_iconst C dX7_meansNow_18 (v := 1) (by decide) ?_
    refine ra_isub C dX7_meansNow_19 ?_
    refine ra_imul C dX7_meansNow_20 ?_
    refine ra_iconst C dX7_meansNow_21 (v := 1) (by decide) ?_
    refine ra_isub C dX7_meansNow_22 ?_
    refine ra_iload_n C dX7_meansNow_23 rfl rfl ?_
    refine ra_isub C dX7_meansNow_24 ?_
    obtain ⟨x25, h25, hf⟩ := rob hf
    refine ra_iald C dX7_meansNow_25 h25 (by decide) rfl rfl ?_
    refine ra_mask [false, false] ?_
    exact bX7_meansNow_b26 C _ _ hf
  · replace hf := rif_n c1 hf
    refine ra_iload_n C dX7_meansNow_4 rfl rfl ?_
    refine ra_goto C dX7_meansNow_5 (tgt := 26) (by decide) ?_
    refine ra_mask [false, false] ?_
    exact bX7_meansNow_b26 C _ _ hf
set_option maxRecDepth 100000 in
set_option maxHeartbeats 4000000 in
theorem mX7_meansNow {l : Launch} {G : rG} {a0 : Int32} {S : rS} {r : Int32 × rS} (hf : fX7_meansNow a0 S = some r) : rM l G 0 yX7_meansNow cX7_meansNow 2 (some .int) [.ref G.2.2.2.1, .int a0] S (some (.int r.1), r.2) :=
  rM_of (lo0 := [some (.ref G.2.2.2.1), some (.int a0)]) (by decide +kernel) rfl (Nat.le_of_ble_eq_true rfl) (by simp [Value.category]) rfl (fun X _ C => bX7_meansNow C a0 S hf)
set_option maxRecDepth 100000 in
set_option maxHeartbeats 4000000 in
theorem bX7_numberOf_b21 {G : rG} {X : rX} (C : rC G X 3 cX7_numberOf (some .int) 1) {r : Int32 × rS} (s0 : Int32) (S : rS) (hf : fX7_numberOf_b21 s0 S = some r) : rAW G X 3 (some (.int r.1), r.2) 21 [none, none, none] [.int s0] S := by
  unfold fX7_numberOf_b21 at hf
  obtain rfl := Option.some.inj hf
  exact ra_iret C dX7_numberOf_21
set_option maxRecDepth 100000 in
set_option maxHeartbeats 4000000 in
theorem bX7_numberOf {G : rG} {X : rX} (C : rC G X 3 cX7_numberOf (some .int) 1) (a0 : Int32) (a1 : Int32) (S : rS) {r : Int32 × rS} (hf : fX7_numberOf a0 a1 S = some r) : rAW G X 3 (some (.int r.1), r.2) 0 [some (.ref G.2.2.2.1), some (.int a0), some (.int a1)] [] S := by
  unfold fX7_numberOf at hf
  refine ra_iload_n C dX7_numberOf_0 rfl rfl ?_
  refine ra_iconst C dX7_numberOf_1 (v := (-1)) (by decide) ?_
  refine ra_icmp_ne C dX7_numberOf_2 (tgt := 9) (by decide) (fun c2 => ?_) (fun c2 => ?_)
  · replace hf := rif_n c2 hf
    refine ra_aload_n C dX7_numberOf_9 rfl rfl ?_
    refine ra_getR C dX7_numberOf_10 (k := 9) (by decide) rfl rX7_in tX7_f35 rfl ?_
    refine ra_aload_n C dX7_numberOf_13 rfl rfl ?_
    refine ra_iload_n C dX7_numberOf_14 rfl rfl ?_
    refine ra_iconst C dX7_numberOf_15 (v := 1) (by decide) ?_
    refine ra_iload_n C dX7_numberOf_16 rfl rfl ?_
    obtain ⟨q17, h17, hf⟩ := rob hf
    refine ra_callVi C dX7_numberOf_17 (mX7_findsItem h17) rfl tX7_l181 tX7_i_X7_findsItem tX7_s_X7_findsItem tX7_init tX7_c_X7_findsItem tX7_d_X7_findsItem (by decide) (by decide) (Nat.le_of_ble_eq_true rfl) ?_
    obtain ⟨x20, h20, hf⟩ := rob hf
    refine ra_iald C dX7_numberOf_20 h20 (by decide) rfl rfl ?_
    refine ra_mask [false, false, false] ?_
    exact bX7_numberOf_b21 C _ _ hf
  · replace hf := rif_p c2 hf
    refine ra_iconst C dX7_numberOf_5 (v := 0) (by decide) ?_
    refine ra_goto C dX7_numberOf_6 (tgt := 21) (by decide) ?_
    refine ra_mask [false, false, false] ?_
    exact bX7_numberOf_b21 C _ _ hf
set_option maxRecDepth 100000 in
set_option maxHeartbeats 4000000 in
theorem mX7_numberOf {l : Launch} {G : rG} {a0 : Int32} {a1 : Int32} {S : rS} {r : Int32 × rS} (hf : fX7_numberOf a0 a1 S = some r) : rM l G 1 yX7_numberOf cX7_numberOf 3 (some .int) [.ref G.2.2.2.1, .int a0, .int a1] S (some (.int r.1), r.2) :=
  rM_of (lo0 := [some (.ref G.2.2.2.1), some (.int a0), some (.int a1)]) (by decide +kernel) rfl (Nat.le_of_ble_eq_true rfl) (by simp [Value.category]) rfl (fun X _ C => bX7_numberOf C a0 a1 S hf)
set_option maxRecDepth 100000 in
set_option maxHeartbeats 4000000 in
theorem bX7_typeNow_b54 {G : rG} {X : rX} (C : rC G X 4 cX7_typeNow (some .int) 1) {r : Int32 × rS} (s0 : Int32) (S : rS) (hf : fX7_typeNow_b54 s0 S = some r) : rAW G X 4 (some (.int r.1), r.2) 54 [none, none, none, none] [.int s0] S := by
  unfold fX7_typeNow_b54 at hf
  obtain rfl := Option.some.inj hf
  exact ra_iret C dX7_typeNow_54
set_option maxRecDepth 100000 in
set_option maxHeartbeats 4000000 in
theorem bX7_typeNow {G : rG} {X : rX} (C : rC G X 4 cX7_typeNow (some .int) 1) (a0 : Int32) (a1 : Int32) (a2 : Int32) (S : rS) {r : Int32 × rS} (hf : fX7_typeNow a0 a1 a2 S = some r) : rAW G X 4 (some (.int r.1), r.2) 0 [some (.ref G.2.2.2.1), some (.int a0), some (.int a1), some (.int a2)] [] S := by
  unfold fX7_typeNow at hf
  refine ra_aload_n C dX7_typeNow_0 rfl rfl ?_
  refine ra_getR C dX7_typeNow_1 (k := 15) (by decide) rfl rX7_in tX7_f50 rfl ?_
  refine ra_iload_n C dX7_typeNow_4 rfl rfl ?_
  obtain ⟨x5, h5, hf⟩ := rob hf
  refine ra_iald C dX7_typeNow_5 h5 (by decide) rfl rfl ?_
  refine ra_bipush C dX7_typeNow_6 (v := (-100)) (by decide) ?_
  refine ra_icmp_eq C dX7_typeNow_8 (tgt := 22) (by decide) (fun c8 => ?_) (fun c8 => ?_)
  · replace hf := rif_p c8 hf
    refine ra_iload_n C dX7_typeNow_22 rfl rfl ?_
    refine ra_iconst C dX7_typeNow_23 (v := 1) (by decide) ?_
    refine ra_icmp_ne C dX7_typeNow_24 (tgt := 47) (by decide) (fun c24 => ?_) (fun c24 => ?_)
    · replace hf := rif_n c24 hf
      refine ra_aload_n C dX7_typeNow_47 rfl rfl ?_
      refine ra_iconst C dX7_typeNow_48 (v := 1) (by decide) ?_
      refine ra_iconst C dX7_typeNow_49 (v := (-1)) (by decide) ?_
      refine ra_iconst C dX7_typeNow_50 (v := (-1)) (by decide) ?_
      obtain ⟨q51, h51, hf⟩ := rob hf
      refine ra_callVi C dX7_typeNow_51 (mX7_makesType h51) rfl tX7_l167 tX7_i_X7_makesType tX7_s_X7_makesType tX7_init tX7_c_X7_makesType tX7_d_X7_makesType (by decide) (by decide) (Nat.le_of_ble_eq_true rfl) ?_
      refine ra_mask [false, false, false, false] ?_
      exact bX7_typeNow_b54 C _ _ hf
    · replace hf := rif_p c24 hf
      refine ra_aload_n C dX7_typeNow_27 rfl rfl ?_
      refine ra_getR C dX7_typeNow_28 (k := 8) (by decide) rfl rX7_in tX7_f32 rfl ?_
      refine ra_aload_n C dX7_typeNow_31 rfl rfl ?_
      refine ra_iload_n C dX7_typeNow_32 rfl rfl ?_
      refine ra_iconst C dX7_typeNow_33 (v := 0) (by decide) ?_
      refine ra_aload_n C dX7_typeNow_34 rfl rfl ?_
      refine ra_getR C dX7_typeNow_35 (k := 14) (by decide) rfl rX7_in tX7_f47 rfl ?_
      refine ra_iload_n C dX7_typeNow_38 rfl rfl ?_
      obtain ⟨x39, h39, hf⟩ := rob hf
      refine ra_iald C dX7_typeNow_39 h39 (by decide) rfl rfl ?_
      obtain ⟨q40, h40, hf⟩ := rob hf
      refine ra_callVi C dX7_typeNow_40 (mX7_findsItem h40) rfl tX7_l181 tX7_i_X7_findsItem tX7_s_X7_findsItem tX7_init tX7_c_X7_findsItem tX7_d_X7_findsItem (by decide) (by decide) (Nat.le_of_ble_eq_true rfl) ?_
      obtain ⟨x43, h43, hf⟩ := rob hf
      refine ra_iald C dX7_typeNow_43 h43 (by decide) rfl rfl ?_
      refine ra_goto C dX7_typeNow_44 (tgt := 54) (by decide) ?_
      refine ra_mask [false, false, false, false] ?_
      exact bX7_typeNow_b54 C _ _ hf
  · replace hf := rif_n c8 hf
    refine ra_aload_n C dX7_typeNow_11 rfl rfl ?_
    refine ra_aload_n C dX7_typeNow_12 rfl rfl ?_
    refine ra_getR C dX7_typeNow_13 (k := 15) (by decide) rfl rX7_in tX7_f50 rfl ?_
    refine ra_iload_n C dX7_typeNow_16 rfl rfl ?_
    obtain ⟨x17, h17, hf⟩ := rob hf
    refine ra_iald C dX7_typeNow_17 h17 (by decide) rfl rfl ?_
    obtain ⟨q18, h18, hf⟩ := rob hf
    refine ra_callVi C dX7_typeNow_18 (mX7_meansNow h18) rfl tX7_l239 tX7_i_X7_meansNow tX7_s_X7_meansNow tX7_init tX7_c_X7_meansNow tX7_d_X7_meansNow (by decide) (by decide) (Nat.le_of_ble_eq_true rfl) ?_
    obtain rfl := Option.some.inj hf
    exact ra_iret C dX7_typeNow_21
set_option maxRecDepth 100000 in
set_option maxHeartbeats 4000000 in
theorem mX7_typeNow {l : Launch} {G : rG} {a0 : Int32} {a1 : Int32} {a2 : Int32} {S : rS} {r : Int32 × rS} (hf : fX7_typeNow a0 a1 a2 S = some r) : rM l G 1 yX7_typeNow cX7_typeNow 4 (some .int) [.ref G.2.2.2.1, .int a0, .int a1, .int a2] S (some (.int r.1), r.2) :=
  rM_of (lo0 := [some (.ref G.2.2.2.1), some (.int a0), some (.int a1), some (.int a2)]) (by decide +kernel) rfl (Nat.le_of_ble_eq_true rfl) (by simp [Value.category]) rfl (fun X _ C => bX7_typeNow C a0 a1 a2 S hf)
set_option maxRecDepth 100000 in
set_option maxHeartbeats 4000000 in
theorem bX7_leaves_b147 {G : rG} {X : rX} (C : rC G X 3 cX7_leaves (some .int) 1) {r : Int32 × rS} (S : rS) (hf : fX7_leaves_b147  S = some r) : rAW G X 3 (some (.int r.1), r.2) 147 [some (.ref G.2.2.2.1), none, none] [] S := by
  unfold fX7_leaves_b147 at hf
  refine ra_aload_n C dX7_leaves_147 rfl rfl ?_
  refine ra_getI C dX7_leaves_148 (k := 4) (by decide) rfl rX7_in tX7_f198 rfl ?_
  refine ra_iconst C dX7_leaves_151 (v := 1) (by decide) ?_
  refine ra_isub C dX7_leaves_152 ?_
  obtain rfl := Option.some.inj hf
  exact ra_iret C dX7_leaves_153
set_option maxRecDepth 100000 in
set_option maxHeartbeats 4000000 in
theorem bX7_leaves_b22_body {G : rG} {X : rX} (C : rC G X 3 cX7_leaves (some .int) 1) {r : Int32 × rS} {rec22 : Int32 → Int32 → rS → Option (Int32 × rS)} (hrec22 : ∀ (l1 : Int32) (l2 : Int32) (S : rS), rec22 l1 l2 S = some r → rAW G X 3 (some (.int r.1), r.2) 22 [some (.ref G.2.2.2.1), some (.int l1), some (.int l2)] [] S) (l1 : Int32) (l2 : Int32) (S : rS) (hf : fX7_leaves_b22_body rec22 l1 l2 S = some r) : rAW G X 3 (some (.int r.1), r.2) 22 [some (.ref G.2.2.2.1), some (.int l1), some (.int l2)] [] S := by
  unfold fX7_leaves_b22_body at hf
  refine ra_iload_n C dX7_leaves_22 rfl rfl ?_
  refine ra_bipush C dX7_leaves_23 (v := 60) (by decide) ?_
  refine ra_iload_n C dX7_leaves_25 rfl rfl ?_
  refine ra_imul C dX7_leaves_26 ?_
  refine ra_aload_n C dX7_leaves_27 rfl rfl ?_
  refine ra_getR C dX7_leaves_28 (k := 47) (by decide) rfl rX7_in tX7_f135 rfl ?_
  refine ra_iload_n C dX7_leaves_31 rfl rfl ?_
  obtain ⟨x32, h32, hf⟩ := rob hf
  refine ra_iald C dX7_leaves_32 h32 (by decide) rfl rfl ?_
  refine ra_iadd C dX7_leaves_33 ?_
  refine ra_icmp_ge C dX7_leaves_34 (tgt := 75) (by decide) (fun c34 => ?_) (fun c34 => ?_)
  · replace hf := rif_p c34 hf
    refine ra_aload_n C dX7_leaves_75 rfl rfl ?_
    refine ra_dup C dX7_leaves_76 rfl ?_
    refine ra_getI C dX7_leaves_77 (k := 4) (by decide) rfl rX7_in tX7_f198 rfl ?_
    refine ra_iconst C dX7_leaves_80 (v := 1) (by decide) ?_
    refine ra_iadd C dX7_leaves_81 ?_
    refine ra_putI C dX7_leaves_82 (k := 4) (by decide) rfl rX7_in tX7_f198 rfl rfl (tyX7_ok 4 (by decide)) ?_
    refine ra_aload_n C dX7_leaves_85 rfl rfl ?_
    refine ra_dup C dX7_leaves_86 rfl ?_
    refine ra_getI C dX7_leaves_87 (k := 41) (by decide) rfl rX7_in tX7_f236 rfl ?_
    refine ra_iconst C dX7_leaves_90 (v := 1) (by decide) ?_
    refine ra_isub C dX7_leaves_91 ?_
    refine ra_putI C dX7_leaves_92 (k := 41) (by decide) rfl rX7_in tX7_f236 rfl rfl (tyX7_ok 41 (by decide)) ?_
    refine ra_aload_n C dX7_leaves_95 rfl rfl ?_
    refine ra_getI C dX7_leaves_96 (k := 41) (by decide) rfl rX7_in tX7_f236 rfl ?_
    refine ra_if_le C dX7_leaves_99 (tgt := 147) (by decide) (fun c99 => ?_) (fun c99 => ?_)
    · replace hf := rif_p c99 hf
      refine ra_mask [true, false, false] ?_
      exact bX7_leaves_b147 C  _ hf
    · replace hf := rif_n c99 hf
      refine ra_aload_n C dX7_leaves_102 rfl rfl ?_
      refine ra_getR C dX7_leaves_103 (k := 44) (by decide) rfl rX7_in tX7_f126 rfl ?_
      refine ra_aload_n C dX7_leaves_106 rfl rfl ?_
      refine ra_getI C dX7_leaves_107 (k := 41) (by decide) rfl rX7_in tX7_f236 rfl ?_
      refine ra_iconst C dX7_leaves_110 (v := 1) (by decide) ?_
      refine ra_isub C dX7_leaves_111 ?_
      obtain ⟨x112, h112, hf⟩ := rob hf
      refine ra_iald C dX7_leaves_112 h112 (by decide) rfl rfl ?_
      refine ra_istore_n C dX7_leaves_113 rfl (by decide) ?_
      refine ra_aload_n C dX7_leaves_114 rfl rfl ?_
      refine ra_iconst C dX7_leaves_115 (v := 2) (by decide) ?_
      refine ra_aload_n C dX7_leaves_116 rfl rfl ?_
      refine ra_getR C dX7_leaves_117 (k := 14) (by decide) rfl rX7_in tX7_f47 rfl ?_
      refine ra_iload_n C dX7_leaves_120 rfl rfl ?_
      obtain ⟨x121, h121, hf⟩ := rob hf
      refine ra_iald C dX7_leaves_121 h121 (by decide) rfl rfl ?_
      refine ra_aload_n C dX7_leaves_122 rfl rfl ?_
      refine ra_getI C dX7_leaves_123 (k := 4) (by decide) rfl rX7_in tX7_f198 rfl ?_
      refine ra_iconst C dX7_leaves_126 (v := 1) (by decide) ?_
      refine ra_isub C dX7_leaves_127 ?_
      refine ra_iconst C dX7_leaves_128 (v := 0) (by decide) ?_
      obtain ⟨q129, h129, hf⟩ := rob hf
      refine ra_callVv C dX7_leaves_129 (mX7_lays h129) rfl tX7_l242 tX7_i_X7_lays tX7_s_X7_lays tX7_init tX7_c_X7_lays tX7_d_X7_lays (by decide) (by decide) (Nat.le_of_ble_eq_true rfl) ?_
      refine ra_aload_n C dX7_leaves_132 rfl rfl ?_
      refine ra_getR C dX7_leaves_133 (k := 44) (by decide) rfl rX7_in tX7_f126 rfl ?_
      refine ra_aload_n C dX7_leaves_136 rfl rfl ?_
      refine ra_getI C dX7_leaves_137 (k := 41) (by decide) rfl rX7_in tX7_f236 rfl ?_
      refine ra_iconst C dX7_leaves_140 (v := 1) (by decide) ?_
      refine ra_isub C dX7_leaves_141 ?_
      refine ra_dup2 C dX7_leaves_142 rfl rfl ?_
      obtain ⟨x143, h143, hf⟩ := rob hf
      refine ra_iald C dX7_leaves_143 h143 (by decide) rfl rfl ?_
      refine ra_iconst C dX7_leaves_144 (v := 1) (by decide) ?_
      refine ra_iadd C dX7_leaves_145 ?_
      obtain ⟨S146, h146, hf⟩ := rob hf
      refine ra_iast C dX7_leaves_146 h146 (by decide) rfl rfl ?_
      refine ra_mask [true, false, false] ?_
      exact bX7_leaves_b147 C  _ hf
  · replace hf := rif_n c34 hf
    refine ra_aload_n C dX7_leaves_37 rfl rfl ?_
    refine ra_aload_n C dX7_leaves_38 rfl rfl ?_
    refine ra_getI C dX7_leaves_39 (k := 4) (by decide) rfl rX7_in tX7_f198 rfl ?_
    refine ra_aload_n C dX7_leaves_42 rfl rfl ?_
    refine ra_getR C dX7_leaves_43 (k := 48) (by decide) rfl rX7_in tX7_f138 rfl ?_
    refine ra_iload_n C dX7_leaves_46 rfl rfl ?_
    obtain ⟨x47, h47, hf⟩ := rob hf
    refine ra_iald C dX7_leaves_47 h47 (by decide) rfl rfl ?_
    refine ra_aload_n C dX7_leaves_48 rfl rfl ?_
    refine ra_getR C dX7_leaves_49 (k := 49) (by decide) rfl rX7_in tX7_f141 rfl ?_
    refine ra_iload_n C dX7_leaves_52 rfl rfl ?_
    obtain ⟨x53, h53, hf⟩ := rob hf
    refine ra_iald C dX7_leaves_53 h53 (by decide) rfl rfl ?_
    refine ra_aload_n C dX7_leaves_54 rfl rfl ?_
    refine ra_getR C dX7_leaves_55 (k := 50) (by decide) rfl rX7_in tX7_f144 rfl ?_
    refine ra_iload_n C dX7_leaves_58 rfl rfl ?_
    obtain ⟨x59, h59, hf⟩ := rob hf
    refine ra_iald C dX7_leaves_59 h59 (by decide) rfl rfl ?_
    refine ra_aload_n C dX7_leaves_60 rfl rfl ?_
    refine ra_getR C dX7_leaves_61 (k := 51) (by decide) rfl rX7_in tX7_f147 rfl ?_
    refine ra_iload_n C dX7_leaves_64 rfl rfl ?_
    obtain ⟨x65, h65, hf⟩ := rob hf
    refine ra_iald C dX7_leaves_65 h65 (by decide) rfl rfl ?_
    obtain ⟨q66, h66, hf⟩ := rob hf
    refine ra_callVv C dX7_leaves_66 (mX7_puts h66) rfl tX7_l184 tX7_i_X7_puts tX7_s_X7_puts tX7_init tX7_c_X7_puts tX7_d_X7_puts (by decide) (by decide) (Nat.le_of_ble_eq_true rfl) ?_
    refine ra_iinc C dX7_leaves_69 rfl (v := 1) (by decide) (by decide) ?_
    refine ra_goto C dX7_leaves_72 (tgt := 22) (by decide) ?_
    exact hrec22 _ _ _ hf
set_option maxRecDepth 100000 in
set_option maxHeartbeats 4000000 in
theorem bX7_leaves_b22 {G : rG} {X : rX} (C : rC G X 3 cX7_leaves (some .int) 1) {r : Int32 × rS} : ∀ (n : Nat) (l1 : Int32) (l2 : Int32) (S : rS), fX7_leaves_b22 n l1 l2 S = some r → rAW G X 3 (some (.int r.1), r.2) 22 [some (.ref G.2.2.2.1), some (.int l1), some (.int l2)] [] S := by
  intro n
  induction n with
  | zero => intro l1 l2 S hf; cases hf
  | succ n ih => intro l1 l2 S hf; exact bX7_leaves_b22_body C (fun l1 l2 S h => ih l1 l2 S h) l1 l2 S hf
set_option maxRecDepth 100000 in
set_option maxHeartbeats 4000000 in
theorem bX7_leaves {G : rG} {X : rX} (C : rC G X 3 cX7_leaves (some .int) 1) (S : rS) {r : Int32 × rS} (hf : fX7_leaves  S = some r) : rAW G X 3 (some (.int r.1), r.2) 0 [some (.ref G.2.2.2.1), none, none] [] S := by
  unfold fX7_leaves at hf
  refine ra_aload_n C dX7_leaves_0 rfl rfl ?_
  refine ra_getI C dX7_leaves_1 (k := 41) (by decide) rfl rX7_in tX7_f236 rfl ?_
  refine ra_iconst C dX7_leaves_4 (v := 1) (by decide) ?_
  refine ra_isub C dX7_leaves_5 ?_
  refine ra_istore_n C dX7_leaves_6 rfl (by decide) ?_
  refine ra_aload_n C dX7_leaves_7 rfl rfl ?_
  refine ra_getR C dX7_leaves_8 (k := 5) (by decide) rfl rX7_in tX7_f23 rfl ?_
  refine ra_aload_n C dX7_leaves_11 rfl rfl ?_
  refine ra_getI C dX7_leaves_12 (k := 4) (by decide) rfl rX7_in tX7_f198 rfl ?_
  refine ra_iconst C dX7_leaves_15 (v := 0) (by decide) ?_
  obtain ⟨S16, h16, hf⟩ := rob hf
  refine ra_iast C dX7_leaves_16 h16 (by decide) rfl rfl ?_
  refine ra_bipush C dX7_leaves_17 (v := 60) (by decide) ?_
  refine ra_iload_n C dX7_leaves_19 rfl rfl ?_
  refine ra_imul C dX7_leaves_20 ?_
  refine ra_istore_n C dX7_leaves_21 rfl (by decide) ?_
  exact bX7_leaves_b22 C _ _ _ _ hf
set_option maxRecDepth 100000 in
set_option maxHeartbeats 4000000 in
theorem mX7_leaves {l : Launch} {G : rG} {S : rS} {r : Int32 × rS} (hf : fX7_leaves  S = some r) : rM l G 1 yX7_leaves cX7_leaves 3 (some .int) [.ref G.2.2.2.1] S (some (.int r.1), r.2) :=
  rM_of (lo0 := [some (.ref G.2.2.2.1), none, none]) (by decide +kernel) rfl (Nat.le_of_ble_eq_true rfl) (by simp [Value.category]) rfl (fun X _ C => bX7_leaves C  S hf)
set_option maxRecDepth 100000 in
set_option maxHeartbeats 4000000 in
theorem bX7_makes_b305 {G : rG} {X : rX} (C : rC G X 9 cX7_makes (some .int) 2) {r : Int32 × rS} {rec9 : Int32 → Int32 → rS → Option (Int32 × rS)} (hrec9 : ∀ (l1 : Int32) (l4 : Int32) (S : rS), rec9 l1 l4 S = some r → rAW G X 9 (some (.int r.1), r.2) 9 [some (.ref G.2.2.2.1), some (.int l1), none, none, some (.int l4), none, none, none, none] [] S) (l1 : Int32) (l4 : Int32) (S : rS) (hf : fX7_makes_b305 rec9 l1 l4 S = some r) : rAW G X 9 (some (.int r.1), r.2) 305 [some (.ref G.2.2.2.1), some (.int l1), none, none, some (.int l4), none, none, none, none] [] S := by
  unfold fX7_makes_b305 at hf
  refine ra_goto C dX7_makes_305 (tgt := 9) (by decide) ?_
  exact hrec9 _ _ _ hf
set_option maxRecDepth 100000 in
set_option maxHeartbeats 4000000 in
theorem bX7_makes_b261 {G : rG} {X : rX} (C : rC G X 9 cX7_makes (some .int) 2) {r : Int32 × rS} {rec9 : Int32 → Int32 → rS → Option (Int32 × rS)} (hrec9 : ∀ (l1 : Int32) (l4 : Int32) (S : rS), rec9 l1 l4 S = some r → rAW G X 9 (some (.int r.1), r.2) 9 [some (.ref G.2.2.2.1), some (.int l1), none, none, some (.int l4), none, none, none, none] [] S) (l1 : Int32) (l4 : Int32) (l6 : Int32) (l7 : Int32) (s0 : Int32) (S : rS) (hf : fX7_makes_b261 rec9 l1 l4 l6 l7 s0 S = some r) : rAW G X 9 (some (.int r.1), r.2) 261 [some (.ref G.2.2.2.1), some (.int l1), none, none, some (.int l4), none, some (.int l6), some (.int l7), none] [.int s0] S := by
  unfold fX7_makes_b261 at hf
  refine ra_istore C dX7_makes_261 (by decide) ?_
  refine ra_aload_n C dX7_makes_263 rfl rfl ?_
  refine ra_iconst C dX7_makes_264 (v := 1) (by decide) ?_
  refine ra_aload_n C dX7_makes_265 rfl rfl ?_
  refine ra_getR C dX7_makes_266 (k := 14) (by decide) rfl rX7_in tX7_f47 rfl ?_
  refine ra_iload C dX7_makes_269 rfl ?_
  obtain ⟨x271, h271, hf⟩ := rob hf
  refine ra_iald C dX7_makes_271 h271 (by decide) rfl rfl ?_
  refine ra_iload C dX7_makes_272 rfl ?_
  refine ra_aload_n C dX7_makes_274 rfl rfl ?_
  refine ra_iload C dX7_makes_275 rfl ?_
  refine ra_aload_n C dX7_makes_277 rfl rfl ?_
  refine ra_getR C dX7_makes_278 (k := 14) (by decide) rfl rX7_in tX7_f47 rfl ?_
  refine ra_iload C dX7_makes_281 rfl ?_
  obtain ⟨x283, h283, hf⟩ := rob hf
  refine ra_iald C dX7_makes_283 h283 (by decide) rfl rfl ?_
  obtain ⟨q284, h284, hf⟩ := rob hf
  refine ra_callVi C dX7_makes_284 (mX7_numberOf h284) rfl tX7_l257 tX7_i_X7_numberOf tX7_s_X7_numberOf tX7_init tX7_c_X7_numberOf tX7_d_X7_numberOf (by decide) (by decide) (Nat.le_of_ble_eq_true rfl) ?_
  obtain ⟨q287, h287, hf⟩ := rob hf
  refine ra_callVv C dX7_makes_287 (mX7_lays h287) rfl tX7_l242 tX7_i_X7_lays tX7_s_X7_lays tX7_init tX7_c_X7_lays tX7_d_X7_lays (by decide) (by decide) (Nat.le_of_ble_eq_true rfl) ?_
  refine ra_aload_n C dX7_makes_290 rfl rfl ?_
  refine ra_getR C dX7_makes_291 (k := 44) (by decide) rfl rX7_in tX7_f126 rfl ?_
  refine ra_aload_n C dX7_makes_294 rfl rfl ?_
  refine ra_getI C dX7_makes_295 (k := 41) (by decide) rfl rX7_in tX7_f236 rfl ?_
  refine ra_iconst C dX7_makes_298 (v := 1) (by decide) ?_
  refine ra_isub C dX7_makes_299 ?_
  refine ra_dup2 C dX7_makes_300 rfl rfl ?_
  obtain ⟨x301, h301, hf⟩ := rob hf
  refine ra_iald C dX7_makes_301 h301 (by decide) rfl rfl ?_
  refine ra_iconst C dX7_makes_302 (v := 1) (by decide) ?_
  refine ra_iadd C dX7_makes_303 ?_
  obtain ⟨S304, h304, hf⟩ := rob hf
  refine ra_iast C dX7_makes_304 h304 (by decide) rfl rfl ?_
  refine ra_mask [true, true, false, false, true, false, false, false, false] ?_
  exact bX7_makes_b305 C hrec9 _ _ _ hf
set_option maxRecDepth 100000 in
set_option maxHeartbeats 4000000 in
theorem bX7_makes_b130 {G : rG} {X : rX} (C : rC G X 9 cX7_makes (some .int) 2) {r : Int32 × rS} {rec9 : Int32 → Int32 → rS → Option (Int32 × rS)} (hrec9 : ∀ (l1 : Int32) (l4 : Int32) (S : rS), rec9 l1 l4 S = some r → rAW G X 9 (some (.int r.1), r.2) 9 [some (.ref G.2.2.2.1), some (.int l1), none, none, some (.int l4), none, none, none, none] [] S) (l1 : Int32) (l4 : Int32) (s0 : Int32) (s1 : Int32) (S : rS) (hf : fX7_makes_b130 rec9 l1 l4 s0 s1 S = some r) : rAW G X 9 (some (.int r.1), r.2) 130 [some (.ref G.2.2.2.1), some (.int l1), none, none, some (.int l4), none, none, none, none] [.int s0, .int s1, .ref G.2.2.2.1] S := by
  unfold fX7_makes_b130 at hf
  obtain ⟨q130, h130, hf⟩ := rob hf
  refine ra_callVv C dX7_makes_130 (mX7_enters h130) rfl tX7_l246 tX7_i_X7_enters tX7_s_X7_enters tX7_init tX7_c_X7_enters tX7_d_X7_enters (by decide) (by decide) (Nat.le_of_ble_eq_true rfl) ?_
  refine ra_goto C dX7_makes_133 (tgt := 305) (by decide) ?_
  exact bX7_makes_b305 C hrec9 _ _ _ hf
set_option maxRecDepth 100000 in
set_option maxHeartbeats 4000000 in
theorem bX7_makes_b9_body {G : rG} {X : rX} (C : rC G X 9 cX7_makes (some .int) 2) {r : Int32 × rS} {rec9 : Int32 → Int32 → rS → Option (Int32 × rS)} (hrec9 : ∀ (l1 : Int32) (l4 : Int32) (S : rS), rec9 l1 l4 S = some r → rAW G X 9 (some (.int r.1), r.2) 9 [some (.ref G.2.2.2.1), some (.int l1), none, none, some (.int l4), none, none, none, none] [] S) (l1 : Int32) (l4 : Int32) (S : rS) (hf : fX7_makes_b9_body rec9 l1 l4 S = some r) : rAW G X 9 (some (.int r.1), r.2) 9 [some (.ref G.2.2.2.1), some (.int l1), none, none, some (.int l4), none, none, none, none] [] S := by
  unfold fX7_makes_b9_body at hf
  refine ra_aload_n C dX7_makes_9 rfl rfl ?_
  refine ra_getI C dX7_makes_10 (k := 41) (by decide) rfl rX7_in tX7_f236 rfl ?_
  refine ra_if_le C dX7_makes_13 (tgt := 308) (by decide) (fun c13 => ?_) (fun c13 => ?_)
  · replace hf := rif_p c13 hf
    refine ra_iload C dX7_makes_308 rfl ?_
    obtain rfl := Option.some.inj hf
    exact ra_iret C dX7_makes_310
  · replace hf := rif_n c13 hf
    refine ra_aload_n C dX7_makes_16 rfl rfl ?_
    refine ra_getR C dX7_makes_17 (k := 42) (by decide) rfl rX7_in tX7_f120 rfl ?_
    refine ra_aload_n C dX7_makes_20 rfl rfl ?_
    refine ra_getI C dX7_makes_21 (k := 41) (by decide) rfl rX7_in tX7_f236 rfl ?_
    refine ra_iconst C dX7_makes_24 (v := 1) (by decide) ?_
    refine ra_isub C dX7_makes_25 ?_
    obtain ⟨x26, h26, hf⟩ := rob hf
    refine ra_iald C dX7_makes_26 h26 (by decide) rfl rfl ?_
    refine ra_istore C dX7_makes_27 (by decide) ?_
    refine ra_aload_n C dX7_makes_29 rfl rfl ?_
    refine ra_getR C dX7_makes_30 (k := 43) (by decide) rfl rX7_in tX7_f123 rfl ?_
    refine ra_aload_n C dX7_makes_33 rfl rfl ?_
    refine ra_getI C dX7_makes_34 (k := 41) (by decide) rfl rX7_in tX7_f236 rfl ?_
    refine ra_iconst C dX7_makes_37 (v := 1) (by decide) ?_
    refine ra_isub C dX7_makes_38 ?_
    obtain ⟨x39, h39, hf⟩ := rob hf
    refine ra_iald C dX7_makes_39 h39 (by decide) rfl rfl ?_
    refine ra_istore C dX7_makes_40 (by decide) ?_
    refine ra_aload_n C dX7_makes_42 rfl rfl ?_
    refine ra_getR C dX7_makes_43 (k := 44) (by decide) rfl rX7_in tX7_f126 rfl ?_
    refine ra_aload_n C dX7_makes_46 rfl rfl ?_
    refine ra_getI C dX7_makes_47 (k := 41) (by decide) rfl rX7_in tX7_f236 rfl ?_
    refine ra_iconst C dX7_makes_50 (v := 1) (by decide) ?_
    refine ra_isub C dX7_makes_51 ?_
    obtain ⟨x52, h52, hf⟩ := rob hf
    refine ra_iald C dX7_makes_52 h52 (by decide) rfl rfl ?_
    refine ra_istore C dX7_makes_53 (by decide) ?_
    refine ra_iload C dX7_makes_55 rfl ?_
    refine ra_bipush C dX7_makes_57 (v := 60) (by decide) ?_
    refine ra_iload C dX7_makes_59 rfl ?_
    refine ra_imul C dX7_makes_61 ?_
    refine ra_aload_n C dX7_makes_62 rfl rfl ?_
    refine ra_getR C dX7_makes_63 (k := 11) (by decide) rfl rX7_in tX7_f38 rfl ?_
    refine ra_iload C dX7_makes_66 rfl ?_
    obtain ⟨x68, h68, hf⟩ := rob hf
    refine ra_iald C dX7_makes_68 h68 (by decide) rfl rfl ?_
    refine ra_iadd C dX7_makes_69 ?_
    refine ra_icmp_ne C dX7_makes_70 (tgt := 82) (by decide) (fun c70 => ?_) (fun c70 => ?_)
    · replace hf := rif_n c70 hf
      refine ra_aload_n C dX7_makes_82 rfl rfl ?_
      refine ra_getR C dX7_makes_83 (k := 13) (by decide) rfl rX7_in tX7_f44 rfl ?_
      refine ra_iload C dX7_makes_86 rfl ?_
      obtain ⟨x88, h88, hf⟩ := rob hf
      refine ra_iald C dX7_makes_88 h88 (by decide) rfl rfl ?_
      refine ra_iconst C dX7_makes_89 (v := 2) (by decide) ?_
      refine ra_icmp_ne C dX7_makes_90 (tgt := 136) (by decide) (fun c90 => ?_) (fun c90 => ?_)
      · replace hf := rif_n c90 hf
        refine ra_aload_n C dX7_makes_136 rfl rfl ?_
        refine ra_getR C dX7_makes_137 (k := 13) (by decide) rfl rX7_in tX7_f44 rfl ?_
        refine ra_iload C dX7_makes_140 rfl ?_
        obtain ⟨x142, h142, hf⟩ := rob hf
        refine ra_iald C dX7_makes_142 h142 (by decide) rfl rfl ?_
        refine ra_if_ne C dX7_makes_143 (tgt := 214) (by decide) (fun c143 => ?_) (fun c143 => ?_)
        · replace hf := rif_n c143 hf
          refine ra_aload_n C dX7_makes_214 rfl rfl ?_
          refine ra_aload_n C dX7_makes_215 rfl rfl ?_
          refine ra_getR C dX7_makes_216 (k := 15) (by decide) rfl rX7_in tX7_f50 rfl ?_
          refine ra_iload C dX7_makes_219 rfl ?_
          obtain ⟨x221, h221, hf⟩ := rob hf
          refine ra_iald C dX7_makes_221 h221 (by decide) rfl rfl ?_
          obtain ⟨q222, h222, hf⟩ := rob hf
          refine ra_callVi C dX7_makes_222 (mX7_meansNow h222) rfl tX7_l239 tX7_i_X7_meansNow tX7_s_X7_meansNow tX7_init tX7_c_X7_meansNow tX7_d_X7_meansNow (by decide) (by decide) (Nat.le_of_ble_eq_true rfl) ?_
          refine ra_istore C dX7_makes_225 (by decide) ?_
          refine ra_aload_n C dX7_makes_227 rfl rfl ?_
          refine ra_getR C dX7_makes_228 (k := 16) (by decide) rfl rX7_in tX7_f53 rfl ?_
          refine ra_iload C dX7_makes_231 rfl ?_
          obtain ⟨x233, h233, hf⟩ := rob hf
          refine ra_iald C dX7_makes_233 h233 (by decide) rfl rfl ?_
          refine ra_bipush C dX7_makes_234 (v := (-100)) (by decide) ?_
          refine ra_icmp_ne C dX7_makes_236 (tgt := 244) (by decide) (fun c236 => ?_) (fun c236 => ?_)
          · replace hf := rif_n c236 hf
            refine ra_aload_n C dX7_makes_244 rfl rfl ?_
            refine ra_iload C dX7_makes_245 rfl ?_
            refine ra_aload_n C dX7_makes_247 rfl rfl ?_
            refine ra_aload_n C dX7_makes_248 rfl rfl ?_
            refine ra_getR C dX7_makes_249 (k := 16) (by decide) rfl rX7_in tX7_f53 rfl ?_
            refine ra_iload C dX7_makes_252 rfl ?_
            obtain ⟨x254, h254, hf⟩ := rob hf
            refine ra_iald C dX7_makes_254 h254 (by decide) rfl rfl ?_
            obtain ⟨q255, h255, hf⟩ := rob hf
            refine ra_callVi C dX7_makes_255 (mX7_meansNow h255) rfl tX7_l239 tX7_i_X7_meansNow tX7_s_X7_meansNow tX7_init tX7_c_X7_meansNow tX7_d_X7_meansNow (by decide) (by decide) (Nat.le_of_ble_eq_true rfl) ?_
            obtain ⟨q258, h258, hf⟩ := rob hf
            refine ra_callVi C dX7_makes_258 (mX7_arrowOf h258) rfl tX7_l178 tX7_i_X7_arrowOf tX7_s_X7_arrowOf tX7_init tX7_c_X7_arrowOf tX7_d_X7_arrowOf (by decide) (by decide) (Nat.le_of_ble_eq_true rfl) ?_
            refine ra_mask [true, true, false, false, true, false, true, true, false] ?_
            exact bX7_makes_b261 C hrec9 _ _ _ _ _ _ hf
          · replace hf := rif_p c236 hf
            refine ra_iload C dX7_makes_239 rfl ?_
            refine ra_goto C dX7_makes_241 (tgt := 261) (by decide) ?_
            refine ra_mask [true, true, false, false, true, false, true, true, false] ?_
            exact bX7_makes_b261 C hrec9 _ _ _ _ _ _ hf
        · replace hf := rif_p c143 hf
          refine ra_aload_n C dX7_makes_146 rfl rfl ?_
          refine ra_iload_n C dX7_makes_147 rfl rfl ?_
          refine ra_iload C dX7_makes_148 rfl ?_
          refine ra_iload C dX7_makes_150 rfl ?_
          obtain ⟨q152, h152, hf⟩ := rob hf
          refine ra_callVi C dX7_makes_152 (mX7_typeNow h152) rfl tX7_l254 tX7_i_X7_typeNow tX7_s_X7_typeNow tX7_init tX7_c_X7_typeNow tX7_d_X7_typeNow (by decide) (by decide) (Nat.le_of_ble_eq_true rfl) ?_
          refine ra_istore C dX7_makes_155 (by decide) ?_
          refine ra_aload_n C dX7_makes_157 rfl rfl ?_
          refine ra_getR C dX7_makes_158 (k := 46) (by decide) rfl rX7_in tX7_f132 rfl ?_
          refine ra_bipush C dX7_makes_161 (v := 10) (by decide) ?_
          refine ra_aload_n C dX7_makes_163 rfl rfl ?_
          refine ra_getI C dX7_makes_164 (k := 41) (by decide) rfl rX7_in tX7_f236 rfl ?_
          refine ra_iconst C dX7_makes_167 (v := 1) (by decide) ?_
          refine ra_isub C dX7_makes_168 ?_
          refine ra_imul C dX7_makes_169 ?_
          refine ra_aload_n C dX7_makes_170 rfl rfl ?_
          refine ra_getR C dX7_makes_171 (k := 14) (by decide) rfl rX7_in tX7_f47 rfl ?_
          refine ra_iload C dX7_makes_174 rfl ?_
          obtain ⟨x176, h176, hf⟩ := rob hf
          refine ra_iald C dX7_makes_176 h176 (by decide) rfl rfl ?_
          refine ra_iadd C dX7_makes_177 ?_
          refine ra_iload C dX7_makes_178 rfl ?_
          obtain ⟨S180, h180, hf⟩ := rob hf
          refine ra_iast C dX7_makes_180 h180 (by decide) rfl rfl ?_
          refine ra_aload_n C dX7_makes_181 rfl rfl ?_
          refine ra_iconst C dX7_makes_182 (v := 0) (by decide) ?_
          refine ra_aload_n C dX7_makes_183 rfl rfl ?_
          refine ra_getR C dX7_makes_184 (k := 14) (by decide) rfl rX7_in tX7_f47 rfl ?_
          refine ra_iload C dX7_makes_187 rfl ?_
          obtain ⟨x189, h189, hf⟩ := rob hf
          refine ra_iald C dX7_makes_189 h189 (by decide) rfl rfl ?_
          refine ra_iload C dX7_makes_190 rfl ?_
          refine ra_iconst C dX7_makes_192 (v := 0) (by decide) ?_
          obtain ⟨q193, h193, hf⟩ := rob hf
          refine ra_callVv C dX7_makes_193 (mX7_lays h193) rfl tX7_l242 tX7_i_X7_lays tX7_s_X7_lays tX7_init tX7_c_X7_lays tX7_d_X7_lays (by decide) (by decide) (Nat.le_of_ble_eq_true rfl) ?_
          refine ra_aload_n C dX7_makes_196 rfl rfl ?_
          refine ra_getR C dX7_makes_197 (k := 44) (by decide) rfl rX7_in tX7_f126 rfl ?_
          refine ra_aload_n C dX7_makes_200 rfl rfl ?_
          refine ra_getI C dX7_makes_201 (k := 41) (by decide) rfl rX7_in tX7_f236 rfl ?_
          refine ra_iconst C dX7_makes_204 (v := 1) (by decide) ?_
          refine ra_isub C dX7_makes_205 ?_
          refine ra_dup2 C dX7_makes_206 rfl rfl ?_
          obtain ⟨x207, h207, hf⟩ := rob hf
          refine ra_iald C dX7_makes_207 h207 (by decide) rfl rfl ?_
          refine ra_iconst C dX7_makes_208 (v := 1) (by decide) ?_
          refine ra_iadd C dX7_makes_209 ?_
          obtain ⟨S210, h210, hf⟩ := rob hf
          refine ra_iast C dX7_makes_210 h210 (by decide) rfl rfl ?_
          refine ra_goto C dX7_makes_211 (tgt := 305) (by decide) ?_
          refine ra_mask [true, true, false, false, true, false, false, false, false] ?_
          exact bX7_makes_b305 C hrec9 _ _ _ hf
      · replace hf := rif_p c90 hf
        refine ra_aload_n C dX7_makes_93 rfl rfl ?_
        refine ra_aload_n C dX7_makes_94 rfl rfl ?_
        refine ra_getR C dX7_makes_95 (k := 15) (by decide) rfl rX7_in tX7_f50 rfl ?_
        refine ra_iload C dX7_makes_98 rfl ?_
        obtain ⟨x100, h100, hf⟩ := rob hf
        refine ra_iald C dX7_makes_100 h100 (by decide) rfl rfl ?_
        refine ra_iload C dX7_makes_101 rfl ?_
        refine ra_iconst C dX7_makes_103 (v := (-1)) (by decide) ?_
        refine ra_icmp_ne C dX7_makes_104 (tgt := 111) (by decide) (fun c104 => ?_) (fun c104 => ?_)
        · replace hf := rif_n c104 hf
          refine ra_aload_n C dX7_makes_111 rfl rfl ?_
          refine ra_getR C dX7_makes_112 (k := 8) (by decide) rfl rX7_in tX7_f32 rfl ?_
          refine ra_aload_n C dX7_makes_115 rfl rfl ?_
          refine ra_iload C dX7_makes_116 rfl ?_
          refine ra_iconst C dX7_makes_118 (v := 2) (by decide) ?_
          refine ra_aload_n C dX7_makes_119 rfl rfl ?_
          refine ra_getR C dX7_makes_120 (k := 14) (by decide) rfl rX7_in tX7_f47 rfl ?_
          refine ra_iload C dX7_makes_123 rfl ?_
          obtain ⟨x125, h125, hf⟩ := rob hf
          refine ra_iald C dX7_makes_125 h125 (by decide) rfl rfl ?_
          obtain ⟨q126, h126, hf⟩ := rob hf
          refine ra_callVi C dX7_makes_126 (mX7_findsItem h126) rfl tX7_l181 tX7_i_X7_findsItem tX7_s_X7_findsItem tX7_init tX7_c_X7_findsItem tX7_d_X7_findsItem (by decide) (by decide) (Nat.le_of_ble_eq_true rfl) ?_
          obtain ⟨x129, h129, hf⟩ := rob hf
          refine ra_iald C dX7_makes_129 h129 (by decide) rfl rfl ?_
          refine ra_mask [true, true, false, false, true, false, false, false, false] ?_
          exact bX7_makes_b130 C hrec9 _ _ _ _ _ hf
        · replace hf := rif_p c104 hf
          refine ra_iconst C dX7_makes_107 (v := (-1)) (by decide) ?_
          refine ra_goto C dX7_makes_108 (tgt := 130) (by decide) ?_
          refine ra_mask [true, true, false, false, true, false, false, false, false] ?_
          exact bX7_makes_b130 C hrec9 _ _ _ _ _ hf
    · replace hf := rif_p c70 hf
      refine ra_aload_n C dX7_makes_73 rfl rfl ?_
      obtain ⟨q74, h74, hf⟩ := rob hf
      refine ra_callVi C dX7_makes_74 (mX7_leaves h74) rfl tX7_l250 tX7_i_X7_leaves tX7_s_X7_leaves tX7_init tX7_c_X7_leaves tX7_d_X7_leaves (by decide) (by decide) (Nat.le_of_ble_eq_true rfl) ?_
      refine ra_istore C dX7_makes_77 (by decide) ?_
      refine ra_goto C dX7_makes_79 (tgt := 305) (by decide) ?_
      refine ra_mask [true, true, false, false, true, false, false, false, false] ?_
      exact bX7_makes_b305 C hrec9 _ _ _ hf
set_option maxRecDepth 100000 in
set_option maxHeartbeats 4000000 in
theorem bX7_makes_b9 {G : rG} {X : rX} (C : rC G X 9 cX7_makes (some .int) 2) {r : Int32 × rS} : ∀ (n : Nat) (l1 : Int32) (l4 : Int32) (S : rS), fX7_makes_b9 n l1 l4 S = some r → rAW G X 9 (some (.int r.1), r.2) 9 [some (.ref G.2.2.2.1), some (.int l1), none, none, some (.int l4), none, none, none, none] [] S := by
  intro n
  induction n with
  | zero => intro l1 l4 S hf; cases hf
  | succ n ih => intro l1 l4 S hf; exact bX7_makes_b9_body C (fun l1 l4 S h => ih l1 l4 S h) l1 l4 S hf
set_option maxRecDepth 100000 in
set_option maxHeartbeats 4000000 in
theorem bX7_makes {G : rG} {X : rX} (C : rC G X 9 cX7_makes (some .int) 2) (a0 : Int32) (a1 : Int32) (a2 : Int32) (S : rS) {r : Int32 × rS} (hf : fX7_makes a0 a1 a2 S = some r) : rAW G X 9 (some (.int r.1), r.2) 0 [some (.ref G.2.2.2.1), some (.int a0), some (.int a1), some (.int a2), none, none, none, none, none] [] S := by
  unfold fX7_makes at hf
  refine ra_iconst C dX7_makes_0 (v := (-1)) (by decide) ?_
  refine ra_istore C dX7_makes_1 (by decide) ?_
  refine ra_aload_n C dX7_makes_3 rfl rfl ?_
  refine ra_iload_n C dX7_makes_4 rfl rfl ?_
  refine ra_iload_n C dX7_makes_5 rfl rfl ?_
  obtain ⟨q6, h6, hf⟩ := rob hf
  refine ra_callVv C dX7_makes_6 (mX7_enters h6) rfl tX7_l246 tX7_i_X7_enters tX7_s_X7_enters tX7_init tX7_c_X7_enters tX7_d_X7_enters (by decide) (by decide) (Nat.le_of_ble_eq_true rfl) ?_
  refine ra_mask [true, true, false, false, true, false, false, false, false] ?_
  exact bX7_makes_b9 C _ _ _ _ hf
set_option maxRecDepth 100000 in
set_option maxHeartbeats 4000000 in
theorem mX7_makes {l : Launch} {G : rG} {a0 : Int32} {a1 : Int32} {a2 : Int32} {S : rS} {r : Int32 × rS} (hf : fX7_makes a0 a1 a2 S = some r) : rM l G 2 yX7_makes cX7_makes 9 (some .int) [.ref G.2.2.2.1, .int a0, .int a1, .int a2] S (some (.int r.1), r.2) :=
  rM_of (lo0 := [some (.ref G.2.2.2.1), some (.int a0), some (.int a1), some (.int a2), none, none, none, none, none]) (by decide +kernel) rfl (Nat.le_of_ble_eq_true rfl) (by simp [Value.category]) rfl (fun X _ C => bX7_makes C a0 a1 a2 S hf)
set_option maxRecDepth 100000 in
set_option maxHeartbeats 4000000 in
theorem bX7_fits_b54 {G : rG} {X : rX} (C : rC G X 4 cX7_fits (some .boolean) 0) {r : Int32 × rS} (l3 : Int32) (s0 : Int32) (S : rS) (hf : fX7_fits_b54 l3 s0 S = some r) : rAW G X 4 (some (.int r.1), r.2) 54 [none, none, none, some (.int l3)] [.int s0, .ref G.2.2.2.1] S := by
  unfold fX7_fits_b54 at hf
  refine ra_putI C dX7_fits_54 (k := 4) (by decide) rfl rX7_in tX7_f198 rfl rfl (tyX7_ok 4 (by decide)) ?_
  refine ra_iload_n C dX7_fits_57 rfl rfl ?_
  obtain ⟨rfl, hn⟩ := rbo_spec hf
  exact ra_zret C hn dX7_fits_58
set_option maxRecDepth 100000 in
set_option maxHeartbeats 4000000 in
theorem bX7_fits_b38 {G : rG} {X : rX} (C : rC G X 4 cX7_fits (some .boolean) 0) {r : Int32 × rS} (l2 : Int32) (l3 : Int32) (s0 : Int32) (S : rS) (hf : fX7_fits_b38 l2 l3 s0 S = some r) : rAW G X 4 (some (.int r.1), r.2) 38 [some (.ref G.2.2.2.1), none, some (.int l2), some (.int l3)] [.int s0, .ref G.2.2.2.1] S := by
  unfold fX7_fits_b38 at hf
  refine ra_putI C dX7_fits_38 (k := 0) (by decide) rfl rX7_in tX7_f7 rfl rfl (tyX7_ok 0 (by decide)) ?_
  refine ra_aload_n C dX7_fits_41 rfl rfl ?_
  refine ra_iload_n C dX7_fits_42 rfl rfl ?_
  refine ra_if_eq C dX7_fits_43 (tgt := 53) (by decide) (fun c43 => ?_) (fun c43 => ?_)
  · replace hf := rif_p c43 hf
    refine ra_iload_n C dX7_fits_53 rfl rfl ?_
    refine ra_mask [false, false, false, true] ?_
    exact bX7_fits_b54 C _ _ _ hf
  · replace hf := rif_n c43 hf
    refine ra_aload_n C dX7_fits_46 rfl rfl ?_
    refine ra_getI C dX7_fits_47 (k := 4) (by decide) rfl rX7_in tX7_f198 rfl ?_
    refine ra_goto C dX7_fits_50 (tgt := 54) (by decide) ?_
    refine ra_mask [false, false, false, true] ?_
    exact bX7_fits_b54 C _ _ _ hf
set_option maxRecDepth 100000 in
set_option maxHeartbeats 4000000 in
theorem bX7_fits_b24 {G : rG} {X : rX} (C : rC G X 4 cX7_fits (some .boolean) 0) {r : Int32 × rS} (l1 : Int32) (l2 : Int32) (s0 : Int32) (S : rS) (hf : fX7_fits_b24 l1 l2 s0 S = some r) : rAW G X 4 (some (.int r.1), r.2) 24 [some (.ref G.2.2.2.1), some (.int l1), some (.int l2), none] [.int s0] S := by
  unfold fX7_fits_b24 at hf
  refine ra_istore_n C dX7_fits_24 rfl (by decide) ?_
  refine ra_aload_n C dX7_fits_25 rfl rfl ?_
  refine ra_iload_n C dX7_fits_26 rfl rfl ?_
  refine ra_if_eq C dX7_fits_27 (tgt := 37) (by decide) (fun c27 => ?_) (fun c27 => ?_)
  · replace hf := rif_p c27 hf
    refine ra_iload_n C dX7_fits_37 rfl rfl ?_
    refine ra_mask [true, false, true, true] ?_
    exact bX7_fits_b38 C _ _ _ _ hf
  · replace hf := rif_n c27 hf
    refine ra_aload_n C dX7_fits_30 rfl rfl ?_
    refine ra_getI C dX7_fits_31 (k := 0) (by decide) rfl rX7_in tX7_f7 rfl ?_
    refine ra_goto C dX7_fits_34 (tgt := 38) (by decide) ?_
    refine ra_mask [true, false, true, true] ?_
    exact bX7_fits_b38 C _ _ _ _ hf
set_option maxRecDepth 100000 in
set_option maxHeartbeats 4000000 in
theorem bX7_fits_b23 {G : rG} {X : rX} (C : rC G X 4 cX7_fits (some .boolean) 0) {r : Int32 × rS} (l1 : Int32) (l2 : Int32) (S : rS) (hf : fX7_fits_b23 l1 l2 S = some r) : rAW G X 4 (some (.int r.1), r.2) 23 [some (.ref G.2.2.2.1), some (.int l1), some (.int l2), none] [] S := by
  unfold fX7_fits_b23 at hf
  refine ra_iconst C dX7_fits_23 (v := 0) (by decide) ?_
  exact bX7_fits_b24 C _ _ _ _ hf
set_option maxRecDepth 100000 in
set_option maxHeartbeats 4000000 in
theorem bX7_fits {G : rG} {X : rX} (C : rC G X 4 cX7_fits (some .boolean) 0) (a0 : Int32) (a1 : Int32) (S : rS) {r : Int32 × rS} (hf : fX7_fits a0 a1 S = some r) : rAW G X 4 (some (.int r.1), r.2) 0 [some (.ref G.2.2.2.1), some (.int a0), some (.int a1), none] [] S := by
  unfold fX7_fits at hf
  refine ra_aload_n C dX7_fits_0 rfl rfl ?_
  refine ra_getI C dX7_fits_1 (k := 0) (by decide) rfl rX7_in tX7_f7 rfl ?_
  refine ra_sipush C dX7_fits_4 (v := 200) (by decide) ?_
  refine ra_icmp_gt C dX7_fits_7 (tgt := 23) (by decide) (fun c7 => ?_) (fun c7 => ?_)
  · replace hf := rif_p c7 hf
    exact bX7_fits_b23 C _ _ _ hf
  · replace hf := rif_n c7 hf
    refine ra_aload_n C dX7_fits_10 rfl rfl ?_
    refine ra_getI C dX7_fits_11 (k := 4) (by decide) rfl rX7_in tX7_f198 rfl ?_
    refine ra_bipush C dX7_fits_14 (v := 30) (by decide) ?_
    refine ra_icmp_gt C dX7_fits_16 (tgt := 23) (by decide) (fun c16 => ?_) (fun c16 => ?_)
    · replace hf := rif_p c16 hf
      exact bX7_fits_b23 C _ _ _ hf
    · replace hf := rif_n c16 hf
      refine ra_iconst C dX7_fits_19 (v := 1) (by decide) ?_
      refine ra_goto C dX7_fits_20 (tgt := 24) (by decide) ?_
      exact bX7_fits_b24 C _ _ _ _ hf
set_option maxRecDepth 100000 in
set_option maxHeartbeats 4000000 in
theorem mX7_fits {l : Launch} {G : rG} {a0 : Int32} {a1 : Int32} {S : rS} {r : Int32 × rS} (hf : fX7_fits a0 a1 S = some r) : rM l G 0 yX7_fits cX7_fits 4 (some .boolean) [.ref G.2.2.2.1, .int a0, .int a1] S (some (.int r.1), r.2) :=
  rM_of (lo0 := [some (.ref G.2.2.2.1), some (.int a0), some (.int a1), none]) (by decide +kernel) rfl (Nat.le_of_ble_eq_true rfl) (by simp [Value.category]) rfl (fun X _ C => bX7_fits C a0 a1 S hf)
set_option maxRecDepth 100000 in
set_option maxHeartbeats 4000000 in
theorem bX7_seals_b129 {G : rG} {X : rX} (C : rC G X 9 cX7_seals (some .int) 5) {r : Int32 × rS} (s0 : Int32) (S : rS) (hf : fX7_seals_b129 s0 S = some r) : rAW G X 9 (some (.int r.1), r.2) 129 [none, none, none, none, none, none, none, none, none] [.int s0] S := by
  unfold fX7_seals_b129 at hf
  obtain rfl := Option.some.inj hf
  exact ra_iret C dX7_seals_129
set_option maxRecDepth 100000 in
set_option maxHeartbeats 4000000 in
theorem bX7_seals_b117 {G : rG} {X : rX} (C : rC G X 9 cX7_seals (some .int) 5) {r : Int32 × rS} (l8 : Int32) (s0 : Int32) (S : rS) (hf : fX7_seals_b117 l8 s0 S = some r) : rAW G X 9 (some (.int r.1), r.2) 117 [none, none, none, none, none, none, none, none, some (.int l8)] [.int s0, .ref G.2.2.2.1] S := by
  unfold fX7_seals_b117 at hf
  obtain ⟨q117, h117, hf⟩ := rob hf
  refine ra_callVi C dX7_seals_117 (mX7_fails h117) rfl tX7_l175 tX7_i_X7_fails tX7_s_X7_fails tX7_init tX7_c_X7_fails tX7_d_X7_fails (by decide) (by decide) (Nat.le_of_ble_eq_true rfl) ?_
  refine ra_if_eq C dX7_seals_120 (tgt := 127) (by decide) (fun c120 => ?_) (fun c120 => ?_)
  · replace hf := rif_p c120 hf
    refine ra_iload C dX7_seals_127 rfl ?_
    refine ra_mask [false, false, false, false, false, false, false, false, false] ?_
    exact bX7_seals_b129 C _ _ hf
  · replace hf := rif_n c120 hf
    refine ra_iconst C dX7_seals_123 (v := 0) (by decide) ?_
    refine ra_goto C dX7_seals_124 (tgt := 129) (by decide) ?_
    refine ra_mask [false, false, false, false, false, false, false, false, false] ?_
    exact bX7_seals_b129 C _ _ hf
set_option maxRecDepth 100000 in
set_option maxHeartbeats 4000000 in
theorem bX7_seals_b95 {G : rG} {X : rX} (C : rC G X 9 cX7_seals (some .int) 5) {r : Int32 × rS} (l4 : Int32) (l8 : Int32) (s0 : Int32) (S : rS) (hf : fX7_seals_b95 l4 l8 s0 S = some r) : rAW G X 9 (some (.int r.1), r.2) 95 [some (.ref G.2.2.2.1), none, none, none, some (.int l4), none, none, none, some (.int l8)] [.int s0] S := by
  unfold fX7_seals_b95 at hf
  refine ra_istore C dX7_seals_95 (by decide) ?_
  refine ra_aload_n C dX7_seals_97 rfl rfl ?_
  refine ra_iload C dX7_seals_98 rfl ?_
  refine ra_if_ne C dX7_seals_100 (tgt := 107) (by decide) (fun c100 => ?_) (fun c100 => ?_)
  · replace hf := rif_n c100 hf
    refine ra_iload C dX7_seals_107 rfl ?_
    refine ra_if_eq C dX7_seals_109 (tgt := 116) (by decide) (fun c109 => ?_) (fun c109 => ?_)
    · replace hf := rif_p c109 hf
      refine ra_iconst C dX7_seals_116 (v := 2) (by decide) ?_
      refine ra_mask [false, false, false, false, false, false, false, false, true] ?_
      exact bX7_seals_b117 C _ _ _ hf
    · replace hf := rif_n c109 hf
      refine ra_iconst C dX7_seals_112 (v := 0) (by decide) ?_
      refine ra_goto C dX7_seals_113 (tgt := 117) (by decide) ?_
      refine ra_mask [false, false, false, false, false, false, false, false, true] ?_
      exact bX7_seals_b117 C _ _ _ hf
  · replace hf := rif_p c100 hf
    refine ra_iconst C dX7_seals_103 (v := 1) (by decide) ?_
    refine ra_goto C dX7_seals_104 (tgt := 117) (by decide) ?_
    refine ra_mask [false, false, false, false, false, false, false, false, true] ?_
    exact bX7_seals_b117 C _ _ _ hf
set_option maxRecDepth 100000 in
set_option maxHeartbeats 4000000 in
theorem bX7_seals_b94 {G : rG} {X : rX} (C : rC G X 9 cX7_seals (some .int) 5) {r : Int32 × rS} (l4 : Int32) (l8 : Int32) (S : rS) (hf : fX7_seals_b94 l4 l8 S = some r) : rAW G X 9 (some (.int r.1), r.2) 94 [some (.ref G.2.2.2.1), none, none, none, some (.int l4), none, none, none, some (.int l8)] [] S := by
  unfold fX7_seals_b94 at hf
  refine ra_iconst C dX7_seals_94 (v := 0) (by decide) ?_
  exact bX7_seals_b95 C _ _ _ _ hf
set_option maxRecDepth 100000 in
set_option maxHeartbeats 4000000 in
theorem bX7_seals_b72 {G : rG} {X : rX} (C : rC G X 9 cX7_seals (some .int) 5) {r : Int32 × rS} (l4 : Int32) (l5 : Int32) (l6 : Int32) (l7 : Int32) (s0 : Int32) (S : rS) (hf : fX7_seals_b72 l4 l5 l6 l7 s0 S = some r) : rAW G X 9 (some (.int r.1), r.2) 72 [some (.ref G.2.2.2.1), none, none, none, some (.int l4), some (.int l5), some (.int l6), some (.int l7), none] [.int s0] S := by
  unfold fX7_seals_b72 at hf
  refine ra_istore C dX7_seals_72 (by decide) ?_
  refine ra_iload C dX7_seals_74 rfl ?_
  refine ra_if_eq C dX7_seals_76 (tgt := 94) (by decide) (fun c76 => ?_) (fun c76 => ?_)
  · replace hf := rif_p c76 hf
    refine ra_mask [true, false, false, false, true, false, false, false, true] ?_
    exact bX7_seals_b94 C _ _ _ hf
  · replace hf := rif_n c76 hf
    refine ra_aload_n C dX7_seals_79 rfl rfl ?_
    refine ra_iload C dX7_seals_80 rfl ?_
    refine ra_iload C dX7_seals_82 rfl ?_
    obtain ⟨q84, h84, hf⟩ := rob hf
    refine ra_callVi C dX7_seals_84 (mX7_fits h84) rfl tX7_l263 tX7_i_X7_fits tX7_s_X7_fits tX7_init tX7_c_X7_fits tX7_d_X7_fits (by decide) (by decide) (Nat.le_of_ble_eq_true rfl) ?_
    refine ra_if_eq C dX7_seals_87 (tgt := 94) (by decide) (fun c87 => ?_) (fun c87 => ?_)
    · replace hf := rif_p c87 hf
      refine ra_mask [true, false, false, false, true, false, false, false, true] ?_
      exact bX7_seals_b94 C _ _ _ hf
    · replace hf := rif_n c87 hf
      refine ra_iconst C dX7_seals_90 (v := 1) (by decide) ?_
      refine ra_goto C dX7_seals_91 (tgt := 95) (by decide) ?_
      refine ra_mask [true, false, false, false, true, false, false, false, true] ?_
      exact bX7_seals_b95 C _ _ _ _ hf
set_option maxRecDepth 100000 in
set_option maxHeartbeats 4000000 in
theorem bX7_seals_b54 {G : rG} {X : rX} (C : rC G X 9 cX7_seals (some .int) 5) {r : Int32 × rS} (l1 : Int32) (l2 : Int32) (l3 : Int32) (l4 : Int32) (l5 : Int32) (l6 : Int32) (s0 : Int32) (S : rS) (hf : fX7_seals_b54 l1 l2 l3 l4 l5 l6 s0 S = some r) : rAW G X 9 (some (.int r.1), r.2) 54 [some (.ref G.2.2.2.1), some (.int l1), some (.int l2), some (.int l3), some (.int l4), some (.int l5), some (.int l6), none, none] [.int s0] S := by
  unfold fX7_seals_b54 at hf
  refine ra_istore C dX7_seals_54 (by decide) ?_
  refine ra_iload C dX7_seals_56 rfl ?_
  refine ra_if_eq C dX7_seals_58 (tgt := 71) (by decide) (fun c58 => ?_) (fun c58 => ?_)
  · replace hf := rif_p c58 hf
    refine ra_iconst C dX7_seals_71 (v := (-1)) (by decide) ?_
    refine ra_mask [true, false, false, false, true, true, true, true, false] ?_
    exact bX7_seals_b72 C _ _ _ _ _ _ hf
  · replace hf := rif_n c58 hf
    refine ra_aload_n C dX7_seals_61 rfl rfl ?_
    refine ra_iload_n C dX7_seals_62 rfl rfl ?_
    refine ra_iload_n C dX7_seals_63 rfl rfl ?_
    refine ra_iload_n C dX7_seals_64 rfl rfl ?_
    obtain ⟨q65, h65, hf⟩ := rob hf
    refine ra_callVi C dX7_seals_65 (mX7_makes h65) rfl tX7_l260 tX7_i_X7_makes tX7_s_X7_makes tX7_init tX7_c_X7_makes tX7_d_X7_makes (by decide) (by decide) (Nat.le_of_ble_eq_true rfl) ?_
    refine ra_goto C dX7_seals_68 (tgt := 72) (by decide) ?_
    refine ra_mask [true, false, false, false, true, true, true, true, false] ?_
    exact bX7_seals_b72 C _ _ _ _ _ _ hf
set_option maxRecDepth 100000 in
set_option maxHeartbeats 4000000 in
theorem bX7_seals_b53 {G : rG} {X : rX} (C : rC G X 9 cX7_seals (some .int) 5) {r : Int32 × rS} (l1 : Int32) (l2 : Int32) (l3 : Int32) (l4 : Int32) (l5 : Int32) (l6 : Int32) (S : rS) (hf : fX7_seals_b53 l1 l2 l3 l4 l5 l6 S = some r) : rAW G X 9 (some (.int r.1), r.2) 53 [some (.ref G.2.2.2.1), some (.int l1), some (.int l2), some (.int l3), some (.int l4), some (.int l5), some (.int l6), none, none] [] S := by
  unfold fX7_seals_b53 at hf
  refine ra_iconst C dX7_seals_53 (v := 0) (by decide) ?_
  exact bX7_seals_b54 C _ _ _ _ _ _ _ _ hf
set_option maxRecDepth 100000 in
set_option maxHeartbeats 4000000 in
theorem bX7_seals_b21 {G : rG} {X : rX} (C : rC G X 9 cX7_seals (some .int) 5) {r : Int32 × rS} (l1 : Int32) (l2 : Int32) (l3 : Int32) (s0 : Int32) (S : rS) (hf : fX7_seals_b21 l1 l2 l3 s0 S = some r) : rAW G X 9 (some (.int r.1), r.2) 21 [some (.ref G.2.2.2.1), some (.int l1), some (.int l2), some (.int l3), none, none, none, none, none] [.int s0] S := by
  unfold fX7_seals_b21 at hf
  refine ra_istore C dX7_seals_21 (by decide) ?_
  refine ra_aload_n C dX7_seals_23 rfl rfl ?_
  refine ra_getI C dX7_seals_24 (k := 0) (by decide) rfl rX7_in tX7_f7 rfl ?_
  refine ra_istore C dX7_seals_27 (by decide) ?_
  refine ra_aload_n C dX7_seals_29 rfl rfl ?_
  refine ra_getI C dX7_seals_30 (k := 4) (by decide) rfl rX7_in tX7_f198 rfl ?_
  refine ra_istore C dX7_seals_33 (by decide) ?_
  refine ra_iload C dX7_seals_35 rfl ?_
  refine ra_if_eq C dX7_seals_37 (tgt := 53) (by decide) (fun c37 => ?_) (fun c37 => ?_)
  · replace hf := rif_p c37 hf
    exact bX7_seals_b53 C _ _ _ _ _ _ _ hf
  · replace hf := rif_n c37 hf
    refine ra_aload_n C dX7_seals_40 rfl rfl ?_
    refine ra_iload_n C dX7_seals_41 rfl rfl ?_
    refine ra_iload_n C dX7_seals_42 rfl rfl ?_
    obtain ⟨q43, h43, hf⟩ := rob hf
    refine ra_callVi C dX7_seals_43 (mX7_matchOf h43) rfl tX7_l233 tX7_i_X7_matchOf tX7_s_X7_matchOf tX7_init tX7_c_X7_matchOf tX7_d_X7_matchOf (by decide) (by decide) (Nat.le_of_ble_eq_true rfl) ?_
    refine ra_if_ne C dX7_seals_46 (tgt := 53) (by decide) (fun c46 => ?_) (fun c46 => ?_)
    · replace hf := rif_n c46 hf
      exact bX7_seals_b53 C _ _ _ _ _ _ _ hf
    · replace hf := rif_p c46 hf
      refine ra_iconst C dX7_seals_49 (v := 1) (by decide) ?_
      refine ra_goto C dX7_seals_50 (tgt := 54) (by decide) ?_
      exact bX7_seals_b54 C _ _ _ _ _ _ _ _ hf
set_option maxRecDepth 100000 in
set_option maxHeartbeats 4000000 in
theorem bX7_seals_b20 {G : rG} {X : rX} (C : rC G X 9 cX7_seals (some .int) 5) {r : Int32 × rS} (l1 : Int32) (l2 : Int32) (l3 : Int32) (S : rS) (hf : fX7_seals_b20 l1 l2 l3 S = some r) : rAW G X 9 (some (.int r.1), r.2) 20 [some (.ref G.2.2.2.1), some (.int l1), some (.int l2), some (.int l3), none, none, none, none, none] [] S := by
  unfold fX7_seals_b20 at hf
  refine ra_iconst C dX7_seals_20 (v := 0) (by decide) ?_
  exact bX7_seals_b21 C _ _ _ _ _ hf
set_option maxRecDepth 100000 in
set_option maxHeartbeats 4000000 in
theorem bX7_seals {G : rG} {X : rX} (C : rC G X 9 cX7_seals (some .int) 5) (a0 : Int32) (a1 : Int32) (a2 : Int32) (S : rS) {r : Int32 × rS} (hf : fX7_seals a0 a1 a2 S = some r) : rAW G X 9 (some (.int r.1), r.2) 0 [some (.ref G.2.2.2.1), some (.int a0), some (.int a1), some (.int a2), none, none, none, none, none] [] S := by
  unfold fX7_seals at hf
  refine ra_aload_n C dX7_seals_0 rfl rfl ?_
  refine ra_iload_n C dX7_seals_1 rfl rfl ?_
  obtain ⟨q2, h2, hf⟩ := rob hf
  refine ra_callVi C dX7_seals_2 (mX7_isStructure h2) rfl tX7_l201 tX7_i_X7_isStructure tX7_s_X7_isStructure tX7_init tX7_c_X7_isStructure tX7_d_X7_isStructure (by decide) (by decide) (Nat.le_of_ble_eq_true rfl) ?_
  refine ra_if_eq C dX7_seals_5 (tgt := 20) (by decide) (fun c5 => ?_) (fun c5 => ?_)
  · replace hf := rif_p c5 hf
    exact bX7_seals_b20 C _ _ _ _ hf
  · replace hf := rif_n c5 hf
    refine ra_aload_n C dX7_seals_8 rfl rfl ?_
    refine ra_iload_n C dX7_seals_9 rfl rfl ?_
    obtain ⟨q10, h10, hf⟩ := rob hf
    refine ra_callVi C dX7_seals_10 (mX7_isSignature h10) rfl tX7_l217 tX7_i_X7_isSignature tX7_s_X7_isSignature tX7_init tX7_c_X7_isSignature tX7_d_X7_isSignature (by decide) (by decide) (Nat.le_of_ble_eq_true rfl) ?_
    refine ra_if_eq C dX7_seals_13 (tgt := 20) (by decide) (fun c13 => ?_) (fun c13 => ?_)
    · replace hf := rif_p c13 hf
      exact bX7_seals_b20 C _ _ _ _ hf
    · replace hf := rif_n c13 hf
      refine ra_iconst C dX7_seals_16 (v := 1) (by decide) ?_
      refine ra_goto C dX7_seals_17 (tgt := 21) (by decide) ?_
      exact bX7_seals_b21 C _ _ _ _ _ hf
set_option maxRecDepth 100000 in
set_option maxHeartbeats 4000000 in
theorem mX7_seals {l : Launch} {G : rG} {a0 : Int32} {a1 : Int32} {a2 : Int32} {S : rS} {r : Int32 × rS} (hf : fX7_seals a0 a1 a2 S = some r) : rM l G 5 yX7_seals cX7_seals 9 (some .int) [.ref G.2.2.2.1, .int a0, .int a1, .int a2] S (some (.int r.1), r.2) :=
  rM_of (lo0 := [some (.ref G.2.2.2.1), some (.int a0), some (.int a1), some (.int a2), none, none, none, none, none]) (by decide +kernel) rfl (Nat.le_of_ble_eq_true rfl) (by simp [Value.category]) rfl (fun X _ C => bX7_seals C a0 a1 a2 S hf)
set_option maxRecDepth 100000 in
set_option maxHeartbeats 4000000 in
theorem bX7_seal {G : rG} {X : rX} (C : rC G X 3 cX7_seal (some .int) 6) (a0 : Int32) (a1 : Int32) (S : rS) {r : Int32 × rS} (hf : fX7_seal a0 a1 S = some r) : rAW G X 3 (some (.int r.1), r.2) 0 [some (.ref G.2.2.2.1), some (.int a0), some (.int a1)] [] S := by
  unfold fX7_seal at hf
  refine ra_aload_n C dX7_seal_0 rfl rfl ?_
  refine ra_iconst C dX7_seal_1 (v := 0) (by decide) ?_
  refine ra_iload_n C dX7_seal_2 rfl rfl ?_
  refine ra_iload_n C dX7_seal_3 rfl rfl ?_
  obtain ⟨q4, h4, hf⟩ := rob hf
  refine ra_callVi C dX7_seal_4 (mX7_seals h4) rfl tX7_l267 tX7_i_X7_seals tX7_s_X7_seals tX7_init tX7_c_X7_seals tX7_d_X7_seals (by decide) (by decide) (Nat.le_of_ble_eq_true rfl) ?_
  obtain rfl := Option.some.inj hf
  exact ra_iret C dX7_seal_7
set_option maxRecDepth 100000 in
set_option maxHeartbeats 4000000 in
theorem mX7_seal {l : Launch} {G : rG} {a0 : Int32} {a1 : Int32} {S : rS} {r : Int32 × rS} (hf : fX7_seal a0 a1 S = some r) : rM l G 6 yX7_seal cX7_seal 3 (some .int) [.ref G.2.2.2.1, .int a0, .int a1] S (some (.int r.1), r.2) :=
  rM_of (lo0 := [some (.ref G.2.2.2.1), some (.int a0), some (.int a1)]) (by decide +kernel) rfl (Nat.le_of_ble_eq_true rfl) (by simp [Value.category]) rfl (fun X _ C => bX7_seal C a0 a1 S hf)
set_option maxRecDepth 100000 in
set_option maxHeartbeats 4000000 in
theorem bX7_view {G : rG} {X : rX} (C : rC G X 3 cX7_view (some .int) 6) (a0 : Int32) (a1 : Int32) (S : rS) {r : Int32 × rS} (hf : fX7_view a0 a1 S = some r) : rAW G X 3 (some (.int r.1), r.2) 0 [some (.ref G.2.2.2.1), some (.int a0), some (.int a1)] [] S := by
  unfold fX7_view at hf
  refine ra_aload_n C dX7_view_0 rfl rfl ?_
  refine ra_iconst C dX7_view_1 (v := 1) (by decide) ?_
  refine ra_iload_n C dX7_view_2 rfl rfl ?_
  refine ra_iload_n C dX7_view_3 rfl rfl ?_
  obtain ⟨q4, h4, hf⟩ := rob hf
  refine ra_callVi C dX7_view_4 (mX7_seals h4) rfl tX7_l267 tX7_i_X7_seals tX7_s_X7_seals tX7_init tX7_c_X7_seals tX7_d_X7_seals (by decide) (by decide) (Nat.le_of_ble_eq_true rfl) ?_
  obtain rfl := Option.some.inj hf
  exact ra_iret C dX7_view_7
set_option maxRecDepth 100000 in
set_option maxHeartbeats 4000000 in
theorem mX7_view {l : Launch} {G : rG} {a0 : Int32} {a1 : Int32} {S : rS} {r : Int32 × rS} (hf : fX7_view a0 a1 S = some r) : rM l G 6 yX7_view cX7_view 3 (some .int) [.ref G.2.2.2.1, .int a0, .int a1] S (some (.int r.1), r.2) :=
  rM_of (lo0 := [some (.ref G.2.2.2.1), some (.int a0), some (.int a1)]) (by decide +kernel) rfl (Nat.le_of_ble_eq_true rfl) (by simp [Value.category]) rfl (fun X _ C => bX7_view C a0 a1 S hf)
set_option maxRecDepth 100000 in
set_option maxHeartbeats 4000000 in
theorem bX7_finer_b65 {G : rG} {X : rX} (C : rC G X 7 cX7_finer (some .boolean) 5) {r : Int32 × rS} (l3 : Int32) (l4 : Int32) (s0 : Int32) (S : rS) (hf : fX7_finer_b65 l3 l4 s0 S = some r) : rAW G X 7 (some (.int r.1), r.2) 65 [some (.ref G.2.2.2.1), none, none, some (.int l3), some (.int l4), none, none] [.int s0] S := by
  unfold fX7_finer_b65 at hf
  refine ra_istore C dX7_finer_65 (by decide) ?_
  refine ra_aload_n C dX7_finer_67 rfl rfl ?_
  refine ra_iload_n C dX7_finer_68 rfl rfl ?_
  refine ra_putI C dX7_finer_69 (k := 0) (by decide) rfl rX7_in tX7_f7 rfl rfl (tyX7_ok 0 (by decide)) ?_
  refine ra_aload_n C dX7_finer_72 rfl rfl ?_
  refine ra_iload C dX7_finer_73 rfl ?_
  refine ra_putI C dX7_finer_75 (k := 4) (by decide) rfl rX7_in tX7_f198 rfl rfl (tyX7_ok 4 (by decide)) ?_
  refine ra_iload C dX7_finer_78 rfl ?_
  obtain ⟨rfl, hn⟩ := rbo_spec hf
  exact ra_zret C hn dX7_finer_80
set_option maxRecDepth 100000 in
set_option maxHeartbeats 4000000 in
theorem bX7_finer_b22 {G : rG} {X : rX} (C : rC G X 7 cX7_finer (some .boolean) 5) {r : Int32 × rS} (l1 : Int32) (l2 : Int32) (s0 : Int32) (S : rS) (hf : fX7_finer_b22 l1 l2 s0 S = some r) : rAW G X 7 (some (.int r.1), r.2) 22 [some (.ref G.2.2.2.1), some (.int l1), some (.int l2), none, none, none, none] [.int s0, .ref G.2.2.2.1] S := by
  unfold fX7_finer_b22 at hf
  obtain ⟨q22, h22, hf⟩ := rob hf
  refine ra_callVi C dX7_finer_22 (mX7_fails h22) rfl tX7_l175 tX7_i_X7_fails tX7_s_X7_fails tX7_init tX7_c_X7_fails tX7_d_X7_fails (by decide) (by decide) (Nat.le_of_ble_eq_true rfl) ?_
  refine ra_if_eq C dX7_finer_25 (tgt := 30) (by decide) (fun c25 => ?_) (fun c25 => ?_)
  · replace hf := rif_p c25 hf
    refine ra_aload_n C dX7_finer_30 rfl rfl ?_
    refine ra_getI C dX7_finer_31 (k := 0) (by decide) rfl rX7_in tX7_f7 rfl ?_
    refine ra_istore_n C dX7_finer_34 rfl (by decide) ?_
    refine ra_aload_n C dX7_finer_35 rfl rfl ?_
    refine ra_getI C dX7_finer_36 (k := 4) (by decide) rfl rX7_in tX7_f198 rfl ?_
    refine ra_istore C dX7_finer_39 (by decide) ?_
    refine ra_aload_n C dX7_finer_41 rfl rfl ?_
    refine ra_iconst C dX7_finer_42 (v := 2) (by decide) ?_
    refine ra_iconst C dX7_finer_43 (v := (-1)) (by decide) ?_
    refine ra_iload_n C dX7_finer_44 rfl rfl ?_
    obtain ⟨q45, h45, hf⟩ := rob hf
    refine ra_callVi C dX7_finer_45 (mX7_makes h45) rfl tX7_l260 tX7_i_X7_makes tX7_s_X7_makes tX7_init tX7_c_X7_makes tX7_d_X7_makes (by decide) (by decide) (Nat.le_of_ble_eq_true rfl) ?_
    refine ra_istore C dX7_finer_48 (by decide) ?_
    refine ra_aload_n C dX7_finer_50 rfl rfl ?_
    refine ra_iload C dX7_finer_51 rfl ?_
    refine ra_iload_n C dX7_finer_53 rfl rfl ?_
    obtain ⟨q54, h54, hf⟩ := rob hf
    refine ra_callVi C dX7_finer_54 (mX7_matchOf h54) rfl tX7_l233 tX7_i_X7_matchOf tX7_s_X7_matchOf tX7_init tX7_c_X7_matchOf tX7_d_X7_matchOf (by decide) (by decide) (Nat.le_of_ble_eq_true rfl) ?_
    refine ra_if_ne C dX7_finer_57 (tgt := 64) (by decide) (fun c57 => ?_) (fun c57 => ?_)
    · replace hf := rif_n c57 hf
      refine ra_iconst C dX7_finer_64 (v := 0) (by decide) ?_
      refine ra_mask [true, false, false, true, true, false, false] ?_
      exact bX7_finer_b65 C _ _ _ _ hf
    · replace hf := rif_p c57 hf
      refine ra_iconst C dX7_finer_60 (v := 1) (by decide) ?_
      refine ra_goto C dX7_finer_61 (tgt := 65) (by decide) ?_
      refine ra_mask [true, false, false, true, true, false, false] ?_
      exact bX7_finer_b65 C _ _ _ _ hf
  · replace hf := rif_n c25 hf
    refine ra_iconst C dX7_finer_28 (v := 0) (by decide) ?_
    obtain ⟨rfl, hn⟩ := rbo_spec hf
    exact ra_zret C hn dX7_finer_29
set_option maxRecDepth 100000 in
set_option maxHeartbeats 4000000 in
theorem bX7_finer_b21 {G : rG} {X : rX} (C : rC G X 7 cX7_finer (some .boolean) 5) {r : Int32 × rS} (l1 : Int32) (l2 : Int32) (S : rS) (hf : fX7_finer_b21 l1 l2 S = some r) : rAW G X 7 (some (.int r.1), r.2) 21 [some (.ref G.2.2.2.1), some (.int l1), some (.int l2), none, none, none, none] [.ref G.2.2.2.1] S := by
  unfold fX7_finer_b21 at hf
  refine ra_iconst C dX7_finer_21 (v := 1) (by decide) ?_
  exact bX7_finer_b22 C _ _ _ _ hf
set_option maxRecDepth 100000 in
set_option maxHeartbeats 4000000 in
theorem bX7_finer {G : rG} {X : rX} (C : rC G X 7 cX7_finer (some .boolean) 5) (a0 : Int32) (a1 : Int32) (S : rS) {r : Int32 × rS} (hf : fX7_finer a0 a1 S = some r) : rAW G X 7 (some (.int r.1), r.2) 0 [some (.ref G.2.2.2.1), some (.int a0), some (.int a1), none, none, none, none] [] S := by
  unfold fX7_finer at hf
  refine ra_aload_n C dX7_finer_0 rfl rfl ?_
  refine ra_aload_n C dX7_finer_1 rfl rfl ?_
  refine ra_iload_n C dX7_finer_2 rfl rfl ?_
  obtain ⟨q3, h3, hf⟩ := rob hf
  refine ra_callVi C dX7_finer_3 (mX7_isSignature h3) rfl tX7_l217 tX7_i_X7_isSignature tX7_s_X7_isSignature tX7_init tX7_c_X7_isSignature tX7_d_X7_isSignature (by decide) (by decide) (Nat.le_of_ble_eq_true rfl) ?_
  refine ra_if_eq C dX7_finer_6 (tgt := 21) (by decide) (fun c6 => ?_) (fun c6 => ?_)
  · replace hf := rif_p c6 hf
    exact bX7_finer_b21 C _ _ _ hf
  · replace hf := rif_n c6 hf
    refine ra_aload_n C dX7_finer_9 rfl rfl ?_
    refine ra_iload_n C dX7_finer_10 rfl rfl ?_
    obtain ⟨q11, h11, hf⟩ := rob hf
    refine ra_callVi C dX7_finer_11 (mX7_isSignature h11) rfl tX7_l217 tX7_i_X7_isSignature tX7_s_X7_isSignature tX7_init tX7_c_X7_isSignature tX7_d_X7_isSignature (by decide) (by decide) (Nat.le_of_ble_eq_true rfl) ?_
    refine ra_if_eq C dX7_finer_14 (tgt := 21) (by decide) (fun c14 => ?_) (fun c14 => ?_)
    · replace hf := rif_p c14 hf
      exact bX7_finer_b21 C _ _ _ hf
    · replace hf := rif_n c14 hf
      refine ra_iconst C dX7_finer_17 (v := 0) (by decide) ?_
      refine ra_goto C dX7_finer_18 (tgt := 22) (by decide) ?_
      exact bX7_finer_b22 C _ _ _ _ hf
set_option maxRecDepth 100000 in
set_option maxHeartbeats 4000000 in
theorem mX7_finer {l : Launch} {G : rG} {a0 : Int32} {a1 : Int32} {S : rS} {r : Int32 × rS} (hf : fX7_finer a0 a1 S = some r) : rM l G 5 yX7_finer cX7_finer 7 (some .boolean) [.ref G.2.2.2.1, .int a0, .int a1] S (some (.int r.1), r.2) :=
  rM_of (lo0 := [some (.ref G.2.2.2.1), some (.int a0), some (.int a1), none, none, none, none]) (by decide +kernel) rfl (Nat.le_of_ble_eq_true rfl) (by simp [Value.category]) rfl (fun X _ C => bX7_finer C a0 a1 S hf)
set_option maxRecDepth 100000 in
set_option maxHeartbeats 4000000 in
theorem bX7_compares_b221 {G : rG} {X : rX} (C : rC G X 8 cX7_compares none 0) {r : rS} {rec2 : Int32 → rS → Option (rS)} (hrec2 : ∀ (l1 : Int32) (S : rS), rec2 l1 S = some r → rAW G X 8 (none, r) 2 [some (.ref G.2.2.2.1), some (.int l1), none, none, none, none, none, none] [] S) {rec12 : Int32 → Int32 → rS → Option (rS)} (hrec12 : ∀ (l1 : Int32) (l2 : Int32) (S : rS), rec12 l1 l2 S = some r → rAW G X 8 (none, r) 12 [some (.ref G.2.2.2.1), some (.int l1), some (.int l2), none, none, none, none, none] [] S) (l1 : Int32) (l2 : Int32) (l3 : Int32) (S : rS) (hf : fX7_compares_b221 rec2 rec12 l1 l2 l3 S = some r) : rAW G X 8 (none, r) 221 [some (.ref G.2.2.2.1), some (.int l1), some (.int l2), some (.int l3), none, none, none, none] [] S := by
  unfold fX7_compares_b221 at hf
  refine ra_aload_n C dX7_compares_221 rfl rfl ?_
  refine ra_getR C dX7_compares_222 (k := 53) (by decide) rfl rX7_in tX7_f153 rfl ?_
  refine ra_bipush C dX7_compares_225 (v := 20) (by decide) ?_
  refine ra_iload_n C dX7_compares_227 rfl rfl ?_
  refine ra_imul C dX7_compares_228 ?_
  refine ra_iload_n C dX7_compares_229 rfl rfl ?_
  refine ra_iadd C dX7_compares_230 ?_
  refine ra_iload_n C dX7_compares_231 rfl rfl ?_
  obtain ⟨S232, h232, hf⟩ := rob hf
  refine ra_bast C dX7_compares_232 h232 (by decide) rfl rfl ?_
  refine ra_iinc C dX7_compares_233 rfl (v := 1) (by decide) (by decide) ?_
  refine ra_goto C dX7_compares_236 (tgt := 12) (by decide) ?_
  refine ra_mask [true, true, true, false, false, false, false, false] ?_
  exact hrec12 _ _ _ hf
set_option maxRecDepth 100000 in
set_option maxHeartbeats 4000000 in
theorem bX7_compares_b214 {G : rG} {X : rX} (C : rC G X 8 cX7_compares none 0) {r : rS} {rec2 : Int32 → rS → Option (rS)} (hrec2 : ∀ (l1 : Int32) (S : rS), rec2 l1 S = some r → rAW G X 8 (none, r) 2 [some (.ref G.2.2.2.1), some (.int l1), none, none, none, none, none, none] [] S) {rec12 : Int32 → Int32 → rS → Option (rS)} (hrec12 : ∀ (l1 : Int32) (l2 : Int32) (S : rS), rec12 l1 l2 S = some r → rAW G X 8 (none, r) 12 [some (.ref G.2.2.2.1), some (.int l1), some (.int l2), none, none, none, none, none] [] S) {rec44 : Int32 → Int32 → Int32 → Int32 → rS → Option (rS)} (hrec44 : ∀ (l1 : Int32) (l2 : Int32) (l3 : Int32) (l4 : Int32) (S : rS), rec44 l1 l2 l3 l4 S = some r → rAW G X 8 (none, r) 44 [some (.ref G.2.2.2.1), some (.int l1), some (.int l2), some (.int l3), some (.int l4), none, none, none] [] S) (l1 : Int32) (l2 : Int32) (l4 : Int32) (s0 : Int32) (S : rS) (hf : fX7_compares_b214 rec2 rec12 rec44 l1 l2 l4 s0 S = some r) : rAW G X 8 (none, r) 214 [some (.ref G.2.2.2.1), some (.int l1), some (.int l2), none, some (.int l4), none, none, none] [.int s0] S := by
  unfold fX7_compares_b214 at hf
  refine ra_istore_n C dX7_compares_214 rfl (by decide) ?_
  refine ra_iinc C dX7_compares_215 rfl (v := 1) (by decide) (by decide) ?_
  refine ra_goto C dX7_compares_218 (tgt := 44) (by decide) ?_
  exact hrec44 _ _ _ _ _ hf
set_option maxRecDepth 100000 in
set_option maxHeartbeats 4000000 in
theorem bX7_compares_b213 {G : rG} {X : rX} (C : rC G X 8 cX7_compares none 0) {r : rS} {rec2 : Int32 → rS → Option (rS)} (hrec2 : ∀ (l1 : Int32) (S : rS), rec2 l1 S = some r → rAW G X 8 (none, r) 2 [some (.ref G.2.2.2.1), some (.int l1), none, none, none, none, none, none] [] S) {rec12 : Int32 → Int32 → rS → Option (rS)} (hrec12 : ∀ (l1 : Int32) (l2 : Int32) (S : rS), rec12 l1 l2 S = some r → rAW G X 8 (none, r) 12 [some (.ref G.2.2.2.1), some (.int l1), some (.int l2), none, none, none, none, none] [] S) {rec44 : Int32 → Int32 → Int32 → Int32 → rS → Option (rS)} (hrec44 : ∀ (l1 : Int32) (l2 : Int32) (l3 : Int32) (l4 : Int32) (S : rS), rec44 l1 l2 l3 l4 S = some r → rAW G X 8 (none, r) 44 [some (.ref G.2.2.2.1), some (.int l1), some (.int l2), some (.int l3), some (.int l4), none, none, none] [] S) (l1 : Int32) (l2 : Int32) (l4 : Int32) (S : rS) (hf : fX7_compares_b213 rec2 rec12 rec44 l1 l2 l4 S = some r) : rAW G X 8 (none, r) 213 [some (.ref G.2.2.2.1), some (.int l1), some (.int l2), none, some (.int l4), none, none, none] [] S := by
  unfold fX7_compares_b213 at hf
  refine ra_iconst C dX7_compares_213 (v := 0) (by decide) ?_
  exact bX7_compares_b214 C hrec2 hrec12 hrec44 _ _ _ _ _ hf
set_option maxRecDepth 100000 in
set_option maxHeartbeats 4000000 in
theorem bX7_compares_b168 {G : rG} {X : rX} (C : rC G X 8 cX7_compares none 0) {r : rS} {rec2 : Int32 → rS → Option (rS)} (hrec2 : ∀ (l1 : Int32) (S : rS), rec2 l1 S = some r → rAW G X 8 (none, r) 2 [some (.ref G.2.2.2.1), some (.int l1), none, none, none, none, none, none] [] S) {rec12 : Int32 → Int32 → rS → Option (rS)} (hrec12 : ∀ (l1 : Int32) (l2 : Int32) (S : rS), rec12 l1 l2 S = some r → rAW G X 8 (none, r) 12 [some (.ref G.2.2.2.1), some (.int l1), some (.int l2), none, none, none, none, none] [] S) {rec44 : Int32 → Int32 → Int32 → Int32 → rS → Option (rS)} (hrec44 : ∀ (l1 : Int32) (l2 : Int32) (l3 : Int32) (l4 : Int32) (S : rS), rec44 l1 l2 l3 l4 S = some r → rAW G X 8 (none, r) 44 [some (.ref G.2.2.2.1), some (.int l1), some (.int l2), some (.int l3), some (.int l4), none, none, none] [] S) (l1 : Int32) (l2 : Int32) (l4 : Int32) (l5 : Int32) (l6 : Int32) (s0 : Int32) (S : rS) (hf : fX7_compares_b168 rec2 rec12 rec44 l1 l2 l4 l5 l6 s0 S = some r) : rAW G X 8 (none, r) 168 [some (.ref G.2.2.2.1), some (.int l1), some (.int l2), none, some (.int l4), some (.int l5), some (.int l6), none] [.int s0] S := by
  unfold fX7_compares_b168 at hf
  refine ra_istore C dX7_compares_168 (by decide) ?_
  refine ra_aload_n C dX7_compares_170 rfl rfl ?_
  refine ra_getR C dX7_compares_171 (k := 13) (by decide) rfl rX7_in tX7_f44 rfl ?_
  refine ra_iload C dX7_compares_174 rfl ?_
  obtain ⟨x176, h176, hf⟩ := rob hf
  refine ra_iald C dX7_compares_176 h176 (by decide) rfl rfl ?_
  refine ra_aload_n C dX7_compares_177 rfl rfl ?_
  refine ra_getR C dX7_compares_178 (k := 13) (by decide) rfl rX7_in tX7_f44 rfl ?_
  refine ra_iload C dX7_compares_181 rfl ?_
  obtain ⟨x183, h183, hf⟩ := rob hf
  refine ra_iald C dX7_compares_183 h183 (by decide) rfl rfl ?_
  refine ra_icmp_ne C dX7_compares_184 (tgt := 213) (by decide) (fun c184 => ?_) (fun c184 => ?_)
  · replace hf := rif_n c184 hf
    refine ra_mask [true, true, true, false, true, false, false, false] ?_
    exact bX7_compares_b213 C hrec2 hrec12 hrec44 _ _ _ _ hf
  · replace hf := rif_p c184 hf
    refine ra_aload_n C dX7_compares_187 rfl rfl ?_
    refine ra_getR C dX7_compares_188 (k := 14) (by decide) rfl rX7_in tX7_f47 rfl ?_
    refine ra_iload C dX7_compares_191 rfl ?_
    obtain ⟨x193, h193, hf⟩ := rob hf
    refine ra_iald C dX7_compares_193 h193 (by decide) rfl rfl ?_
    refine ra_aload_n C dX7_compares_194 rfl rfl ?_
    refine ra_getR C dX7_compares_195 (k := 14) (by decide) rfl rX7_in tX7_f47 rfl ?_
    refine ra_iload C dX7_compares_198 rfl ?_
    obtain ⟨x200, h200, hf⟩ := rob hf
    refine ra_iald C dX7_compares_200 h200 (by decide) rfl rfl ?_
    refine ra_icmp_ne C dX7_compares_201 (tgt := 213) (by decide) (fun c201 => ?_) (fun c201 => ?_)
    · replace hf := rif_n c201 hf
      refine ra_mask [true, true, true, false, true, false, false, false] ?_
      exact bX7_compares_b213 C hrec2 hrec12 hrec44 _ _ _ _ hf
    · replace hf := rif_p c201 hf
      refine ra_iload C dX7_compares_204 rfl ?_
      refine ra_if_eq C dX7_compares_206 (tgt := 213) (by decide) (fun c206 => ?_) (fun c206 => ?_)
      · replace hf := rif_p c206 hf
        refine ra_mask [true, true, true, false, true, false, false, false] ?_
        exact bX7_compares_b213 C hrec2 hrec12 hrec44 _ _ _ _ hf
      · replace hf := rif_n c206 hf
        refine ra_iconst C dX7_compares_209 (v := 1) (by decide) ?_
        refine ra_goto C dX7_compares_210 (tgt := 214) (by decide) ?_
        refine ra_mask [true, true, true, false, true, false, false, false] ?_
        exact bX7_compares_b214 C hrec2 hrec12 hrec44 _ _ _ _ _ hf
set_option maxRecDepth 100000 in
set_option maxHeartbeats 4000000 in
theorem bX7_compares_b167 {G : rG} {X : rX} (C : rC G X 8 cX7_compares none 0) {r : rS} {rec2 : Int32 → rS → Option (rS)} (hrec2 : ∀ (l1 : Int32) (S : rS), rec2 l1 S = some r → rAW G X 8 (none, r) 2 [some (.ref G.2.2.2.1), some (.int l1), none, none, none, none, none, none] [] S) {rec12 : Int32 → Int32 → rS → Option (rS)} (hrec12 : ∀ (l1 : Int32) (l2 : Int32) (S : rS), rec12 l1 l2 S = some r → rAW G X 8 (none, r) 12 [some (.ref G.2.2.2.1), some (.int l1), some (.int l2), none, none, none, none, none] [] S) {rec44 : Int32 → Int32 → Int32 → Int32 → rS → Option (rS)} (hrec44 : ∀ (l1 : Int32) (l2 : Int32) (l3 : Int32) (l4 : Int32) (S : rS), rec44 l1 l2 l3 l4 S = some r → rAW G X 8 (none, r) 44 [some (.ref G.2.2.2.1), some (.int l1), some (.int l2), some (.int l3), some (.int l4), none, none, none] [] S) (l1 : Int32) (l2 : Int32) (l4 : Int32) (l5 : Int32) (l6 : Int32) (S : rS) (hf : fX7_compares_b167 rec2 rec12 rec44 l1 l2 l4 l5 l6 S = some r) : rAW G X 8 (none, r) 167 [some (.ref G.2.2.2.1), some (.int l1), some (.int l2), none, some (.int l4), some (.int l5), some (.int l6), none] [] S := by
  unfold fX7_compares_b167 at hf
  refine ra_iconst C dX7_compares_167 (v := 0) (by decide) ?_
  exact bX7_compares_b168 C hrec2 hrec12 hrec44 _ _ _ _ _ _ _ hf
set_option maxRecDepth 100000 in
set_option maxHeartbeats 4000000 in
theorem bX7_compares_b124 {G : rG} {X : rX} (C : rC G X 8 cX7_compares none 0) {r : rS} {rec2 : Int32 → rS → Option (rS)} (hrec2 : ∀ (l1 : Int32) (S : rS), rec2 l1 S = some r → rAW G X 8 (none, r) 2 [some (.ref G.2.2.2.1), some (.int l1), none, none, none, none, none, none] [] S) {rec12 : Int32 → Int32 → rS → Option (rS)} (hrec12 : ∀ (l1 : Int32) (l2 : Int32) (S : rS), rec12 l1 l2 S = some r → rAW G X 8 (none, r) 12 [some (.ref G.2.2.2.1), some (.int l1), some (.int l2), none, none, none, none, none] [] S) {rec44 : Int32 → Int32 → Int32 → Int32 → rS → Option (rS)} (hrec44 : ∀ (l1 : Int32) (l2 : Int32) (l3 : Int32) (l4 : Int32) (S : rS), rec44 l1 l2 l3 l4 S = some r → rAW G X 8 (none, r) 44 [some (.ref G.2.2.2.1), some (.int l1), some (.int l2), some (.int l3), some (.int l4), none, none, none] [] S) (l1 : Int32) (l2 : Int32) (l4 : Int32) (l5 : Int32) (l6 : Int32) (s0 : Int32) (s1 : Int32) (S : rS) (hf : fX7_compares_b124 rec2 rec12 rec44 l1 l2 l4 l5 l6 s0 s1 S = some r) : rAW G X 8 (none, r) 124 [some (.ref G.2.2.2.1), some (.int l1), some (.int l2), none, some (.int l4), some (.int l5), some (.int l6), none] [.int s0, .int s1, .ref (G.2.2.2.2 53)] S := by
  unfold fX7_compares_b124 at hf
  refine ra_iadd C dX7_compares_124 ?_
  obtain ⟨x125, h125, hf⟩ := rob hf
  refine ra_bald C dX7_compares_125 h125 (by decide) rfl rfl ?_
  refine ra_goto C dX7_compares_126 (tgt := 168) (by decide) ?_
  exact bX7_compares_b168 C hrec2 hrec12 hrec44 _ _ _ _ _ _ _ hf
set_option maxRecDepth 100000 in
set_option maxHeartbeats 4000000 in
theorem bX7_compares_b44_body {G : rG} {X : rX} (C : rC G X 8 cX7_compares none 0) {r : rS} {rec44 : Int32 → Int32 → Int32 → Int32 → rS → Option (rS)} (hrec44 : ∀ (l1 : Int32) (l2 : Int32) (l3 : Int32) (l4 : Int32) (S : rS), rec44 l1 l2 l3 l4 S = some r → rAW G X 8 (none, r) 44 [some (.ref G.2.2.2.1), some (.int l1), some (.int l2), some (.int l3), some (.int l4), none, none, none] [] S) {rec2 : Int32 → rS → Option (rS)} (hrec2 : ∀ (l1 : Int32) (S : rS), rec2 l1 S = some r → rAW G X 8 (none, r) 2 [some (.ref G.2.2.2.1), some (.int l1), none, none, none, none, none, none] [] S) {rec12 : Int32 → Int32 → rS → Option (rS)} (hrec12 : ∀ (l1 : Int32) (l2 : Int32) (S : rS), rec12 l1 l2 S = some r → rAW G X 8 (none, r) 12 [some (.ref G.2.2.2.1), some (.int l1), some (.int l2), none, none, none, none, none] [] S) (l1 : Int32) (l2 : Int32) (l3 : Int32) (l4 : Int32) (S : rS) (hf : fX7_compares_b44_body rec44 rec2 rec12 l1 l2 l3 l4 S = some r) : rAW G X 8 (none, r) 44 [some (.ref G.2.2.2.1), some (.int l1), some (.int l2), some (.int l3), some (.int l4), none, none, none] [] S := by
  unfold fX7_compares_b44_body at hf
  refine ra_iload C dX7_compares_44 rfl ?_
  refine ra_aload_n C dX7_compares_46 rfl rfl ?_
  refine ra_getR C dX7_compares_47 (k := 11) (by decide) rfl rX7_in tX7_f38 rfl ?_
  refine ra_iload_n C dX7_compares_50 rfl rfl ?_
  obtain ⟨x51, h51, hf⟩ := rob hf
  refine ra_iald C dX7_compares_51 h51 (by decide) rfl rfl ?_
  refine ra_icmp_ge C dX7_compares_52 (tgt := 221) (by decide) (fun c52 => ?_) (fun c52 => ?_)
  · replace hf := rif_p c52 hf
    refine ra_mask [true, true, true, true, false, false, false, false] ?_
    exact bX7_compares_b221 C hrec2 hrec12 _ _ _ _ hf
  · replace hf := rif_n c52 hf
    refine ra_iload_n C dX7_compares_55 rfl rfl ?_
    refine ra_if_eq C dX7_compares_56 (tgt := 221) (by decide) (fun c56 => ?_) (fun c56 => ?_)
    · replace hf := rif_p c56 hf
      refine ra_mask [true, true, true, true, false, false, false, false] ?_
      exact bX7_compares_b221 C hrec2 hrec12 _ _ _ _ hf
    · replace hf := rif_n c56 hf
      refine ra_bipush C dX7_compares_59 (v := 60) (by decide) ?_
      refine ra_iload_n C dX7_compares_61 rfl rfl ?_
      refine ra_imul C dX7_compares_62 ?_
      refine ra_iload C dX7_compares_63 rfl ?_
      refine ra_iadd C dX7_compares_65 ?_
      refine ra_istore C dX7_compares_66 (by decide) ?_
      refine ra_bipush C dX7_compares_68 (v := 60) (by decide) ?_
      refine ra_iload_n C dX7_compares_70 rfl rfl ?_
      refine ra_imul C dX7_compares_71 ?_
      refine ra_iload C dX7_compares_72 rfl ?_
      refine ra_iadd C dX7_compares_74 ?_
      refine ra_istore C dX7_compares_75 (by decide) ?_
      refine ra_aload_n C dX7_compares_77 rfl rfl ?_
      refine ra_getR C dX7_compares_78 (k := 13) (by decide) rfl rX7_in tX7_f44 rfl ?_
      refine ra_iload C dX7_compares_81 rfl ?_
      obtain ⟨x83, h83, hf⟩ := rob hf
      refine ra_iald C dX7_compares_83 h83 (by decide) rfl rfl ?_
      refine ra_iconst C dX7_compares_84 (v := 2) (by decide) ?_
      refine ra_icmp_ne C dX7_compares_85 (tgt := 129) (by decide) (fun c85 => ?_) (fun c85 => ?_)
      · replace hf := rif_n c85 hf
        refine ra_aload_n C dX7_compares_129 rfl rfl ?_
        refine ra_getR C dX7_compares_130 (k := 15) (by decide) rfl rX7_in tX7_f50 rfl ?_
        refine ra_iload C dX7_compares_133 rfl ?_
        obtain ⟨x135, h135, hf⟩ := rob hf
        refine ra_iald C dX7_compares_135 h135 (by decide) rfl rfl ?_
        refine ra_aload_n C dX7_compares_136 rfl rfl ?_
        refine ra_getR C dX7_compares_137 (k := 15) (by decide) rfl rX7_in tX7_f50 rfl ?_
        refine ra_iload C dX7_compares_140 rfl ?_
        obtain ⟨x142, h142, hf⟩ := rob hf
        refine ra_iald C dX7_compares_142 h142 (by decide) rfl rfl ?_
        refine ra_icmp_ne C dX7_compares_143 (tgt := 167) (by decide) (fun c143 => ?_) (fun c143 => ?_)
        · replace hf := rif_n c143 hf
          refine ra_mask [true, true, true, false, true, true, true, false] ?_
          exact bX7_compares_b167 C hrec2 hrec12 hrec44 _ _ _ _ _ _ hf
        · replace hf := rif_p c143 hf
          refine ra_aload_n C dX7_compares_146 rfl rfl ?_
          refine ra_getR C dX7_compares_147 (k := 16) (by decide) rfl rX7_in tX7_f53 rfl ?_
          refine ra_iload C dX7_compares_150 rfl ?_
          obtain ⟨x152, h152, hf⟩ := rob hf
          refine ra_iald C dX7_compares_152 h152 (by decide) rfl rfl ?_
          refine ra_aload_n C dX7_compares_153 rfl rfl ?_
          refine ra_getR C dX7_compares_154 (k := 16) (by decide) rfl rX7_in tX7_f53 rfl ?_
          refine ra_iload C dX7_compares_157 rfl ?_
          obtain ⟨x159, h159, hf⟩ := rob hf
          refine ra_iald C dX7_compares_159 h159 (by decide) rfl rfl ?_
          refine ra_icmp_ne C dX7_compares_160 (tgt := 167) (by decide) (fun c160 => ?_) (fun c160 => ?_)
          · replace hf := rif_n c160 hf
            refine ra_mask [true, true, true, false, true, true, true, false] ?_
            exact bX7_compares_b167 C hrec2 hrec12 hrec44 _ _ _ _ _ _ hf
          · replace hf := rif_p c160 hf
            refine ra_iconst C dX7_compares_163 (v := 1) (by decide) ?_
            refine ra_goto C dX7_compares_164 (tgt := 168) (by decide) ?_
            refine ra_mask [true, true, true, false, true, true, true, false] ?_
            exact bX7_compares_b168 C hrec2 hrec12 hrec44 _ _ _ _ _ _ _ hf
      · replace hf := rif_p c85 hf
        refine ra_aload_n C dX7_compares_88 rfl rfl ?_
        refine ra_getR C dX7_compares_89 (k := 53) (by decide) rfl rX7_in tX7_f153 rfl ?_
        refine ra_bipush C dX7_compares_92 (v := 20) (by decide) ?_
        refine ra_aload_n C dX7_compares_94 rfl rfl ?_
        refine ra_getR C dX7_compares_95 (k := 15) (by decide) rfl rX7_in tX7_f50 rfl ?_
        refine ra_iload C dX7_compares_98 rfl ?_
        obtain ⟨x100, h100, hf⟩ := rob hf
        refine ra_iald C dX7_compares_100 h100 (by decide) rfl rfl ?_
        refine ra_imul C dX7_compares_101 ?_
        refine ra_aload_n C dX7_compares_102 rfl rfl ?_
        refine ra_getR C dX7_compares_103 (k := 13) (by decide) rfl rX7_in tX7_f44 rfl ?_
        refine ra_iload C dX7_compares_106 rfl ?_
        obtain ⟨x108, h108, hf⟩ := rob hf
        refine ra_iald C dX7_compares_108 h108 (by decide) rfl rfl ?_
        refine ra_iconst C dX7_compares_109 (v := 2) (by decide) ?_
        refine ra_icmp_ne C dX7_compares_110 (tgt := 123) (by decide) (fun c110 => ?_) (fun c110 => ?_)
        · replace hf := rif_n c110 hf
          refine ra_iconst C dX7_compares_123 (v := 0) (by decide) ?_
          refine ra_mask [true, true, true, false, true, true, true, false] ?_
          exact bX7_compares_b124 C hrec2 hrec12 hrec44 _ _ _ _ _ _ _ _ hf
        · replace hf := rif_p c110 hf
          refine ra_aload_n C dX7_compares_113 rfl rfl ?_
          refine ra_getR C dX7_compares_114 (k := 15) (by decide) rfl rX7_in tX7_f50 rfl ?_
          refine ra_iload C dX7_compares_117 rfl ?_
          obtain ⟨x119, h119, hf⟩ := rob hf
          refine ra_iald C dX7_compares_119 h119 (by decide) rfl rfl ?_
          refine ra_goto C dX7_compares_120 (tgt := 124) (by decide) ?_
          refine ra_mask [true, true, true, false, true, true, true, false] ?_
          exact bX7_compares_b124 C hrec2 hrec12 hrec44 _ _ _ _ _ _ _ _ hf
set_option maxRecDepth 100000 in
set_option maxHeartbeats 4000000 in
theorem bX7_compares_b44 {G : rG} {X : rX} (C : rC G X 8 cX7_compares none 0) {r : rS} {rec2 : Int32 → rS → Option (rS)} (hrec2 : ∀ (l1 : Int32) (S : rS), rec2 l1 S = some r → rAW G X 8 (none, r) 2 [some (.ref G.2.2.2.1), some (.int l1), none, none, none, none, none, none] [] S) {rec12 : Int32 → Int32 → rS → Option (rS)} (hrec12 : ∀ (l1 : Int32) (l2 : Int32) (S : rS), rec12 l1 l2 S = some r → rAW G X 8 (none, r) 12 [some (.ref G.2.2.2.1), some (.int l1), some (.int l2), none, none, none, none, none] [] S) : ∀ (n : Nat) (l1 : Int32) (l2 : Int32) (l3 : Int32) (l4 : Int32) (S : rS), fX7_compares_b44 rec2 rec12 n l1 l2 l3 l4 S = some r → rAW G X 8 (none, r) 44 [some (.ref G.2.2.2.1), some (.int l1), some (.int l2), some (.int l3), some (.int l4), none, none, none] [] S := by
  intro n
  induction n with
  | zero => intro l1 l2 l3 l4 S hf; cases hf
  | succ n ih => intro l1 l2 l3 l4 S hf; exact bX7_compares_b44_body C (fun l1 l2 l3 l4 S h => ih l1 l2 l3 l4 S h) hrec2 hrec12 l1 l2 l3 l4 S hf
set_option maxRecDepth 100000 in
set_option maxHeartbeats 4000000 in
theorem bX7_compares_b40 {G : rG} {X : rX} (C : rC G X 8 cX7_compares none 0) {r : rS} {rec2 : Int32 → rS → Option (rS)} (hrec2 : ∀ (l1 : Int32) (S : rS), rec2 l1 S = some r → rAW G X 8 (none, r) 2 [some (.ref G.2.2.2.1), some (.int l1), none, none, none, none, none, none] [] S) {rec12 : Int32 → Int32 → rS → Option (rS)} (hrec12 : ∀ (l1 : Int32) (l2 : Int32) (S : rS), rec12 l1 l2 S = some r → rAW G X 8 (none, r) 12 [some (.ref G.2.2.2.1), some (.int l1), some (.int l2), none, none, none, none, none] [] S) (l1 : Int32) (l2 : Int32) (s0 : Int32) (S : rS) (hf : fX7_compares_b40 rec2 rec12 l1 l2 s0 S = some r) : rAW G X 8 (none, r) 40 [some (.ref G.2.2.2.1), some (.int l1), some (.int l2), none, none, none, none, none] [.int s0] S := by
  unfold fX7_compares_b40 at hf
  refine ra_istore_n C dX7_compares_40 rfl (by decide) ?_
  refine ra_iconst C dX7_compares_41 (v := 0) (by decide) ?_
  refine ra_istore C dX7_compares_42 (by decide) ?_
  exact bX7_compares_b44 C hrec2 hrec12 _ _ _ _ _ _ hf
set_option maxRecDepth 100000 in
set_option maxHeartbeats 4000000 in
theorem bX7_compares_b12_body {G : rG} {X : rX} (C : rC G X 8 cX7_compares none 0) {r : rS} {rec12 : Int32 → Int32 → rS → Option (rS)} (hrec12 : ∀ (l1 : Int32) (l2 : Int32) (S : rS), rec12 l1 l2 S = some r → rAW G X 8 (none, r) 12 [some (.ref G.2.2.2.1), some (.int l1), some (.int l2), none, none, none, none, none] [] S) {rec2 : Int32 → rS → Option (rS)} (hrec2 : ∀ (l1 : Int32) (S : rS), rec2 l1 S = some r → rAW G X 8 (none, r) 2 [some (.ref G.2.2.2.1), some (.int l1), none, none, none, none, none, none] [] S) (l1 : Int32) (l2 : Int32) (S : rS) (hf : fX7_compares_b12_body rec12 rec2 l1 l2 S = some r) : rAW G X 8 (none, r) 12 [some (.ref G.2.2.2.1), some (.int l1), some (.int l2), none, none, none, none, none] [] S := by
  unfold fX7_compares_b12_body at hf
  refine ra_iload_n C dX7_compares_12 rfl rfl ?_
  refine ra_aload_n C dX7_compares_13 rfl rfl ?_
  refine ra_getI C dX7_compares_14 (k := 10) (by decide) rfl rX7_in tX7_f204 rfl ?_
  refine ra_icmp_ge C dX7_compares_17 (tgt := 239) (by decide) (fun c17 => ?_) (fun c17 => ?_)
  · replace hf := rif_p c17 hf
    refine ra_iinc C dX7_compares_239 rfl (v := 1) (by decide) (by decide) ?_
    refine ra_goto C dX7_compares_242 (tgt := 2) (by decide) ?_
    refine ra_mask [true, true, false, false, false, false, false, false] ?_
    exact hrec2 _ _ hf
  · replace hf := rif_n c17 hf
    refine ra_aload_n C dX7_compares_20 rfl rfl ?_
    refine ra_getR C dX7_compares_21 (k := 11) (by decide) rfl rX7_in tX7_f38 rfl ?_
    refine ra_iload_n C dX7_compares_24 rfl rfl ?_
    obtain ⟨x25, h25, hf⟩ := rob hf
    refine ra_iald C dX7_compares_25 h25 (by decide) rfl rfl ?_
    refine ra_aload_n C dX7_compares_26 rfl rfl ?_
    refine ra_getR C dX7_compares_27 (k := 11) (by decide) rfl rX7_in tX7_f38 rfl ?_
    refine ra_iload_n C dX7_compares_30 rfl rfl ?_
    obtain ⟨x31, h31, hf⟩ := rob hf
    refine ra_iald C dX7_compares_31 h31 (by decide) rfl rfl ?_
    refine ra_icmp_ne C dX7_compares_32 (tgt := 39) (by decide) (fun c32 => ?_) (fun c32 => ?_)
    · replace hf := rif_n c32 hf
      refine ra_iconst C dX7_compares_39 (v := 0) (by decide) ?_
      exact bX7_compares_b40 C hrec2 hrec12 _ _ _ _ hf
    · replace hf := rif_p c32 hf
      refine ra_iconst C dX7_compares_35 (v := 1) (by decide) ?_
      refine ra_goto C dX7_compares_36 (tgt := 40) (by decide) ?_
      exact bX7_compares_b40 C hrec2 hrec12 _ _ _ _ hf
set_option maxRecDepth 100000 in
set_option maxHeartbeats 4000000 in
theorem bX7_compares_b12 {G : rG} {X : rX} (C : rC G X 8 cX7_compares none 0) {r : rS} {rec2 : Int32 → rS → Option (rS)} (hrec2 : ∀ (l1 : Int32) (S : rS), rec2 l1 S = some r → rAW G X 8 (none, r) 2 [some (.ref G.2.2.2.1), some (.int l1), none, none, none, none, none, none] [] S) : ∀ (n : Nat) (l1 : Int32) (l2 : Int32) (S : rS), fX7_compares_b12 rec2 n l1 l2 S = some r → rAW G X 8 (none, r) 12 [some (.ref G.2.2.2.1), some (.int l1), some (.int l2), none, none, none, none, none] [] S := by
  intro n
  induction n with
  | zero => intro l1 l2 S hf; cases hf
  | succ n ih => intro l1 l2 S hf; exact bX7_compares_b12_body C (fun l1 l2 S h => ih l1 l2 S h) hrec2 l1 l2 S hf
set_option maxRecDepth 100000 in
set_option maxHeartbeats 4000000 in
theorem bX7_compares_b2_body {G : rG} {X : rX} (C : rC G X 8 cX7_compares none 0) {r : rS} {rec2 : Int32 → rS → Option (rS)} (hrec2 : ∀ (l1 : Int32) (S : rS), rec2 l1 S = some r → rAW G X 8 (none, r) 2 [some (.ref G.2.2.2.1), some (.int l1), none, none, none, none, none, none] [] S) (l1 : Int32) (S : rS) (hf : fX7_compares_b2_body rec2 l1 S = some r) : rAW G X 8 (none, r) 2 [some (.ref G.2.2.2.1), some (.int l1), none, none, none, none, none, none] [] S := by
  unfold fX7_compares_b2_body at hf
  refine ra_iload_n C dX7_compares_2 rfl rfl ?_
  refine ra_aload_n C dX7_compares_3 rfl rfl ?_
  refine ra_getI C dX7_compares_4 (k := 10) (by decide) rfl rX7_in tX7_f204 rfl ?_
  refine ra_icmp_ge C dX7_compares_7 (tgt := 245) (by decide) (fun c7 => ?_) (fun c7 => ?_)
  · replace hf := rif_p c7 hf
    obtain rfl := Option.some.inj hf
    exact ra_vret C dX7_compares_245
  · replace hf := rif_n c7 hf
    refine ra_iconst C dX7_compares_10 (v := 0) (by decide) ?_
    refine ra_istore_n C dX7_compares_11 rfl (by decide) ?_
    exact bX7_compares_b12 C hrec2 _ _ _ _ hf
set_option maxRecDepth 100000 in
set_option maxHeartbeats 4000000 in
theorem bX7_compares_b2 {G : rG} {X : rX} (C : rC G X 8 cX7_compares none 0) {r : rS} : ∀ (n : Nat) (l1 : Int32) (S : rS), fX7_compares_b2 n l1 S = some r → rAW G X 8 (none, r) 2 [some (.ref G.2.2.2.1), some (.int l1), none, none, none, none, none, none] [] S := by
  intro n
  induction n with
  | zero => intro l1 S hf; cases hf
  | succ n ih => intro l1 S hf; exact bX7_compares_b2_body C (fun l1 S h => ih l1 S h) l1 S hf
set_option maxRecDepth 100000 in
set_option maxHeartbeats 4000000 in
theorem bX7_compares {G : rG} {X : rX} (C : rC G X 8 cX7_compares none 0) (S : rS) {r : rS} (hf : fX7_compares  S = some r) : rAW G X 8 (none, r) 0 [some (.ref G.2.2.2.1), none, none, none, none, none, none, none] [] S := by
  unfold fX7_compares at hf
  refine ra_iconst C dX7_compares_0 (v := 0) (by decide) ?_
  refine ra_istore_n C dX7_compares_1 rfl (by decide) ?_
  exact bX7_compares_b2 C _ _ _ hf
set_option maxRecDepth 100000 in
set_option maxHeartbeats 4000000 in
theorem mX7_compares {l : Launch} {G : rG} {S : rS} {r : rS} (hf : fX7_compares  S = some r) : rM l G 0 yX7_compares cX7_compares 8 none [.ref G.2.2.2.1] S (none, r) :=
  rM_of (lo0 := [some (.ref G.2.2.2.1), none, none, none, none, none, none, none]) (by decide +kernel) rfl (Nat.le_of_ble_eq_true rfl) (by simp [Value.category]) rfl (fun X _ C => bX7_compares C  S hf)
