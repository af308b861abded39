set_option maxRecDepth 100000 in
set_option maxHeartbeats 4000000 in
theorem bX7_thrown {G : rG} {X : rX} (C : rC G X 1 cX7_thrown (some .int) 0) (S : rS) {r : Int32 × rS} (hf : fX7_thrown  S = some r) : rAW G X 1 (some (.int r.1), r.2) 0 [some (.ref G.2.2.2.1)] [] S := by
  unfold fX7_thrown at hf
  refine ra_aload_n C dX7_thrown_0 rfl rfl ?_
  refine ra_getI C dX7_thrown_1 (k := 54) (by decide) rfl rX7_in tX7_f156 rfl ?_
  obtain rfl := Option.some.inj hf
  exact ra_iret C dX7_thrown_4
set_option maxRecDepth 100000 in
set_option maxHeartbeats 4000000 in
theorem mX7_thrown {l : Launch} {G : rG} {S : rS} {r : Int32 × rS} (hf : fX7_thrown  S = some r) : rM l G 0 yX7_thrown cX7_thrown 1 (some .int) [.ref G.2.2.2.1] S (some (.int r.1), r.2) :=
  rM_of (lo0 := [some (.ref G.2.2.2.1)]) (by decide +kernel) rfl (Nat.le_of_ble_eq_true rfl) (by simp [Value.category]) rfl (fun X _ C => bX7_thrown C  S hf)
set_option maxRecDepth 100000 in
set_option maxHeartbeats 4000000 in
theorem bX7_fails_b14 {G : rG} {X : rX} (C : rC G X 2 cX7_fails (some .boolean) 0) {r : Int32 × rS} (s0 : Int32) (S : rS) (hf : fX7_fails_b14 s0 S = some r) : rAW G X 2 (some (.int r.1), r.2) 14 [none, none] [.int s0] S := by
  unfold fX7_fails_b14 at hf
  obtain ⟨rfl, hn⟩ := rbo_spec hf
  exact ra_zret C hn dX7_fails_14
set_option maxRecDepth 100000 in
set_option maxHeartbeats 4000000 in
theorem bX7_fails {G : rG} {X : rX} (C : rC G X 2 cX7_fails (some .boolean) 0) (a0 : Int32) (S : rS) {r : Int32 × rS} (hf : fX7_fails a0 S = some r) : rAW G X 2 (some (.int r.1), r.2) 0 [some (.ref G.2.2.2.1), some (.int a0)] [] S := by
  unfold fX7_fails at hf
  refine ra_aload_n C dX7_fails_0 rfl rfl ?_
  refine ra_iload_n C dX7_fails_1 rfl rfl ?_
  refine ra_putI C dX7_fails_2 (k := 54) (by decide) rfl rX7_in tX7_f156 rfl rfl (tyX7_ok 54 (by decide)) ?_
  refine ra_iload_n C dX7_fails_5 rfl rfl ?_
  refine ra_if_le C dX7_fails_6 (tgt := 13) (by decide) (fun c6 => ?_) (fun c6 => ?_)
  · replace hf := rif_p c6 hf
    refine ra_iconst C dX7_fails_13 (v := 0) (by decide) ?_
    refine ra_mask [false, false] ?_
    exact bX7_fails_b14 C _ _ hf
  · replace hf := rif_n c6 hf
    refine ra_iconst C dX7_fails_9 (v := 1) (by decide) ?_
    refine ra_goto C dX7_fails_10 (tgt := 14) (by decide) ?_
    refine ra_mask [false, false] ?_
    exact bX7_fails_b14 C _ _ hf
set_option maxRecDepth 100000 in
set_option maxHeartbeats 4000000 in
theorem mX7_fails {l : Launch} {G : rG} {a0 : Int32} {S : rS} {r : Int32 × rS} (hf : fX7_fails a0 S = some r) : rM l G 0 yX7_fails cX7_fails 2 (some .boolean) [.ref G.2.2.2.1, .int a0] S (some (.int r.1), r.2) :=
  rM_of (lo0 := [some (.ref G.2.2.2.1), some (.int a0)]) (by decide +kernel) rfl (Nat.le_of_ble_eq_true rfl) (by simp [Value.category]) rfl (fun X _ C => bX7_fails C a0 S hf)
set_option maxRecDepth 100000 in
set_option maxHeartbeats 4000000 in
theorem bX7_isIn_b15 {G : rG} {X : rX} (C : rC G X 3 cX7_isIn (some .boolean) 0) {r : Int32 × rS} (s0 : Int32) (S : rS) (hf : fX7_isIn_b15 s0 S = some r) : rAW G X 3 (some (.int r.1), r.2) 15 [none, none, none] [.int s0] S := by
  unfold fX7_isIn_b15 at hf
  obtain ⟨rfl, hn⟩ := rbo_spec hf
  exact ra_zret C hn dX7_isIn_15
set_option maxRecDepth 100000 in
set_option maxHeartbeats 4000000 in
theorem bX7_isIn_b14 {G : rG} {X : rX} (C : rC G X 3 cX7_isIn (some .boolean) 0) {r : Int32 × rS} (S : rS) (hf : fX7_isIn_b14  S = some r) : rAW G X 3 (some (.int r.1), r.2) 14 [none, none, none] [] S := by
  unfold fX7_isIn_b14 at hf
  refine ra_iconst C dX7_isIn_14 (v := 0) (by decide) ?_
  exact bX7_isIn_b15 C _ _ hf
set_option maxRecDepth 100000 in
set_option maxHeartbeats 4000000 in
theorem bX7_isIn {G : rG} {X : rX} (C : rC G X 3 cX7_isIn (some .boolean) 0) (a0 : Int32) (a1 : Int32) (a2 : Int32) (S : rS) {r : Int32 × rS} (hf : fX7_isIn a0 a1 a2 S = some r) : rAW G X 3 (some (.int r.1), r.2) 0 [some (.int a0), some (.int a1), some (.int a2)] [] S := by
  unfold fX7_isIn at hf
  refine ra_iload_n C dX7_isIn_0 rfl rfl ?_
  refine ra_iload_n C dX7_isIn_1 rfl rfl ?_
  refine ra_icmp_lt C dX7_isIn_2 (tgt := 14) (by decide) (fun c2 => ?_) (fun c2 => ?_)
  · replace hf := rif_p c2 hf
    refine ra_mask [false, false, false] ?_
    exact bX7_isIn_b14 C  _ hf
  · replace hf := rif_n c2 hf
    refine ra_iload_n C dX7_isIn_5 rfl rfl ?_
    refine ra_iload_n C dX7_isIn_6 rfl rfl ?_
    refine ra_icmp_gt C dX7_isIn_7 (tgt := 14) (by decide) (fun c7 => ?_) (fun c7 => ?_)
    · replace hf := rif_p c7 hf
      refine ra_mask [false, false, false] ?_
      exact bX7_isIn_b14 C  _ hf
    · replace hf := rif_n c7 hf
      refine ra_iconst C dX7_isIn_10 (v := 1) (by decide) ?_
      refine ra_goto C dX7_isIn_11 (tgt := 15) (by decide) ?_
      refine ra_mask [false, false, false] ?_
      exact bX7_isIn_b15 C _ _ hf
set_option maxRecDepth 100000 in
set_option maxHeartbeats 4000000 in
theorem mX7_isIn {l : Launch} {G : rG} {a0 : Int32} {a1 : Int32} {a2 : Int32} {S : rS} {r : Int32 × rS} (hf : fX7_isIn a0 a1 a2 S = some r) : rM l G 0 yX7_isIn cX7_isIn 3 (some .boolean) [.int a0, .int a1, .int a2] S (some (.int r.1), r.2) :=
  rM_of (lo0 := [some (.int a0), some (.int a1), some (.int a2)]) (by decide +kernel) rfl (Nat.le_of_ble_eq_true rfl) (by simp [Value.category]) rfl (fun X _ C => bX7_isIn C a0 a1 a2 S hf)
set_option maxRecDepth 100000 in
set_option maxHeartbeats 4000000 in
theorem bX7_isName {G : rG} {X : rX} (C : rC G X 1 cX7_isName (some .boolean) 1) (a0 : Int32) (S : rS) {r : Int32 × rS} (hf : fX7_isName a0 S = some r) : rAW G X 1 (some (.int r.1), r.2) 0 [some (.int a0)] [] S := by
  unfold fX7_isName at hf
  refine ra_iload_n C dX7_isName_0 rfl rfl ?_
  refine ra_iconst C dX7_isName_1 (v := 0) (by decide) ?_
  refine ra_bipush C dX7_isName_2 (v := 9) (by decide) ?_
  obtain ⟨q4, h4, hf⟩ := rob hf
  refine ra_callSi C dX7_isName_4 (mX7_isIn h4) rfl tX7_l159 tX7_st_X7_isIn tX7_init tX7_c_X7_isIn tX7_d_X7_isIn (by decide) (by decide) (Nat.le_of_ble_eq_true rfl) ?_
  obtain ⟨rfl, hn⟩ := rbo_spec hf
  exact ra_zret C hn dX7_isName_7
set_option maxRecDepth 100000 in
set_option maxHeartbeats 4000000 in
theorem mX7_isName {l : Launch} {G : rG} {a0 : Int32} {S : rS} {r : Int32 × rS} (hf : fX7_isName a0 S = some r) : rM l G 1 yX7_isName cX7_isName 1 (some .boolean) [.int a0] S (some (.int r.1), r.2) :=
  rM_of (lo0 := [some (.int a0)]) (by decide +kernel) rfl (Nat.le_of_ble_eq_true rfl) (by simp [Value.category]) rfl (fun X _ C => bX7_isName C a0 S hf)
set_option maxRecDepth 100000 in
set_option maxHeartbeats 4000000 in
theorem bX7_isNumber {G : rG} {X : rX} (C : rC G X 1 cX7_isNumber (some .boolean) 1) (a0 : Int32) (S : rS) {r : Int32 × rS} (hf : fX7_isNumber a0 S = some r) : rAW G X 1 (some (.int r.1), r.2) 0 [some (.int a0)] [] S := by
  unfold fX7_isNumber at hf
  refine ra_iload_n C dX7_isNumber_0 rfl rfl ?_
  refine ra_sipush C dX7_isNumber_1 (v := (-10000)) (by decide) ?_
  refine ra_sipush C dX7_isNumber_4 (v := 10000) (by decide) ?_
  obtain ⟨q7, h7, hf⟩ := rob hf
  refine ra_callSi C dX7_isNumber_7 (mX7_isIn h7) rfl tX7_l159 tX7_st_X7_isIn tX7_init tX7_c_X7_isIn tX7_d_X7_isIn (by decide) (by decide) (Nat.le_of_ble_eq_true rfl) ?_
  obtain ⟨rfl, hn⟩ := rbo_spec hf
  exact ra_zret C hn dX7_isNumber_10
set_option maxRecDepth 100000 in
set_option maxHeartbeats 4000000 in
theorem mX7_isNumber {l : Launch} {G : rG} {a0 : Int32} {S : rS} {r : Int32 × rS} (hf : fX7_isNumber a0 S = some r) : rM l G 1 yX7_isNumber cX7_isNumber 1 (some .boolean) [.int a0] S (some (.int r.1), r.2) :=
  rM_of (lo0 := [some (.int a0)]) (by decide +kernel) rfl (Nat.le_of_ble_eq_true rfl) (by simp [Value.category]) rfl (fun X _ C => bX7_isNumber C a0 S hf)
set_option maxRecDepth 100000 in
set_option maxHeartbeats 4000000 in
theorem bX7_isType {G : rG} {X : rX} (C : rC G X 2 cX7_isType (some .boolean) 1) (a0 : Int32) (S : rS) {r : Int32 × rS} (hf : fX7_isType a0 S = some r) : rAW G X 2 (some (.int r.1), r.2) 0 [some (.ref G.2.2.2.1), some (.int a0)] [] S := by
  unfold fX7_isType at hf
  refine ra_iload_n C dX7_isType_0 rfl rfl ?_
  refine ra_iconst C dX7_isType_1 (v := 0) (by decide) ?_
  refine ra_aload_n C dX7_isType_2 rfl rfl ?_
  refine ra_getI C dX7_isType_3 (k := 0) (by decide) rfl rX7_in tX7_f7 rfl ?_
  refine ra_iconst C dX7_isType_6 (v := 1) (by decide) ?_
  refine ra_isub C dX7_isType_7 ?_
  obtain ⟨q8, h8, hf⟩ := rob hf
  refine ra_callSi C dX7_isType_8 (mX7_isIn h8) rfl tX7_l159 tX7_st_X7_isIn tX7_init tX7_c_X7_isIn tX7_d_X7_isIn (by decide) (by decide) (Nat.le_of_ble_eq_true rfl) ?_
  obtain ⟨rfl, hn⟩ := rbo_spec hf
  exact ra_zret C hn dX7_isType_11
set_option maxRecDepth 100000 in
set_option maxHeartbeats 4000000 in
theorem mX7_isType {l : Launch} {G : rG} {a0 : Int32} {S : rS} {r : Int32 × rS} (hf : fX7_isType a0 S = some r) : rM l G 1 yX7_isType cX7_isType 2 (some .boolean) [.ref G.2.2.2.1, .int a0] S (some (.int r.1), r.2) :=
  rM_of (lo0 := [some (.ref G.2.2.2.1), some (.int a0)]) (by decide +kernel) rfl (Nat.le_of_ble_eq_true rfl) (by simp [Value.category]) rfl (fun X _ C => bX7_isType C a0 S hf)
set_option maxRecDepth 100000 in
set_option maxHeartbeats 4000000 in
theorem bX7_findsArrow_b53 {G : rG} {X : rX} (C : rC G X 5 cX7_findsArrow (some .int) 0) {r : Int32 × rS} {rec5 : Int32 → Int32 → Int32 → Int32 → rS → Option (Int32 × rS)} (hrec5 : ∀ (l1 : Int32) (l2 : Int32) (l3 : Int32) (l4 : Int32) (S : rS), rec5 l1 l2 l3 l4 S = some r → rAW G X 5 (some (.int r.1), r.2) 5 [some (.ref G.2.2.2.1), some (.int l1), some (.int l2), some (.int l3), some (.int l4)] [] S) (l1 : Int32) (l2 : Int32) (l4 : Int32) (s0 : Int32) (S : rS) (hf : fX7_findsArrow_b53 rec5 l1 l2 l4 s0 S = some r) : rAW G X 5 (some (.int r.1), r.2) 53 [some (.ref G.2.2.2.1), some (.int l1), some (.int l2), none, some (.int l4)] [.int s0] S := by
  unfold fX7_findsArrow_b53 at hf
  refine ra_istore_n C dX7_findsArrow_53 rfl (by decide) ?_
  refine ra_iinc C dX7_findsArrow_54 rfl (v := 1) (by decide) (by decide) ?_
  refine ra_goto C dX7_findsArrow_57 (tgt := 5) (by decide) ?_
  exact hrec5 _ _ _ _ _ hf
set_option maxRecDepth 100000 in
set_option maxHeartbeats 4000000 in
theorem bX7_findsArrow_b52 {G : rG} {X : rX} (C : rC G X 5 cX7_findsArrow (some .int) 0) {r : Int32 × rS} {rec5 : Int32 → Int32 → Int32 → Int32 → rS → Option (Int32 × rS)} (hrec5 : ∀ (l1 : Int32) (l2 : Int32) (l3 : Int32) (l4 : Int32) (S : rS), rec5 l1 l2 l3 l4 S = some r → rAW G X 5 (some (.int r.1), r.2) 5 [some (.ref G.2.2.2.1), some (.int l1), some (.int l2), some (.int l3), some (.int l4)] [] S) (l1 : Int32) (l2 : Int32) (l3 : Int32) (l4 : Int32) (S : rS) (hf : fX7_findsArrow_b52 rec5 l1 l2 l3 l4 S = some r) : rAW G X 5 (some (.int r.1), r.2) 52 [some (.ref G.2.2.2.1), some (.int l1), some (.int l2), some (.int l3), some (.int l4)] [] S := by
  unfold fX7_findsArrow_b52 at hf
  refine ra_iload_n C dX7_findsArrow_52 rfl rfl ?_
  refine ra_mask [true, true, true, false, true] ?_
  exact bX7_findsArrow_b53 C hrec5 _ _ _ _ _ hf
set_option maxRecDepth 100000 in
set_option maxHeartbeats 4000000 in
theorem bX7_findsArrow_b5_body {G : rG} {X : rX} (C : rC G X 5 cX7_findsArrow (some .int) 0) {r : Int32 × rS} {rec5 : Int32 → Int32 → Int32 → Int32 → rS → Option (Int32 × rS)} (hrec5 : ∀ (l1 : Int32) (l2 : Int32) (l3 : Int32) (l4 : Int32) (S : rS), rec5 l1 l2 l3 l4 S = some r → rAW G X 5 (some (.int r.1), r.2) 5 [some (.ref G.2.2.2.1), some (.int l1), some (.int l2), some (.int l3), some (.int l4)] [] S) (l1 : Int32) (l2 : Int32) (l3 : Int32) (l4 : Int32) (S : rS) (hf : fX7_findsArrow_b5_body rec5 l1 l2 l3 l4 S = some r) : rAW G X 5 (some (.int r.1), r.2) 5 [some (.ref G.2.2.2.1), some (.int l1), some (.int l2), some (.int l3), some (.int l4)] [] S := by
  unfold fX7_findsArrow_b5_body at hf
  refine ra_iload C dX7_findsArrow_5 rfl ?_
  refine ra_aload_n C dX7_findsArrow_7 rfl rfl ?_
  refine ra_getI C dX7_findsArrow_8 (k := 0) (by decide) rfl rX7_in tX7_f7 rfl ?_
  refine ra_icmp_ge C dX7_findsArrow_11 (tgt := 60) (by decide) (fun c11 => ?_) (fun c11 => ?_)
  · replace hf := rif_p c11 hf
    refine ra_iload_n C dX7_findsArrow_60 rfl rfl ?_
    obtain rfl := Option.some.inj hf
    exact ra_iret C dX7_findsArrow_61
  · replace hf := rif_n c11 hf
    refine ra_aload_n C dX7_findsArrow_14 rfl rfl ?_
    refine ra_getR C dX7_findsArrow_15 (k := 1) (by decide) rfl rX7_in tX7_f13 rfl ?_
    refine ra_iload C dX7_findsArrow_18 rfl ?_
    obtain ⟨x20, h20, hf⟩ := rob hf
    refine ra_iald C dX7_findsArrow_20 h20 (by decide) rfl rfl ?_
    refine ra_iconst C dX7_findsArrow_21 (v := 2) (by decide) ?_
    refine ra_icmp_ne C dX7_findsArrow_22 (tgt := 52) (by decide) (fun c22 => ?_) (fun c22 => ?_)
    · replace hf := rif_n c22 hf
      exact bX7_findsArrow_b52 C hrec5 _ _ _ _ _ hf
    · replace hf := rif_p c22 hf
      refine ra_aload_n C dX7_findsArrow_25 rfl rfl ?_
      refine ra_getR C dX7_findsArrow_26 (k := 2) (by decide) rfl rX7_in tX7_f17 rfl ?_
      refine ra_iload C dX7_findsArrow_29 rfl ?_
      obtain ⟨x31, h31, hf⟩ := rob hf
      refine ra_iald C dX7_findsArrow_31 h31 (by decide) rfl rfl ?_
      refine ra_iload_n C dX7_findsArrow_32 rfl rfl ?_
      refine ra_icmp_ne C dX7_findsArrow_33 (tgt := 52) (by decide) (fun c33 => ?_) (fun c33 => ?_)
      · replace hf := rif_n c33 hf
        exact bX7_findsArrow_b52 C hrec5 _ _ _ _ _ hf
      · replace hf := rif_p c33 hf
        refine ra_aload_n C dX7_findsArrow_36 rfl rfl ?_
        refine ra_getR C dX7_findsArrow_37 (k := 3) (by decide) rfl rX7_in tX7_f20 rfl ?_
        refine ra_iload C dX7_findsArrow_40 rfl ?_
        obtain ⟨x42, h42, hf⟩ := rob hf
        refine ra_iald C dX7_findsArrow_42 h42 (by decide) rfl rfl ?_
        refine ra_iload_n C dX7_findsArrow_43 rfl rfl ?_
        refine ra_icmp_ne C dX7_findsArrow_44 (tgt := 52) (by decide) (fun c44 => ?_) (fun c44 => ?_)
        · replace hf := rif_n c44 hf
          exact bX7_findsArrow_b52 C hrec5 _ _ _ _ _ hf
        · replace hf := rif_p c44 hf
          refine ra_iload C dX7_findsArrow_47 rfl ?_
          refine ra_goto C dX7_findsArrow_49 (tgt := 53) (by decide) ?_
          refine ra_mask [true, true, true, false, true] ?_
          exact bX7_findsArrow_b53 C hrec5 _ _ _ _ _ hf
set_option maxRecDepth 100000 in
set_option maxHeartbeats 4000000 in
theorem bX7_findsArrow_b5 {G : rG} {X : rX} (C : rC G X 5 cX7_findsArrow (some .int) 0) {r : Int32 × rS} : ∀ (n : Nat) (l1 : Int32) (l2 : Int32) (l3 : Int32) (l4 : Int32) (S : rS), fX7_findsArrow_b5 n l1 l2 l3 l4 S = some r → rAW G X 5 (some (.int r.1), r.2) 5 [some (.ref G.2.2.2.1), some (.int l1), some (.int l2), some (.int l3), some (.int l4)] [] S := by
  intro n
  induction n with
  | zero => intro l1 l2 l3 l4 S hf; cases hf
  | succ n ih => intro l1 l2 l3 l4 S hf; exact bX7_findsArrow_b5_body C (fun l1 l2 l3 l4 S h => ih l1 l2 l3 l4 S h) l1 l2 l3 l4 S hf
set_option maxRecDepth 100000 in
set_option maxHeartbeats 4000000 in
theorem bX7_findsArrow {G : rG} {X : rX} (C : rC G X 5 cX7_findsArrow (some .int) 0) (a0 : Int32) (a1 : Int32) (S : rS) {r : Int32 × rS} (hf : fX7_findsArrow a0 a1 S = some r) : rAW G X 5 (some (.int r.1), r.2) 0 [some (.ref G.2.2.2.1), some (.int a0), some (.int a1), none, none] [] S := by
  unfold fX7_findsArrow at hf
  refine ra_iconst C dX7_findsArrow_0 (v := (-1)) (by decide) ?_
  refine ra_istore_n C dX7_findsArrow_1 rfl (by decide) ?_
  refine ra_iconst C dX7_findsArrow_2 (v := 0) (by decide) ?_
  refine ra_istore C dX7_findsArrow_3 (by decide) ?_
  exact bX7_findsArrow_b5 C _ _ _ _ _ _ hf
set_option maxRecDepth 100000 in
set_option maxHeartbeats 4000000 in
theorem mX7_findsArrow {l : Launch} {G : rG} {a0 : Int32} {a1 : Int32} {S : rS} {r : Int32 × rS} (hf : fX7_findsArrow a0 a1 S = some r) : rM l G 0 yX7_findsArrow cX7_findsArrow 5 (some .int) [.ref G.2.2.2.1, .int a0, .int a1] S (some (.int r.1), r.2) :=
  rM_of (lo0 := [some (.ref G.2.2.2.1), some (.int a0), some (.int a1), none, none]) (by decide +kernel) rfl (Nat.le_of_ble_eq_true rfl) (by simp [Value.category]) rfl (fun X _ C => bX7_findsArrow C a0 a1 S hf)
set_option maxRecDepth 100000 in
set_option maxHeartbeats 4000000 in
theorem bX7_makesType {G : rG} {X : rX} (C : rC G X 4 cX7_makesType (some .int) 0) (a0 : Int32) (a1 : Int32) (a2 : Int32) (S : rS) {r : Int32 × rS} (hf : fX7_makesType a0 a1 a2 S = some r) : rAW G X 4 (some (.int r.1), r.2) 0 [some (.ref G.2.2.2.1), some (.int a0), some (.int a1), some (.int a2)] [] S := by
  unfold fX7_makesType at hf
  refine ra_aload_n C dX7_makesType_0 rfl rfl ?_
  refine ra_getR C dX7_makesType_1 (k := 1) (by decide) rfl rX7_in tX7_f13 rfl ?_
  refine ra_aload_n C dX7_makesType_4 rfl rfl ?_
  refine ra_getI C dX7_makesType_5 (k := 0) (by decide) rfl rX7_in tX7_f7 rfl ?_
  refine ra_iload_n C dX7_makesType_8 rfl rfl ?_
  obtain ⟨S9, h9, hf⟩ := rob hf
  refine ra_iast C dX7_makesType_9 h9 (by decide) rfl rfl ?_
  refine ra_aload_n C dX7_makesType_10 rfl rfl ?_
  refine ra_getR C dX7_makesType_11 (k := 2) (by decide) rfl rX7_in tX7_f17 rfl ?_
  refine ra_aload_n C dX7_makesType_14 rfl rfl ?_
  refine ra_getI C dX7_makesType_15 (k := 0) (by decide) rfl rX7_in tX7_f7 rfl ?_
  refine ra_iload_n C dX7_makesType_18 rfl rfl ?_
  obtain ⟨S19, h19, hf⟩ := rob hf
  refine ra_iast C dX7_makesType_19 h19 (by decide) rfl rfl ?_
  refine ra_aload_n C dX7_makesType_20 rfl rfl ?_
  refine ra_getR C dX7_makesType_21 (k := 3) (by decide) rfl rX7_in tX7_f20 rfl ?_
  refine ra_aload_n C dX7_makesType_24 rfl rfl ?_
  refine ra_getI C dX7_makesType_25 (k := 0) (by decide) rfl rX7_in tX7_f7 rfl ?_
  refine ra_iload_n C dX7_makesType_28 rfl rfl ?_
  obtain ⟨S29, h29, hf⟩ := rob hf
  refine ra_iast C dX7_makesType_29 h29 (by decide) rfl rfl ?_
  refine ra_aload_n C dX7_makesType_30 rfl rfl ?_
  refine ra_dup C dX7_makesType_31 rfl ?_
  refine ra_getI C dX7_makesType_32 (k := 0) (by decide) rfl rX7_in tX7_f7 rfl ?_
  refine ra_iconst C dX7_makesType_35 (v := 1) (by decide) ?_
  refine ra_iadd C dX7_makesType_36 ?_
  refine ra_putI C dX7_makesType_37 (k := 0) (by decide) rfl rX7_in tX7_f7 rfl rfl (tyX7_ok 0 (by decide)) ?_
  refine ra_aload_n C dX7_makesType_40 rfl rfl ?_
  refine ra_getI C dX7_makesType_41 (k := 0) (by decide) rfl rX7_in tX7_f7 rfl ?_
  refine ra_iconst C dX7_makesType_44 (v := 1) (by decide) ?_
  refine ra_isub C dX7_makesType_45 ?_
  obtain rfl := Option.some.inj hf
  exact ra_iret C dX7_makesType_46
set_option maxRecDepth 100000 in
set_option maxHeartbeats 4000000 in
theorem mX7_makesType {l : Launch} {G : rG} {a0 : Int32} {a1 : Int32} {a2 : Int32} {S : rS} {r : Int32 × rS} (hf : fX7_makesType a0 a1 a2 S = some r) : rM l G 0 yX7_makesType cX7_makesType 4 (some .int) [.ref G.2.2.2.1, .int a0, .int a1, .int a2] S (some (.int r.1), r.2) :=
  rM_of (lo0 := [some (.ref G.2.2.2.1), some (.int a0), some (.int a1), some (.int a2)]) (by decide +kernel) rfl (Nat.le_of_ble_eq_true rfl) (by simp [Value.category]) rfl (fun X _ C => bX7_makesType C a0 a1 a2 S hf)
set_option maxRecDepth 100000 in
set_option maxHeartbeats 4000000 in
theorem bX7_arrowOf_b23 {G : rG} {X : rX} (C : rC G X 4 cX7_arrowOf (some .int) 1) {r : Int32 × rS} (s0 : Int32) (S : rS) (hf : fX7_arrowOf_b23 s0 S = some r) : rAW G X 4 (some (.int r.1), r.2) 23 [none, none, none, none] [.int s0] S := by
  unfold fX7_arrowOf_b23 at hf
  obtain rfl := Option.some.inj hf
  exact ra_iret C dX7_arrowOf_23
set_option maxRecDepth 100000 in
set_option maxHeartbeats 4000000 in
theorem bX7_arrowOf {G : rG} {X : rX} (C : rC G X 4 cX7_arrowOf (some .int) 1) (a0 : Int32) (a1 : Int32) (S : rS) {r : Int32 × rS} (hf : fX7_arrowOf a0 a1 S = some r) : rAW G X 4 (some (.int r.1), r.2) 0 [some (.ref G.2.2.2.1), some (.int a0), some (.int a1), none] [] S := by
  unfold fX7_arrowOf at hf
  refine ra_aload_n C dX7_arrowOf_0 rfl rfl ?_
  refine ra_iload_n C dX7_arrowOf_1 rfl rfl ?_
  refine ra_iload_n C dX7_arrowOf_2 rfl rfl ?_
  obtain ⟨q3, h3, hf⟩ := rob hf
  refine ra_callVi C dX7_arrowOf_3 (mX7_findsArrow h3) rfl tX7_l163 tX7_i_X7_findsArrow tX7_s_X7_findsArrow tX7_init tX7_c_X7_findsArrow tX7_d_X7_findsArrow (by decide) (by decide) (Nat.le_of_ble_eq_true rfl) ?_
  refine ra_istore_n C dX7_arrowOf_6 rfl (by decide) ?_
  refine ra_iload_n C dX7_arrowOf_7 rfl rfl ?_
  refine ra_iconst C dX7_arrowOf_8 (v := (-1)) (by decide) ?_
  refine ra_icmp_eq C dX7_arrowOf_9 (tgt := 16) (by decide) (fun c9 => ?_) (fun c9 => ?_)
  · replace hf := rif_p c9 hf
    refine ra_aload_n C dX7_arrowOf_16 rfl rfl ?_
    refine ra_iconst C dX7_arrowOf_17 (v := 2) (by decide) ?_
    refine ra_iload_n C dX7_arrowOf_18 rfl rfl ?_
    refine ra_iload_n C dX7_arrowOf_19 rfl rfl ?_
    obtain ⟨q20, h20, hf⟩ := rob hf
    refine ra_callVi C dX7_arrowOf_20 (mX7_makesType h20) rfl tX7_l167 tX7_i_X7_makesType tX7_s_X7_makesType tX7_init tX7_c_X7_makesType tX7_d_X7_makesType (by decide) (by decide) (Nat.le_of_ble_eq_true rfl) ?_
    refine ra_mask [false, false, false, false] ?_
    exact bX7_arrowOf_b23 C _ _ hf
  · replace hf := rif_n c9 hf
    refine ra_iload_n C dX7_arrowOf_12 rfl rfl ?_
    refine ra_goto C dX7_arrowOf_13 (tgt := 23) (by decide) ?_
    refine ra_mask [false, false, false, false] ?_
    exact bX7_arrowOf_b23 C _ _ hf
set_option maxRecDepth 100000 in
set_option maxHeartbeats 4000000 in
theorem mX7_arrowOf {l : Launch} {G : rG} {a0 : Int32} {a1 : Int32} {S : rS} {r : Int32 × rS} (hf : fX7_arrowOf a0 a1 S = some r) : rM l G 1 yX7_arrowOf cX7_arrowOf 4 (some .int) [.ref G.2.2.2.1, .int a0, .int a1] S (some (.int r.1), r.2) :=
  rM_of (lo0 := [some (.ref G.2.2.2.1), some (.int a0), some (.int a1), none]) (by decide +kernel) rfl (Nat.le_of_ble_eq_true rfl) (by simp [Value.category]) rfl (fun X _ C => bX7_arrowOf C a0 a1 S hf)
set_option maxRecDepth 100000 in
set_option maxHeartbeats 4000000 in
theorem bX7_arrow_b56 {G : rG} {X : rX} (C : rC G X 4 cX7_arrow (some .int) 2) {r : Int32 × rS} (l1 : Int32) (l2 : Int32) (s0 : Int32) (S : rS) (hf : fX7_arrow_b56 l1 l2 s0 S = some r) : rAW G X 4 (some (.int r.1), r.2) 56 [some (.ref G.2.2.2.1), some (.int l1), some (.int l2), none] [.int s0, .ref G.2.2.2.1] S := by
  unfold fX7_arrow_b56 at hf
  obtain ⟨q56, h56, hf⟩ := rob hf
  refine ra_callVi C dX7_arrow_56 (mX7_fails h56) rfl tX7_l175 tX7_i_X7_fails tX7_s_X7_fails tX7_init tX7_c_X7_fails tX7_d_X7_fails (by decide) (by decide) (Nat.le_of_ble_eq_true rfl) ?_
  refine ra_if_eq C dX7_arrow_59 (tgt := 64) (by decide) (fun c59 => ?_) (fun c59 => ?_)
  · replace hf := rif_p c59 hf
    refine ra_aload_n C dX7_arrow_64 rfl rfl ?_
    refine ra_iload_n C dX7_arrow_65 rfl rfl ?_
    refine ra_iload_n C dX7_arrow_66 rfl rfl ?_
    obtain ⟨q67, h67, hf⟩ := rob hf
    refine ra_callVi C dX7_arrow_67 (mX7_arrowOf h67) rfl tX7_l178 tX7_i_X7_arrowOf tX7_s_X7_arrowOf tX7_init tX7_c_X7_arrowOf tX7_d_X7_arrowOf (by decide) (by decide) (Nat.le_of_ble_eq_true rfl) ?_
    obtain rfl := Option.some.inj hf
    exact ra_iret C dX7_arrow_70
  · replace hf := rif_n c59 hf
    refine ra_iconst C dX7_arrow_62 (v := 0) (by decide) ?_
    obtain rfl := Option.some.inj hf
    exact ra_iret C dX7_arrow_63
set_option maxRecDepth 100000 in
set_option maxHeartbeats 4000000 in
theorem bX7_arrow_b55 {G : rG} {X : rX} (C : rC G X 4 cX7_arrow (some .int) 2) {r : Int32 × rS} (l1 : Int32) (l2 : Int32) (S : rS) (hf : fX7_arrow_b55 l1 l2 S = some r) : rAW G X 4 (some (.int r.1), r.2) 55 [some (.ref G.2.2.2.1), some (.int l1), some (.int l2), none] [.ref G.2.2.2.1] S := by
  unfold fX7_arrow_b55 at hf
  refine ra_iconst C dX7_arrow_55 (v := 0) (by decide) ?_
  exact bX7_arrow_b56 C _ _ _ _ hf
set_option maxRecDepth 100000 in
set_option maxHeartbeats 4000000 in
theorem bX7_arrow_b21 {G : rG} {X : rX} (C : rC G X 4 cX7_arrow (some .int) 2) {r : Int32 × rS} (l1 : Int32) (l2 : Int32) (s0 : Int32) (S : rS) (hf : fX7_arrow_b21 l1 l2 s0 S = some r) : rAW G X 4 (some (.int r.1), r.2) 21 [some (.ref G.2.2.2.1), some (.int l1), some (.int l2), none] [.int s0] S := by
  unfold fX7_arrow_b21 at hf
  refine ra_istore_n C dX7_arrow_21 rfl (by decide) ?_
  refine ra_aload_n C dX7_arrow_22 rfl rfl ?_
  refine ra_iload_n C dX7_arrow_23 rfl rfl ?_
  refine ra_if_ne C dX7_arrow_24 (tgt := 31) (by decide) (fun c24 => ?_) (fun c24 => ?_)
  · replace hf := rif_n c24 hf
    refine ra_aload_n C dX7_arrow_31 rfl rfl ?_
    refine ra_iload_n C dX7_arrow_32 rfl rfl ?_
    refine ra_iload_n C dX7_arrow_33 rfl rfl ?_
    obtain ⟨q34, h34, hf⟩ := rob hf
    refine ra_callVi C dX7_arrow_34 (mX7_findsArrow h34) rfl tX7_l163 tX7_i_X7_findsArrow tX7_s_X7_findsArrow tX7_init tX7_c_X7_findsArrow tX7_d_X7_findsArrow (by decide) (by decide) (Nat.le_of_ble_eq_true rfl) ?_
    refine ra_iconst C dX7_arrow_37 (v := (-1)) (by decide) ?_
    refine ra_icmp_ne C dX7_arrow_38 (tgt := 55) (by decide) (fun c38 => ?_) (fun c38 => ?_)
    · replace hf := rif_n c38 hf
      refine ra_mask [true, true, true, false] ?_
      exact bX7_arrow_b55 C _ _ _ hf
    · replace hf := rif_p c38 hf
      refine ra_aload_n C dX7_arrow_41 rfl rfl ?_
      refine ra_getI C dX7_arrow_42 (k := 0) (by decide) rfl rX7_in tX7_f7 rfl ?_
      refine ra_sipush C dX7_arrow_45 (v := 200) (by decide) ?_
      refine ra_icmp_ne C dX7_arrow_48 (tgt := 55) (by decide) (fun c48 => ?_) (fun c48 => ?_)
      · replace hf := rif_n c48 hf
        refine ra_mask [true, true, true, false] ?_
        exact bX7_arrow_b55 C _ _ _ hf
      · replace hf := rif_p c48 hf
        refine ra_iconst C dX7_arrow_51 (v := 2) (by decide) ?_
        refine ra_goto C dX7_arrow_52 (tgt := 56) (by decide) ?_
        refine ra_mask [true, true, true, false] ?_
        exact bX7_arrow_b56 C _ _ _ _ hf
  · replace hf := rif_p c24 hf
    refine ra_iconst C dX7_arrow_27 (v := 1) (by decide) ?_
    refine ra_goto C dX7_arrow_28 (tgt := 56) (by decide) ?_
    refine ra_mask [true, true, true, false] ?_
    exact bX7_arrow_b56 C _ _ _ _ hf
set_option maxRecDepth 100000 in
set_option maxHeartbeats 4000000 in
theorem bX7_arrow_b20 {G : rG} {X : rX} (C : rC G X 4 cX7_arrow (some .int) 2) {r : Int32 × rS} (l1 : Int32) (l2 : Int32) (S : rS) (hf : fX7_arrow_b20 l1 l2 S = some r) : rAW G X 4 (some (.int r.1), r.2) 20 [some (.ref G.2.2.2.1), some (.int l1), some (.int l2), none] [] S := by
  unfold fX7_arrow_b20 at hf
  refine ra_iconst C dX7_arrow_20 (v := 0) (by decide) ?_
  exact bX7_arrow_b21 C _ _ _ _ hf
set_option maxRecDepth 100000 in
set_option maxHeartbeats 4000000 in
theorem bX7_arrow {G : rG} {X : rX} (C : rC G X 4 cX7_arrow (some .int) 2) (a0 : Int32) (a1 : Int32) (S : rS) {r : Int32 × rS} (hf : fX7_arrow a0 a1 S = some r) : rAW G X 4 (some (.int r.1), r.2) 0 [some (.ref G.2.2.2.1), some (.int a0), some (.int a1), none] [] S := by
  unfold fX7_arrow at hf
  refine ra_aload_n C dX7_arrow_0 rfl rfl ?_
  refine ra_iload_n C dX7_arrow_1 rfl rfl ?_
  obtain ⟨q2, h2, hf⟩ := rob hf
  refine ra_callVi C dX7_arrow_2 (mX7_isType h2) rfl tX7_l171 tX7_i_X7_isType tX7_s_X7_isType tX7_init tX7_c_X7_isType tX7_d_X7_isType (by decide) (by decide) (Nat.le_of_ble_eq_true rfl) ?_
  refine ra_if_eq C dX7_arrow_5 (tgt := 20) (by decide) (fun c5 => ?_) (fun c5 => ?_)
  · replace hf := rif_p c5 hf
    exact bX7_arrow_b20 C _ _ _ hf
  · replace hf := rif_n c5 hf
    refine ra_aload_n C dX7_arrow_8 rfl rfl ?_
    refine ra_iload_n C dX7_arrow_9 rfl rfl ?_
    obtain ⟨q10, h10, hf⟩ := rob hf
    refine ra_callVi C dX7_arrow_10 (mX7_isType h10) rfl tX7_l171 tX7_i_X7_isType tX7_s_X7_isType tX7_init tX7_c_X7_isType tX7_d_X7_isType (by decide) (by decide) (Nat.le_of_ble_eq_true rfl) ?_
    refine ra_if_eq C dX7_arrow_13 (tgt := 20) (by decide) (fun c13 => ?_) (fun c13 => ?_)
    · replace hf := rif_p c13 hf
      exact bX7_arrow_b20 C _ _ _ hf
    · replace hf := rif_n c13 hf
      refine ra_iconst C dX7_arrow_16 (v := 1) (by decide) ?_
      refine ra_goto C dX7_arrow_17 (tgt := 21) (by decide) ?_
      exact bX7_arrow_b21 C _ _ _ _ hf
set_option maxRecDepth 100000 in
set_option maxHeartbeats 4000000 in
theorem mX7_arrow {l : Launch} {G : rG} {a0 : Int32} {a1 : Int32} {S : rS} {r : Int32 × rS} (hf : fX7_arrow a0 a1 S = some r) : rM l G 2 yX7_arrow cX7_arrow 4 (some .int) [.ref G.2.2.2.1, .int a0, .int a1] S (some (.int r.1), r.2) :=
  rM_of (lo0 := [some (.ref G.2.2.2.1), some (.int a0), some (.int a1), none]) (by decide +kernel) rfl (Nat.le_of_ble_eq_true rfl) (by simp [Value.category]) rfl (fun X _ C => bX7_arrow C a0 a1 S hf)
set_option maxRecDepth 100000 in
set_option maxHeartbeats 4000000 in
theorem bX7_type_b82 {G : rG} {X : rX} (C : rC G X 3 cX7_type (some .int) 2) {r : Int32 × rS} (s0 : Int32) (S : rS) (hf : fX7_type_b82 s0 S = some r) : rAW G X 3 (some (.int r.1), r.2) 82 [none, none, none] [.int s0] S := by
  unfold fX7_type_b82 at hf
  obtain rfl := Option.some.inj hf
  exact ra_iret C dX7_type_82
set_option maxRecDepth 100000 in
set_option maxHeartbeats 4000000 in
theorem bX7_type_b27 {G : rG} {X : rX} (C : rC G X 3 cX7_type (some .int) 2) {r : Int32 × rS} (l1 : Int32) (l2 : Int32) (s0 : Int32) (S : rS) (hf : fX7_type_b27 l1 l2 s0 S = some r) : rAW G X 3 (some (.int r.1), r.2) 27 [some (.ref G.2.2.2.1), some (.int l1), some (.int l2)] [.int s0, .ref G.2.2.2.1] S := by
  unfold fX7_type_b27 at hf
  obtain ⟨q27, h27, hf⟩ := rob hf
  refine ra_callVi C dX7_type_27 (mX7_fails h27) rfl tX7_l175 tX7_i_X7_fails tX7_s_X7_fails tX7_init tX7_c_X7_fails tX7_d_X7_fails (by decide) (by decide) (Nat.le_of_ble_eq_true rfl) ?_
  refine ra_if_eq C dX7_type_30 (tgt := 35) (by decide) (fun c30 => ?_) (fun c30 => ?_)
  · replace hf := rif_p c30 hf
    refine ra_iload_n C dX7_type_35 rfl rfl ?_
    refine ra_if_ne C dX7_type_36 (tgt := 48) (by decide) (fun c36 => ?_) (fun c36 => ?_)
    · replace hf := rif_n c36 hf
      refine ra_aload_n C dX7_type_48 rfl rfl ?_
      refine ra_getR C dX7_type_49 (k := 1) (by decide) rfl rX7_in tX7_f13 rfl ?_
      refine ra_iload_n C dX7_type_52 rfl rfl ?_
      obtain ⟨x53, h53, hf⟩ := rob hf
      refine ra_iald C dX7_type_53 h53 (by decide) rfl rfl ?_
      refine ra_iconst C dX7_type_54 (v := 2) (by decide) ?_
      refine ra_icmp_eq C dX7_type_55 (tgt := 62) (by decide) (fun c55 => ?_) (fun c55 => ?_)
      · replace hf := rif_p c55 hf
        refine ra_iload_n C dX7_type_62 rfl rfl ?_
        refine ra_iconst C dX7_type_63 (v := 1) (by decide) ?_
        refine ra_icmp_ne C dX7_type_64 (tgt := 76) (by decide) (fun c64 => ?_) (fun c64 => ?_)
        · replace hf := rif_n c64 hf
          refine ra_aload_n C dX7_type_76 rfl rfl ?_
          refine ra_getR C dX7_type_77 (k := 3) (by decide) rfl rX7_in tX7_f20 rfl ?_
          refine ra_iload_n C dX7_type_80 rfl rfl ?_
          obtain ⟨x81, h81, hf⟩ := rob hf
          refine ra_iald C dX7_type_81 h81 (by decide) rfl rfl ?_
          refine ra_mask [false, false, false] ?_
          exact bX7_type_b82 C _ _ hf
        · replace hf := rif_p c64 hf
          refine ra_aload_n C dX7_type_67 rfl rfl ?_
          refine ra_getR C dX7_type_68 (k := 2) (by decide) rfl rX7_in tX7_f17 rfl ?_
          refine ra_iload_n C dX7_type_71 rfl rfl ?_
          obtain ⟨x72, h72, hf⟩ := rob hf
          refine ra_iald C dX7_type_72 h72 (by decide) rfl rfl ?_
          refine ra_goto C dX7_type_73 (tgt := 82) (by decide) ?_
          refine ra_mask [false, false, false] ?_
          exact bX7_type_b82 C _ _ hf
      · replace hf := rif_n c55 hf
        refine ra_iconst C dX7_type_58 (v := (-1)) (by decide) ?_
        refine ra_goto C dX7_type_59 (tgt := 82) (by decide) ?_
        refine ra_mask [false, false, false] ?_
        exact bX7_type_b82 C _ _ hf
    · replace hf := rif_p c36 hf
      refine ra_aload_n C dX7_type_39 rfl rfl ?_
      refine ra_getR C dX7_type_40 (k := 1) (by decide) rfl rX7_in tX7_f13 rfl ?_
      refine ra_iload_n C dX7_type_43 rfl rfl ?_
      obtain ⟨x44, h44, hf⟩ := rob hf
      refine ra_iald C dX7_type_44 h44 (by decide) rfl rfl ?_
      refine ra_goto C dX7_type_45 (tgt := 82) (by decide) ?_
      refine ra_mask [false, false, false] ?_
      exact bX7_type_b82 C _ _ hf
  · replace hf := rif_n c30 hf
    refine ra_iconst C dX7_type_33 (v := 0) (by decide) ?_
    obtain rfl := Option.some.inj hf
    exact ra_iret C dX7_type_34
set_option maxRecDepth 100000 in
set_option maxHeartbeats 4000000 in
theorem bX7_type {G : rG} {X : rX} (C : rC G X 3 cX7_type (some .int) 2) (a0 : Int32) (a1 : Int32) (S : rS) {r : Int32 × rS} (hf : fX7_type a0 a1 S = some r) : rAW G X 3 (some (.int r.1), r.2) 0 [some (.ref G.2.2.2.1), some (.int a0), some (.int a1)] [] S := by
  unfold fX7_type at hf
  refine ra_aload_n C dX7_type_0 rfl rfl ?_
  refine ra_aload_n C dX7_type_1 rfl rfl ?_
  refine ra_iload_n C dX7_type_2 rfl rfl ?_
  obtain ⟨q3, h3, hf⟩ := rob hf
  refine ra_callVi C dX7_type_3 (mX7_isType h3) rfl tX7_l171 tX7_i_X7_isType tX7_s_X7_isType tX7_init tX7_c_X7_isType tX7_d_X7_isType (by decide) (by decide) (Nat.le_of_ble_eq_true rfl) ?_
  refine ra_if_ne C dX7_type_6 (tgt := 13) (by decide) (fun c6 => ?_) (fun c6 => ?_)
  · replace hf := rif_n c6 hf
    refine ra_iload_n C dX7_type_13 rfl rfl ?_
    refine ra_iconst C dX7_type_14 (v := 0) (by decide) ?_
    refine ra_iconst C dX7_type_15 (v := 2) (by decide) ?_
    obtain ⟨q16, h16, hf⟩ := rob hf
    refine ra_callSi C dX7_type_16 (mX7_isIn h16) rfl tX7_l159 tX7_st_X7_isIn tX7_init tX7_c_X7_isIn tX7_d_X7_isIn (by decide) (by decide) (Nat.le_of_ble_eq_true rfl) ?_
    refine ra_if_eq C dX7_type_19 (tgt := 26) (by decide) (fun c19 => ?_) (fun c19 => ?_)
    · replace hf := rif_p c19 hf
      refine ra_iconst C dX7_type_26 (v := 2) (by decide) ?_
      exact bX7_type_b27 C _ _ _ _ hf
    · replace hf := rif_n c19 hf
      refine ra_iconst C dX7_type_22 (v := 0) (by decide) ?_
      refine ra_goto C dX7_type_23 (tgt := 27) (by decide) ?_
      exact bX7_type_b27 C _ _ _ _ hf
  · replace hf := rif_p c6 hf
    refine ra_iconst C dX7_type_9 (v := 1) (by decide) ?_
    refine ra_goto C dX7_type_10 (tgt := 27) (by decide) ?_
    exact bX7_type_b27 C _ _ _ _ hf
set_option maxRecDepth 100000 in
set_option maxHeartbeats 4000000 in
theorem mX7_type {l : Launch} {G : rG} {a0 : Int32} {a1 : Int32} {S : rS} {r : Int32 × rS} (hf : fX7_type a0 a1 S = some r) : rM l G 2 yX7_type cX7_type 3 (some .int) [.ref G.2.2.2.1, .int a0, .int a1] S (some (.int r.1), r.2) :=
  rM_of (lo0 := [some (.ref G.2.2.2.1), some (.int a0), some (.int a1)]) (by decide +kernel) rfl (Nat.le_of_ble_eq_true rfl) (by simp [Value.category]) rfl (fun X _ C => bX7_type C a0 a1 S hf)
set_option maxRecDepth 100000 in
set_option maxHeartbeats 4000000 in
theorem bX7_findsItem_b54 {G : rG} {X : rX} (C : rC G X 6 cX7_findsItem (some .int) 0) {r : Int32 × rS} {rec9 : Int32 → Int32 → Int32 → Int32 → Int32 → rS → Option (Int32 × rS)} (hrec9 : ∀ (l1 : Int32) (l2 : Int32) (l3 : Int32) (l4 : Int32) (l5 : Int32) (S : rS), rec9 l1 l2 l3 l4 l5 S = some r → rAW G X 6 (some (.int r.1), r.2) 9 [some (.ref G.2.2.2.1), some (.int l1), some (.int l2), some (.int l3), some (.int l4), some (.int l5)] [] S) (l1 : Int32) (l2 : Int32) (l3 : Int32) (l5 : Int32) (s0 : Int32) (S : rS) (hf : fX7_findsItem_b54 rec9 l1 l2 l3 l5 s0 S = some r) : rAW G X 6 (some (.int r.1), r.2) 54 [some (.ref G.2.2.2.1), some (.int l1), some (.int l2), some (.int l3), none, some (.int l5)] [.int s0] S := by
  unfold fX7_findsItem_b54 at hf
  refine ra_istore C dX7_findsItem_54 (by decide) ?_
  refine ra_iinc C dX7_findsItem_56 rfl (v := 1) (by decide) (by decide) ?_
  refine ra_goto C dX7_findsItem_59 (tgt := 9) (by decide) ?_
  exact hrec9 _ _ _ _ _ _ hf
set_option maxRecDepth 100000 in
set_option maxHeartbeats 4000000 in
theorem bX7_findsItem_b52 {G : rG} {X : rX} (C : rC G X 6 cX7_findsItem (some .int) 0) {r : Int32 × rS} {rec9 : Int32 → Int32 → Int32 → Int32 → Int32 → rS → Option (Int32 × rS)} (hrec9 : ∀ (l1 : Int32) (l2 : Int32) (l3 : Int32) (l4 : Int32) (l5 : Int32) (S : rS), rec9 l1 l2 l3 l4 l5 S = some r → rAW G X 6 (some (.int r.1), r.2) 9 [some (.ref G.2.2.2.1), some (.int l1), some (.int l2), some (.int l3), some (.int l4), some (.int l5)] [] S) (l1 : Int32) (l2 : Int32) (l3 : Int32) (l4 : Int32) (l5 : Int32) (S : rS) (hf : fX7_findsItem_b52 rec9 l1 l2 l3 l4 l5 S = some r) : rAW G X 6 (some (.int r.1), r.2) 52 [some (.ref G.2.2.2.1), some (.int l1), some (.int l2), some (.int l3), some (.int l4), some (.int l5)] [] S := by
  unfold fX7_findsItem_b52 at hf
  refine ra_iload C dX7_findsItem_52 rfl ?_
  refine ra_mask [true, true, true, true, false, true] ?_
  exact bX7_findsItem_b54 C hrec9 _ _ _ _ _ _ hf
set_option maxRecDepth 100000 in
set_option maxHeartbeats 4000000 in
theorem bX7_findsItem_b9_body {G : rG} {X : rX} (C : rC G X 6 cX7_findsItem (some .int) 0) {r : Int32 × rS} {rec9 : Int32 → Int32 → Int32 → Int32 → Int32 → rS → Option (Int32 × rS)} (hrec9 : ∀ (l1 : Int32) (l2 : Int32) (l3 : Int32) (l4 : Int32) (l5 : Int32) (S : rS), rec9 l1 l2 l3 l4 l5 S = some r → rAW G X 6 (some (.int r.1), r.2) 9 [some (.ref G.2.2.2.1), some (.int l1), some (.int l2), some (.int l3), some (.int l4), some (.int l5)] [] S) (l1 : Int32) (l2 : Int32) (l3 : Int32) (l4 : Int32) (l5 : Int32) (S : rS) (hf : fX7_findsItem_b9_body rec9 l1 l2 l3 l4 l5 S = some r) : rAW G X 6 (some (.int r.1), r.2) 9 [some (.ref G.2.2.2.1), some (.int l1), some (.int l2), some (.int l3), some (.int l4), some (.int l5)] [] S := by
  unfold fX7_findsItem_b9_body at hf
  refine ra_iload C dX7_findsItem_9 rfl ?_
  refine ra_bipush C dX7_findsItem_11 (v := 60) (by decide) ?_
  refine ra_iload_n C dX7_findsItem_13 rfl rfl ?_
  refine ra_imul C dX7_findsItem_14 ?_
  refine ra_aload_n C dX7_findsItem_15 rfl rfl ?_
  refine ra_getR C dX7_findsItem_16 (k := 5) (by decide) rfl rX7_in tX7_f23 rfl ?_
  refine ra_iload_n C dX7_findsItem_19 rfl rfl ?_
  obtain ⟨x20, h20, hf⟩ := rob hf
  refine ra_iald C dX7_findsItem_20 h20 (by decide) rfl rfl ?_
  refine ra_iadd C dX7_findsItem_21 ?_
  refine ra_icmp_ge C dX7_findsItem_22 (tgt := 62) (by decide) (fun c22 => ?_) (fun c22 => ?_)
  · replace hf := rif_p c22 hf
    refine ra_iload C dX7_findsItem_62 rfl ?_
    obtain rfl := Option.some.inj hf
    exact ra_iret C dX7_findsItem_64
  · replace hf := rif_n c22 hf
    refine ra_aload_n C dX7_findsItem_25 rfl rfl ?_
    refine ra_getR C dX7_findsItem_26 (k := 6) (by decide) rfl rX7_in tX7_f26 rfl ?_
    refine ra_iload C dX7_findsItem_29 rfl ?_
    obtain ⟨x31, h31, hf⟩ := rob hf
    refine ra_iald C dX7_findsItem_31 h31 (by decide) rfl rfl ?_
    refine ra_iload_n C dX7_findsItem_32 rfl rfl ?_
    refine ra_icmp_ne C dX7_findsItem_33 (tgt := 52) (by decide) (fun c33 => ?_) (fun c33 => ?_)
    · replace hf := rif_n c33 hf
      exact bX7_findsItem_b52 C hrec9 _ _ _ _ _ _ hf
    · replace hf := rif_p c33 hf
      refine ra_aload_n C dX7_findsItem_36 rfl rfl ?_
      refine ra_getR C dX7_findsItem_37 (k := 7) (by decide) rfl rX7_in tX7_f29 rfl ?_
      refine ra_iload C dX7_findsItem_40 rfl ?_
      obtain ⟨x42, h42, hf⟩ := rob hf
      refine ra_iald C dX7_findsItem_42 h42 (by decide) rfl rfl ?_
      refine ra_iload_n C dX7_findsItem_43 rfl rfl ?_
      refine ra_icmp_ne C dX7_findsItem_44 (tgt := 52) (by decide) (fun c44 => ?_) (fun c44 => ?_)
      · replace hf := rif_n c44 hf
        exact bX7_findsItem_b52 C hrec9 _ _ _ _ _ _ hf
      · replace hf := rif_p c44 hf
        refine ra_iload C dX7_findsItem_47 rfl ?_
        refine ra_goto C dX7_findsItem_49 (tgt := 54) (by decide) ?_
        refine ra_mask [true, true, true, true, false, true] ?_
        exact bX7_findsItem_b54 C hrec9 _ _ _ _ _ _ hf
set_option maxRecDepth 100000 in
set_option maxHeartbeats 4000000 in
theorem bX7_findsItem_b9 {G : rG} {X : rX} (C : rC G X 6 cX7_findsItem (some .int) 0) {r : Int32 × rS} : ∀ (n : Nat) (l1 : Int32) (l2 : Int32) (l3 : Int32) (l4 : Int32) (l5 : Int32) (S : rS), fX7_findsItem_b9 n l1 l2 l3 l4 l5 S = some r → rAW G X 6 (some (.int r.1), r.2) 9 [some (.ref G.2.2.2.1), some (.int l1), some (.int l2), some (.int l3), some (.int l4), some (.int l5)] [] S := by
  intro n
  induction n with
  | zero => intro l1 l2 l3 l4 l5 S hf; cases hf
  | succ n ih => intro l1 l2 l3 l4 l5 S hf; exact bX7_findsItem_b9_body C (fun l1 l2 l3 l4 l5 S h => ih l1 l2 l3 l4 l5 S h) l1 l2 l3 l4 l5 S hf
set_option maxRecDepth 100000 in
set_option maxHeartbeats 4000000 in
theorem bX7_findsItem {G : rG} {X : rX} (C : rC G X 6 cX7_findsItem (some .int) 0) (a0 : Int32) (a1 : Int32) (a2 : Int32) (S : rS) {r : Int32 × rS} (hf : fX7_findsItem a0 a1 a2 S = some r) : rAW G X 6 (some (.int r.1), r.2) 0 [some (.ref G.2.2.2.1), some (.int a0), some (.int a1), some (.int a2), none, none] [] S := by
  unfold fX7_findsItem at hf
  refine ra_iconst C dX7_findsItem_0 (v := (-1)) (by decide) ?_
  refine ra_istore C dX7_findsItem_1 (by decide) ?_
  refine ra_bipush C dX7_findsItem_3 (v := 60) (by decide) ?_
  refine ra_iload_n C dX7_findsItem_5 rfl rfl ?_
  refine ra_imul C dX7_findsItem_6 ?_
  refine ra_istore C dX7_findsItem_7 (by decide) ?_
  exact bX7_findsItem_b9 C _ _ _ _ _ _ _ hf
set_option maxRecDepth 100000 in
set_option maxHeartbeats 4000000 in
theorem mX7_findsItem {l : Launch} {G : rG} {a0 : Int32} {a1 : Int32} {a2 : Int32} {S : rS} {r : Int32 × rS} (hf : fX7_findsItem a0 a1 a2 S = some r) : rM l G 0 yX7_findsItem cX7_findsItem 6 (some .int) [.ref G.2.2.2.1, .int a0, .int a1, .int a2] S (some (.int r.1), r.2) :=
  rM_of (lo0 := [some (.ref G.2.2.2.1), some (.int a0), some (.int a1), some (.int a2), none, none]) (by decide +kernel) rfl (Nat.le_of_ble_eq_true rfl) (by simp [Value.category]) rfl (fun X _ C => bX7_findsItem C a0 a1 a2 S hf)
set_option maxRecDepth 100000 in
set_option maxHeartbeats 4000000 in
theorem bX7_puts {G : rG} {X : rX} (C : rC G X 7 cX7_puts none 0) (a0 : Int32) (a1 : Int32) (a2 : Int32) (a3 : Int32) (a4 : Int32) (S : rS) {r : rS} (hf : fX7_puts a0 a1 a2 a3 a4 S = some r) : rAW G X 7 (none, r) 0 [some (.ref G.2.2.2.1), some (.int a0), some (.int a1), some (.int a2), some (.int a3), some (.int a4), none] [] S := by
  unfold fX7_puts at hf
  refine ra_bipush C dX7_puts_0 (v := 60) (by decide) ?_
  refine ra_iload_n C dX7_puts_2 rfl rfl ?_
  refine ra_imul C dX7_puts_3 ?_
  refine ra_aload_n C dX7_puts_4 rfl rfl ?_
  refine ra_getR C dX7_puts_5 (k := 5) (by decide) rfl rX7_in tX7_f23 rfl ?_
  refine ra_iload_n C dX7_puts_8 rfl rfl ?_
  obtain ⟨x9, h9, hf⟩ := rob hf
  refine ra_iald C dX7_puts_9 h9 (by decide) rfl rfl ?_
  refine ra_iadd C dX7_puts_10 ?_
  refine ra_istore C dX7_puts_11 (by decide) ?_
  refine ra_aload_n C dX7_puts_13 rfl rfl ?_
  refine ra_getR C dX7_puts_14 (k := 6) (by decide) rfl rX7_in tX7_f26 rfl ?_
  refine ra_iload C dX7_puts_17 rfl ?_
  refine ra_iload_n C dX7_puts_19 rfl rfl ?_
  obtain ⟨S20, h20, hf⟩ := rob hf
  refine ra_iast C dX7_puts_20 h20 (by decide) rfl rfl ?_
  refine ra_aload_n C dX7_puts_21 rfl rfl ?_
  refine ra_getR C dX7_puts_22 (k := 7) (by decide) rfl rX7_in tX7_f29 rfl ?_
  refine ra_iload C dX7_puts_25 rfl ?_
  refine ra_iload_n C dX7_puts_27 rfl rfl ?_
  obtain ⟨S28, h28, hf⟩ := rob hf
  refine ra_iast C dX7_puts_28 h28 (by decide) rfl rfl ?_
  refine ra_aload_n C dX7_puts_29 rfl rfl ?_
  refine ra_getR C dX7_puts_30 (k := 8) (by decide) rfl rX7_in tX7_f32 rfl ?_
  refine ra_iload C dX7_puts_33 rfl ?_
  refine ra_iload C dX7_puts_35 rfl ?_
  obtain ⟨S37, h37, hf⟩ := rob hf
  refine ra_iast C dX7_puts_37 h37 (by decide) rfl rfl ?_
  refine ra_aload_n C dX7_puts_38 rfl rfl ?_
  refine ra_getR C dX7_puts_39 (k := 9) (by decide) rfl rX7_in tX7_f35 rfl ?_
  refine ra_iload C dX7_puts_42 rfl ?_
  refine ra_iload C dX7_puts_44 rfl ?_
  obtain ⟨S46, h46, hf⟩ := rob hf
  refine ra_iast C dX7_puts_46 h46 (by decide) rfl rfl ?_
  refine ra_aload_n C dX7_puts_47 rfl rfl ?_
  refine ra_getR C dX7_puts_48 (k := 5) (by decide) rfl rX7_in tX7_f23 rfl ?_
  refine ra_iload_n C dX7_puts_51 rfl rfl ?_
  refine ra_dup2 C dX7_puts_52 rfl rfl ?_
  obtain ⟨x53, h53, hf⟩ := rob hf
  refine ra_iald C dX7_puts_53 h53 (by decide) rfl rfl ?_
  refine ra_iconst C dX7_puts_54 (v := 1) (by decide) ?_
  refine ra_iadd C dX7_puts_55 ?_
  obtain ⟨S56, h56, hf⟩ := rob hf
  refine ra_iast C dX7_puts_56 h56 (by decide) rfl rfl ?_
  obtain rfl := Option.some.inj hf
  exact ra_vret C dX7_puts_57
set_option maxRecDepth 100000 in
set_option maxHeartbeats 4000000 in
theorem mX7_puts {l : Launch} {G : rG} {a0 : Int32} {a1 : Int32} {a2 : Int32} {a3 : Int32} {a4 : Int32} {S : rS} {r : rS} (hf : fX7_puts a0 a1 a2 a3 a4 S = some r) : rM l G 0 yX7_puts cX7_puts 7 none [.ref G.2.2.2.1, .int a0, .int a1, .int a2, .int a3, .int a4] S (none, r) :=
  rM_of (lo0 := [some (.ref G.2.2.2.1), some (.int a0), some (.int a1), some (.int a2), some (.int a3), some (.int a4), none]) (by decide +kernel) rfl (Nat.le_of_ble_eq_true rfl) (by simp [Value.category]) rfl (fun X _ C => bX7_puts C a0 a1 a2 a3 a4 S hf)
set_option maxRecDepth 100000 in
set_option maxHeartbeats 4000000 in
theorem bX7_adds_b139 {G : rG} {X : rX} (C : rC G X 7 cX7_adds (some .boolean) 1) {r : Int32 × rS} (s0 : Int32) (S : rS) (hf : fX7_adds_b139 s0 S = some r) : rAW G X 7 (some (.int r.1), r.2) 139 [none, none, none, none, none, none, none] [.int s0] S := by
  unfold fX7_adds_b139 at hf
  obtain ⟨rfl, hn⟩ := rbo_spec hf
  exact ra_zret C hn dX7_adds_139
set_option maxRecDepth 100000 in
set_option maxHeartbeats 4000000 in
theorem bX7_adds_b117 {G : rG} {X : rX} (C : rC G X 7 cX7_adds (some .boolean) 1) {r : Int32 × rS} (l1 : Int32) (l2 : Int32) (l3 : Int32) (l4 : Int32) (l5 : Int32) (S : rS) (hf : fX7_adds_b117 l1 l2 l3 l4 l5 S = some r) : rAW G X 7 (some (.int r.1), r.2) 117 [some (.ref G.2.2.2.1), some (.int l1), some (.int l2), some (.int l3), some (.int l4), some (.int l5), none] [] S := by
  unfold fX7_adds_b117 at hf
  refine ra_aload_n C dX7_adds_117 rfl rfl ?_
  refine ra_bipush C dX7_adds_118 (v := 100) (by decide) ?_
  refine ra_iload_n C dX7_adds_120 rfl rfl ?_
  refine ra_iload_n C dX7_adds_121 rfl rfl ?_
  refine ra_iload_n C dX7_adds_122 rfl rfl ?_
  refine ra_iload C dX7_adds_123 rfl ?_
  obtain ⟨q125, h125, hf⟩ := rob hf
  refine ra_callVv C dX7_adds_125 (mX7_puts h125) rfl tX7_l184 tX7_i_X7_puts tX7_s_X7_puts tX7_init tX7_c_X7_puts tX7_d_X7_puts (by decide) (by decide) (Nat.le_of_ble_eq_true rfl) ?_
  refine ra_iload C dX7_adds_128 rfl ?_
  refine ra_iconst C dX7_adds_130 (v := (-1)) (by decide) ?_
  refine ra_icmp_eq C dX7_adds_131 (tgt := 138) (by decide) (fun c131 => ?_) (fun c131 => ?_)
  · replace hf := rif_p c131 hf
    refine ra_iconst C dX7_adds_138 (v := 0) (by decide) ?_
    refine ra_mask [false, false, false, false, false, false, false] ?_
    exact bX7_adds_b139 C _ _ hf
  · replace hf := rif_n c131 hf
    refine ra_iconst C dX7_adds_134 (v := 1) (by decide) ?_
    refine ra_goto C dX7_adds_135 (tgt := 139) (by decide) ?_
    refine ra_mask [false, false, false, false, false, false, false] ?_
    exact bX7_adds_b139 C _ _ hf
set_option maxRecDepth 100000 in
set_option maxHeartbeats 4000000 in
theorem bX7_adds_b31_body {G : rG} {X : rX} (C : rC G X 7 cX7_adds (some .boolean) 1) {r : Int32 × rS} {rec31 : Int32 → Int32 → Int32 → Int32 → Int32 → Int32 → rS → Option (Int32 × rS)} (hrec31 : ∀ (l1 : Int32) (l2 : Int32) (l3 : Int32) (l4 : Int32) (l5 : Int32) (l6 : Int32) (S : rS), rec31 l1 l2 l3 l4 l5 l6 S = some r → rAW G X 7 (some (.int r.1), r.2) 31 [some (.ref G.2.2.2.1), some (.int l1), some (.int l2), some (.int l3), some (.int l4), some (.int l5), some (.int l6)] [] S) (l1 : Int32) (l2 : Int32) (l3 : Int32) (l4 : Int32) (l5 : Int32) (l6 : Int32) (S : rS) (hf : fX7_adds_b31_body rec31 l1 l2 l3 l4 l5 l6 S = some r) : rAW G X 7 (some (.int r.1), r.2) 31 [some (.ref G.2.2.2.1), some (.int l1), some (.int l2), some (.int l3), some (.int l4), some (.int l5), some (.int l6)] [] S := by
  unfold fX7_adds_b31_body at hf
  refine ra_iload C dX7_adds_31 rfl ?_
  refine ra_sipush C dX7_adds_33 (v := 6000) (by decide) ?_
  refine ra_aload_n C dX7_adds_36 rfl rfl ?_
  refine ra_getR C dX7_adds_37 (k := 5) (by decide) rfl rX7_in tX7_f23 rfl ?_
  refine ra_bipush C dX7_adds_40 (v := 100) (by decide) ?_
  obtain ⟨x42, h42, hf⟩ := rob hf
  refine ra_iald C dX7_adds_42 h42 (by decide) rfl rfl ?_
  refine ra_iadd C dX7_adds_43 ?_
  refine ra_icmp_ge C dX7_adds_44 (tgt := 117) (by decide) (fun c44 => ?_) (fun c44 => ?_)
  · replace hf := rif_p c44 hf
    refine ra_mask [true, true, true, true, true, true, false] ?_
    exact bX7_adds_b117 C _ _ _ _ _ _ hf
  · replace hf := rif_n c44 hf
    refine ra_aload_n C dX7_adds_47 rfl rfl ?_
    refine ra_getR C dX7_adds_48 (k := 6) (by decide) rfl rX7_in tX7_f26 rfl ?_
    refine ra_iload C dX7_adds_51 rfl ?_
    refine ra_aload_n C dX7_adds_53 rfl rfl ?_
    refine ra_getR C dX7_adds_54 (k := 6) (by decide) rfl rX7_in tX7_f26 rfl ?_
    refine ra_iload C dX7_adds_57 rfl ?_
    refine ra_iconst C dX7_adds_59 (v := 1) (by decide) ?_
    refine ra_iadd C dX7_adds_60 ?_
    obtain ⟨x61, h61, hf⟩ := rob hf
    refine ra_iald C dX7_adds_61 h61 (by decide) rfl rfl ?_
    obtain ⟨S62, h62, hf⟩ := rob hf
    refine ra_iast C dX7_adds_62 h62 (by decide) rfl rfl ?_
    refine ra_aload_n C dX7_adds_63 rfl rfl ?_
    refine ra_getR C dX7_adds_64 (k := 7) (by decide) rfl rX7_in tX7_f29 rfl ?_
    refine ra_iload C dX7_adds_67 rfl ?_
    refine ra_aload_n C dX7_adds_69 rfl rfl ?_
    refine ra_getR C dX7_adds_70 (k := 7) (by decide) rfl rX7_in tX7_f29 rfl ?_
    refine ra_iload C dX7_adds_73 rfl ?_
    refine ra_iconst C dX7_adds_75 (v := 1) (by decide) ?_
    refine ra_iadd C dX7_adds_76 ?_
    obtain ⟨x77, h77, hf⟩ := rob hf
    refine ra_iald C dX7_adds_77 h77 (by decide) rfl rfl ?_
    obtain ⟨S78, h78, hf⟩ := rob hf
    refine ra_iast C dX7_adds_78 h78 (by decide) rfl rfl ?_
    refine ra_aload_n C dX7_adds_79 rfl rfl ?_
    refine ra_getR C dX7_adds_80 (k := 8) (by decide) rfl rX7_in tX7_f32 rfl ?_
    refine ra_iload C dX7_adds_83 rfl ?_
    refine ra_aload_n C dX7_adds_85 rfl rfl ?_
    refine ra_getR C dX7_adds_86 (k := 8) (by decide) rfl rX7_in tX7_f32 rfl ?_
    refine ra_iload C dX7_adds_89 rfl ?_
    refine ra_iconst C dX7_adds_91 (v := 1) (by decide) ?_
    refine ra_iadd C dX7_adds_92 ?_
    obtain ⟨x93, h93, hf⟩ := rob hf
    refine ra_iald C dX7_adds_93 h93 (by decide) rfl rfl ?_
    obtain ⟨S94, h94, hf⟩ := rob hf
    refine ra_iast C dX7_adds_94 h94 (by decide) rfl rfl ?_
    refine ra_aload_n C dX7_adds_95 rfl rfl ?_
    refine ra_getR C dX7_adds_96 (k := 9) (by decide) rfl rX7_in tX7_f35 rfl ?_
    refine ra_iload C dX7_adds_99 rfl ?_
    refine ra_aload_n C dX7_adds_101 rfl rfl ?_
    refine ra_getR C dX7_adds_102 (k := 9) (by decide) rfl rX7_in tX7_f35 rfl ?_
    refine ra_iload C dX7_adds_105 rfl ?_
    refine ra_iconst C dX7_adds_107 (v := 1) (by decide) ?_
    refine ra_iadd C dX7_adds_108 ?_
    obtain ⟨x109, h109, hf⟩ := rob hf
    refine ra_iald C dX7_adds_109 h109 (by decide) rfl rfl ?_
    obtain ⟨S110, h110, hf⟩ := rob hf
    refine ra_iast C dX7_adds_110 h110 (by decide) rfl rfl ?_
    refine ra_iinc C dX7_adds_111 rfl (v := 1) (by decide) (by decide) ?_
    refine ra_goto C dX7_adds_114 (tgt := 31) (by decide) ?_
    exact hrec31 _ _ _ _ _ _ _ hf
set_option maxRecDepth 100000 in
set_option maxHeartbeats 4000000 in
theorem bX7_adds_b31 {G : rG} {X : rX} (C : rC G X 7 cX7_adds (some .boolean) 1) {r : Int32 × rS} : ∀ (n : Nat) (l1 : Int32) (l2 : Int32) (l3 : Int32) (l4 : Int32) (l5 : Int32) (l6 : Int32) (S : rS), fX7_adds_b31 n l1 l2 l3 l4 l5 l6 S = some r → rAW G X 7 (some (.int r.1), r.2) 31 [some (.ref G.2.2.2.1), some (.int l1), some (.int l2), some (.int l3), some (.int l4), some (.int l5), some (.int l6)] [] S := by
  intro n
  induction n with
  | zero => intro l1 l2 l3 l4 l5 l6 S hf; cases hf
  | succ n ih => intro l1 l2 l3 l4 l5 l6 S hf; exact bX7_adds_b31_body C (fun l1 l2 l3 l4 l5 l6 S h => ih l1 l2 l3 l4 l5 l6 S h) l1 l2 l3 l4 l5 l6 S hf
set_option maxRecDepth 100000 in
set_option maxHeartbeats 4000000 in
theorem bX7_adds {G : rG} {X : rX} (C : rC G X 7 cX7_adds (some .boolean) 1) (a0 : Int32) (a1 : Int32) (a2 : Int32) (a3 : Int32) (S : rS) {r : Int32 × rS} (hf : fX7_adds a0 a1 a2 a3 S = some r) : rAW G X 7 (some (.int r.1), r.2) 0 [some (.ref G.2.2.2.1), some (.int a0), some (.int a1), some (.int a2), some (.int a3), none, none] [] S := by
  unfold fX7_adds at hf
  refine ra_aload_n C dX7_adds_0 rfl rfl ?_
  refine ra_bipush C dX7_adds_1 (v := 100) (by decide) ?_
  refine ra_iload_n C dX7_adds_3 rfl rfl ?_
  refine ra_iload_n C dX7_adds_4 rfl rfl ?_
  obtain ⟨q5, h5, hf⟩ := rob hf
  refine ra_callVi C dX7_adds_5 (mX7_findsItem h5) rfl tX7_l181 tX7_i_X7_findsItem tX7_s_X7_findsItem tX7_init tX7_c_X7_findsItem tX7_d_X7_findsItem (by decide) (by decide) (Nat.le_of_ble_eq_true rfl) ?_
  refine ra_istore C dX7_adds_8 (by decide) ?_
  refine ra_iload C dX7_adds_10 rfl ?_
  refine ra_iconst C dX7_adds_12 (v := (-1)) (by decide) ?_
  refine ra_icmp_eq C dX7_adds_13 (tgt := 117) (by decide) (fun c13 => ?_) (fun c13 => ?_)
  · replace hf := rif_p c13 hf
    exact bX7_adds_b117 C _ _ _ _ _ _ hf
  · replace hf := rif_n c13 hf
    refine ra_aload_n C dX7_adds_16 rfl rfl ?_
    refine ra_getR C dX7_adds_17 (k := 5) (by decide) rfl rX7_in tX7_f23 rfl ?_
    refine ra_bipush C dX7_adds_20 (v := 100) (by decide) ?_
    refine ra_dup2 C dX7_adds_22 rfl rfl ?_
    obtain ⟨x23, h23, hf⟩ := rob hf
    refine ra_iald C dX7_adds_23 h23 (by decide) rfl rfl ?_
    refine ra_iconst C dX7_adds_24 (v := 1) (by decide) ?_
    refine ra_isub C dX7_adds_25 ?_
    obtain ⟨S26, h26, hf⟩ := rob hf
    refine ra_iast C dX7_adds_26 h26 (by decide) rfl rfl ?_
    refine ra_iload C dX7_adds_27 rfl ?_
    refine ra_istore C dX7_adds_29 (by decide) ?_
    exact bX7_adds_b31 C _ _ _ _ _ _ _ _ hf
set_option maxRecDepth 100000 in
set_option maxHeartbeats 4000000 in
theorem mX7_adds {l : Launch} {G : rG} {a0 : Int32} {a1 : Int32} {a2 : Int32} {a3 : Int32} {S : rS} {r : Int32 × rS} (hf : fX7_adds a0 a1 a2 a3 S = some r) : rM l G 1 yX7_adds cX7_adds 7 (some .boolean) [.ref G.2.2.2.1, .int a0, .int a1, .int a2, .int a3] S (some (.int r.1), r.2) :=
  rM_of (lo0 := [some (.ref G.2.2.2.1), some (.int a0), some (.int a1), some (.int a2), some (.int a3), none, none]) (by decide +kernel) rfl (Nat.le_of_ble_eq_true rfl) (by simp [Value.category]) rfl (fun X _ C => bX7_adds C a0 a1 a2 a3 S hf)
set_option maxRecDepth 100000 in
set_option maxHeartbeats 4000000 in
theorem bX7_addType_b83 {G : rG} {X : rX} (C : rC G X 5 cX7_addType (some .int) 2) {r : Int32 × rS} (l1 : Int32) (s0 : Int32) (S : rS) (hf : fX7_addType_b83 l1 s0 S = some r) : rAW G X 5 (some (.int r.1), r.2) 83 [some (.ref G.2.2.2.1), some (.int l1), none, none, none] [.int s0] S := by
  unfold fX7_addType_b83 at hf
  refine ra_istore C dX7_addType_83 (by decide) ?_
  refine ra_aload_n C dX7_addType_85 rfl rfl ?_
  refine ra_iconst C dX7_addType_86 (v := 0) (by decide) ?_
  refine ra_iload_n C dX7_addType_87 rfl rfl ?_
  refine ra_iload C dX7_addType_88 rfl ?_
  refine ra_iconst C dX7_addType_90 (v := 0) (by decide) ?_
  obtain ⟨q91, h91, hf⟩ := rob hf
  refine ra_callVi C dX7_addType_91 (mX7_adds h91) rfl tX7_l191 tX7_i_X7_adds tX7_s_X7_adds tX7_init tX7_c_X7_adds tX7_d_X7_adds (by decide) (by decide) (Nat.le_of_ble_eq_true rfl) ?_
  refine ra_pop C dX7_addType_94 rfl ?_
  refine ra_iload C dX7_addType_95 rfl ?_
  obtain rfl := Option.some.inj hf
  exact ra_iret C dX7_addType_97
set_option maxRecDepth 100000 in
set_option maxHeartbeats 4000000 in
theorem bX7_addType_b59 {G : rG} {X : rX} (C : rC G X 5 cX7_addType (some .int) 2) {r : Int32 × rS} (l1 : Int32) (l2 : Int32) (s0 : Int32) (S : rS) (hf : fX7_addType_b59 l1 l2 s0 S = some r) : rAW G X 5 (some (.int r.1), r.2) 59 [some (.ref G.2.2.2.1), some (.int l1), some (.int l2), none, none] [.int s0, .ref G.2.2.2.1] S := by
  unfold fX7_addType_b59 at hf
  obtain ⟨q59, h59, hf⟩ := rob hf
  refine ra_callVi C dX7_addType_59 (mX7_fails h59) rfl tX7_l175 tX7_i_X7_fails tX7_s_X7_fails tX7_init tX7_c_X7_fails tX7_d_X7_fails (by decide) (by decide) (Nat.le_of_ble_eq_true rfl) ?_
  refine ra_if_eq C dX7_addType_62 (tgt := 67) (by decide) (fun c62 => ?_) (fun c62 => ?_)
  · replace hf := rif_p c62 hf
    refine ra_iload_n C dX7_addType_67 rfl rfl ?_
    refine ra_iconst C dX7_addType_68 (v := (-1)) (by decide) ?_
    refine ra_icmp_ne C dX7_addType_69 (tgt := 82) (by decide) (fun c69 => ?_) (fun c69 => ?_)
    · replace hf := rif_n c69 hf
      refine ra_iload_n C dX7_addType_82 rfl rfl ?_
      refine ra_mask [true, true, false, false, false] ?_
      exact bX7_addType_b83 C _ _ _ hf
    · replace hf := rif_p c69 hf
      refine ra_aload_n C dX7_addType_72 rfl rfl ?_
      refine ra_iconst C dX7_addType_73 (v := 1) (by decide) ?_
      refine ra_iconst C dX7_addType_74 (v := (-1)) (by decide) ?_
      refine ra_iconst C dX7_addType_75 (v := (-1)) (by decide) ?_
      obtain ⟨q76, h76, hf⟩ := rob hf
      refine ra_callVi C dX7_addType_76 (mX7_makesType h76) rfl tX7_l167 tX7_i_X7_makesType tX7_s_X7_makesType tX7_init tX7_c_X7_makesType tX7_d_X7_makesType (by decide) (by decide) (Nat.le_of_ble_eq_true rfl) ?_
      refine ra_goto C dX7_addType_79 (tgt := 83) (by decide) ?_
      refine ra_mask [true, true, false, false, false] ?_
      exact bX7_addType_b83 C _ _ _ hf
  · replace hf := rif_n c62 hf
    refine ra_iconst C dX7_addType_65 (v := 0) (by decide) ?_
    obtain rfl := Option.some.inj hf
    exact ra_iret C dX7_addType_66
set_option maxRecDepth 100000 in
set_option maxHeartbeats 4000000 in
theorem bX7_addType_b58 {G : rG} {X : rX} (C : rC G X 5 cX7_addType (some .int) 2) {r : Int32 × rS} (l1 : Int32) (l2 : Int32) (S : rS) (hf : fX7_addType_b58 l1 l2 S = some r) : rAW G X 5 (some (.int r.1), r.2) 58 [some (.ref G.2.2.2.1), some (.int l1), some (.int l2), none, none] [.ref G.2.2.2.1] S := by
  unfold fX7_addType_b58 at hf
  refine ra_iconst C dX7_addType_58 (v := 0) (by decide) ?_
  exact bX7_addType_b59 C _ _ _ _ hf
set_option maxRecDepth 100000 in
set_option maxHeartbeats 4000000 in
theorem bX7_addType_b18 {G : rG} {X : rX} (C : rC G X 5 cX7_addType (some .int) 2) {r : Int32 × rS} (l1 : Int32) (l2 : Int32) (s0 : Int32) (S : rS) (hf : fX7_addType_b18 l1 l2 s0 S = some r) : rAW G X 5 (some (.int r.1), r.2) 18 [some (.ref G.2.2.2.1), some (.int l1), some (.int l2), none, none] [.int s0] S := by
  unfold fX7_addType_b18 at hf
  refine ra_istore_n C dX7_addType_18 rfl (by decide) ?_
  refine ra_aload_n C dX7_addType_19 rfl rfl ?_
  refine ra_iload_n C dX7_addType_20 rfl rfl ?_
  refine ra_if_ne C dX7_addType_21 (tgt := 28) (by decide) (fun c21 => ?_) (fun c21 => ?_)
  · replace hf := rif_n c21 hf
    refine ra_iload_n C dX7_addType_28 rfl rfl ?_
    obtain ⟨q29, h29, hf⟩ := rob hf
    refine ra_callSi C dX7_addType_29 (mX7_isName h29) rfl tX7_l188 tX7_st_X7_isName tX7_init tX7_c_X7_isName tX7_d_X7_isName (by decide) (by decide) (Nat.le_of_ble_eq_true rfl) ?_
    refine ra_if_ne C dX7_addType_32 (tgt := 39) (by decide) (fun c32 => ?_) (fun c32 => ?_)
    · replace hf := rif_n c32 hf
      refine ra_iload_n C dX7_addType_39 rfl rfl ?_
      refine ra_iconst C dX7_addType_40 (v := (-1)) (by decide) ?_
      refine ra_icmp_ne C dX7_addType_41 (tgt := 58) (by decide) (fun c41 => ?_) (fun c41 => ?_)
      · replace hf := rif_n c41 hf
        refine ra_mask [true, true, true, false, false] ?_
        exact bX7_addType_b58 C _ _ _ hf
      · replace hf := rif_p c41 hf
        refine ra_aload_n C dX7_addType_44 rfl rfl ?_
        refine ra_getI C dX7_addType_45 (k := 0) (by decide) rfl rX7_in tX7_f7 rfl ?_
        refine ra_sipush C dX7_addType_48 (v := 200) (by decide) ?_
        refine ra_icmp_ne C dX7_addType_51 (tgt := 58) (by decide) (fun c51 => ?_) (fun c51 => ?_)
        · replace hf := rif_n c51 hf
          refine ra_mask [true, true, true, false, false] ?_
          exact bX7_addType_b58 C _ _ _ hf
        · replace hf := rif_p c51 hf
          refine ra_iconst C dX7_addType_54 (v := 3) (by decide) ?_
          refine ra_goto C dX7_addType_55 (tgt := 59) (by decide) ?_
          refine ra_mask [true, true, true, false, false] ?_
          exact bX7_addType_b59 C _ _ _ _ hf
    · replace hf := rif_p c32 hf
      refine ra_iconst C dX7_addType_35 (v := 2) (by decide) ?_
      refine ra_goto C dX7_addType_36 (tgt := 59) (by decide) ?_
      refine ra_mask [true, true, true, false, false] ?_
      exact bX7_addType_b59 C _ _ _ _ hf
  · replace hf := rif_p c21 hf
    refine ra_iconst C dX7_addType_24 (v := 1) (by decide) ?_
    refine ra_goto C dX7_addType_25 (tgt := 59) (by decide) ?_
    refine ra_mask [true, true, true, false, false] ?_
    exact bX7_addType_b59 C _ _ _ _ hf
set_option maxRecDepth 100000 in
set_option maxHeartbeats 4000000 in
theorem bX7_addType_b13 {G : rG} {X : rX} (C : rC G X 5 cX7_addType (some .int) 2) {r : Int32 × rS} (l1 : Int32) (l2 : Int32) (S : rS) (hf : fX7_addType_b13 l1 l2 S = some r) : rAW G X 5 (some (.int r.1), r.2) 13 [some (.ref G.2.2.2.1), some (.int l1), some (.int l2), none, none] [] S := by
  unfold fX7_addType_b13 at hf
  refine ra_iconst C dX7_addType_13 (v := 1) (by decide) ?_
  refine ra_goto C dX7_addType_14 (tgt := 18) (by decide) ?_
  exact bX7_addType_b18 C _ _ _ _ hf
set_option maxRecDepth 100000 in
set_option maxHeartbeats 4000000 in
theorem bX7_addType {G : rG} {X : rX} (C : rC G X 5 cX7_addType (some .int) 2) (a0 : Int32) (a1 : Int32) (S : rS) {r : Int32 × rS} (hf : fX7_addType a0 a1 S = some r) : rAW G X 5 (some (.int r.1), r.2) 0 [some (.ref G.2.2.2.1), some (.int a0), some (.int a1), none, none] [] S := by
  unfold fX7_addType at hf
  refine ra_iload_n C dX7_addType_0 rfl rfl ?_
  refine ra_iconst C dX7_addType_1 (v := (-1)) (by decide) ?_
  refine ra_icmp_eq C dX7_addType_2 (tgt := 13) (by decide) (fun c2 => ?_) (fun c2 => ?_)
  · replace hf := rif_p c2 hf
    exact bX7_addType_b13 C _ _ _ hf
  · replace hf := rif_n c2 hf
    refine ra_aload_n C dX7_addType_5 rfl rfl ?_
    refine ra_iload_n C dX7_addType_6 rfl rfl ?_
    obtain ⟨q7, h7, hf⟩ := rob hf
    refine ra_callVi C dX7_addType_7 (mX7_isType h7) rfl tX7_l171 tX7_i_X7_isType tX7_s_X7_isType tX7_init tX7_c_X7_isType tX7_d_X7_isType (by decide) (by decide) (Nat.le_of_ble_eq_true rfl) ?_
    refine ra_if_eq C dX7_addType_10 (tgt := 17) (by decide) (fun c10 => ?_) (fun c10 => ?_)
    · replace hf := rif_p c10 hf
      refine ra_iconst C dX7_addType_17 (v := 0) (by decide) ?_
      exact bX7_addType_b18 C _ _ _ _ hf
    · replace hf := rif_n c10 hf
      exact bX7_addType_b13 C _ _ _ hf
set_option maxRecDepth 100000 in
set_option maxHeartbeats 4000000 in
theorem mX7_addType {l : Launch} {G : rG} {a0 : Int32} {a1 : Int32} {S : rS} {r : Int32 × rS} (hf : fX7_addType a0 a1 S = some r) : rM l G 2 yX7_addType cX7_addType 5 (some .int) [.ref G.2.2.2.1, .int a0, .int a1] S (some (.int r.1), r.2) :=
  rM_of (lo0 := [some (.ref G.2.2.2.1), some (.int a0), some (.int a1), none, none]) (by decide +kernel) rfl (Nat.le_of_ble_eq_true rfl) (by simp [Value.category]) rfl (fun X _ C => bX7_addType C a0 a1 S hf)
set_option maxRecDepth 100000 in
set_option maxHeartbeats 4000000 in
theorem bX7_addValue_b32 {G : rG} {X : rX} (C : rC G X 4 cX7_addValue (some .boolean) 2) {r : Int32 × rS} (l1 : Int32) (l2 : Int32) (l3 : Int32) (s0 : Int32) (S : rS) (hf : fX7_addValue_b32 l1 l2 l3 s0 S = some r) : rAW G X 4 (some (.int r.1), r.2) 32 [some (.ref G.2.2.2.1), some (.int l1), some (.int l2), some (.int l3)] [.int s0, .ref G.2.2.2.1] S := by
  unfold fX7_addValue_b32 at hf
  obtain ⟨q32, h32, hf⟩ := rob hf
  refine ra_callVi C dX7_addValue_32 (mX7_fails h32) rfl tX7_l175 tX7_i_X7_fails tX7_s_X7_fails tX7_init tX7_c_X7_fails tX7_d_X7_fails (by decide) (by decide) (Nat.le_of_ble_eq_true rfl) ?_
  refine ra_if_eq C dX7_addValue_35 (tgt := 40) (by decide) (fun c35 => ?_) (fun c35 => ?_)
  · replace hf := rif_p c35 hf
    refine ra_aload_n C dX7_addValue_40 rfl rfl ?_
    refine ra_iconst C dX7_addValue_41 (v := 1) (by decide) ?_
    refine ra_iload_n C dX7_addValue_42 rfl rfl ?_
    refine ra_iload_n C dX7_addValue_43 rfl rfl ?_
    refine ra_iload_n C dX7_addValue_44 rfl rfl ?_
    obtain ⟨q45, h45, hf⟩ := rob hf
    refine ra_callVi C dX7_addValue_45 (mX7_adds h45) rfl tX7_l191 tX7_i_X7_adds tX7_s_X7_adds tX7_init tX7_c_X7_adds tX7_d_X7_adds (by decide) (by decide) (Nat.le_of_ble_eq_true rfl) ?_
    obtain ⟨rfl, hn⟩ := rbo_spec hf
    exact ra_zret C hn dX7_addValue_48
  · replace hf := rif_n c35 hf
    refine ra_iconst C dX7_addValue_38 (v := 0) (by decide) ?_
    obtain ⟨rfl, hn⟩ := rbo_spec hf
    exact ra_zret C hn dX7_addValue_39
set_option maxRecDepth 100000 in
set_option maxHeartbeats 4000000 in
theorem bX7_addValue_b31 {G : rG} {X : rX} (C : rC G X 4 cX7_addValue (some .boolean) 2) {r : Int32 × rS} (l1 : Int32) (l2 : Int32) (l3 : Int32) (S : rS) (hf : fX7_addValue_b31 l1 l2 l3 S = some r) : rAW G X 4 (some (.int r.1), r.2) 31 [some (.ref G.2.2.2.1), some (.int l1), some (.int l2), some (.int l3)] [.ref G.2.2.2.1] S := by
  unfold fX7_addValue_b31 at hf
  refine ra_iconst C dX7_addValue_31 (v := 2) (by decide) ?_
  exact bX7_addValue_b32 C _ _ _ _ _ hf
set_option maxRecDepth 100000 in
set_option maxHeartbeats 4000000 in
theorem bX7_addValue {G : rG} {X : rX} (C : rC G X 4 cX7_addValue (some .boolean) 2) (a0 : Int32) (a1 : Int32) (a2 : Int32) (S : rS) {r : Int32 × rS} (hf : fX7_addValue a0 a1 a2 S = some r) : rAW G X 4 (some (.int r.1), r.2) 0 [some (.ref G.2.2.2.1), some (.int a0), some (.int a1), some (.int a2)] [] S := by
  unfold fX7_addValue at hf
  refine ra_aload_n C dX7_addValue_0 rfl rfl ?_
  refine ra_aload_n C dX7_addValue_1 rfl rfl ?_
  refine ra_iload_n C dX7_addValue_2 rfl rfl ?_
  obtain ⟨q3, h3, hf⟩ := rob hf
  refine ra_callVi C dX7_addValue_3 (mX7_isType h3) rfl tX7_l171 tX7_i_X7_isType tX7_s_X7_isType tX7_init tX7_c_X7_isType tX7_d_X7_isType (by decide) (by decide) (Nat.le_of_ble_eq_true rfl) ?_
  refine ra_if_ne C dX7_addValue_6 (tgt := 13) (by decide) (fun c6 => ?_) (fun c6 => ?_)
  · replace hf := rif_n c6 hf
    refine ra_iload_n C dX7_addValue_13 rfl rfl ?_
    obtain ⟨q14, h14, hf⟩ := rob hf
    refine ra_callSi C dX7_addValue_14 (mX7_isName h14) rfl tX7_l188 tX7_st_X7_isName tX7_init tX7_c_X7_isName tX7_d_X7_isName (by decide) (by decide) (Nat.le_of_ble_eq_true rfl) ?_
    refine ra_if_eq C dX7_addValue_17 (tgt := 31) (by decide) (fun c17 => ?_) (fun c17 => ?_)
    · replace hf := rif_p c17 hf
      exact bX7_addValue_b31 C _ _ _ _ hf
    · replace hf := rif_n c17 hf
      refine ra_iload_n C dX7_addValue_20 rfl rfl ?_
      obtain ⟨q21, h21, hf⟩ := rob hf
      refine ra_callSi C dX7_addValue_21 (mX7_isNumber h21) rfl tX7_l195 tX7_st_X7_isNumber tX7_init tX7_c_X7_isNumber tX7_d_X7_isNumber (by decide) (by decide) (Nat.le_of_ble_eq_true rfl) ?_
      refine ra_if_eq C dX7_addValue_24 (tgt := 31) (by decide) (fun c24 => ?_) (fun c24 => ?_)
      · replace hf := rif_p c24 hf
        exact bX7_addValue_b31 C _ _ _ _ hf
      · replace hf := rif_n c24 hf
        refine ra_iconst C dX7_addValue_27 (v := 0) (by decide) ?_
        refine ra_goto C dX7_addValue_28 (tgt := 32) (by decide) ?_
        exact bX7_addValue_b32 C _ _ _ _ _ hf
  · replace hf := rif_p c6 hf
    refine ra_iconst C dX7_addValue_9 (v := 1) (by decide) ?_
    refine ra_goto C dX7_addValue_10 (tgt := 32) (by decide) ?_
    exact bX7_addValue_b32 C _ _ _ _ _ hf
set_option maxRecDepth 100000 in
set_option maxHeartbeats 4000000 in
theorem mX7_addValue {l : Launch} {G : rG} {a0 : Int32} {a1 : Int32} {a2 : Int32} {S : rS} {r : Int32 × rS} (hf : fX7_addValue a0 a1 a2 S = some r) : rM l G 2 yX7_addValue cX7_addValue 4 (some .boolean) [.ref G.2.2.2.1, .int a0, .int a1, .int a2] S (some (.int r.1), r.2) :=
  rM_of (lo0 := [some (.ref G.2.2.2.1), some (.int a0), some (.int a1), some (.int a2)]) (by decide +kernel) rfl (Nat.le_of_ble_eq_true rfl) (by simp [Value.category]) rfl (fun X _ C => bX7_addValue C a0 a1 a2 S hf)
set_option maxRecDepth 100000 in
set_option maxHeartbeats 4000000 in
theorem bX7_isStructure {G : rG} {X : rX} (C : rC G X 2 cX7_isStructure (some .boolean) 1) (a0 : Int32) (S : rS) {r : Int32 × rS} (hf : fX7_isStructure a0 S = some r) : rAW G X 2 (some (.int r.1), r.2) 0 [some (.ref G.2.2.2.1), some (.int a0)] [] S := by
  unfold fX7_isStructure at hf
  refine ra_iload_n C dX7_isStructure_0 rfl rfl ?_
  refine ra_iconst C dX7_isStructure_1 (v := 0) (by decide) ?_
  refine ra_aload_n C dX7_isStructure_2 rfl rfl ?_
  refine ra_getI C dX7_isStructure_3 (k := 4) (by decide) rfl rX7_in tX7_f198 rfl ?_
  refine ra_iconst C dX7_isStructure_6 (v := 1) (by decide) ?_
  refine ra_isub C dX7_isStructure_7 ?_
  obtain ⟨q8, h8, hf⟩ := rob hf
  refine ra_callSi C dX7_isStructure_8 (mX7_isIn h8) rfl tX7_l159 tX7_st_X7_isIn tX7_init tX7_c_X7_isIn tX7_d_X7_isIn (by decide) (by decide) (Nat.le_of_ble_eq_true rfl) ?_
  obtain ⟨rfl, hn⟩ := rbo_spec hf
  exact ra_zret C hn dX7_isStructure_11
set_option maxRecDepth 100000 in
set_option maxHeartbeats 4000000 in
theorem mX7_isStructure {l : Launch} {G : rG} {a0 : Int32} {S : rS} {r : Int32 × rS} (hf : fX7_isStructure a0 S = some r) : rM l G 1 yX7_isStructure cX7_isStructure 2 (some .boolean) [.ref G.2.2.2.1, .int a0] S (some (.int r.1), r.2) :=
  rM_of (lo0 := [some (.ref G.2.2.2.1), some (.int a0)]) (by decide +kernel) rfl (Nat.le_of_ble_eq_true rfl) (by simp [Value.category]) rfl (fun X _ C => bX7_isStructure C a0 S hf)
set_option maxRecDepth 100000 in
set_option maxHeartbeats 4000000 in
theorem bX7_addPart_b25 {G : rG} {X : rX} (C : rC G X 3 cX7_addPart (some .boolean) 2) {r : Int32 × rS} (l1 : Int32) (l2 : Int32) (s0 : Int32) (S : rS) (hf : fX7_addPart_b25 l1 l2 s0 S = some r) : rAW G X 3 (some (.int r.1), r.2) 25 [some (.ref G.2.2.2.1), some (.int l1), some (.int l2)] [.int s0, .ref G.2.2.2.1] S := by
  unfold fX7_addPart_b25 at hf
  obtain ⟨q25, h25, hf⟩ := rob hf
  refine ra_callVi C dX7_addPart_25 (mX7_fails h25) rfl tX7_l175 tX7_i_X7_fails tX7_s_X7_fails tX7_init tX7_c_X7_fails tX7_d_X7_fails (by decide) (by decide) (Nat.le_of_ble_eq_true rfl) ?_
  refine ra_if_eq C dX7_addPart_28 (tgt := 33) (by decide) (fun c28 => ?_) (fun c28 => ?_)
  · replace hf := rif_p c28 hf
    refine ra_aload_n C dX7_addPart_33 rfl rfl ?_
    refine ra_iconst C dX7_addPart_34 (v := 2) (by decide) ?_
    refine ra_iload_n C dX7_addPart_35 rfl rfl ?_
    refine ra_iload_n C dX7_addPart_36 rfl rfl ?_
    refine ra_iconst C dX7_addPart_37 (v := 0) (by decide) ?_
    obtain ⟨q38, h38, hf⟩ := rob hf
    refine ra_callVi C dX7_addPart_38 (mX7_adds h38) rfl tX7_l191 tX7_i_X7_adds tX7_s_X7_adds tX7_init tX7_c_X7_adds tX7_d_X7_adds (by decide) (by decide) (Nat.le_of_ble_eq_true rfl) ?_
    obtain ⟨rfl, hn⟩ := rbo_spec hf
    exact ra_zret C hn dX7_addPart_41
  · replace hf := rif_n c28 hf
    refine ra_iconst C dX7_addPart_31 (v := 0) (by decide) ?_
    obtain ⟨rfl, hn⟩ := rbo_spec hf
    exact ra_zret C hn dX7_addPart_32
set_option maxRecDepth 100000 in
set_option maxHeartbeats 4000000 in
theorem bX7_addPart {G : rG} {X : rX} (C : rC G X 3 cX7_addPart (some .boolean) 2) (a0 : Int32) (a1 : Int32) (S : rS) {r : Int32 × rS} (hf : fX7_addPart a0 a1 S = some r) : rAW G X 3 (some (.int r.1), r.2) 0 [some (.ref G.2.2.2.1), some (.int a0), some (.int a1)] [] S := by
  unfold fX7_addPart at hf
  refine ra_aload_n C dX7_addPart_0 rfl rfl ?_
  refine ra_aload_n C dX7_addPart_1 rfl rfl ?_
  refine ra_iload_n C dX7_addPart_2 rfl rfl ?_
  obtain ⟨q3, h3, hf⟩ := rob hf
  refine ra_callVi C dX7_addPart_3 (mX7_isStructure h3) rfl tX7_l201 tX7_i_X7_isStructure tX7_s_X7_isStructure tX7_init tX7_c_X7_isStructure tX7_d_X7_isStructure (by decide) (by decide) (Nat.le_of_ble_eq_true rfl) ?_
  refine ra_if_ne C dX7_addPart_6 (tgt := 13) (by decide) (fun c6 => ?_) (fun c6 => ?_)
  · replace hf := rif_n c6 hf
    refine ra_iload_n C dX7_addPart_13 rfl rfl ?_
    obtain ⟨q14, h14, hf⟩ := rob hf
    refine ra_callSi C dX7_addPart_14 (mX7_isName h14) rfl tX7_l188 tX7_st_X7_isName tX7_init tX7_c_X7_isName tX7_d_X7_isName (by decide) (by decide) (Nat.le_of_ble_eq_true rfl) ?_
    refine ra_if_eq C dX7_addPart_17 (tgt := 24) (by decide) (fun c17 => ?_) (fun c17 => ?_)
    · replace hf := rif_p c17 hf
      refine ra_iconst C dX7_addPart_24 (v := 2) (by decide) ?_
      exact bX7_addPart_b25 C _ _ _ _ hf
    · replace hf := rif_n c17 hf
      refine ra_iconst C dX7_addPart_20 (v := 0) (by decide) ?_
      refine ra_goto C dX7_addPart_21 (tgt := 25) (by decide) ?_
      exact bX7_addPart_b25 C _ _ _ _ hf
  · replace hf := rif_p c6 hf
    refine ra_iconst C dX7_addPart_9 (v := 1) (by decide) ?_
    refine ra_goto C dX7_addPart_10 (tgt := 25) (by decide) ?_
    exact bX7_addPart_b25 C _ _ _ _ hf
set_option maxRecDepth 100000 in
set_option maxHeartbeats 4000000 in
theorem mX7_addPart {l : Launch} {G : rG} {a0 : Int32} {a1 : Int32} {S : rS} {r : Int32 × rS} (hf : fX7_addPart a0 a1 S = some r) : rM l G 2 yX7_addPart cX7_addPart 3 (some .boolean) [.ref G.2.2.2.1, .int a0, .int a1] S (some (.int r.1), r.2) :=
  rM_of (lo0 := [some (.ref G.2.2.2.1), some (.int a0), some (.int a1)]) (by decide +kernel) rfl (Nat.le_of_ble_eq_true rfl) (by simp [Value.category]) rfl (fun X _ C => bX7_addPart C a0 a1 S hf)
set_option maxRecDepth 100000 in
set_option maxHeartbeats 4000000 in
theorem bX7_open_b81 {G : rG} {X : rX} (C : rC G X 4 cX7_open (some .int) 2) {r : Int32 × rS} {rec29 : Int32 → Int32 → Int32 → rS → Option (Int32 × rS)} (hrec29 : ∀ (l1 : Int32) (l2 : Int32) (l3 : Int32) (S : rS), rec29 l1 l2 l3 S = some r → rAW G X 4 (some (.int r.1), r.2) 29 [some (.ref G.2.2.2.1), some (.int l1), some (.int l2), some (.int l3)] [] S) (l1 : Int32) (l3 : Int32) (s0 : Int32) (s1 : Int32) (S : rS) (hf : fX7_open_b81 rec29 l1 l3 s0 s1 S = some r) : rAW G X 4 (some (.int r.1), r.2) 81 [some (.ref G.2.2.2.1), some (.int l1), none, some (.int l3)] [.int s0, .int s1] S := by
  unfold fX7_open_b81 at hf
  refine ra_iadd C dX7_open_81 ?_
  refine ra_istore_n C dX7_open_82 rfl (by decide) ?_
  refine ra_iinc C dX7_open_83 rfl (v := 1) (by decide) (by decide) ?_
  refine ra_goto C dX7_open_86 (tgt := 29) (by decide) ?_
  exact hrec29 _ _ _ _ hf
set_option maxRecDepth 100000 in
set_option maxHeartbeats 4000000 in
theorem bX7_open_b29_body {G : rG} {X : rX} (C : rC G X 4 cX7_open (some .int) 2) {r : Int32 × rS} {rec29 : Int32 → Int32 → Int32 → rS → Option (Int32 × rS)} (hrec29 : ∀ (l1 : Int32) (l2 : Int32) (l3 : Int32) (S : rS), rec29 l1 l2 l3 S = some r → rAW G X 4 (some (.int r.1), r.2) 29 [some (.ref G.2.2.2.1), some (.int l1), some (.int l2), some (.int l3)] [] S) (l1 : Int32) (l2 : Int32) (l3 : Int32) (S : rS) (hf : fX7_open_b29_body rec29 l1 l2 l3 S = some r) : rAW G X 4 (some (.int r.1), r.2) 29 [some (.ref G.2.2.2.1), some (.int l1), some (.int l2), some (.int l3)] [] S := by
  unfold fX7_open_b29_body at hf
  refine ra_iload_n C dX7_open_29 rfl rfl ?_
  refine ra_bipush C dX7_open_30 (v := 60) (by decide) ?_
  refine ra_iload_n C dX7_open_32 rfl rfl ?_
  refine ra_imul C dX7_open_33 ?_
  refine ra_aload_n C dX7_open_34 rfl rfl ?_
  refine ra_getR C dX7_open_35 (k := 5) (by decide) rfl rX7_in tX7_f23 rfl ?_
  refine ra_iload_n C dX7_open_38 rfl rfl ?_
  obtain ⟨x39, h39, hf⟩ := rob hf
  refine ra_iald C dX7_open_39 h39 (by decide) rfl rfl ?_
  refine ra_iadd C dX7_open_40 ?_
  refine ra_icmp_ge C dX7_open_41 (tgt := 89) (by decide) (fun c41 => ?_) (fun c41 => ?_)
  · replace hf := rif_p c41 hf
    refine ra_iload_n C dX7_open_89 rfl rfl ?_
    obtain rfl := Option.some.inj hf
    exact ra_iret C dX7_open_90
  · replace hf := rif_n c41 hf
    refine ra_iload_n C dX7_open_44 rfl rfl ?_
    refine ra_aload_n C dX7_open_45 rfl rfl ?_
    refine ra_aload_n C dX7_open_46 rfl rfl ?_
    refine ra_getR C dX7_open_47 (k := 6) (by decide) rfl rX7_in tX7_f26 rfl ?_
    refine ra_iload_n C dX7_open_50 rfl rfl ?_
    obtain ⟨x51, h51, hf⟩ := rob hf
    refine ra_iald C dX7_open_51 h51 (by decide) rfl rfl ?_
    refine ra_aload_n C dX7_open_52 rfl rfl ?_
    refine ra_getR C dX7_open_53 (k := 7) (by decide) rfl rX7_in tX7_f29 rfl ?_
    refine ra_iload_n C dX7_open_56 rfl rfl ?_
    obtain ⟨x57, h57, hf⟩ := rob hf
    refine ra_iald C dX7_open_57 h57 (by decide) rfl rfl ?_
    refine ra_aload_n C dX7_open_58 rfl rfl ?_
    refine ra_getR C dX7_open_59 (k := 8) (by decide) rfl rX7_in tX7_f32 rfl ?_
    refine ra_iload_n C dX7_open_62 rfl rfl ?_
    obtain ⟨x63, h63, hf⟩ := rob hf
    refine ra_iald C dX7_open_63 h63 (by decide) rfl rfl ?_
    refine ra_aload_n C dX7_open_64 rfl rfl ?_
    refine ra_getR C dX7_open_65 (k := 9) (by decide) rfl rX7_in tX7_f35 rfl ?_
    refine ra_iload_n C dX7_open_68 rfl rfl ?_
    obtain ⟨x69, h69, hf⟩ := rob hf
    refine ra_iald C dX7_open_69 h69 (by decide) rfl rfl ?_
    obtain ⟨q70, h70, hf⟩ := rob hf
    refine ra_callVi C dX7_open_70 (mX7_adds h70) rfl tX7_l191 tX7_i_X7_adds tX7_s_X7_adds tX7_init tX7_c_X7_adds tX7_d_X7_adds (by decide) (by decide) (Nat.le_of_ble_eq_true rfl) ?_
    refine ra_if_eq C dX7_open_73 (tgt := 80) (by decide) (fun c73 => ?_) (fun c73 => ?_)
    · replace hf := rif_p c73 hf
      refine ra_iconst C dX7_open_80 (v := 0) (by decide) ?_
      refine ra_mask [true, true, false, true] ?_
      exact bX7_open_b81 C hrec29 _ _ _ _ _ hf
    · replace hf := rif_n c73 hf
      refine ra_iconst C dX7_open_76 (v := 1) (by decide) ?_
      refine ra_goto C dX7_open_77 (tgt := 81) (by decide) ?_
      refine ra_mask [true, true, false, true] ?_
      exact bX7_open_b81 C hrec29 _ _ _ _ _ hf
set_option maxRecDepth 100000 in
set_option maxHeartbeats 4000000 in
theorem bX7_open_b29 {G : rG} {X : rX} (C : rC G X 4 cX7_open (some .int) 2) {r : Int32 × rS} : ∀ (n : Nat) (l1 : Int32) (l2 : Int32) (l3 : Int32) (S : rS), fX7_open_b29 n l1 l2 l3 S = some r → rAW G X 4 (some (.int r.1), r.2) 29 [some (.ref G.2.2.2.1), some (.int l1), some (.int l2), some (.int l3)] [] S := by
  intro n
  induction n with
  | zero => intro l1 l2 l3 S hf; cases hf
  | succ n ih => intro l1 l2 l3 S hf; exact bX7_open_b29_body C (fun l1 l2 l3 S h => ih l1 l2 l3 S h) l1 l2 l3 S hf
set_option maxRecDepth 100000 in
set_option maxHeartbeats 4000000 in
theorem bX7_open_b14 {G : rG} {X : rX} (C : rC G X 4 cX7_open (some .int) 2) {r : Int32 × rS} (l1 : Int32) (s0 : Int32) (S : rS) (hf : fX7_open_b14 l1 s0 S = some r) : rAW G X 4 (some (.int r.1), r.2) 14 [some (.ref G.2.2.2.1), some (.int l1), none, none] [.int s0, .ref G.2.2.2.1] S := by
  unfold fX7_open_b14 at hf
  obtain ⟨q14, h14, hf⟩ := rob hf
  refine ra_callVi C dX7_open_14 (mX7_fails h14) rfl tX7_l175 tX7_i_X7_fails tX7_s_X7_fails tX7_init tX7_c_X7_fails tX7_d_X7_fails (by decide) (by decide) (Nat.le_of_ble_eq_true rfl) ?_
  refine ra_if_eq C dX7_open_17 (tgt := 22) (by decide) (fun c17 => ?_) (fun c17 => ?_)
  · replace hf := rif_p c17 hf
    refine ra_iconst C dX7_open_22 (v := 0) (by decide) ?_
    refine ra_istore_n C dX7_open_23 rfl (by decide) ?_
    refine ra_bipush C dX7_open_24 (v := 60) (by decide) ?_
    refine ra_iload_n C dX7_open_26 rfl rfl ?_
    refine ra_imul C dX7_open_27 ?_
    refine ra_istore_n C dX7_open_28 rfl (by decide) ?_
    exact bX7_open_b29 C _ _ _ _ _ hf
  · replace hf := rif_n c17 hf
    refine ra_iconst C dX7_open_20 (v := 0) (by decide) ?_
    obtain rfl := Option.some.inj hf
    exact ra_iret C dX7_open_21
set_option maxRecDepth 100000 in
set_option maxHeartbeats 4000000 in
theorem bX7_open {G : rG} {X : rX} (C : rC G X 4 cX7_open (some .int) 2) (a0 : Int32) (S : rS) {r : Int32 × rS} (hf : fX7_open a0 S = some r) : rAW G X 4 (some (.int r.1), r.2) 0 [some (.ref G.2.2.2.1), some (.int a0), none, none] [] S := by
  unfold fX7_open at hf
  refine ra_aload_n C dX7_open_0 rfl rfl ?_
  refine ra_aload_n C dX7_open_1 rfl rfl ?_
  refine ra_iload_n C dX7_open_2 rfl rfl ?_
  obtain ⟨q3, h3, hf⟩ := rob hf
  refine ra_callVi C dX7_open_3 (mX7_isStructure h3) rfl tX7_l201 tX7_i_X7_isStructure tX7_s_X7_isStructure tX7_init tX7_c_X7_isStructure tX7_d_X7_isStructure (by decide) (by decide) (Nat.le_of_ble_eq_true rfl) ?_
  refine ra_if_eq C dX7_open_6 (tgt := 13) (by decide) (fun c6 => ?_) (fun c6 => ?_)
  · replace hf := rif_p c6 hf
    refine ra_iconst C dX7_open_13 (v := 1) (by decide) ?_
    exact bX7_open_b14 C _ _ _ hf
  · replace hf := rif_n c6 hf
    refine ra_iconst C dX7_open_9 (v := 0) (by decide) ?_
    refine ra_goto C dX7_open_10 (tgt := 14) (by decide) ?_
    exact bX7_open_b14 C _ _ _ hf
set_option maxRecDepth 100000 in
set_option maxHeartbeats 4000000 in
theorem mX7_open {l : Launch} {G : rG} {a0 : Int32} {S : rS} {r : Int32 × rS} (hf : fX7_open a0 S = some r) : rM l G 2 yX7_open cX7_open 4 (some .int) [.ref G.2.2.2.1, .int a0] S (some (.int r.1), r.2) :=
  rM_of (lo0 := [some (.ref G.2.2.2.1), some (.int a0), none, none]) (by decide +kernel) rfl (Nat.le_of_ble_eq_true rfl) (by simp [Value.category]) rfl (fun X _ C => bX7_open C a0 S hf)
set_option maxRecDepth 100000 in
set_option maxHeartbeats 4000000 in
theorem bX7_structure_b37_body {G : rG} {X : rX} (C : rC G X 2 cX7_structure (some .int) 1) {r : Int32 × rS} {rec37 : Int32 → rS → Option (Int32 × rS)} (hrec37 : ∀ (l1 : Int32) (S : rS), rec37 l1 S = some r → rAW G X 2 (some (.int r.1), r.2) 37 [some (.ref G.2.2.2.1), some (.int l1)] [] S) (l1 : Int32) (S : rS) (hf : fX7_structure_b37_body rec37 l1 S = some r) : rAW G X 2 (some (.int r.1), r.2) 37 [some (.ref G.2.2.2.1), some (.int l1)] [] S := by
  unfold fX7_structure_b37_body at hf
  refine ra_iload_n C dX7_structure_37 rfl rfl ?_
  refine ra_sipush C dX7_structure_38 (v := 6000) (by decide) ?_
  refine ra_aload_n C dX7_structure_41 rfl rfl ?_
  refine ra_getR C dX7_structure_42 (k := 5) (by decide) rfl rX7_in tX7_f23 rfl ?_
  refine ra_bipush C dX7_structure_45 (v := 100) (by decide) ?_
  obtain ⟨x47, h47, hf⟩ := rob hf
  refine ra_iald C dX7_structure_47 h47 (by decide) rfl rfl ?_
  refine ra_iadd C dX7_structure_48 ?_
  refine ra_icmp_ge C dX7_structure_49 (tgt := 90) (by decide) (fun c49 => ?_) (fun c49 => ?_)
  · replace hf := rif_p c49 hf
    refine ra_aload_n C dX7_structure_90 rfl rfl ?_
    refine ra_getR C dX7_structure_91 (k := 5) (by decide) rfl rX7_in tX7_f23 rfl ?_
    refine ra_bipush C dX7_structure_94 (v := 100) (by decide) ?_
    refine ra_iconst C dX7_structure_96 (v := 0) (by decide) ?_
    obtain ⟨S97, h97, hf⟩ := rob hf
    refine ra_iast C dX7_structure_97 h97 (by decide) rfl rfl ?_
    refine ra_aload_n C dX7_structure_98 rfl rfl ?_
    refine ra_dup C dX7_structure_99 rfl ?_
    refine ra_getI C dX7_structure_100 (k := 4) (by decide) rfl rX7_in tX7_f198 rfl ?_
    refine ra_iconst C dX7_structure_103 (v := 1) (by decide) ?_
    refine ra_iadd C dX7_structure_104 ?_
    refine ra_putI C dX7_structure_105 (k := 4) (by decide) rfl rX7_in tX7_f198 rfl rfl (tyX7_ok 4 (by decide)) ?_
    refine ra_aload_n C dX7_structure_108 rfl rfl ?_
    refine ra_getI C dX7_structure_109 (k := 4) (by decide) rfl rX7_in tX7_f198 rfl ?_
    refine ra_iconst C dX7_structure_112 (v := 1) (by decide) ?_
    refine ra_isub C dX7_structure_113 ?_
    obtain rfl := Option.some.inj hf
    exact ra_iret C dX7_structure_114
  · replace hf := rif_n c49 hf
    refine ra_aload_n C dX7_structure_52 rfl rfl ?_
    refine ra_aload_n C dX7_structure_53 rfl rfl ?_
    refine ra_getI C dX7_structure_54 (k := 4) (by decide) rfl rX7_in tX7_f198 rfl ?_
    refine ra_aload_n C dX7_structure_57 rfl rfl ?_
    refine ra_getR C dX7_structure_58 (k := 6) (by decide) rfl rX7_in tX7_f26 rfl ?_
    refine ra_iload_n C dX7_structure_61 rfl rfl ?_
    obtain ⟨x62, h62, hf⟩ := rob hf
    refine ra_iald C dX7_structure_62 h62 (by decide) rfl rfl ?_
    refine ra_aload_n C dX7_structure_63 rfl rfl ?_
    refine ra_getR C dX7_structure_64 (k := 7) (by decide) rfl rX7_in tX7_f29 rfl ?_
    refine ra_iload_n C dX7_structure_67 rfl rfl ?_
    obtain ⟨x68, h68, hf⟩ := rob hf
    refine ra_iald C dX7_structure_68 h68 (by decide) rfl rfl ?_
    refine ra_aload_n C dX7_structure_69 rfl rfl ?_
    refine ra_getR C dX7_structure_70 (k := 8) (by decide) rfl rX7_in tX7_f32 rfl ?_
    refine ra_iload_n C dX7_structure_73 rfl rfl ?_
    obtain ⟨x74, h74, hf⟩ := rob hf
    refine ra_iald C dX7_structure_74 h74 (by decide) rfl rfl ?_
    refine ra_aload_n C dX7_structure_75 rfl rfl ?_
    refine ra_getR C dX7_structure_76 (k := 9) (by decide) rfl rX7_in tX7_f35 rfl ?_
    refine ra_iload_n C dX7_structure_79 rfl rfl ?_
    obtain ⟨x80, h80, hf⟩ := rob hf
    refine ra_iald C dX7_structure_80 h80 (by decide) rfl rfl ?_
    obtain ⟨q81, h81, hf⟩ := rob hf
    refine ra_callVv C dX7_structure_81 (mX7_puts h81) rfl tX7_l184 tX7_i_X7_puts tX7_s_X7_puts tX7_init tX7_c_X7_puts tX7_d_X7_puts (by decide) (by decide) (Nat.le_of_ble_eq_true rfl) ?_
    refine ra_iinc C dX7_structure_84 rfl (v := 1) (by decide) (by decide) ?_
    refine ra_goto C dX7_structure_87 (tgt := 37) (by decide) ?_
    exact hrec37 _ _ hf
set_option maxRecDepth 100000 in
set_option maxHeartbeats 4000000 in
theorem bX7_structure_b37 {G : rG} {X : rX} (C : rC G X 2 cX7_structure (some .int) 1) {r : Int32 × rS} : ∀ (n : Nat) (l1 : Int32) (S : rS), fX7_structure_b37 n l1 S = some r → rAW G X 2 (some (.int r.1), r.2) 37 [some (.ref G.2.2.2.1), some (.int l1)] [] S := by
  intro n
  induction n with
  | zero => intro l1 S hf; cases hf
  | succ n ih => intro l1 S hf; exact bX7_structure_b37_body C (fun l1 S h => ih l1 S h) l1 S hf
set_option maxRecDepth 100000 in
set_option maxHeartbeats 4000000 in
theorem bX7_structure_b15 {G : rG} {X : rX} (C : rC G X 2 cX7_structure (some .int) 1) {r : Int32 × rS} (s0 : Int32) (S : rS) (hf : fX7_structure_b15 s0 S = some r) : rAW G X 2 (some (.int r.1), r.2) 15 [some (.ref G.2.2.2.1), none] [.int s0, .ref G.2.2.2.1] S := by
  unfold fX7_structure_b15 at hf
  obtain ⟨q15, h15, hf⟩ := rob hf
  refine ra_callVi C dX7_structure_15 (mX7_fails h15) rfl tX7_l175 tX7_i_X7_fails tX7_s_X7_fails tX7_init tX7_c_X7_fails tX7_d_X7_fails (by decide) (by decide) (Nat.le_of_ble_eq_true rfl) ?_
  refine ra_if_eq C dX7_structure_18 (tgt := 23) (by decide) (fun c18 => ?_) (fun c18 => ?_)
  · replace hf := rif_p c18 hf
    refine ra_aload_n C dX7_structure_23 rfl rfl ?_
    refine ra_getR C dX7_structure_24 (k := 5) (by decide) rfl rX7_in tX7_f23 rfl ?_
    refine ra_aload_n C dX7_structure_27 rfl rfl ?_
    refine ra_getI C dX7_structure_28 (k := 4) (by decide) rfl rX7_in tX7_f198 rfl ?_
    refine ra_iconst C dX7_structure_31 (v := 0) (by decide) ?_
    obtain ⟨S32, h32, hf⟩ := rob hf
    refine ra_iast C dX7_structure_32 h32 (by decide) rfl rfl ?_
    refine ra_sipush C dX7_structure_33 (v := 6000) (by decide) ?_
    refine ra_istore_n C dX7_structure_36 rfl (by decide) ?_
    exact bX7_structure_b37 C _ _ _ hf
  · replace hf := rif_n c18 hf
    refine ra_iconst C dX7_structure_21 (v := 0) (by decide) ?_
    obtain rfl := Option.some.inj hf
    exact ra_iret C dX7_structure_22
set_option maxRecDepth 100000 in
set_option maxHeartbeats 4000000 in
theorem bX7_structure {G : rG} {X : rX} (C : rC G X 2 cX7_structure (some .int) 1) (S : rS) {r : Int32 × rS} (hf : fX7_structure  S = some r) : rAW G X 2 (some (.int r.1), r.2) 0 [some (.ref G.2.2.2.1), none] [] S := by
  unfold fX7_structure at hf
  refine ra_aload_n C dX7_structure_0 rfl rfl ?_
  refine ra_aload_n C dX7_structure_1 rfl rfl ?_
  refine ra_getI C dX7_structure_2 (k := 4) (by decide) rfl rX7_in tX7_f198 rfl ?_
  refine ra_bipush C dX7_structure_5 (v := 30) (by decide) ?_
  refine ra_icmp_ne C dX7_structure_7 (tgt := 14) (by decide) (fun c7 => ?_) (fun c7 => ?_)
  · replace hf := rif_n c7 hf
    refine ra_iconst C dX7_structure_14 (v := 0) (by decide) ?_
    exact bX7_structure_b15 C _ _ hf
  · replace hf := rif_p c7 hf
    refine ra_iconst C dX7_structure_10 (v := 1) (by decide) ?_
    refine ra_goto C dX7_structure_11 (tgt := 15) (by decide) ?_
    exact bX7_structure_b15 C _ _ hf
set_option maxRecDepth 100000 in
set_option maxHeartbeats 4000000 in
theorem mX7_structure {l : Launch} {G : rG} {S : rS} {r : Int32 × rS} (hf : fX7_structure  S = some r) : rM l G 1 yX7_structure cX7_structure 2 (some .int) [.ref G.2.2.2.1] S (some (.int r.1), r.2) :=
  rM_of (lo0 := [some (.ref G.2.2.2.1), none]) (by decide +kernel) rfl (Nat.le_of_ble_eq_true rfl) (by simp [Value.category]) rfl (fun X _ C => bX7_structure C  S hf)
set_option maxRecDepth 100000 in
set_option maxHeartbeats 4000000 in
theorem bX7_item_b136 {G : rG} {X : rX} (C : rC G X 7 cX7_item (some .int) 2) {r : Int32 × rS} (s0 : Int32) (S : rS) (hf : fX7_item_b136 s0 S = some r) : rAW G X 7 (some (.int r.1), r.2) 136 [none, none, none, none, none, none, none] [.int s0] S := by
  unfold fX7_item_b136 at hf
  obtain rfl := Option.some.inj hf
  exact ra_iret C dX7_item_136
set_option maxRecDepth 100000 in
set_option maxHeartbeats 4000000 in
theorem bX7_item_b81 {G : rG} {X : rX} (C : rC G X 7 cX7_item (some .int) 2) {r : Int32 × rS} (l1 : Int32) (l2 : Int32) (l4 : Int32) (l6 : Int32) (s0 : Int32) (S : rS) (hf : fX7_item_b81 l1 l2 l4 l6 s0 S = some r) : rAW G X 7 (some (.int r.1), r.2) 81 [some (.ref G.2.2.2.1), some (.int l1), some (.int l2), none, some (.int l4), none, some (.int l6)] [.int s0, .ref G.2.2.2.1] S := by
  unfold fX7_item_b81 at hf
  obtain ⟨q81, h81, hf⟩ := rob hf
  refine ra_callVi C dX7_item_81 (mX7_fails h81) rfl tX7_l175 tX7_i_X7_fails tX7_s_X7_fails tX7_init tX7_c_X7_fails tX7_d_X7_fails (by decide) (by decide) (Nat.le_of_ble_eq_true rfl) ?_
  refine ra_if_eq C dX7_item_84 (tgt := 89) (by decide) (fun c84 => ?_) (fun c84 => ?_)
  · replace hf := rif_p c84 hf
    refine ra_iload C dX7_item_89 rfl ?_
    refine ra_if_ne C dX7_item_91 (tgt := 104) (by decide) (fun c91 => ?_) (fun c91 => ?_)
    · replace hf := rif_n c91 hf
      refine ra_iload C dX7_item_104 rfl ?_
      refine ra_iconst C dX7_item_106 (v := 1) (by decide) ?_
      refine ra_icmp_ne C dX7_item_107 (tgt := 120) (by decide) (fun c107 => ?_) (fun c107 => ?_)
      · replace hf := rif_n c107 hf
        refine ra_iload_n C dX7_item_120 rfl rfl ?_
        refine ra_iconst C dX7_item_121 (v := 1) (by decide) ?_
        refine ra_icmp_ne C dX7_item_122 (tgt := 135) (by decide) (fun c122 => ?_) (fun c122 => ?_)
        · replace hf := rif_n c122 hf
          refine ra_iconst C dX7_item_135 (v := 0) (by decide) ?_
          refine ra_mask [false, false, false, false, false, false, false] ?_
          exact bX7_item_b136 C _ _ hf
        · replace hf := rif_p c122 hf
          refine ra_aload_n C dX7_item_125 rfl rfl ?_
          refine ra_getR C dX7_item_126 (k := 9) (by decide) rfl rX7_in tX7_f35 rfl ?_
          refine ra_iload C dX7_item_129 rfl ?_
          obtain ⟨x131, h131, hf⟩ := rob hf
          refine ra_iald C dX7_item_131 h131 (by decide) rfl rfl ?_
          refine ra_goto C dX7_item_132 (tgt := 136) (by decide) ?_
          refine ra_mask [false, false, false, false, false, false, false] ?_
          exact bX7_item_b136 C _ _ hf
      · replace hf := rif_p c107 hf
        refine ra_iload C dX7_item_110 rfl ?_
        refine ra_bipush C dX7_item_112 (v := 60) (by decide) ?_
        refine ra_iload_n C dX7_item_114 rfl rfl ?_
        refine ra_imul C dX7_item_115 ?_
        refine ra_isub C dX7_item_116 ?_
        refine ra_goto C dX7_item_117 (tgt := 136) (by decide) ?_
        refine ra_mask [false, false, false, false, false, false, false] ?_
        exact bX7_item_b136 C _ _ hf
    · replace hf := rif_p c91 hf
      refine ra_aload_n C dX7_item_94 rfl rfl ?_
      refine ra_getR C dX7_item_95 (k := 8) (by decide) rfl rX7_in tX7_f32 rfl ?_
      refine ra_iload C dX7_item_98 rfl ?_
      obtain ⟨x100, h100, hf⟩ := rob hf
      refine ra_iald C dX7_item_100 h100 (by decide) rfl rfl ?_
      refine ra_goto C dX7_item_101 (tgt := 136) (by decide) ?_
      refine ra_mask [false, false, false, false, false, false, false] ?_
      exact bX7_item_b136 C _ _ hf
  · replace hf := rif_n c84 hf
    refine ra_iconst C dX7_item_87 (v := 0) (by decide) ?_
    obtain rfl := Option.some.inj hf
    exact ra_iret C dX7_item_88
set_option maxRecDepth 100000 in
set_option maxHeartbeats 4000000 in
theorem bX7_item_b32 {G : rG} {X : rX} (C : rC G X 7 cX7_item (some .int) 2) {r : Int32 × rS} (l1 : Int32) (l2 : Int32) (l4 : Int32) (l5 : Int32) (s0 : Int32) (S : rS) (hf : fX7_item_b32 l1 l2 l4 l5 s0 S = some r) : rAW G X 7 (some (.int r.1), r.2) 32 [some (.ref G.2.2.2.1), some (.int l1), some (.int l2), none, some (.int l4), some (.int l5), none] [.int s0] S := by
  unfold fX7_item_b32 at hf
  refine ra_istore C dX7_item_32 (by decide) ?_
  refine ra_aload_n C dX7_item_34 rfl rfl ?_
  refine ra_aload_n C dX7_item_35 rfl rfl ?_
  refine ra_iload_n C dX7_item_36 rfl rfl ?_
  obtain ⟨q37, h37, hf⟩ := rob hf
  refine ra_callVi C dX7_item_37 (mX7_isStructure h37) rfl tX7_l201 tX7_i_X7_isStructure tX7_s_X7_isStructure tX7_init tX7_c_X7_isStructure tX7_d_X7_isStructure (by decide) (by decide) (Nat.le_of_ble_eq_true rfl) ?_
  refine ra_if_ne C dX7_item_40 (tgt := 47) (by decide) (fun c40 => ?_) (fun c40 => ?_)
  · replace hf := rif_n c40 hf
    refine ra_iload C dX7_item_47 rfl ?_
    refine ra_if_ne C dX7_item_49 (tgt := 56) (by decide) (fun c49 => ?_) (fun c49 => ?_)
    · replace hf := rif_n c49 hf
      refine ra_iload C dX7_item_56 rfl ?_
      refine ra_iconst C dX7_item_58 (v := (-1)) (by decide) ?_
      refine ra_icmp_ne C dX7_item_59 (tgt := 66) (by decide) (fun c59 => ?_) (fun c59 => ?_)
      · replace hf := rif_n c59 hf
        refine ra_iload C dX7_item_66 rfl ?_
        refine ra_iconst C dX7_item_68 (v := 0) (by decide) ?_
        refine ra_iconst C dX7_item_69 (v := 2) (by decide) ?_
        obtain ⟨q70, h70, hf⟩ := rob hf
        refine ra_callSi C dX7_item_70 (mX7_isIn h70) rfl tX7_l159 tX7_st_X7_isIn tX7_init tX7_c_X7_isIn tX7_d_X7_isIn (by decide) (by decide) (Nat.le_of_ble_eq_true rfl) ?_
        refine ra_if_eq C dX7_item_73 (tgt := 80) (by decide) (fun c73 => ?_) (fun c73 => ?_)
        · replace hf := rif_p c73 hf
          refine ra_iconst C dX7_item_80 (v := 2) (by decide) ?_
          refine ra_mask [true, true, true, false, true, false, true] ?_
          exact bX7_item_b81 C _ _ _ _ _ _ hf
        · replace hf := rif_n c73 hf
          refine ra_iconst C dX7_item_76 (v := 0) (by decide) ?_
          refine ra_goto C dX7_item_77 (tgt := 81) (by decide) ?_
          refine ra_mask [true, true, true, false, true, false, true] ?_
          exact bX7_item_b81 C _ _ _ _ _ _ hf
      · replace hf := rif_p c59 hf
        refine ra_iconst C dX7_item_62 (v := 1) (by decide) ?_
        refine ra_goto C dX7_item_63 (tgt := 81) (by decide) ?_
        refine ra_mask [true, true, true, false, true, false, true] ?_
        exact bX7_item_b81 C _ _ _ _ _ _ hf
    · replace hf := rif_p c49 hf
      refine ra_iconst C dX7_item_52 (v := 2) (by decide) ?_
      refine ra_goto C dX7_item_53 (tgt := 81) (by decide) ?_
      refine ra_mask [true, true, true, false, true, false, true] ?_
      exact bX7_item_b81 C _ _ _ _ _ _ hf
  · replace hf := rif_p c40 hf
    refine ra_iconst C dX7_item_43 (v := 1) (by decide) ?_
    refine ra_goto C dX7_item_44 (tgt := 81) (by decide) ?_
    refine ra_mask [true, true, true, false, true, false, true] ?_
    exact bX7_item_b81 C _ _ _ _ _ _ hf
set_option maxRecDepth 100000 in
set_option maxHeartbeats 4000000 in
theorem bX7_item_b31 {G : rG} {X : rX} (C : rC G X 7 cX7_item (some .int) 2) {r : Int32 × rS} (l1 : Int32) (l2 : Int32) (l4 : Int32) (l5 : Int32) (S : rS) (hf : fX7_item_b31 l1 l2 l4 l5 S = some r) : rAW G X 7 (some (.int r.1), r.2) 31 [some (.ref G.2.2.2.1), some (.int l1), some (.int l2), none, some (.int l4), some (.int l5), none] [] S := by
  unfold fX7_item_b31 at hf
  refine ra_iconst C dX7_item_31 (v := (-1)) (by decide) ?_
  exact bX7_item_b32 C _ _ _ _ _ _ hf
set_option maxRecDepth 100000 in
set_option maxHeartbeats 4000000 in
theorem bX7_item {G : rG} {X : rX} (C : rC G X 7 cX7_item (some .int) 2) (a0 : Int32) (a1 : Int32) (a2 : Int32) (a3 : Int32) (S : rS) {r : Int32 × rS} (hf : fX7_item a0 a1 a2 a3 S = some r) : rAW G X 7 (some (.int r.1), r.2) 0 [some (.ref G.2.2.2.1), some (.int a0), some (.int a1), some (.int a2), some (.int a3), none, none] [] S := by
  unfold fX7_item at hf
  refine ra_iload_n C dX7_item_0 rfl rfl ?_
  refine ra_iconst C dX7_item_1 (v := 0) (by decide) ?_
  refine ra_iconst C dX7_item_2 (v := 2) (by decide) ?_
  obtain ⟨q3, h3, hf⟩ := rob hf
  refine ra_callSi C dX7_item_3 (mX7_isIn h3) rfl tX7_l159 tX7_st_X7_isIn tX7_init tX7_c_X7_isIn tX7_d_X7_isIn (by decide) (by decide) (Nat.le_of_ble_eq_true rfl) ?_
  refine ra_istore C dX7_item_6 (by decide) ?_
  refine ra_aload_n C dX7_item_8 rfl rfl ?_
  refine ra_iload_n C dX7_item_9 rfl rfl ?_
  obtain ⟨q10, h10, hf⟩ := rob hf
  refine ra_callVi C dX7_item_10 (mX7_isStructure h10) rfl tX7_l201 tX7_i_X7_isStructure tX7_s_X7_isStructure tX7_init tX7_c_X7_isStructure tX7_d_X7_isStructure (by decide) (by decide) (Nat.le_of_ble_eq_true rfl) ?_
  refine ra_if_eq C dX7_item_13 (tgt := 31) (by decide) (fun c13 => ?_) (fun c13 => ?_)
  · replace hf := rif_p c13 hf
    refine ra_mask [true, true, true, false, true, true, false] ?_
    exact bX7_item_b31 C _ _ _ _ _ hf
  · replace hf := rif_n c13 hf
    refine ra_iload C dX7_item_16 rfl ?_
    refine ra_if_eq C dX7_item_18 (tgt := 31) (by decide) (fun c18 => ?_) (fun c18 => ?_)
    · replace hf := rif_p c18 hf
      refine ra_mask [true, true, true, false, true, true, false] ?_
      exact bX7_item_b31 C _ _ _ _ _ hf
    · replace hf := rif_n c18 hf
      refine ra_aload_n C dX7_item_21 rfl rfl ?_
      refine ra_iload_n C dX7_item_22 rfl rfl ?_
      refine ra_iload_n C dX7_item_23 rfl rfl ?_
      refine ra_iload_n C dX7_item_24 rfl rfl ?_
      obtain ⟨q25, h25, hf⟩ := rob hf
      refine ra_callVi C dX7_item_25 (mX7_findsItem h25) rfl tX7_l181 tX7_i_X7_findsItem tX7_s_X7_findsItem tX7_init tX7_c_X7_findsItem tX7_d_X7_findsItem (by decide) (by decide) (Nat.le_of_ble_eq_true rfl) ?_
      refine ra_goto C dX7_item_28 (tgt := 32) (by decide) ?_
      refine ra_mask [true, true, true, false, true, true, false] ?_
      exact bX7_item_b32 C _ _ _ _ _ _ hf
set_option maxRecDepth 100000 in
set_option maxHeartbeats 4000000 in
theorem mX7_item {l : Launch} {G : rG} {a0 : Int32} {a1 : Int32} {a2 : Int32} {a3 : Int32} {S : rS} {r : Int32 × rS} (hf : fX7_item a0 a1 a2 a3 S = some r) : rM l G 2 yX7_item cX7_item 7 (some .int) [.ref G.2.2.2.1, .int a0, .int a1, .int a2, .int a3] S (some (.int r.1), r.2) :=
  rM_of (lo0 := [some (.ref G.2.2.2.1), some (.int a0), some (.int a1), some (.int a2), some (.int a3), none, none]) (by decide +kernel) rfl (Nat.le_of_ble_eq_true rfl) (by simp [Value.category]) rfl (fun X _ C => bX7_item C a0 a1 a2 a3 S hf)
set_option maxRecDepth 100000 in
set_option maxHeartbeats 4000000 in
theorem bX7_items_b30 {G : rG} {X : rX} (C : rC G X 2 cX7_items (some .int) 2) {r : Int32 × rS} (s0 : Int32) (S : rS) (hf : fX7_items_b30 s0 S = some r) : rAW G X 2 (some (.int r.1), r.2) 30 [none, none] [.int s0] S := by
  unfold fX7_items_b30 at hf
  obtain rfl := Option.some.inj hf
  exact ra_iret C dX7_items_30
set_option maxRecDepth 100000 in
set_option maxHeartbeats 4000000 in
theorem bX7_items_b14 {G : rG} {X : rX} (C : rC G X 2 cX7_items (some .int) 2) {r : Int32 × rS} (l1 : Int32) (s0 : Int32) (S : rS) (hf : fX7_items_b14 l1 s0 S = some r) : rAW G X 2 (some (.int r.1), r.2) 14 [some (.ref G.2.2.2.1), some (.int l1)] [.int s0, .ref G.2.2.2.1] S := by
  unfold fX7_items_b14 at hf
  obtain ⟨q14, h14, hf⟩ := rob hf
  refine ra_callVi C dX7_items_14 (mX7_fails h14) rfl tX7_l175 tX7_i_X7_fails tX7_s_X7_fails tX7_init tX7_c_X7_fails tX7_d_X7_fails (by decide) (by decide) (Nat.le_of_ble_eq_true rfl) ?_
  refine ra_if_eq C dX7_items_17 (tgt := 24) (by decide) (fun c17 => ?_) (fun c17 => ?_)
  · replace hf := rif_p c17 hf
    refine ra_aload_n C dX7_items_24 rfl rfl ?_
    refine ra_getR C dX7_items_25 (k := 5) (by decide) rfl rX7_in tX7_f23 rfl ?_
    refine ra_iload_n C dX7_items_28 rfl rfl ?_
    obtain ⟨x29, h29, hf⟩ := rob hf
    refine ra_iald C dX7_items_29 h29 (by decide) rfl rfl ?_
    refine ra_mask [false, false] ?_
    exact bX7_items_b30 C _ _ hf
  · replace hf := rif_n c17 hf
    refine ra_iconst C dX7_items_20 (v := 0) (by decide) ?_
    refine ra_goto C dX7_items_21 (tgt := 30) (by decide) ?_
    refine ra_mask [false, false] ?_
    exact bX7_items_b30 C _ _ hf
set_option maxRecDepth 100000 in
set_option maxHeartbeats 4000000 in
theorem bX7_items {G : rG} {X : rX} (C : rC G X 2 cX7_items (some .int) 2) (a0 : Int32) (S : rS) {r : Int32 × rS} (hf : fX7_items a0 S = some r) : rAW G X 2 (some (.int r.1), r.2) 0 [some (.ref G.2.2.2.1), some (.int a0)] [] S := by
  unfold fX7_items at hf
  refine ra_aload_n C dX7_items_0 rfl rfl ?_
  refine ra_aload_n C dX7_items_1 rfl rfl ?_
  refine ra_iload_n C dX7_items_2 rfl rfl ?_
  obtain ⟨q3, h3, hf⟩ := rob hf
  refine ra_callVi C dX7_items_3 (mX7_isStructure h3) rfl tX7_l201 tX7_i_X7_isStructure tX7_s_X7_isStructure tX7_init tX7_c_X7_isStructure tX7_d_X7_isStructure (by decide) (by decide) (Nat.le_of_ble_eq_true rfl) ?_
  refine ra_if_eq C dX7_items_6 (tgt := 13) (by decide) (fun c6 => ?_) (fun c6 => ?_)
  · replace hf := rif_p c6 hf
    refine ra_iconst C dX7_items_13 (v := 1) (by decide) ?_
    exact bX7_items_b14 C _ _ _ hf
  · replace hf := rif_n c6 hf
    refine ra_iconst C dX7_items_9 (v := 0) (by decide) ?_
    refine ra_goto C dX7_items_10 (tgt := 14) (by decide) ?_
    exact bX7_items_b14 C _ _ _ hf
set_option maxRecDepth 100000 in
set_option maxHeartbeats 4000000 in
theorem mX7_items {l : Launch} {G : rG} {a0 : Int32} {S : rS} {r : Int32 × rS} (hf : fX7_items a0 S = some r) : rM l G 2 yX7_items cX7_items 2 (some .int) [.ref G.2.2.2.1, .int a0] S (some (.int r.1), r.2) :=
  rM_of (lo0 := [some (.ref G.2.2.2.1), some (.int a0)]) (by decide +kernel) rfl (Nat.le_of_ble_eq_true rfl) (by simp [Value.category]) rfl (fun X _ C => bX7_items C a0 S hf)
set_option maxRecDepth 100000 in
set_option maxHeartbeats 4000000 in
theorem bX7_isSignature {G : rG} {X : rX} (C : rC G X 2 cX7_isSignature (some .boolean) 1) (a0 : Int32) (S : rS) {r : Int32 × rS} (hf : fX7_isSignature a0 S = some r) : rAW G X 2 (some (.int r.1), r.2) 0 [some (.ref G.2.2.2.1), some (.int a0)] [] S := by
  unfold fX7_isSignature at hf
  refine ra_iload_n C dX7_isSignature_0 rfl rfl ?_
  refine ra_iconst C dX7_isSignature_1 (v := 0) (by decide) ?_
  refine ra_aload_n C dX7_isSignature_2 rfl rfl ?_
  refine ra_getI C dX7_isSignature_3 (k := 10) (by decide) rfl rX7_in tX7_f204 rfl ?_
  refine ra_iconst C dX7_isSignature_6 (v := 1) (by decide) ?_
  refine ra_isub C dX7_isSignature_7 ?_
  obtain ⟨q8, h8, hf⟩ := rob hf
  refine ra_callSi C dX7_isSignature_8 (mX7_isIn h8) rfl tX7_l159 tX7_st_X7_isIn tX7_init tX7_c_X7_isIn tX7_d_X7_isIn (by decide) (by decide) (Nat.le_of_ble_eq_true rfl) ?_
  obtain ⟨rfl, hn⟩ := rbo_spec hf
  exact ra_zret C hn dX7_isSignature_11
set_option maxRecDepth 100000 in
set_option maxHeartbeats 4000000 in
theorem mX7_isSignature {l : Launch} {G : rG} {a0 : Int32} {S : rS} {r : Int32 × rS} (hf : fX7_isSignature a0 S = some r) : rM l G 1 yX7_isSignature cX7_isSignature 2 (some .boolean) [.ref G.2.2.2.1, .int a0] S (some (.int r.1), r.2) :=
  rM_of (lo0 := [some (.ref G.2.2.2.1), some (.int a0)]) (by decide +kernel) rfl (Nat.le_of_ble_eq_true rfl) (by simp [Value.category]) rfl (fun X _ C => bX7_isSignature C a0 S hf)
set_option maxRecDepth 100000 in
set_option maxHeartbeats 4000000 in
theorem bX7_findsSpec_b54 {G : rG} {X : rX} (C : rC G X 6 cX7_findsSpec (some .int) 0) {r : Int32 × rS} {rec9 : Int32 → Int32 → Int32 → Int32 → Int32 → rS → Option (Int32 × rS)} (hrec9 : ∀ (l1 : Int32) (l2 : Int32) (l3 : Int32) (l4 : Int32) (l5 : Int32) (S : rS), rec9 l1 l2 l3 l4 l5 S = some r → rAW G X 6 (some (.int r.1), r.2) 9 [some (.ref G.2.2.2.1), some (.int l1), some (.int l2), some (.int l3), some (.int l4), some (.int l5)] [] S) (l1 : Int32) (l2 : Int32) (l3 : Int32) (l5 : Int32) (s0 : Int32) (S : rS) (hf : fX7_findsSpec_b54 rec9 l1 l2 l3 l5 s0 S = some r) : rAW G X 6 (some (.int r.1), r.2) 54 [some (.ref G.2.2.2.1), some (.int l1), some (.int l2), some (.int l3), none, some (.int l5)] [.int s0] S := by
  unfold fX7_findsSpec_b54 at hf
  refine ra_istore C dX7_findsSpec_54 (by decide) ?_
  refine ra_iinc C dX7_findsSpec_56 rfl (v := 1) (by decide) (by decide) ?_
  refine ra_goto C dX7_findsSpec_59 (tgt := 9) (by decide) ?_
  exact hrec9 _ _ _ _ _ _ hf
set_option maxRecDepth 100000 in
set_option maxHeartbeats 4000000 in
theorem bX7_findsSpec_b52 {G : rG} {X : rX} (C : rC G X 6 cX7_findsSpec (some .int) 0) {r : Int32 × rS} {rec9 : Int32 → Int32 → Int32 → Int32 → Int32 → rS → Option (Int32 × rS)} (hrec9 : ∀ (l1 : Int32) (l2 : Int32) (l3 : Int32) (l4 : Int32) (l5 : Int32) (S : rS), rec9 l1 l2 l3 l4 l5 S = some r → rAW G X 6 (some (.int r.1), r.2) 9 [some (.ref G.2.2.2.1), some (.int l1), some (.int l2), some (.int l3), some (.int l4), some (.int l5)] [] S) (l1 : Int32) (l2 : Int32) (l3 : Int32) (l4 : Int32) (l5 : Int32) (S : rS) (hf : fX7_findsSpec_b52 rec9 l1 l2 l3 l4 l5 S = some r) : rAW G X 6 (some (.int r.1), r.2) 52 [some (.ref G.2.2.2.1), some (.int l1), some (.int l2), some (.int l3), some (.int l4), some (.int l5)] [] S := by
  unfold fX7_findsSpec_b52 at hf
  refine ra_iload C dX7_findsSpec_52 rfl ?_
  refine ra_mask [true, true, true, true, false, true] ?_
  exact bX7_findsSpec_b54 C hrec9 _ _ _ _ _ _ hf
set_option maxRecDepth 100000 in
set_option maxHeartbeats 4000000 in
theorem bX7_findsSpec_b9_body {G : rG} {X : rX} (C : rC G X 6 cX7_findsSpec (some .int) 0) {r : Int32 × rS} {rec9 : Int32 → Int32 → Int32 → Int32 → Int32 → rS → Option (Int32 × rS)} (hrec9 : ∀ (l1 : Int32) (l2 : Int32) (l3 : Int32) (l4 : Int32) (l5 : Int32) (S : rS), rec9 l1 l2 l3 l4 l5 S = some r → rAW G X 6 (some (.int r.1), r.2) 9 [some (.ref G.2.2.2.1), some (.int l1), some (.int l2), some (.int l3), some (.int l4), some (.int l5)] [] S) (l1 : Int32) (l2 : Int32) (l3 : Int32) (l4 : Int32) (l5 : Int32) (S : rS) (hf : fX7_findsSpec_b9_body rec9 l1 l2 l3 l4 l5 S = some r) : rAW G X 6 (some (.int r.1), r.2) 9 [some (.ref G.2.2.2.1), some (.int l1), some (.int l2), some (.int l3), some (.int l4), some (.int l5)] [] S := by
  unfold fX7_findsSpec_b9_body at hf
  refine ra_iload C dX7_findsSpec_9 rfl ?_
  refine ra_bipush C dX7_findsSpec_11 (v := 60) (by decide) ?_
  refine ra_iload_n C dX7_findsSpec_13 rfl rfl ?_
  refine ra_imul C dX7_findsSpec_14 ?_
  refine ra_aload_n C dX7_findsSpec_15 rfl rfl ?_
  refine ra_getR C dX7_findsSpec_16 (k := 11) (by decide) rfl rX7_in tX7_f38 rfl ?_
  refine ra_iload_n C dX7_findsSpec_19 rfl rfl ?_
  obtain ⟨x20, h20, hf⟩ := rob hf
  refine ra_iald C dX7_findsSpec_20 h20 (by decide) rfl rfl ?_
  refine ra_iadd C dX7_findsSpec_21 ?_
  refine ra_icmp_ge C dX7_findsSpec_22 (tgt := 62) (by decide) (fun c22 => ?_) (fun c22 => ?_)
  · replace hf := rif_p c22 hf
    refine ra_iload C dX7_findsSpec_62 rfl ?_
    obtain rfl := Option.some.inj hf
    exact ra_iret C dX7_findsSpec_64
  · replace hf := rif_n c22 hf
    refine ra_aload_n C dX7_findsSpec_25 rfl rfl ?_
    refine ra_getR C dX7_findsSpec_26 (k := 13) (by decide) rfl rX7_in tX7_f44 rfl ?_
    refine ra_iload C dX7_findsSpec_29 rfl ?_
    obtain ⟨x31, h31, hf⟩ := rob hf
    refine ra_iald C dX7_findsSpec_31 h31 (by decide) rfl rfl ?_
    refine ra_iload_n C dX7_findsSpec_32 rfl rfl ?_
    refine ra_icmp_ne C dX7_findsSpec_33 (tgt := 52) (by decide) (fun c33 => ?_) (fun c33 => ?_)
    · replace hf := rif_n c33 hf
      exact bX7_findsSpec_b52 C hrec9 _ _ _ _ _ _ hf
    · replace hf := rif_p c33 hf
      refine ra_aload_n C dX7_findsSpec_36 rfl rfl ?_
      refine ra_getR C dX7_findsSpec_37 (k := 14) (by decide) rfl rX7_in tX7_f47 rfl ?_
      refine ra_iload C dX7_findsSpec_40 rfl ?_
      obtain ⟨x42, h42, hf⟩ := rob hf
      refine ra_iald C dX7_findsSpec_42 h42 (by decide) rfl rfl ?_
      refine ra_iload_n C dX7_findsSpec_43 rfl rfl ?_
      refine ra_icmp_ne C dX7_findsSpec_44 (tgt := 52) (by decide) (fun c44 => ?_) (fun c44 => ?_)
      · replace hf := rif_n c44 hf
        exact bX7_findsSpec_b52 C hrec9 _ _ _ _ _ _ hf
      · replace hf := rif_p c44 hf
        refine ra_iload C dX7_findsSpec_47 rfl ?_
        refine ra_goto C dX7_findsSpec_49 (tgt := 54) (by decide) ?_
        refine ra_mask [true, true, true, true, false, true] ?_
        exact bX7_findsSpec_b54 C hrec9 _ _ _ _ _ _ hf
set_option maxRecDepth 100000 in
set_option maxHeartbeats 4000000 in
theorem bX7_findsSpec_b9 {G : rG} {X : rX} (C : rC G X 6 cX7_findsSpec (some .int) 0) {r : Int32 × rS} : ∀ (n : Nat) (l1 : Int32) (l2 : Int32) (l3 : Int32) (l4 : Int32) (l5 : Int32) (S : rS), fX7_findsSpec_b9 n l1 l2 l3 l4 l5 S = some r → rAW G X 6 (some (.int r.1), r.2) 9 [some (.ref G.2.2.2.1), some (.int l1), some (.int l2), some (.int l3), some (.int l4), some (.int l5)] [] S := by
  intro n
  induction n with
  | zero => intro l1 l2 l3 l4 l5 S hf; cases hf
  | succ n ih => intro l1 l2 l3 l4 l5 S hf; exact bX7_findsSpec_b9_body C (fun l1 l2 l3 l4 l5 S h => ih l1 l2 l3 l4 l5 S h) l1 l2 l3 l4 l5 S hf
set_option maxRecDepth 100000 in
set_option maxHeartbeats 4000000 in
theorem bX7_findsSpec {G : rG} {X : rX} (C : rC G X 6 cX7_findsSpec (some .int) 0) (a0 : Int32) (a1 : Int32) (a2 : Int32) (S : rS) {r : Int32 × rS} (hf : fX7_findsSpec a0 a1 a2 S = some r) : rAW G X 6 (some (.int r.1), r.2) 0 [some (.ref G.2.2.2.1), some (.int a0), some (.int a1), some (.int a2), none, none] [] S := by
  unfold fX7_findsSpec at hf
  refine ra_iconst C dX7_findsSpec_0 (v := (-1)) (by decide) ?_
  refine ra_istore C dX7_findsSpec_1 (by decide) ?_
  refine ra_bipush C dX7_findsSpec_3 (v := 60) (by decide) ?_
  refine ra_iload_n C dX7_findsSpec_5 rfl rfl ?_
  refine ra_imul C dX7_findsSpec_6 ?_
  refine ra_istore C dX7_findsSpec_7 (by decide) ?_
  exact bX7_findsSpec_b9 C _ _ _ _ _ _ _ hf
set_option maxRecDepth 100000 in
set_option maxHeartbeats 4000000 in
theorem mX7_findsSpec {l : Launch} {G : rG} {a0 : Int32} {a1 : Int32} {a2 : Int32} {S : rS} {r : Int32 × rS} (hf : fX7_findsSpec a0 a1 a2 S = some r) : rM l G 0 yX7_findsSpec cX7_findsSpec 6 (some .int) [.ref G.2.2.2.1, .int a0, .int a1, .int a2] S (some (.int r.1), r.2) :=
  rM_of (lo0 := [some (.ref G.2.2.2.1), some (.int a0), some (.int a1), some (.int a2), none, none]) (by decide +kernel) rfl (Nat.le_of_ble_eq_true rfl) (by simp [Value.category]) rfl (fun X _ C => bX7_findsSpec C a0 a1 a2 S hf)
