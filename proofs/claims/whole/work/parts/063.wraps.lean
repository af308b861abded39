set_option maxRecDepth 100000 in
set_option maxHeartbeats 4000000 in
theorem wM_addPart {l : Launch} (hl : l.stackTraces = false) {g : wG} {o n0 : Nat} {p0 : Int32} {p1 : Int32} {z : cS} {f : Nat → Int64} {sz ka kb : Nat} {P : Int32 ⊕ Nat → cS → Prop} (hq : z.1 o = some (6, n0)) (hsp : cSpec (fX6_addPart o p0 p1) z ka kb P) (hE : ∀ e z2, P (.inr e) z2 → e = 0 ∨ e = 1) : wM l g 8 yL_addPart cL_addPart 5 [(0, 17, 20, 13), (0, 17, 24, 20)] [.ref o, .int p0, .int p1, .ref g.2.1] z f sz ka kb (fun k w2 => (∃ w, P (.inl w) w2.1 ∧ k = 0 ∧ w2.2 0 = (if w = 0 then 0 else 1)) ∨ ∃ e, P (.inr e) w2.1 ∧ k = if e = 0 then 1 else (if e = 1 then 2 else 0)) :=
  wM_of (lo0 := [some (.ref o), some (.int p0), some (.int p1), some (.ref g.2.1), none]) (by decide +kernel) rfl (cs1_q (cs1_i (cs1_i (cs1_q cs1_nil)))) (Nat.le_of_ble_eq_true rfl) rfl hl (fun X hX C => by
    refine ga_aload_n C.1 dL_addPart_0 rfl rfl ?_
    refine ga_iconst C.1 dL_addPart_1 (v := 0) (by decide) ?_
    refine ga_aload_n C.1 dL_addPart_2 rfl rfl ?_
    refine ga_iload_n C.1 dL_addPart_3 rfl rfl ?_
    refine ga_iload_n C.1 dL_addPart_4 rfl rfl ?_
    refine wa_call C (fn := fX6_addPart o p0 p1) (to := cOi) (P := P) (As := [.int p0, .int p1]) dL_addPart_5 cOi_e (fun z o2 z2 k n h => by rw [hX]; exact mX6_addPart hl h) hsp hq rfl tL_l29 tLI_X6_addPart tLS_X6_addPart tZ6 tLC_X6_addPart tLH_X6_addPart (by decide) (by decide) (Nat.le_of_ble_eq_true rfl) (by omega) (by omega) (fun o2 z2 v hP hv => ?_) (fun e z2 H locs ls q9 ce hP h1 h2 h3 hce hcv hcl => ?_)
    · cases o2 with
      | inr e => cases hv
      | inl w =>
        cases hv
        refine ga_if_eq C.1 dL_addPart_8 (tgt := 15) (by decide) (fun c0 => ?_) (fun c0 => ?_)
        · refine ga_lconst C.1 dL_addPart_15 (v := 0) (by decide) ?_
          refine wa_last C dL_addPart_16 ?_
          refine ga_goto C.1 dL_addPart_17 (tgt := 28) (by decide) ?_
          refine ga_iconst C.1 dL_addPart_28 (v := 0) (by decide) ?_
          exact wa_iret C dL_addPart_29 (Or.inl ⟨w, hP, rfl, (if_pos c0).symm⟩) (by omega) (by omega)
        · refine ga_lconst C.1 dL_addPart_11 (v := 1) (by decide) ?_
          refine ga_goto C.1 dL_addPart_12 (tgt := 16) (by decide) ?_
          refine wa_last C dL_addPart_16 ?_
          refine ga_goto C.1 dL_addPart_17 (tgt := 28) (by decide) ?_
          refine ga_iconst C.1 dL_addPart_28 (v := 0) (by decide) ?_
          exact wa_iret C dL_addPart_29 (Or.inl ⟨w, hP, rfl, (if_neg c0).symm⟩) (by omega) (by omega)
    · rcases hE e z2 hP with rfl | rfl
      · refine wa_catch C (he := by decide) [] [(0, 17, 24, 20)] (0, 17, 20, 13) rfl (fun p hp => by cases hp) (by decide) (by decide) tL_k13 tL_cast0 (w := (z2, f)) h1 h2 h3 hce hcv hcl ?_
        refine ga_astore C.1 dL_addPart_20 (by decide) ?_
        refine ga_iconst C.1 dL_addPart_22 (v := 1) (by decide) ?_
        exact wa_iret C dL_addPart_23 (Or.inr ⟨0, hP, rfl⟩) (by omega) (by omega)
      · refine wa_catch C (he := by decide) [(0, 17, 20, 13)] [] (0, 17, 24, 20) rfl (fun p hp => by rw [List.mem_singleton] at hp; subst hp; exact ⟨0, by decide, by decide, by decide, tL_k13⟩) (by decide) (by decide) tL_k20 tL_cast1 (w := (z2, f)) h1 h2 h3 hce hcv hcl ?_
        refine ga_astore C.1 dL_addPart_24 (by decide) ?_
        refine ga_iconst C.1 dL_addPart_26 (v := 2) (by decide) ?_
        exact wa_iret C dL_addPart_27 (Or.inr ⟨1, hP, rfl⟩) (by omega) (by omega))
set_option maxRecDepth 100000 in
set_option maxHeartbeats 4000000 in
theorem wM_addType {l : Launch} (hl : l.stackTraces = false) {g : wG} {o n0 : Nat} {p0 : Int32} {p1 : Int32} {z : cS} {f : Nat → Int64} {sz ka kb : Nat} {P : Int32 ⊕ Nat → cS → Prop} (hq : z.1 o = some (6, n0)) (hsp : cSpec (fX6_addType o p0 p1) z ka kb P) (hE : ∀ e z2, P (.inr e) z2 → e = 0 ∨ e = 1 ∨ e = 2) : wM l g 8 yL_addType cL_addType 5 [(0, 10, 13, 13), (0, 10, 17, 20), (0, 10, 21, 15)] [.ref o, .int p0, .int p1, .ref g.2.1] z f sz ka kb (fun k w2 => (∃ w, P (.inl w) w2.1 ∧ k = 0 ∧ w2.2 0 = w.toInt64) ∨ ∃ e, P (.inr e) w2.1 ∧ k = if e = 0 then 1 else (if e = 1 then 2 else (if e = 2 then 3 else 0))) :=
  wM_of (lo0 := [some (.ref o), some (.int p0), some (.int p1), some (.ref g.2.1), none]) (by decide +kernel) rfl (cs1_q (cs1_i (cs1_i (cs1_q cs1_nil)))) (Nat.le_of_ble_eq_true rfl) rfl hl (fun X hX C => by
    refine ga_aload_n C.1 dL_addType_0 rfl rfl ?_
    refine ga_iconst C.1 dL_addType_1 (v := 0) (by decide) ?_
    refine ga_aload_n C.1 dL_addType_2 rfl rfl ?_
    refine ga_iload_n C.1 dL_addType_3 rfl rfl ?_
    refine ga_iload_n C.1 dL_addType_4 rfl rfl ?_
    refine wa_call C (fn := fX6_addType o p0 p1) (to := cOi) (P := P) (As := [.int p0, .int p1]) dL_addType_5 cOi_e (fun z o2 z2 k n h => by rw [hX]; exact mX6_addType hl h) hsp hq rfl tL_l22 tLI_X6_addType tLS_X6_addType tZ6 tLC_X6_addType tLH_X6_addType (by decide) (by decide) (Nat.le_of_ble_eq_true rfl) (by omega) (by omega) (fun o2 z2 v hP hv => ?_) (fun e z2 H locs ls q9 ce hP h1 h2 h3 hce hcv hcl => ?_)
    · cases o2 with
      | inr e => cases hv
      | inl w =>
        cases hv
        refine ga_i2l C.1 dL_addType_8 ?_
        refine wa_last C dL_addType_9 ?_
        refine ga_goto C.1 dL_addType_10 (tgt := 25) (by decide) ?_
        refine ga_iconst C.1 dL_addType_25 (v := 0) (by decide) ?_
        exact wa_iret C dL_addType_26 (Or.inl ⟨w, hP, rfl, rfl⟩) (by omega) (by omega)
    · rcases hE e z2 hP with rfl | rfl | rfl
      · refine wa_catch C (he := by decide) [] [(0, 10, 17, 20), (0, 10, 21, 15)] (0, 10, 13, 13) rfl (fun p hp => by cases hp) (by decide) (by decide) tL_k13 tL_cast0 (w := (z2, f)) h1 h2 h3 hce hcv hcl ?_
        refine ga_astore C.1 dL_addType_13 (by decide) ?_
        refine ga_iconst C.1 dL_addType_15 (v := 1) (by decide) ?_
        exact wa_iret C dL_addType_16 (Or.inr ⟨0, hP, rfl⟩) (by omega) (by omega)
      · refine wa_catch C (he := by decide) [(0, 10, 13, 13)] [(0, 10, 21, 15)] (0, 10, 17, 20) rfl (fun p hp => by rw [List.mem_singleton] at hp; subst hp; exact ⟨0, by decide, by decide, by decide, tL_k13⟩) (by decide) (by decide) tL_k20 tL_cast1 (w := (z2, f)) h1 h2 h3 hce hcv hcl ?_
        refine ga_astore C.1 dL_addType_17 (by decide) ?_
        refine ga_iconst C.1 dL_addType_19 (v := 2) (by decide) ?_
        exact wa_iret C dL_addType_20 (Or.inr ⟨1, hP, rfl⟩) (by omega) (by omega)
      · refine wa_catch C (he := by decide) [(0, 10, 13, 13), (0, 10, 17, 20)] [] (0, 10, 21, 15) rfl (fun p hp => (List.mem_cons.mp hp).elim (fun e => by subst e; exact ⟨0, by decide, by decide, by decide, tL_k13⟩) (fun hp => by rw [List.mem_singleton] at hp; subst hp; exact ⟨1, by decide, by decide, by decide, tL_k20⟩)) (by decide) (by decide) tL_k15 tL_cast2 (w := (z2, f)) h1 h2 h3 hce hcv hcl ?_
        refine ga_astore C.1 dL_addType_21 (by decide) ?_
        refine ga_iconst C.1 dL_addType_23 (v := 3) (by decide) ?_
        exact wa_iret C dL_addType_24 (Or.inr ⟨2, hP, rfl⟩) (by omega) (by omega))
set_option maxRecDepth 100000 in
set_option maxHeartbeats 4000000 in
theorem wM_addValue {l : Launch} (hl : l.stackTraces = false) {g : wG} {o n0 : Nat} {p0 : Int32} {p1 : Int32} {p2 : Int32} {z : cS} {f : Nat → Int64} {sz ka kb : Nat} {P : Int32 ⊕ Nat → cS → Prop} (hq : z.1 o = some (6, n0)) (hsp : cSpec (fX6_addValue o p0 p1 p2) z ka kb P) (hE : ∀ e z2, P (.inr e) z2 → e = 0 ∨ e = 1) : wM l g 8 yL_addValue cL_addValue 6 [(0, 19, 22, 13), (0, 19, 26, 20)] [.ref o, .int p0, .int p1, .int p2, .ref g.2.1] z f sz ka kb (fun k w2 => (∃ w, P (.inl w) w2.1 ∧ k = 0 ∧ w2.2 0 = (if w = 0 then 0 else 1)) ∨ ∃ e, P (.inr e) w2.1 ∧ k = if e = 0 then 1 else (if e = 1 then 2 else 0)) :=
  wM_of (lo0 := [some (.ref o), some (.int p0), some (.int p1), some (.int p2), some (.ref g.2.1), none]) (by decide +kernel) rfl (cs1_q (cs1_i (cs1_i (cs1_i (cs1_q cs1_nil))))) (Nat.le_of_ble_eq_true rfl) rfl hl (fun X hX C => by
    refine ga_aload C.1 dL_addValue_0 rfl ?_
    refine ga_iconst C.1 dL_addValue_2 (v := 0) (by decide) ?_
    refine ga_aload_n C.1 dL_addValue_3 rfl rfl ?_
    refine ga_iload_n C.1 dL_addValue_4 rfl rfl ?_
    refine ga_iload_n C.1 dL_addValue_5 rfl rfl ?_
    refine ga_iload_n C.1 dL_addValue_6 rfl rfl ?_
    refine wa_call C (fn := fX6_addValue o p0 p1 p2) (to := cOi) (P := P) (As := [.int p0, .int p1, .int p2]) dL_addValue_7 cOi_e (fun z o2 z2 k n h => by rw [hX]; exact mX6_addValue hl h) hsp hq rfl tL_l25 tLI_X6_addValue tLS_X6_addValue tZ6 tLC_X6_addValue tLH_X6_addValue (by decide) (by decide) (Nat.le_of_ble_eq_true rfl) (by omega) (by omega) (fun o2 z2 v hP hv => ?_) (fun e z2 H locs ls q9 ce hP h1 h2 h3 hce hcv hcl => ?_)
    · cases o2 with
      | inr e => cases hv
      | inl w =>
        cases hv
        refine ga_if_eq C.1 dL_addValue_10 (tgt := 17) (by decide) (fun c0 => ?_) (fun c0 => ?_)
        · refine ga_lconst C.1 dL_addValue_17 (v := 0) (by decide) ?_
          refine wa_last C dL_addValue_18 ?_
          refine ga_goto C.1 dL_addValue_19 (tgt := 30) (by decide) ?_
          refine ga_iconst C.1 dL_addValue_30 (v := 0) (by decide) ?_
          exact wa_iret C dL_addValue_31 (Or.inl ⟨w, hP, rfl, (if_pos c0).symm⟩) (by omega) (by omega)
        · refine ga_lconst C.1 dL_addValue_13 (v := 1) (by decide) ?_
          refine ga_goto C.1 dL_addValue_14 (tgt := 18) (by decide) ?_
          refine wa_last C dL_addValue_18 ?_
          refine ga_goto C.1 dL_addValue_19 (tgt := 30) (by decide) ?_
          refine ga_iconst C.1 dL_addValue_30 (v := 0) (by decide) ?_
          exact wa_iret C dL_addValue_31 (Or.inl ⟨w, hP, rfl, (if_neg c0).symm⟩) (by omega) (by omega)
    · rcases hE e z2 hP with rfl | rfl
      · refine wa_catch C (he := by decide) [] [(0, 19, 26, 20)] (0, 19, 22, 13) rfl (fun p hp => by cases hp) (by decide) (by decide) tL_k13 tL_cast0 (w := (z2, f)) h1 h2 h3 hce hcv hcl ?_
        refine ga_astore C.1 dL_addValue_22 (by decide) ?_
        refine ga_iconst C.1 dL_addValue_24 (v := 1) (by decide) ?_
        exact wa_iret C dL_addValue_25 (Or.inr ⟨0, hP, rfl⟩) (by omega) (by omega)
      · refine wa_catch C (he := by decide) [(0, 19, 22, 13)] [] (0, 19, 26, 20) rfl (fun p hp => by rw [List.mem_singleton] at hp; subst hp; exact ⟨0, by decide, by decide, by decide, tL_k13⟩) (by decide) (by decide) tL_k20 tL_cast1 (w := (z2, f)) h1 h2 h3 hce hcv hcl ?_
        refine ga_astore C.1 dL_addValue_26 (by decide) ?_
        refine ga_iconst C.1 dL_addValue_28 (v := 2) (by decide) ?_
        exact wa_iret C dL_addValue_29 (Or.inr ⟨1, hP, rfl⟩) (by omega) (by omega))
set_option maxRecDepth 100000 in
set_option maxHeartbeats 4000000 in
theorem wM_alike {l : Launch} (hl : l.stackTraces = false) {g : wG} {o n0 : Nat} {p0 : Int32} {p1 : Int32} {z : cS} {f : Nat → Int64} {sz ka kb : Nat} {P : Int32 ⊕ Nat → cS → Prop} (hq : z.1 o = some (6, n0)) (hsp : cSpec (fX6_alike o p0 p1) z ka kb P) (hE : ∀ e z2, P (.inr e) z2 → e = 0) : wM l g 33 yL_alike cL_alike 5 [(0, 17, 20, 13)] [.ref o, .int p0, .int p1, .ref g.2.1] z f sz ka kb (fun k w2 => (∃ w, P (.inl w) w2.1 ∧ k = 0 ∧ w2.2 0 = (if w = 0 then 0 else 1)) ∨ ∃ e, P (.inr e) w2.1 ∧ k = if e = 0 then 1 else 0) :=
  wM_of (lo0 := [some (.ref o), some (.int p0), some (.int p1), some (.ref g.2.1), none]) (by decide +kernel) rfl (cs1_q (cs1_i (cs1_i (cs1_q cs1_nil)))) (Nat.le_of_ble_eq_true rfl) rfl hl (fun X hX C => by
    refine ga_aload_n C.1 dL_alike_0 rfl rfl ?_
    refine ga_iconst C.1 dL_alike_1 (v := 0) (by decide) ?_
    refine ga_aload_n C.1 dL_alike_2 rfl rfl ?_
    refine ga_iload_n C.1 dL_alike_3 rfl rfl ?_
    refine ga_iload_n C.1 dL_alike_4 rfl rfl ?_
    refine wa_call C (fn := fX6_alike o p0 p1) (to := cOi) (P := P) (As := [.int p0, .int p1]) dL_alike_5 cOi_e (fun z o2 z2 k n h => by rw [hX]; exact mX6_alike hl h) hsp hq rfl tL_l83 tLI_X6_alike tLS_X6_alike tZ6 tLC_X6_alike tLH_X6_alike (by decide) (by decide) (Nat.le_of_ble_eq_true rfl) (by omega) (by omega) (fun o2 z2 v hP hv => ?_) (fun e z2 H locs ls q9 ce hP h1 h2 h3 hce hcv hcl => ?_)
    · cases o2 with
      | inr e => cases hv
      | inl w =>
        cases hv
        refine ga_if_eq C.1 dL_alike_8 (tgt := 15) (by decide) (fun c0 => ?_) (fun c0 => ?_)
        · refine ga_lconst C.1 dL_alike_15 (v := 0) (by decide) ?_
          refine wa_last C dL_alike_16 ?_
          refine ga_goto C.1 dL_alike_17 (tgt := 24) (by decide) ?_
          refine ga_iconst C.1 dL_alike_24 (v := 0) (by decide) ?_
          exact wa_iret C dL_alike_25 (Or.inl ⟨w, hP, rfl, (if_pos c0).symm⟩) (by omega) (by omega)
        · refine ga_lconst C.1 dL_alike_11 (v := 1) (by decide) ?_
          refine ga_goto C.1 dL_alike_12 (tgt := 16) (by decide) ?_
          refine wa_last C dL_alike_16 ?_
          refine ga_goto C.1 dL_alike_17 (tgt := 24) (by decide) ?_
          refine ga_iconst C.1 dL_alike_24 (v := 0) (by decide) ?_
          exact wa_iret C dL_alike_25 (Or.inl ⟨w, hP, rfl, (if_neg c0).symm⟩) (by omega) (by omega)
    · obtain rfl := hE e z2 hP
      refine wa_catch C (he := by decide) [] [] (0, 17, 20, 13) rfl (fun p hp => by cases hp) (by decide) (by decide) tL_k13 tL_cast0 (w := (z2, f)) h1 h2 h3 hce hcv hcl ?_
      refine ga_astore C.1 dL_alike_20 (by decide) ?_
      refine ga_iconst C.1 dL_alike_22 (v := 1) (by decide) ?_
      exact wa_iret C dL_alike_23 (Or.inr ⟨0, hP, rfl⟩) (by omega) (by omega))
set_option maxRecDepth 100000 in
set_option maxHeartbeats 4000000 in
theorem wM_apply {l : Launch} (hl : l.stackTraces = false) {g : wG} {o n0 : Nat} {p0 : Int32} {p1 : Int32} {z : cS} {f : Nat → Int64} {sz ka kb : Nat} {P : Int32 ⊕ Nat → cS → Prop} (hq : z.1 o = some (6, n0)) (hsp : cSpec (fX6_apply o p0 p1) z ka kb P) (hE : ∀ e z2, P (.inr e) z2 → e = 0 ∨ e = 2) : wM l g 37 yL_apply cL_apply 5 [(0, 10, 13, 13), (0, 10, 17, 15)] [.ref o, .int p0, .int p1, .ref g.2.1] z f sz ka kb (fun k w2 => (∃ w, P (.inl w) w2.1 ∧ k = 0 ∧ w2.2 0 = w.toInt64) ∨ ∃ e, P (.inr e) w2.1 ∧ k = if e = 0 then 1 else (if e = 2 then 2 else 0)) :=
  wM_of (lo0 := [some (.ref o), some (.int p0), some (.int p1), some (.ref g.2.1), none]) (by decide +kernel) rfl (cs1_q (cs1_i (cs1_i (cs1_q cs1_nil)))) (Nat.le_of_ble_eq_true rfl) rfl hl (fun X hX C => by
    refine ga_aload_n C.1 dL_apply_0 rfl rfl ?_
    refine ga_iconst C.1 dL_apply_1 (v := 0) (by decide) ?_
    refine ga_aload_n C.1 dL_apply_2 rfl rfl ?_
    refine ga_iload_n C.1 dL_apply_3 rfl rfl ?_
    refine ga_iload_n C.1 dL_apply_4 rfl rfl ?_
    refine wa_call C (fn := fX6_apply o p0 p1) (to := cOi) (P := P) (As := [.int p0, .int p1]) dL_apply_5 cOi_e (fun z o2 z2 k n h => by rw [hX]; exact mX6_apply hl h) hsp hq rfl tL_l97 tLI_X6_apply tLS_X6_apply tZ6 tLC_X6_apply tLH_X6_apply (by decide) (by decide) (Nat.le_of_ble_eq_true rfl) (by omega) (by omega) (fun o2 z2 v hP hv => ?_) (fun e z2 H locs ls q9 ce hP h1 h2 h3 hce hcv hcl => ?_)
    · cases o2 with
      | inr e => cases hv
      | inl w =>
        cases hv
        refine ga_i2l C.1 dL_apply_8 ?_
        refine wa_last C dL_apply_9 ?_
        refine ga_goto C.1 dL_apply_10 (tgt := 21) (by decide) ?_
        refine ga_iconst C.1 dL_apply_21 (v := 0) (by decide) ?_
        exact wa_iret C dL_apply_22 (Or.inl ⟨w, hP, rfl, rfl⟩) (by omega) (by omega)
    · rcases hE e z2 hP with rfl | rfl
      · refine wa_catch C (he := by decide) [] [(0, 10, 17, 15)] (0, 10, 13, 13) rfl (fun p hp => by cases hp) (by decide) (by decide) tL_k13 tL_cast0 (w := (z2, f)) h1 h2 h3 hce hcv hcl ?_
        refine ga_astore C.1 dL_apply_13 (by decide) ?_
        refine ga_iconst C.1 dL_apply_15 (v := 1) (by decide) ?_
        exact wa_iret C dL_apply_16 (Or.inr ⟨0, hP, rfl⟩) (by omega) (by omega)
      · refine wa_catch C (he := by decide) [(0, 10, 13, 13)] [] (0, 10, 17, 15) rfl (fun p hp => by rw [List.mem_singleton] at hp; subst hp; exact ⟨0, by decide, by decide, by decide, tL_k13⟩) (by decide) (by decide) tL_k15 tL_cast2 (w := (z2, f)) h1 h2 h3 hce hcv hcl ?_
        refine ga_astore C.1 dL_apply_17 (by decide) ?_
        refine ga_iconst C.1 dL_apply_19 (v := 2) (by decide) ?_
        exact wa_iret C dL_apply_20 (Or.inr ⟨2, hP, rfl⟩) (by omega) (by omega))
set_option maxRecDepth 100000 in
set_option maxHeartbeats 4000000 in
theorem wM_arrow {l : Launch} (hl : l.stackTraces = false) {g : wG} {o n0 : Nat} {p0 : Int32} {p1 : Int32} {z : cS} {f : Nat → Int64} {sz ka kb : Nat} {P : Int32 ⊕ Nat → cS → Prop} (hq : z.1 o = some (6, n0)) (hsp : cSpec (fX6_arrow o p0 p1) z ka kb P) (hE : ∀ e z2, P (.inr e) z2 → e = 0 ∨ e = 2) : wM l g 8 yL_arrow cL_arrow 5 [(0, 10, 13, 13), (0, 10, 17, 15)] [.ref o, .int p0, .int p1, .ref g.2.1] z f sz ka kb (fun k w2 => (∃ w, P (.inl w) w2.1 ∧ k = 0 ∧ w2.2 0 = w.toInt64) ∨ ∃ e, P (.inr e) w2.1 ∧ k = if e = 0 then 1 else (if e = 2 then 2 else 0)) :=
  wM_of (lo0 := [some (.ref o), some (.int p0), some (.int p1), some (.ref g.2.1), none]) (by decide +kernel) rfl (cs1_q (cs1_i (cs1_i (cs1_q cs1_nil)))) (Nat.le_of_ble_eq_true rfl) rfl hl (fun X hX C => by
    refine ga_aload_n C.1 dL_arrow_0 rfl rfl ?_
    refine ga_iconst C.1 dL_arrow_1 (v := 0) (by decide) ?_
    refine ga_aload_n C.1 dL_arrow_2 rfl rfl ?_
    refine ga_iload_n C.1 dL_arrow_3 rfl rfl ?_
    refine ga_iload_n C.1 dL_arrow_4 rfl rfl ?_
    refine wa_call C (fn := fX6_arrow o p0 p1) (to := cOi) (P := P) (As := [.int p0, .int p1]) dL_arrow_5 cOi_e (fun z o2 z2 k n h => by rw [hX]; exact mX6_arrow hl h) hsp hq rfl tL_l7 tLI_X6_arrow tLS_X6_arrow tZ6 tLC_X6_arrow tLH_X6_arrow (by decide) (by decide) (Nat.le_of_ble_eq_true rfl) (by omega) (by omega) (fun o2 z2 v hP hv => ?_) (fun e z2 H locs ls q9 ce hP h1 h2 h3 hce hcv hcl => ?_)
    · cases o2 with
      | inr e => cases hv
      | inl w =>
        cases hv
        refine ga_i2l C.1 dL_arrow_8 ?_
        refine wa_last C dL_arrow_9 ?_
        refine ga_goto C.1 dL_arrow_10 (tgt := 21) (by decide) ?_
        refine ga_iconst C.1 dL_arrow_21 (v := 0) (by decide) ?_
        exact wa_iret C dL_arrow_22 (Or.inl ⟨w, hP, rfl, rfl⟩) (by omega) (by omega)
    · rcases hE e z2 hP with rfl | rfl
      · refine wa_catch C (he := by decide) [] [(0, 10, 17, 15)] (0, 10, 13, 13) rfl (fun p hp => by cases hp) (by decide) (by decide) tL_k13 tL_cast0 (w := (z2, f)) h1 h2 h3 hce hcv hcl ?_
        refine ga_astore C.1 dL_arrow_13 (by decide) ?_
        refine ga_iconst C.1 dL_arrow_15 (v := 1) (by decide) ?_
        exact wa_iret C dL_arrow_16 (Or.inr ⟨0, hP, rfl⟩) (by omega) (by omega)
      · refine wa_catch C (he := by decide) [(0, 10, 13, 13)] [] (0, 10, 17, 15) rfl (fun p hp => by rw [List.mem_singleton] at hp; subst hp; exact ⟨0, by decide, by decide, by decide, tL_k13⟩) (by decide) (by decide) tL_k15 tL_cast2 (w := (z2, f)) h1 h2 h3 hce hcv hcl ?_
        refine ga_astore C.1 dL_arrow_17 (by decide) ?_
        refine ga_iconst C.1 dL_arrow_19 (v := 2) (by decide) ?_
        exact wa_iret C dL_arrow_20 (Or.inr ⟨2, hP, rfl⟩) (by omega) (by omega))
set_option maxRecDepth 100000 in
set_option maxHeartbeats 4000000 in
theorem wM_bodyType {l : Launch} (hl : l.stackTraces = false) {g : wG} {o n0 : Nat} {p0 : Int32} {p1 : Int32} {z : cS} {f : Nat → Int64} {sz ka kb : Nat} {P : Int32 ⊕ Nat → cS → Prop} (hq : z.1 o = some (6, n0)) (hsp : cSpec (fX6_bodyType o p0 p1) z ka kb P) (hE : ∀ e z2, P (.inr e) z2 → e = 1 ∨ e = 2) : wM l g 8 yL_bodyType cL_bodyType 5 [(0, 10, 13, 20), (0, 10, 17, 15)] [.ref o, .int p0, .int p1, .ref g.2.1] z f sz ka kb (fun k w2 => (∃ w, P (.inl w) w2.1 ∧ k = 0 ∧ w2.2 0 = w.toInt64) ∨ ∃ e, P (.inr e) w2.1 ∧ k = if e = 1 then 1 else (if e = 2 then 2 else 0)) :=
  wM_of (lo0 := [some (.ref o), some (.int p0), some (.int p1), some (.ref g.2.1), none]) (by decide +kernel) rfl (cs1_q (cs1_i (cs1_i (cs1_q cs1_nil)))) (Nat.le_of_ble_eq_true rfl) rfl hl (fun X hX C => by
    refine ga_aload_n C.1 dL_bodyType_0 rfl rfl ?_
    refine ga_iconst C.1 dL_bodyType_1 (v := 0) (by decide) ?_
    refine ga_aload_n C.1 dL_bodyType_2 rfl rfl ?_
    refine ga_iload_n C.1 dL_bodyType_3 rfl rfl ?_
    refine ga_iload_n C.1 dL_bodyType_4 rfl rfl ?_
    refine wa_call C (fn := fX6_bodyType o p0 p1) (to := cOi) (P := P) (As := [.int p0, .int p1]) dL_bodyType_5 cOi_e (fun z o2 z2 k n h => by rw [hX]; exact mX6_bodyType hl h) hsp hq rfl tL_l86 tLI_X6_bodyType tLS_X6_bodyType tZ6 tLC_X6_bodyType tLH_X6_bodyType (by decide) (by decide) (Nat.le_of_ble_eq_true rfl) (by omega) (by omega) (fun o2 z2 v hP hv => ?_) (fun e z2 H locs ls q9 ce hP h1 h2 h3 hce hcv hcl => ?_)
    · cases o2 with
      | inr e => cases hv
      | inl w =>
        cases hv
        refine ga_i2l C.1 dL_bodyType_8 ?_
        refine wa_last C dL_bodyType_9 ?_
        refine ga_goto C.1 dL_bodyType_10 (tgt := 21) (by decide) ?_
        refine ga_iconst C.1 dL_bodyType_21 (v := 0) (by decide) ?_
        exact wa_iret C dL_bodyType_22 (Or.inl ⟨w, hP, rfl, rfl⟩) (by omega) (by omega)
    · rcases hE e z2 hP with rfl | rfl
      · refine wa_catch C (he := by decide) [] [(0, 10, 17, 15)] (0, 10, 13, 20) rfl (fun p hp => by cases hp) (by decide) (by decide) tL_k20 tL_cast1 (w := (z2, f)) h1 h2 h3 hce hcv hcl ?_
        refine ga_astore C.1 dL_bodyType_13 (by decide) ?_
        refine ga_iconst C.1 dL_bodyType_15 (v := 1) (by decide) ?_
        exact wa_iret C dL_bodyType_16 (Or.inr ⟨1, hP, rfl⟩) (by omega) (by omega)
      · refine wa_catch C (he := by decide) [(0, 10, 13, 20)] [] (0, 10, 17, 15) rfl (fun p hp => by rw [List.mem_singleton] at hp; subst hp; exact ⟨1, by decide, by decide, by decide, tL_k20⟩) (by decide) (by decide) tL_k15 tL_cast2 (w := (z2, f)) h1 h2 h3 hce hcv hcl ?_
        refine ga_astore C.1 dL_bodyType_17 (by decide) ?_
        refine ga_iconst C.1 dL_bodyType_19 (v := 2) (by decide) ?_
        exact wa_iret C dL_bodyType_20 (Or.inr ⟨2, hP, rfl⟩) (by omega) (by omega))
set_option maxRecDepth 100000 in
set_option maxHeartbeats 4000000 in
theorem wM_bodyValue {l : Launch} (hl : l.stackTraces = false) {g : wG} {o n0 : Nat} {p0 : Int32} {p1 : Int32} {p2 : Int32} {p3 : Int32} {p4 : Int32} {z : cS} {f : Nat → Int64} {sz ka kb : Nat} {P : Int32 ⊕ Nat → cS → Prop} (hq : z.1 o = some (6, n0)) (hsp : cSpec (fX6_bodyValue o p0 p1 p2 p3 p4) z ka kb P) (hE : ∀ e z2, P (.inr e) z2 → e = 0 ∨ e = 1 ∨ e = 2) : wM l g 8 yL_bodyValue cL_bodyValue 8 [(0, 16, 19, 13), (0, 16, 23, 20), (0, 16, 27, 15)] [.ref o, .int p0, .int p1, .int p2, .int p3, .int p4, .ref g.2.1] z f sz ka kb (fun k w2 => (∃ w, P (.inl w) w2.1 ∧ k = 0 ∧ w2.2 0 = w.toInt64) ∨ ∃ e, P (.inr e) w2.1 ∧ k = if e = 0 then 1 else (if e = 1 then 2 else (if e = 2 then 3 else 0))) :=
  wM_of (lo0 := [some (.ref o), some (.int p0), some (.int p1), some (.int p2), some (.int p3), some (.int p4), some (.ref g.2.1), none]) (by decide +kernel) rfl (cs1_q (cs1_i (cs1_i (cs1_i (cs1_i (cs1_i (cs1_q cs1_nil))))))) (Nat.le_of_ble_eq_true rfl) rfl hl (fun X hX C => by
    refine ga_aload C.1 dL_bodyValue_0 rfl ?_
    refine ga_iconst C.1 dL_bodyValue_2 (v := 0) (by decide) ?_
    refine ga_aload_n C.1 dL_bodyValue_3 rfl rfl ?_
    refine ga_iload_n C.1 dL_bodyValue_4 rfl rfl ?_
    refine ga_iload_n C.1 dL_bodyValue_5 rfl rfl ?_
    refine ga_iload_n C.1 dL_bodyValue_6 rfl rfl ?_
    refine ga_iload C.1 dL_bodyValue_7 rfl ?_
    refine ga_iload C.1 dL_bodyValue_9 rfl ?_
    refine wa_call C (fn := fX6_bodyValue o p0 p1 p2 p3 p4) (to := cOi) (P := P) (As := [.int p0, .int p1, .int p2, .int p3, .int p4]) dL_bodyValue_11 cOi_e (fun z o2 z2 k n h => by rw [hX]; exact mX6_bodyValue hl h) hsp hq rfl tL_l89 tLI_X6_bodyValue tLS_X6_bodyValue tZ6 tLC_X6_bodyValue tLH_X6_bodyValue (by decide) (by decide) (Nat.le_of_ble_eq_true rfl) (by omega) (by omega) (fun o2 z2 v hP hv => ?_) (fun e z2 H locs ls q9 ce hP h1 h2 h3 hce hcv hcl => ?_)
    · cases o2 with
      | inr e => cases hv
      | inl w =>
        cases hv
        refine ga_i2l C.1 dL_bodyValue_14 ?_
        refine wa_last C dL_bodyValue_15 ?_
        refine ga_goto C.1 dL_bodyValue_16 (tgt := 31) (by decide) ?_
        refine ga_iconst C.1 dL_bodyValue_31 (v := 0) (by decide) ?_
        exact wa_iret C dL_bodyValue_32 (Or.inl ⟨w, hP, rfl, rfl⟩) (by omega) (by omega)
    · rcases hE e z2 hP with rfl | rfl | rfl
      · refine wa_catch C (he := by decide) [] [(0, 16, 23, 20), (0, 16, 27, 15)] (0, 16, 19, 13) rfl (fun p hp => by cases hp) (by decide) (by decide) tL_k13 tL_cast0 (w := (z2, f)) h1 h2 h3 hce hcv hcl ?_
        refine ga_astore C.1 dL_bodyValue_19 (by decide) ?_
        refine ga_iconst C.1 dL_bodyValue_21 (v := 1) (by decide) ?_
        exact wa_iret C dL_bodyValue_22 (Or.inr ⟨0, hP, rfl⟩) (by omega) (by omega)
      · refine wa_catch C (he := by decide) [(0, 16, 19, 13)] [(0, 16, 27, 15)] (0, 16, 23, 20) rfl (fun p hp => by rw [List.mem_singleton] at hp; subst hp; exact ⟨0, by decide, by decide, by decide, tL_k13⟩) (by decide) (by decide) tL_k20 tL_cast1 (w := (z2, f)) h1 h2 h3 hce hcv hcl ?_
        refine ga_astore C.1 dL_bodyValue_23 (by decide) ?_
        refine ga_iconst C.1 dL_bodyValue_25 (v := 2) (by decide) ?_
        exact wa_iret C dL_bodyValue_26 (Or.inr ⟨1, hP, rfl⟩) (by omega) (by omega)
      · refine wa_catch C (he := by decide) [(0, 16, 19, 13), (0, 16, 23, 20)] [] (0, 16, 27, 15) rfl (fun p hp => (List.mem_cons.mp hp).elim (fun e => by subst e; exact ⟨0, by decide, by decide, by decide, tL_k13⟩) (fun hp => by rw [List.mem_singleton] at hp; subst hp; exact ⟨1, by decide, by decide, by decide, tL_k20⟩)) (by decide) (by decide) tL_k15 tL_cast2 (w := (z2, f)) h1 h2 h3 hce hcv hcl ?_
        refine ga_astore C.1 dL_bodyValue_27 (by decide) ?_
        refine ga_iconst C.1 dL_bodyValue_29 (v := 3) (by decide) ?_
        exact wa_iret C dL_bodyValue_30 (Or.inr ⟨2, hP, rfl⟩) (by omega) (by omega))
set_option maxRecDepth 100000 in
set_option maxHeartbeats 4000000 in
theorem wM_change {l : Launch} (hl : l.stackTraces = false) {g : wG} {o n0 : Nat} {p0 : Int32} {p1 : Int32} {z : cS} {f : Nat → Int64} {sz ka kb : Nat} {P : Int32 ⊕ Nat → cS → Prop} (hq : z.1 o = some (6, n0)) (hsp : cSpec (fX6_change o p0 p1) z ka kb P) (hE : ∀ e z2, P (.inr e) z2 → e = 0) : wM l g 7 yL_change cL_change 5 [(0, 10, 13, 13)] [.ref o, .int p0, .int p1, .ref g.2.1] z f sz ka kb (fun k w2 => (∃ w, P (.inl w) w2.1 ∧ k = 0 ∧ w2.2 0 = w.toInt64) ∨ ∃ e, P (.inr e) w2.1 ∧ k = if e = 0 then 1 else 0) :=
  wM_of (lo0 := [some (.ref o), some (.int p0), some (.int p1), some (.ref g.2.1), none]) (by decide +kernel) rfl (cs1_q (cs1_i (cs1_i (cs1_q cs1_nil)))) (Nat.le_of_ble_eq_true rfl) rfl hl (fun X hX C => by
    refine ga_aload_n C.1 dL_change_0 rfl rfl ?_
    refine ga_iconst C.1 dL_change_1 (v := 0) (by decide) ?_
    refine ga_aload_n C.1 dL_change_2 rfl rfl ?_
    refine ga_iload_n C.1 dL_change_3 rfl rfl ?_
    refine ga_iload_n C.1 dL_change_4 rfl rfl ?_
    refine wa_call C (fn := fX6_change o p0 p1) (to := cOi) (P := P) (As := [.int p0, .int p1]) dL_change_5 cOi_e (fun z o2 z2 k n h => by rw [hX]; exact mX6_change hl h) hsp hq rfl tL_l109 tLI_X6_change tLS_X6_change tZ6 tLC_X6_change tLH_X6_change (by decide) (by decide) (Nat.le_of_ble_eq_true rfl) (by omega) (by omega) (fun o2 z2 v hP hv => ?_) (fun e z2 H locs ls q9 ce hP h1 h2 h3 hce hcv hcl => ?_)
    · cases o2 with
      | inr e => cases hv
      | inl w =>
        cases hv
        refine ga_i2l C.1 dL_change_8 ?_
        refine wa_last C dL_change_9 ?_
        refine ga_goto C.1 dL_change_10 (tgt := 17) (by decide) ?_
        refine ga_iconst C.1 dL_change_17 (v := 0) (by decide) ?_
        exact wa_iret C dL_change_18 (Or.inl ⟨w, hP, rfl, rfl⟩) (by omega) (by omega)
    · obtain rfl := hE e z2 hP
      refine wa_catch C (he := by decide) [] [] (0, 10, 13, 13) rfl (fun p hp => by cases hp) (by decide) (by decide) tL_k13 tL_cast0 (w := (z2, f)) h1 h2 h3 hce hcv hcl ?_
      refine ga_astore C.1 dL_change_13 (by decide) ?_
      refine ga_iconst C.1 dL_change_15 (v := 1) (by decide) ?_
      exact wa_iret C dL_change_16 (Or.inr ⟨0, hP, rfl⟩) (by omega) (by omega))
set_option maxRecDepth 100000 in
set_option maxHeartbeats 4000000 in
theorem wM_finer {l : Launch} (hl : l.stackTraces = false) {g : wG} {o n0 : Nat} {p0 : Int32} {p1 : Int32} {z : cS} {f : Nat → Int64} {sz ka kb : Nat} {P : Int32 ⊕ Nat → cS → Prop} (hq : z.1 o = some (6, n0)) (hsp : cSpec (fX6_finer o p0 p1) z ka kb P) (hE : ∀ e z2, P (.inr e) z2 → e = 0) : wM l g 36 yL_finer cL_finer 5 [(0, 17, 20, 13)] [.ref o, .int p0, .int p1, .ref g.2.1] z f sz ka kb (fun k w2 => (∃ w, P (.inl w) w2.1 ∧ k = 0 ∧ w2.2 0 = (if w = 0 then 0 else 1)) ∨ ∃ e, P (.inr e) w2.1 ∧ k = if e = 0 then 1 else 0) :=
  wM_of (lo0 := [some (.ref o), some (.int p0), some (.int p1), some (.ref g.2.1), none]) (by decide +kernel) rfl (cs1_q (cs1_i (cs1_i (cs1_q cs1_nil)))) (Nat.le_of_ble_eq_true rfl) rfl hl (fun X hX C => by
    refine ga_aload_n C.1 dL_finer_0 rfl rfl ?_
    refine ga_iconst C.1 dL_finer_1 (v := 0) (by decide) ?_
    refine ga_aload_n C.1 dL_finer_2 rfl rfl ?_
    refine ga_iload_n C.1 dL_finer_3 rfl rfl ?_
    refine ga_iload_n C.1 dL_finer_4 rfl rfl ?_
    refine wa_call C (fn := fX6_finer o p0 p1) (to := cOi) (P := P) (As := [.int p0, .int p1]) dL_finer_5 cOi_e (fun z o2 z2 k n h => by rw [hX]; exact mX6_finer hl h) hsp hq rfl tL_l80 tLI_X6_finer tLS_X6_finer tZ6 tLC_X6_finer tLH_X6_finer (by decide) (by decide) (Nat.le_of_ble_eq_true rfl) (by omega) (by omega) (fun o2 z2 v hP hv => ?_) (fun e z2 H locs ls q9 ce hP h1 h2 h3 hce hcv hcl => ?_)
    · cases o2 with
      | inr e => cases hv
      | inl w =>
        cases hv
        refine ga_if_eq C.1 dL_finer_8 (tgt := 15) (by decide) (fun c0 => ?_) (fun c0 => ?_)
        · refine ga_lconst C.1 dL_finer_15 (v := 0) (by decide) ?_
          refine wa_last C dL_finer_16 ?_
          refine ga_goto C.1 dL_finer_17 (tgt := 24) (by decide) ?_
          refine ga_iconst C.1 dL_finer_24 (v := 0) (by decide) ?_
          exact wa_iret C dL_finer_25 (Or.inl ⟨w, hP, rfl, (if_pos c0).symm⟩) (by omega) (by omega)
        · refine ga_lconst C.1 dL_finer_11 (v := 1) (by decide) ?_
          refine ga_goto C.1 dL_finer_12 (tgt := 16) (by decide) ?_
          refine wa_last C dL_finer_16 ?_
          refine ga_goto C.1 dL_finer_17 (tgt := 24) (by decide) ?_
          refine ga_iconst C.1 dL_finer_24 (v := 0) (by decide) ?_
          exact wa_iret C dL_finer_25 (Or.inl ⟨w, hP, rfl, (if_neg c0).symm⟩) (by omega) (by omega)
    · obtain rfl := hE e z2 hP
      refine wa_catch C (he := by decide) [] [] (0, 17, 20, 13) rfl (fun p hp => by cases hp) (by decide) (by decide) tL_k13 tL_cast0 (w := (z2, f)) h1 h2 h3 hce hcv hcl ?_
      refine ga_astore C.1 dL_finer_20 (by decide) ?_
      refine ga_iconst C.1 dL_finer_22 (v := 1) (by decide) ?_
      exact wa_iret C dL_finer_23 (Or.inr ⟨0, hP, rfl⟩) (by omega) (by omega))
set_option maxRecDepth 100000 in
set_option maxHeartbeats 4000000 in
theorem wM_functor {l : Launch} (hl : l.stackTraces = false) {g : wG} {o n0 : Nat} {p0 : Int32} {p1 : Int32} {p2 : Int32} {z : cS} {f : Nat → Int64} {sz ka kb : Nat} {P : Int32 ⊕ Nat → cS → Prop} (hq : z.1 o = some (6, n0)) (hsp : cSpec (fX6_functor o p0 p1 p2) z ka kb P) (hE : ∀ e z2, P (.inr e) z2 → e = 0 ∨ e = 2) : wM l g 7 yL_functor cL_functor 6 [(0, 12, 15, 13), (0, 12, 19, 15)] [.ref o, .int p0, .int p1, .int p2, .ref g.2.1] z f sz ka kb (fun k w2 => (∃ w, P (.inl w) w2.1 ∧ k = 0 ∧ w2.2 0 = w.toInt64) ∨ ∃ e, P (.inr e) w2.1 ∧ k = if e = 0 then 1 else (if e = 2 then 2 else 0)) :=
  wM_of (lo0 := [some (.ref o), some (.int p0), some (.int p1), some (.int p2), some (.ref g.2.1), none]) (by decide +kernel) rfl (cs1_q (cs1_i (cs1_i (cs1_i (cs1_q cs1_nil))))) (Nat.le_of_ble_eq_true rfl) rfl hl (fun X hX C => by
    refine ga_aload C.1 dL_functor_0 rfl ?_
    refine ga_iconst C.1 dL_functor_2 (v := 0) (by decide) ?_
    refine ga_aload_n C.1 dL_functor_3 rfl rfl ?_
    refine ga_iload_n C.1 dL_functor_4 rfl rfl ?_
    refine ga_iload_n C.1 dL_functor_5 rfl rfl ?_
    refine ga_iload_n C.1 dL_functor_6 rfl rfl ?_
    refine wa_call C (fn := fX6_functor o p0 p1 p2) (to := cOi) (P := P) (As := [.int p0, .int p1, .int p2]) dL_functor_7 cOi_e (fun z o2 z2 k n h => by rw [hX]; exact mX6_functor hl h) hsp hq rfl tL_l93 tLI_X6_functor tLS_X6_functor tZ6 tLC_X6_functor tLH_X6_functor (by decide) (by decide) (Nat.le_of_ble_eq_true rfl) (by omega) (by omega) (fun o2 z2 v hP hv => ?_) (fun e z2 H locs ls q9 ce hP h1 h2 h3 hce hcv hcl => ?_)
    · cases o2 with
      | inr e => cases hv
      | inl w =>
        cases hv
        refine ga_i2l C.1 dL_functor_10 ?_
        refine wa_last C dL_functor_11 ?_
        refine ga_goto C.1 dL_functor_12 (tgt := 23) (by decide) ?_
        refine ga_iconst C.1 dL_functor_23 (v := 0) (by decide) ?_
        exact wa_iret C dL_functor_24 (Or.inl ⟨w, hP, rfl, rfl⟩) (by omega) (by omega)
    · rcases hE e z2 hP with rfl | rfl
      · refine wa_catch C (he := by decide) [] [(0, 12, 19, 15)] (0, 12, 15, 13) rfl (fun p hp => by cases hp) (by decide) (by decide) tL_k13 tL_cast0 (w := (z2, f)) h1 h2 h3 hce hcv hcl ?_
        refine ga_astore C.1 dL_functor_15 (by decide) ?_
        refine ga_iconst C.1 dL_functor_17 (v := 1) (by decide) ?_
        exact wa_iret C dL_functor_18 (Or.inr ⟨0, hP, rfl⟩) (by omega) (by omega)
      · refine wa_catch C (he := by decide) [(0, 12, 15, 13)] [] (0, 12, 19, 15) rfl (fun p hp => by rw [List.mem_singleton] at hp; subst hp; exact ⟨0, by decide, by decide, by decide, tL_k13⟩) (by decide) (by decide) tL_k15 tL_cast2 (w := (z2, f)) h1 h2 h3 hce hcv hcl ?_
        refine ga_astore C.1 dL_functor_19 (by decide) ?_
        refine ga_iconst C.1 dL_functor_21 (v := 2) (by decide) ?_
        exact wa_iret C dL_functor_22 (Or.inr ⟨2, hP, rfl⟩) (by omega) (by omega))
set_option maxRecDepth 100000 in
set_option maxHeartbeats 4000000 in
theorem wM_include {l : Launch} (hl : l.stackTraces = false) {g : wG} {o n0 : Nat} {p0 : Int32} {z : cS} {f : Nat → Int64} {sz ka kb : Nat} {P : Int32 ⊕ Nat → cS → Prop} (hq : z.1 o = some (6, n0)) (hsp : cSpec (fX6_include o p0) z ka kb P) (hE : ∀ e z2, P (.inr e) z2 → e = 0 ∨ e = 2) : wM l g 8 yL_include cL_include 4 [(0, 9, 12, 13), (0, 9, 15, 15)] [.ref o, .int p0, .ref g.2.1] z f sz ka kb (fun k w2 => (∃ w, P (.inl w) w2.1 ∧ k = 0 ∧ w2.2 0 = w.toInt64) ∨ ∃ e, P (.inr e) w2.1 ∧ k = if e = 0 then 1 else (if e = 2 then 2 else 0)) :=
  wM_of (lo0 := [some (.ref o), some (.int p0), some (.ref g.2.1), none]) (by decide +kernel) rfl (cs1_q (cs1_i (cs1_q cs1_nil))) (Nat.le_of_ble_eq_true rfl) rfl hl (fun X hX C => by
    refine ga_aload_n C.1 dL_include_0 rfl rfl ?_
    refine ga_iconst C.1 dL_include_1 (v := 0) (by decide) ?_
    refine ga_aload_n C.1 dL_include_2 rfl rfl ?_
    refine ga_iload_n C.1 dL_include_3 rfl rfl ?_
    refine wa_call C (fn := fX6_include o p0) (to := cOi) (P := P) (As := [.int p0]) dL_include_4 cOi_e (fun z o2 z2 k n h => by rw [hX]; exact mX6_include hl h) hsp hq rfl tL_l58 tLI_X6_include tLS_X6_include tZ6 tLC_X6_include tLH_X6_include (by decide) (by decide) (Nat.le_of_ble_eq_true rfl) (by omega) (by omega) (fun o2 z2 v hP hv => ?_) (fun e z2 H locs ls q9 ce hP h1 h2 h3 hce hcv hcl => ?_)
    · cases o2 with
      | inr e => cases hv
      | inl w =>
        cases hv
        refine ga_i2l C.1 dL_include_7 ?_
        refine wa_last C dL_include_8 ?_
        refine ga_goto C.1 dL_include_9 (tgt := 18) (by decide) ?_
        refine ga_iconst C.1 dL_include_18 (v := 0) (by decide) ?_
        exact wa_iret C dL_include_19 (Or.inl ⟨w, hP, rfl, rfl⟩) (by omega) (by omega)
    · rcases hE e z2 hP with rfl | rfl
      · refine wa_catch C (he := by decide) [] [(0, 9, 15, 15)] (0, 9, 12, 13) rfl (fun p hp => by cases hp) (by decide) (by decide) tL_k13 tL_cast0 (w := (z2, f)) h1 h2 h3 hce hcv hcl ?_
        refine ga_astore_n C.1 dL_include_12 rfl (by decide) ?_
        refine ga_iconst C.1 dL_include_13 (v := 1) (by decide) ?_
        exact wa_iret C dL_include_14 (Or.inr ⟨0, hP, rfl⟩) (by omega) (by omega)
      · refine wa_catch C (he := by decide) [(0, 9, 12, 13)] [] (0, 9, 15, 15) rfl (fun p hp => by rw [List.mem_singleton] at hp; subst hp; exact ⟨0, by decide, by decide, by decide, tL_k13⟩) (by decide) (by decide) tL_k15 tL_cast2 (w := (z2, f)) h1 h2 h3 hce hcv hcl ?_
        refine ga_astore_n C.1 dL_include_15 rfl (by decide) ?_
        refine ga_iconst C.1 dL_include_16 (v := 2) (by decide) ?_
        exact wa_iret C dL_include_17 (Or.inr ⟨2, hP, rfl⟩) (by omega) (by omega))
set_option maxRecDepth 100000 in
set_option maxHeartbeats 4000000 in
theorem wM_item {l : Launch} (hl : l.stackTraces = false) {g : wG} {o n0 : Nat} {p0 : Int32} {p1 : Int32} {p2 : Int32} {p3 : Int32} {z : cS} {f : Nat → Int64} {sz ka kb : Nat} {P : Int32 ⊕ Nat → cS → Prop} (hq : z.1 o = some (6, n0)) (hsp : cSpec (fX6_item o p0 p1 p2 p3) z ka kb P) (hE : ∀ e z2, P (.inr e) z2 → e = 0 ∨ e = 1) : wM l g 7 yL_item cL_item 7 [(0, 14, 17, 13), (0, 14, 21, 20)] [.ref o, .int p0, .int p1, .int p2, .int p3, .ref g.2.1] z f sz ka kb (fun k w2 => (∃ w, P (.inl w) w2.1 ∧ k = 0 ∧ w2.2 0 = w.toInt64) ∨ ∃ e, P (.inr e) w2.1 ∧ k = if e = 0 then 1 else (if e = 1 then 2 else 0)) :=
  wM_of (lo0 := [some (.ref o), some (.int p0), some (.int p1), some (.int p2), some (.int p3), some (.ref g.2.1), none]) (by decide +kernel) rfl (cs1_q (cs1_i (cs1_i (cs1_i (cs1_i (cs1_q cs1_nil)))))) (Nat.le_of_ble_eq_true rfl) rfl hl (fun X hX C => by
    refine ga_aload C.1 dL_item_0 rfl ?_
    refine ga_iconst C.1 dL_item_2 (v := 0) (by decide) ?_
    refine ga_aload_n C.1 dL_item_3 rfl rfl ?_
    refine ga_iload_n C.1 dL_item_4 rfl rfl ?_
    refine ga_iload_n C.1 dL_item_5 rfl rfl ?_
    refine ga_iload_n C.1 dL_item_6 rfl rfl ?_
    refine ga_iload C.1 dL_item_7 rfl ?_
    refine wa_call C (fn := fX6_item o p0 p1 p2 p3) (to := cOi) (P := P) (As := [.int p0, .int p1, .int p2, .int p3]) dL_item_9 cOi_e (fun z o2 z2 k n h => by rw [hX]; exact mX6_item hl h) hsp hq rfl tL_l41 tLI_X6_item tLS_X6_item tZ6 tLC_X6_item tLH_X6_item (by decide) (by decide) (Nat.le_of_ble_eq_true rfl) (by omega) (by omega) (fun o2 z2 v hP hv => ?_) (fun e z2 H locs ls q9 ce hP h1 h2 h3 hce hcv hcl => ?_)
    · cases o2 with
      | inr e => cases hv
      | inl w =>
        cases hv
        refine ga_i2l C.1 dL_item_12 ?_
        refine wa_last C dL_item_13 ?_
        refine ga_goto C.1 dL_item_14 (tgt := 25) (by decide) ?_
        refine ga_iconst C.1 dL_item_25 (v := 0) (by decide) ?_
        exact wa_iret C dL_item_26 (Or.inl ⟨w, hP, rfl, rfl⟩) (by omega) (by omega)
    · rcases hE e z2 hP with rfl | rfl
      · refine wa_catch C (he := by decide) [] [(0, 14, 21, 20)] (0, 14, 17, 13) rfl (fun p hp => by cases hp) (by decide) (by decide) tL_k13 tL_cast0 (w := (z2, f)) h1 h2 h3 hce hcv hcl ?_
        refine ga_astore C.1 dL_item_17 (by decide) ?_
        refine ga_iconst C.1 dL_item_19 (v := 1) (by decide) ?_
        exact wa_iret C dL_item_20 (Or.inr ⟨0, hP, rfl⟩) (by omega) (by omega)
      · refine wa_catch C (he := by decide) [(0, 14, 17, 13)] [] (0, 14, 21, 20) rfl (fun p hp => by rw [List.mem_singleton] at hp; subst hp; exact ⟨0, by decide, by decide, by decide, tL_k13⟩) (by decide) (by decide) tL_k20 tL_cast1 (w := (z2, f)) h1 h2 h3 hce hcv hcl ?_
        refine ga_astore C.1 dL_item_21 (by decide) ?_
        refine ga_iconst C.1 dL_item_23 (v := 2) (by decide) ?_
        exact wa_iret C dL_item_24 (Or.inr ⟨1, hP, rfl⟩) (by omega) (by omega))
set_option maxRecDepth 100000 in
set_option maxHeartbeats 4000000 in
theorem wM_items {l : Launch} (hl : l.stackTraces = false) {g : wG} {o n0 : Nat} {p0 : Int32} {z : cS} {f : Nat → Int64} {sz ka kb : Nat} {P : Int32 ⊕ Nat → cS → Prop} (hq : z.1 o = some (6, n0)) (hsp : cSpec (fX6_items o p0) z ka kb P) (hE : ∀ e z2, P (.inr e) z2 → e = 0) : wM l g 7 yL_items cL_items 4 [(0, 9, 12, 13)] [.ref o, .int p0, .ref g.2.1] z f sz ka kb (fun k w2 => (∃ w, P (.inl w) w2.1 ∧ k = 0 ∧ w2.2 0 = w.toInt64) ∨ ∃ e, P (.inr e) w2.1 ∧ k = if e = 0 then 1 else 0) :=
  wM_of (lo0 := [some (.ref o), some (.int p0), some (.ref g.2.1), none]) (by decide +kernel) rfl (cs1_q (cs1_i (cs1_q cs1_nil))) (Nat.le_of_ble_eq_true rfl) rfl hl (fun X hX C => by
    refine ga_aload_n C.1 dL_items_0 rfl rfl ?_
    refine ga_iconst C.1 dL_items_1 (v := 0) (by decide) ?_
    refine ga_aload_n C.1 dL_items_2 rfl rfl ?_
    refine ga_iload_n C.1 dL_items_3 rfl rfl ?_
    refine wa_call C (fn := fX6_items o p0) (to := cOi) (P := P) (As := [.int p0]) dL_items_4 cOi_e (fun z o2 z2 k n h => by rw [hX]; exact mX6_items hl h) hsp hq rfl tL_l45 tLI_X6_items tLS_X6_items tZ6 tLC_X6_items tLH_X6_items (by decide) (by decide) (Nat.le_of_ble_eq_true rfl) (by omega) (by omega) (fun o2 z2 v hP hv => ?_) (fun e z2 H locs ls q9 ce hP h1 h2 h3 hce hcv hcl => ?_)
    · cases o2 with
      | inr e => cases hv
      | inl w =>
        cases hv
        refine ga_i2l C.1 dL_items_7 ?_
        refine wa_last C dL_items_8 ?_
        refine ga_goto C.1 dL_items_9 (tgt := 15) (by decide) ?_
        refine ga_iconst C.1 dL_items_15 (v := 0) (by decide) ?_
        exact wa_iret C dL_items_16 (Or.inl ⟨w, hP, rfl, rfl⟩) (by omega) (by omega)
    · obtain rfl := hE e z2 hP
      refine wa_catch C (he := by decide) [] [] (0, 9, 12, 13) rfl (fun p hp => by cases hp) (by decide) (by decide) tL_k13 tL_cast0 (w := (z2, f)) h1 h2 h3 hce hcv hcl ?_
      refine ga_astore_n C.1 dL_items_12 rfl (by decide) ?_
      refine ga_iconst C.1 dL_items_13 (v := 1) (by decide) ?_
      exact wa_iret C dL_items_14 (Or.inr ⟨0, hP, rfl⟩) (by omega) (by omega))
set_option maxRecDepth 100000 in
set_option maxHeartbeats 4000000 in
theorem wM_match {l : Launch} (hl : l.stackTraces = false) {g : wG} {o n0 : Nat} {p0 : Int32} {p1 : Int32} {z : cS} {f : Nat → Int64} {sz ka kb : Nat} {P : Int32 ⊕ Nat → cS → Prop} (hq : z.1 o = some (6, n0)) (hsp : cSpec (fX6_match o p0 p1) z ka kb P) (hE : ∀ e z2, P (.inr e) z2 → e = 0) : wM l g 36 yL_match cL_match 5 [(0, 10, 13, 13)] [.ref o, .int p0, .int p1, .ref g.2.1] z f sz ka kb (fun k w2 => (∃ w, P (.inl w) w2.1 ∧ k = 0 ∧ w2.2 0 = w.toInt64) ∨ ∃ e, P (.inr e) w2.1 ∧ k = if e = 0 then 1 else 0) :=
  wM_of (lo0 := [some (.ref o), some (.int p0), some (.int p1), some (.ref g.2.1), none]) (by decide +kernel) rfl (cs1_q (cs1_i (cs1_i (cs1_q cs1_nil)))) (Nat.le_of_ble_eq_true rfl) rfl hl (fun X hX C => by
    refine ga_aload_n C.1 dL_match_0 rfl rfl ?_
    refine ga_iconst C.1 dL_match_1 (v := 0) (by decide) ?_
    refine ga_aload_n C.1 dL_match_2 rfl rfl ?_
    refine ga_iload_n C.1 dL_match_3 rfl rfl ?_
    refine ga_iload_n C.1 dL_match_4 rfl rfl ?_
    refine wa_call C (fn := fX6_match o p0 p1) (to := cOi) (P := P) (As := [.int p0, .int p1]) dL_match_5 cOi_e (fun z o2 z2 k n h => by rw [hX]; exact mX6_match hl h) hsp hq rfl tL_l71 tLI_X6_match tLS_X6_match tZ6 tLC_X6_match tLH_X6_match (by decide) (by decide) (Nat.le_of_ble_eq_true rfl) (by omega) (by omega) (fun o2 z2 v hP hv => ?_) (fun e z2 H locs ls q9 ce hP h1 h2 h3 hce hcv hcl => ?_)
    · cases o2 with
      | inr e => cases hv
      | inl w =>
        cases hv
        refine ga_i2l C.1 dL_match_8 ?_
        refine wa_last C dL_match_9 ?_
        refine ga_goto C.1 dL_match_10 (tgt := 17) (by decide) ?_
        refine ga_iconst C.1 dL_match_17 (v := 0) (by decide) ?_
        exact wa_iret C dL_match_18 (Or.inl ⟨w, hP, rfl, rfl⟩) (by omega) (by omega)
    · obtain rfl := hE e z2 hP
      refine wa_catch C (he := by decide) [] [] (0, 10, 13, 13) rfl (fun p hp => by cases hp) (by decide) (by decide) tL_k13 tL_cast0 (w := (z2, f)) h1 h2 h3 hce hcv hcl ?_
      refine ga_astore C.1 dL_match_13 (by decide) ?_
      refine ga_iconst C.1 dL_match_15 (v := 1) (by decide) ?_
      exact wa_iret C dL_match_16 (Or.inr ⟨0, hP, rfl⟩) (by omega) (by omega))
set_option maxRecDepth 100000 in
set_option maxHeartbeats 4000000 in
theorem wM_open {l : Launch} (hl : l.stackTraces = false) {g : wG} {o n0 : Nat} {p0 : Int32} {z : cS} {f : Nat → Int64} {sz ka kb : Nat} {P : Int32 ⊕ Nat → cS → Prop} (hq : z.1 o = some (6, n0)) (hsp : cSpec (fX6_open o p0) z ka kb P) (hE : ∀ e z2, P (.inr e) z2 → e = 0) : wM l g 7 yL_open cL_open 4 [(0, 9, 12, 13)] [.ref o, .int p0, .ref g.2.1] z f sz ka kb (fun k w2 => (∃ w, P (.inl w) w2.1 ∧ k = 0 ∧ w2.2 0 = w.toInt64) ∨ ∃ e, P (.inr e) w2.1 ∧ k = if e = 0 then 1 else 0) :=
  wM_of (lo0 := [some (.ref o), some (.int p0), some (.ref g.2.1), none]) (by decide +kernel) rfl (cs1_q (cs1_i (cs1_q cs1_nil))) (Nat.le_of_ble_eq_true rfl) rfl hl (fun X hX C => by
    refine ga_aload_n C.1 dL_open_0 rfl rfl ?_
    refine ga_iconst C.1 dL_open_1 (v := 0) (by decide) ?_
    refine ga_aload_n C.1 dL_open_2 rfl rfl ?_
    refine ga_iload_n C.1 dL_open_3 rfl rfl ?_
    refine wa_call C (fn := fX6_open o p0) (to := cOi) (P := P) (As := [.int p0]) dL_open_4 cOi_e (fun z o2 z2 k n h => by rw [hX]; exact mX6_open hl h) hsp hq rfl tL_l33 tLI_X6_open tLS_X6_open tZ6 tLC_X6_open tLH_X6_open (by decide) (by decide) (Nat.le_of_ble_eq_true rfl) (by omega) (by omega) (fun o2 z2 v hP hv => ?_) (fun e z2 H locs ls q9 ce hP h1 h2 h3 hce hcv hcl => ?_)
    · cases o2 with
      | inr e => cases hv
      | inl w =>
        cases hv
        refine ga_i2l C.1 dL_open_7 ?_
        refine wa_last C dL_open_8 ?_
        refine ga_goto C.1 dL_open_9 (tgt := 15) (by decide) ?_
        refine ga_iconst C.1 dL_open_15 (v := 0) (by decide) ?_
        exact wa_iret C dL_open_16 (Or.inl ⟨w, hP, rfl, rfl⟩) (by omega) (by omega)
    · obtain rfl := hE e z2 hP
      refine wa_catch C (he := by decide) [] [] (0, 9, 12, 13) rfl (fun p hp => by cases hp) (by decide) (by decide) tL_k13 tL_cast0 (w := (z2, f)) h1 h2 h3 hce hcv hcl ?_
      refine ga_astore_n C.1 dL_open_12 rfl (by decide) ?_
      refine ga_iconst C.1 dL_open_13 (v := 1) (by decide) ?_
      exact wa_iret C dL_open_14 (Or.inr ⟨0, hP, rfl⟩) (by omega) (by omega))
set_option maxRecDepth 100000 in
set_option maxHeartbeats 4000000 in
theorem wM_pack {l : Launch} (hl : l.stackTraces = false) {g : wG} {o n0 : Nat} {p0 : Int32} {p1 : Int32} {z : cS} {f : Nat → Int64} {sz ka kb : Nat} {P : Int32 ⊕ Nat → cS → Prop} (hq : z.1 o = some (6, n0)) (hsp : cSpec (fX6_pack o p0 p1) z ka kb P) (hE : ∀ e z2, P (.inr e) z2 → e = 0 ∨ e = 2) : wM l g 36 yL_pack cL_pack 5 [(0, 10, 13, 13), (0, 10, 17, 15)] [.ref o, .int p0, .int p1, .ref g.2.1] z f sz ka kb (fun k w2 => (∃ w, P (.inl w) w2.1 ∧ k = 0 ∧ w2.2 0 = w.toInt64) ∨ ∃ e, P (.inr e) w2.1 ∧ k = if e = 0 then 1 else (if e = 2 then 2 else 0)) :=
  wM_of (lo0 := [some (.ref o), some (.int p0), some (.int p1), some (.ref g.2.1), none]) (by decide +kernel) rfl (cs1_q (cs1_i (cs1_i (cs1_q cs1_nil)))) (Nat.le_of_ble_eq_true rfl) rfl hl (fun X hX C => by
    refine ga_aload_n C.1 dL_pack_0 rfl rfl ?_
    refine ga_iconst C.1 dL_pack_1 (v := 0) (by decide) ?_
    refine ga_aload_n C.1 dL_pack_2 rfl rfl ?_
    refine ga_iload_n C.1 dL_pack_3 rfl rfl ?_
    refine ga_iload_n C.1 dL_pack_4 rfl rfl ?_
    refine wa_call C (fn := fX6_pack o p0 p1) (to := cOi) (P := P) (As := [.int p0, .int p1]) dL_pack_5 cOi_e (fun z o2 z2 k n h => by rw [hX]; exact mX6_pack hl h) hsp hq rfl tL_l100 tLI_X6_pack tLS_X6_pack tZ6 tLC_X6_pack tLH_X6_pack (by decide) (by decide) (Nat.le_of_ble_eq_true rfl) (by omega) (by omega) (fun o2 z2 v hP hv => ?_) (fun e z2 H locs ls q9 ce hP h1 h2 h3 hce hcv hcl => ?_)
    · cases o2 with
      | inr e => cases hv
      | inl w =>
        cases hv
        refine ga_i2l C.1 dL_pack_8 ?_
        refine wa_last C dL_pack_9 ?_
        refine ga_goto C.1 dL_pack_10 (tgt := 21) (by decide) ?_
        refine ga_iconst C.1 dL_pack_21 (v := 0) (by decide) ?_
        exact wa_iret C dL_pack_22 (Or.inl ⟨w, hP, rfl, rfl⟩) (by omega) (by omega)
    · rcases hE e z2 hP with rfl | rfl
      · refine wa_catch C (he := by decide) [] [(0, 10, 17, 15)] (0, 10, 13, 13) rfl (fun p hp => by cases hp) (by decide) (by decide) tL_k13 tL_cast0 (w := (z2, f)) h1 h2 h3 hce hcv hcl ?_
        refine ga_astore C.1 dL_pack_13 (by decide) ?_
        refine ga_iconst C.1 dL_pack_15 (v := 1) (by decide) ?_
        exact wa_iret C dL_pack_16 (Or.inr ⟨0, hP, rfl⟩) (by omega) (by omega)
      · refine wa_catch C (he := by decide) [(0, 10, 13, 13)] [] (0, 10, 17, 15) rfl (fun p hp => by rw [List.mem_singleton] at hp; subst hp; exact ⟨0, by decide, by decide, by decide, tL_k13⟩) (by decide) (by decide) tL_k15 tL_cast2 (w := (z2, f)) h1 h2 h3 hce hcv hcl ?_
        refine ga_astore C.1 dL_pack_17 (by decide) ?_
        refine ga_iconst C.1 dL_pack_19 (v := 2) (by decide) ?_
        exact wa_iret C dL_pack_20 (Or.inr ⟨2, hP, rfl⟩) (by omega) (by omega))
set_option maxRecDepth 100000 in
set_option maxHeartbeats 4000000 in
theorem wM_seal {l : Launch} (hl : l.stackTraces = false) {g : wG} {o n0 : Nat} {p0 : Int32} {p1 : Int32} {z : cS} {f : Nat → Int64} {sz ka kb : Nat} {P : Int32 ⊕ Nat → cS → Prop} (hq : z.1 o = some (6, n0)) (hsp : cSpec (fX6_seal o p0 p1) z ka kb P) (hE : ∀ e z2, P (.inr e) z2 → e = 0 ∨ e = 2) : wM l g 37 yL_seal cL_seal 5 [(0, 10, 13, 13), (0, 10, 17, 15)] [.ref o, .int p0, .int p1, .ref g.2.1] z f sz ka kb (fun k w2 => (∃ w, P (.inl w) w2.1 ∧ k = 0 ∧ w2.2 0 = w.toInt64) ∨ ∃ e, P (.inr e) w2.1 ∧ k = if e = 0 then 1 else (if e = 2 then 2 else 0)) :=
  wM_of (lo0 := [some (.ref o), some (.int p0), some (.int p1), some (.ref g.2.1), none]) (by decide +kernel) rfl (cs1_q (cs1_i (cs1_i (cs1_q cs1_nil)))) (Nat.le_of_ble_eq_true rfl) rfl hl (fun X hX C => by
    refine ga_aload_n C.1 dL_seal_0 rfl rfl ?_
    refine ga_iconst C.1 dL_seal_1 (v := 0) (by decide) ?_
    refine ga_aload_n C.1 dL_seal_2 rfl rfl ?_
    refine ga_iload_n C.1 dL_seal_3 rfl rfl ?_
    refine ga_iload_n C.1 dL_seal_4 rfl rfl ?_
    refine wa_call C (fn := fX6_seal o p0 p1) (to := cOi) (P := P) (As := [.int p0, .int p1]) dL_seal_5 cOi_e (fun z o2 z2 k n h => by rw [hX]; exact mX6_seal hl h) hsp hq rfl tL_l74 tLI_X6_seal tLS_X6_seal tZ6 tLC_X6_seal tLH_X6_seal (by decide) (by decide) (Nat.le_of_ble_eq_true rfl) (by omega) (by omega) (fun o2 z2 v hP hv => ?_) (fun e z2 H locs ls q9 ce hP h1 h2 h3 hce hcv hcl => ?_)
    · cases o2 with
      | inr e => cases hv
      | inl w =>
        cases hv
        refine ga_i2l C.1 dL_seal_8 ?_
        refine wa_last C dL_seal_9 ?_
        refine ga_goto C.1 dL_seal_10 (tgt := 21) (by decide) ?_
        refine ga_iconst C.1 dL_seal_21 (v := 0) (by decide) ?_
        exact wa_iret C dL_seal_22 (Or.inl ⟨w, hP, rfl, rfl⟩) (by omega) (by omega)
    · rcases hE e z2 hP with rfl | rfl
      · refine wa_catch C (he := by decide) [] [(0, 10, 17, 15)] (0, 10, 13, 13) rfl (fun p hp => by cases hp) (by decide) (by decide) tL_k13 tL_cast0 (w := (z2, f)) h1 h2 h3 hce hcv hcl ?_
        refine ga_astore C.1 dL_seal_13 (by decide) ?_
        refine ga_iconst C.1 dL_seal_15 (v := 1) (by decide) ?_
        exact wa_iret C dL_seal_16 (Or.inr ⟨0, hP, rfl⟩) (by omega) (by omega)
      · refine wa_catch C (he := by decide) [(0, 10, 13, 13)] [] (0, 10, 17, 15) rfl (fun p hp => by rw [List.mem_singleton] at hp; subst hp; exact ⟨0, by decide, by decide, by decide, tL_k13⟩) (by decide) (by decide) tL_k15 tL_cast2 (w := (z2, f)) h1 h2 h3 hce hcv hcl ?_
        refine ga_astore C.1 dL_seal_17 (by decide) ?_
        refine ga_iconst C.1 dL_seal_19 (v := 2) (by decide) ?_
        exact wa_iret C dL_seal_20 (Or.inr ⟨2, hP, rfl⟩) (by omega) (by omega))
set_option maxRecDepth 100000 in
set_option maxHeartbeats 4000000 in
theorem wM_signature {l : Launch} (hl : l.stackTraces = false) {g : wG} {o n0 : Nat} {z : cS} {f : Nat → Int64} {sz ka kb : Nat} {P : Int32 ⊕ Nat → cS → Prop} (hq : z.1 o = some (6, n0)) (hsp : cSpec (fX6_signature o) z ka kb P) (hE : ∀ e z2, P (.inr e) z2 → e = 2) : wM l g 7 yL_signature cL_signature 3 [(0, 8, 11, 15)] [.ref o, .ref g.2.1] z f sz ka kb (fun k w2 => (∃ w, P (.inl w) w2.1 ∧ k = 0 ∧ w2.2 0 = w.toInt64) ∨ ∃ e, P (.inr e) w2.1 ∧ k = if e = 2 then 1 else 0) :=
  wM_of (lo0 := [some (.ref o), some (.ref g.2.1), none]) (by decide +kernel) rfl (cs1_q (cs1_q cs1_nil)) (Nat.le_of_ble_eq_true rfl) rfl hl (fun X hX C => by
    refine ga_aload_n C.1 dL_signature_0 rfl rfl ?_
    refine ga_iconst C.1 dL_signature_1 (v := 0) (by decide) ?_
    refine ga_aload_n C.1 dL_signature_2 rfl rfl ?_
    refine wa_call C (fn := fX6_signature o) (to := cOi) (P := P) (As := []) dL_signature_3 cOi_e (fun z o2 z2 k n h => by rw [hX]; exact mX6_signature hl h) hsp hq rfl tL_l61 tLI_X6_signature tLS_X6_signature tZ6 tLC_X6_signature tLH_X6_signature (by decide) (by decide) (Nat.le_of_ble_eq_true rfl) (by omega) (by omega) (fun o2 z2 v hP hv => ?_) (fun e z2 H locs ls q9 ce hP h1 h2 h3 hce hcv hcl => ?_)
    · cases o2 with
      | inr e => cases hv
      | inl w =>
        cases hv
        refine ga_i2l C.1 dL_signature_6 ?_
        refine wa_last C dL_signature_7 ?_
        refine ga_goto C.1 dL_signature_8 (tgt := 14) (by decide) ?_
        refine ga_iconst C.1 dL_signature_14 (v := 0) (by decide) ?_
        exact wa_iret C dL_signature_15 (Or.inl ⟨w, hP, rfl, rfl⟩) (by omega) (by omega)
    · obtain rfl := hE e z2 hP
      refine wa_catch C (he := by decide) [] [] (0, 8, 11, 15) rfl (fun p hp => by cases hp) (by decide) (by decide) tL_k15 tL_cast2 (w := (z2, f)) h1 h2 h3 hce hcv hcl ?_
      refine ga_astore_n C.1 dL_signature_11 rfl (by decide) ?_
      refine ga_iconst C.1 dL_signature_12 (v := 1) (by decide) ?_
      exact wa_iret C dL_signature_13 (Or.inr ⟨2, hP, rfl⟩) (by omega) (by omega))
set_option maxRecDepth 100000 in
set_option maxHeartbeats 4000000 in
theorem wM_specPart {l : Launch} (hl : l.stackTraces = false) {g : wG} {o n0 : Nat} {p0 : Int32} {p1 : Int32} {z : cS} {f : Nat → Int64} {sz ka kb : Nat} {P : Int32 ⊕ Nat → cS → Prop} (hq : z.1 o = some (6, n0)) (hsp : cSpec (fX6_specPart o p0 p1) z ka kb P) (hE : ∀ e z2, P (.inr e) z2 → e = 0 ∨ e = 1 ∨ e = 2) : wM l g 8 yL_specPart cL_specPart 5 [(0, 10, 13, 13), (0, 10, 17, 20), (0, 10, 21, 15)] [.ref o, .int p0, .int p1, .ref g.2.1] z f sz ka kb (fun k w2 => (∃ w, P (.inl w) w2.1 ∧ k = 0 ∧ w2.2 0 = w.toInt64) ∨ ∃ e, P (.inr e) w2.1 ∧ k = if e = 0 then 1 else (if e = 1 then 2 else (if e = 2 then 3 else 0))) :=
  wM_of (lo0 := [some (.ref o), some (.int p0), some (.int p1), some (.ref g.2.1), none]) (by decide +kernel) rfl (cs1_q (cs1_i (cs1_i (cs1_q cs1_nil)))) (Nat.le_of_ble_eq_true rfl) rfl hl (fun X hX C => by
    refine ga_aload_n C.1 dL_specPart_0 rfl rfl ?_
    refine ga_iconst C.1 dL_specPart_1 (v := 0) (by decide) ?_
    refine ga_aload_n C.1 dL_specPart_2 rfl rfl ?_
    refine ga_iload_n C.1 dL_specPart_3 rfl rfl ?_
    refine ga_iload_n C.1 dL_specPart_4 rfl rfl ?_
    refine wa_call C (fn := fX6_specPart o p0 p1) (to := cOi) (P := P) (As := [.int p0, .int p1]) dL_specPart_5 cOi_e (fun z o2 z2 k n h => by rw [hX]; exact mX6_specPart hl h) hsp hq rfl tL_l55 tLI_X6_specPart tLS_X6_specPart tZ6 tLC_X6_specPart tLH_X6_specPart (by decide) (by decide) (Nat.le_of_ble_eq_true rfl) (by omega) (by omega) (fun o2 z2 v hP hv => ?_) (fun e z2 H locs ls q9 ce hP h1 h2 h3 hce hcv hcl => ?_)
    · cases o2 with
      | inr e => cases hv
      | inl w =>
        cases hv
        refine ga_i2l C.1 dL_specPart_8 ?_
        refine wa_last C dL_specPart_9 ?_
        refine ga_goto C.1 dL_specPart_10 (tgt := 25) (by decide) ?_
        refine ga_iconst C.1 dL_specPart_25 (v := 0) (by decide) ?_
        exact wa_iret C dL_specPart_26 (Or.inl ⟨w, hP, rfl, rfl⟩) (by omega) (by omega)
    · rcases hE e z2 hP with rfl | rfl | rfl
      · refine wa_catch C (he := by decide) [] [(0, 10, 17, 20), (0, 10, 21, 15)] (0, 10, 13, 13) rfl (fun p hp => by cases hp) (by decide) (by decide) tL_k13 tL_cast0 (w := (z2, f)) h1 h2 h3 hce hcv hcl ?_
        refine ga_astore C.1 dL_specPart_13 (by decide) ?_
        refine ga_iconst C.1 dL_specPart_15 (v := 1) (by decide) ?_
        exact wa_iret C dL_specPart_16 (Or.inr ⟨0, hP, rfl⟩) (by omega) (by omega)
      · refine wa_catch C (he := by decide) [(0, 10, 13, 13)] [(0, 10, 21, 15)] (0, 10, 17, 20) rfl (fun p hp => by rw [List.mem_singleton] at hp; subst hp; exact ⟨0, by decide, by decide, by decide, tL_k13⟩) (by decide) (by decide) tL_k20 tL_cast1 (w := (z2, f)) h1 h2 h3 hce hcv hcl ?_
        refine ga_astore C.1 dL_specPart_17 (by decide) ?_
        refine ga_iconst C.1 dL_specPart_19 (v := 2) (by decide) ?_
        exact wa_iret C dL_specPart_20 (Or.inr ⟨1, hP, rfl⟩) (by omega) (by omega)
      · refine wa_catch C (he := by decide) [(0, 10, 13, 13), (0, 10, 17, 20)] [] (0, 10, 21, 15) rfl (fun p hp => (List.mem_cons.mp hp).elim (fun e => by subst e; exact ⟨0, by decide, by decide, by decide, tL_k13⟩) (fun hp => by rw [List.mem_singleton] at hp; subst hp; exact ⟨1, by decide, by decide, by decide, tL_k20⟩)) (by decide) (by decide) tL_k15 tL_cast2 (w := (z2, f)) h1 h2 h3 hce hcv hcl ?_
        refine ga_astore C.1 dL_specPart_21 (by decide) ?_
        refine ga_iconst C.1 dL_specPart_23 (v := 3) (by decide) ?_
        exact wa_iret C dL_specPart_24 (Or.inr ⟨2, hP, rfl⟩) (by omega) (by omega))
set_option maxRecDepth 100000 in
set_option maxHeartbeats 4000000 in
theorem wM_specType {l : Launch} (hl : l.stackTraces = false) {g : wG} {o n0 : Nat} {p0 : Int32} {p1 : Int32} {z : cS} {f : Nat → Int64} {sz ka kb : Nat} {P : Int32 ⊕ Nat → cS → Prop} (hq : z.1 o = some (6, n0)) (hsp : cSpec (fX6_specType o p0 p1) z ka kb P) (hE : ∀ e z2, P (.inr e) z2 → e = 0 ∨ e = 1 ∨ e = 2) : wM l g 8 yL_specType cL_specType 5 [(0, 10, 13, 13), (0, 10, 17, 20), (0, 10, 21, 15)] [.ref o, .int p0, .int p1, .ref g.2.1] z f sz ka kb (fun k w2 => (∃ w, P (.inl w) w2.1 ∧ k = 0 ∧ w2.2 0 = w.toInt64) ∨ ∃ e, P (.inr e) w2.1 ∧ k = if e = 0 then 1 else (if e = 1 then 2 else (if e = 2 then 3 else 0))) :=
  wM_of (lo0 := [some (.ref o), some (.int p0), some (.int p1), some (.ref g.2.1), none]) (by decide +kernel) rfl (cs1_q (cs1_i (cs1_i (cs1_q cs1_nil)))) (Nat.le_of_ble_eq_true rfl) rfl hl (fun X hX C => by
    refine ga_aload_n C.1 dL_specType_0 rfl rfl ?_
    refine ga_iconst C.1 dL_specType_1 (v := 0) (by decide) ?_
    refine ga_aload_n C.1 dL_specType_2 rfl rfl ?_
    refine ga_iload_n C.1 dL_specType_3 rfl rfl ?_
    refine ga_iload_n C.1 dL_specType_4 rfl rfl ?_
    refine wa_call C (fn := fX6_specType o p0 p1) (to := cOi) (P := P) (As := [.int p0, .int p1]) dL_specType_5 cOi_e (fun z o2 z2 k n h => by rw [hX]; exact mX6_specType hl h) hsp hq rfl tL_l48 tLI_X6_specType tLS_X6_specType tZ6 tLC_X6_specType tLH_X6_specType (by decide) (by decide) (Nat.le_of_ble_eq_true rfl) (by omega) (by omega) (fun o2 z2 v hP hv => ?_) (fun e z2 H locs ls q9 ce hP h1 h2 h3 hce hcv hcl => ?_)
    · cases o2 with
      | inr e => cases hv
      | inl w =>
        cases hv
        refine ga_i2l C.1 dL_specType_8 ?_
        refine wa_last C dL_specType_9 ?_
        refine ga_goto C.1 dL_specType_10 (tgt := 25) (by decide) ?_
        refine ga_iconst C.1 dL_specType_25 (v := 0) (by decide) ?_
        exact wa_iret C dL_specType_26 (Or.inl ⟨w, hP, rfl, rfl⟩) (by omega) (by omega)
    · rcases hE e z2 hP with rfl | rfl | rfl
      · refine wa_catch C (he := by decide) [] [(0, 10, 17, 20), (0, 10, 21, 15)] (0, 10, 13, 13) rfl (fun p hp => by cases hp) (by decide) (by decide) tL_k13 tL_cast0 (w := (z2, f)) h1 h2 h3 hce hcv hcl ?_
        refine ga_astore C.1 dL_specType_13 (by decide) ?_
        refine ga_iconst C.1 dL_specType_15 (v := 1) (by decide) ?_
        exact wa_iret C dL_specType_16 (Or.inr ⟨0, hP, rfl⟩) (by omega) (by omega)
      · refine wa_catch C (he := by decide) [(0, 10, 13, 13)] [(0, 10, 21, 15)] (0, 10, 17, 20) rfl (fun p hp => by rw [List.mem_singleton] at hp; subst hp; exact ⟨0, by decide, by decide, by decide, tL_k13⟩) (by decide) (by decide) tL_k20 tL_cast1 (w := (z2, f)) h1 h2 h3 hce hcv hcl ?_
        refine ga_astore C.1 dL_specType_17 (by decide) ?_
        refine ga_iconst C.1 dL_specType_19 (v := 2) (by decide) ?_
        exact wa_iret C dL_specType_20 (Or.inr ⟨1, hP, rfl⟩) (by omega) (by omega)
      · refine wa_catch C (he := by decide) [(0, 10, 13, 13), (0, 10, 17, 20)] [] (0, 10, 21, 15) rfl (fun p hp => (List.mem_cons.mp hp).elim (fun e => by subst e; exact ⟨0, by decide, by decide, by decide, tL_k13⟩) (fun hp => by rw [List.mem_singleton] at hp; subst hp; exact ⟨1, by decide, by decide, by decide, tL_k20⟩)) (by decide) (by decide) tL_k15 tL_cast2 (w := (z2, f)) h1 h2 h3 hce hcv hcl ?_
        refine ga_astore C.1 dL_specType_21 (by decide) ?_
        refine ga_iconst C.1 dL_specType_23 (v := 3) (by decide) ?_
        exact wa_iret C dL_specType_24 (Or.inr ⟨2, hP, rfl⟩) (by omega) (by omega))
set_option maxRecDepth 100000 in
set_option maxHeartbeats 4000000 in
theorem wM_specValue {l : Launch} (hl : l.stackTraces = false) {g : wG} {o n0 : Nat} {p0 : Int32} {p1 : Int32} {p2 : Int32} {z : cS} {f : Nat → Int64} {sz ka kb : Nat} {P : Int32 ⊕ Nat → cS → Prop} (hq : z.1 o = some (6, n0)) (hsp : cSpec (fX6_specValue o p0 p1 p2) z ka kb P) (hE : ∀ e z2, P (.inr e) z2 → e = 0 ∨ e = 1 ∨ e = 2) : wM l g 8 yL_specValue cL_specValue 6 [(0, 12, 15, 13), (0, 12, 19, 20), (0, 12, 23, 15)] [.ref o, .int p0, .int p1, .int p2, .ref g.2.1] z f sz ka kb (fun k w2 => (∃ w, P (.inl w) w2.1 ∧ k = 0 ∧ w2.2 0 = w.toInt64) ∨ ∃ e, P (.inr e) w2.1 ∧ k = if e = 0 then 1 else (if e = 1 then 2 else (if e = 2 then 3 else 0))) :=
  wM_of (lo0 := [some (.ref o), some (.int p0), some (.int p1), some (.int p2), some (.ref g.2.1), none]) (by decide +kernel) rfl (cs1_q (cs1_i (cs1_i (cs1_i (cs1_q cs1_nil))))) (Nat.le_of_ble_eq_true rfl) rfl hl (fun X hX C => by
    refine ga_aload C.1 dL_specValue_0 rfl ?_
    refine ga_iconst C.1 dL_specValue_2 (v := 0) (by decide) ?_
    refine ga_aload_n C.1 dL_specValue_3 rfl rfl ?_
    refine ga_iload_n C.1 dL_specValue_4 rfl rfl ?_
    refine ga_iload_n C.1 dL_specValue_5 rfl rfl ?_
    refine ga_iload_n C.1 dL_specValue_6 rfl rfl ?_
    refine wa_call C (fn := fX6_specValue o p0 p1 p2) (to := cOi) (P := P) (As := [.int p0, .int p1, .int p2]) dL_specValue_7 cOi_e (fun z o2 z2 k n h => by rw [hX]; exact mX6_specValue hl h) hsp hq rfl tL_l51 tLI_X6_specValue tLS_X6_specValue tZ6 tLC_X6_specValue tLH_X6_specValue (by decide) (by decide) (Nat.le_of_ble_eq_true rfl) (by omega) (by omega) (fun o2 z2 v hP hv => ?_) (fun e z2 H locs ls q9 ce hP h1 h2 h3 hce hcv hcl => ?_)
    · cases o2 with
      | inr e => cases hv
      | inl w =>
        cases hv
        refine ga_i2l C.1 dL_specValue_10 ?_
        refine wa_last C dL_specValue_11 ?_
        refine ga_goto C.1 dL_specValue_12 (tgt := 27) (by decide) ?_
        refine ga_iconst C.1 dL_specValue_27 (v := 0) (by decide) ?_
        exact wa_iret C dL_specValue_28 (Or.inl ⟨w, hP, rfl, rfl⟩) (by omega) (by omega)
    · rcases hE e z2 hP with rfl | rfl | rfl
      · refine wa_catch C (he := by decide) [] [(0, 12, 19, 20), (0, 12, 23, 15)] (0, 12, 15, 13) rfl (fun p hp => by cases hp) (by decide) (by decide) tL_k13 tL_cast0 (w := (z2, f)) h1 h2 h3 hce hcv hcl ?_
        refine ga_astore C.1 dL_specValue_15 (by decide) ?_
        refine ga_iconst C.1 dL_specValue_17 (v := 1) (by decide) ?_
        exact wa_iret C dL_specValue_18 (Or.inr ⟨0, hP, rfl⟩) (by omega) (by omega)
      · refine wa_catch C (he := by decide) [(0, 12, 15, 13)] [(0, 12, 23, 15)] (0, 12, 19, 20) rfl (fun p hp => by rw [List.mem_singleton] at hp; subst hp; exact ⟨0, by decide, by decide, by decide, tL_k13⟩) (by decide) (by decide) tL_k20 tL_cast1 (w := (z2, f)) h1 h2 h3 hce hcv hcl ?_
        refine ga_astore C.1 dL_specValue_19 (by decide) ?_
        refine ga_iconst C.1 dL_specValue_21 (v := 2) (by decide) ?_
        exact wa_iret C dL_specValue_22 (Or.inr ⟨1, hP, rfl⟩) (by omega) (by omega)
      · refine wa_catch C (he := by decide) [(0, 12, 15, 13), (0, 12, 19, 20)] [] (0, 12, 23, 15) rfl (fun p hp => (List.mem_cons.mp hp).elim (fun e => by subst e; exact ⟨0, by decide, by decide, by decide, tL_k13⟩) (fun hp => by rw [List.mem_singleton] at hp; subst hp; exact ⟨1, by decide, by decide, by decide, tL_k20⟩)) (by decide) (by decide) tL_k15 tL_cast2 (w := (z2, f)) h1 h2 h3 hce hcv hcl ?_
        refine ga_astore C.1 dL_specValue_23 (by decide) ?_
        refine ga_iconst C.1 dL_specValue_25 (v := 3) (by decide) ?_
        exact wa_iret C dL_specValue_26 (Or.inr ⟨2, hP, rfl⟩) (by omega) (by omega))
set_option maxRecDepth 100000 in
set_option maxHeartbeats 4000000 in
theorem wM_specs {l : Launch} (hl : l.stackTraces = false) {g : wG} {o n0 : Nat} {p0 : Int32} {z : cS} {f : Nat → Int64} {sz ka kb : Nat} {P : Int32 ⊕ Nat → cS → Prop} (hq : z.1 o = some (6, n0)) (hsp : cSpec (fX6_specs o p0) z ka kb P) (hE : ∀ e z2, P (.inr e) z2 → e = 0) : wM l g 7 yL_specs cL_specs 4 [(0, 9, 12, 13)] [.ref o, .int p0, .ref g.2.1] z f sz ka kb (fun k w2 => (∃ w, P (.inl w) w2.1 ∧ k = 0 ∧ w2.2 0 = w.toInt64) ∨ ∃ e, P (.inr e) w2.1 ∧ k = if e = 0 then 1 else 0) :=
  wM_of (lo0 := [some (.ref o), some (.int p0), some (.ref g.2.1), none]) (by decide +kernel) rfl (cs1_q (cs1_i (cs1_q cs1_nil))) (Nat.le_of_ble_eq_true rfl) rfl hl (fun X hX C => by
    refine ga_aload_n C.1 dL_specs_0 rfl rfl ?_
    refine ga_iconst C.1 dL_specs_1 (v := 0) (by decide) ?_
    refine ga_aload_n C.1 dL_specs_2 rfl rfl ?_
    refine ga_iload_n C.1 dL_specs_3 rfl rfl ?_
    refine wa_call C (fn := fX6_specs o p0) (to := cOi) (P := P) (As := [.int p0]) dL_specs_4 cOi_e (fun z o2 z2 k n h => by rw [hX]; exact mX6_specs hl h) hsp hq rfl tL_l68 tLI_X6_specs tLS_X6_specs tZ6 tLC_X6_specs tLH_X6_specs (by decide) (by decide) (Nat.le_of_ble_eq_true rfl) (by omega) (by omega) (fun o2 z2 v hP hv => ?_) (fun e z2 H locs ls q9 ce hP h1 h2 h3 hce hcv hcl => ?_)
    · cases o2 with
      | inr e => cases hv
      | inl w =>
        cases hv
        refine ga_i2l C.1 dL_specs_7 ?_
        refine wa_last C dL_specs_8 ?_
        refine ga_goto C.1 dL_specs_9 (tgt := 15) (by decide) ?_
        refine ga_iconst C.1 dL_specs_15 (v := 0) (by decide) ?_
        exact wa_iret C dL_specs_16 (Or.inl ⟨w, hP, rfl, rfl⟩) (by omega) (by omega)
    · obtain rfl := hE e z2 hP
      refine wa_catch C (he := by decide) [] [] (0, 9, 12, 13) rfl (fun p hp => by cases hp) (by decide) (by decide) tL_k13 tL_cast0 (w := (z2, f)) h1 h2 h3 hce hcv hcl ?_
      refine ga_astore_n C.1 dL_specs_12 rfl (by decide) ?_
      refine ga_iconst C.1 dL_specs_13 (v := 1) (by decide) ?_
      exact wa_iret C dL_specs_14 (Or.inr ⟨0, hP, rfl⟩) (by omega) (by omega))
set_option maxRecDepth 100000 in
set_option maxHeartbeats 4000000 in
theorem wM_structure {l : Launch} (hl : l.stackTraces = false) {g : wG} {o n0 : Nat} {z : cS} {f : Nat → Int64} {sz ka kb : Nat} {P : Int32 ⊕ Nat → cS → Prop} (hq : z.1 o = some (6, n0)) (hsp : cSpec (fX6_structure o) z ka kb P) (hE : ∀ e z2, P (.inr e) z2 → e = 2) : wM l g 7 yL_structure cL_structure 3 [(0, 8, 11, 15)] [.ref o, .ref g.2.1] z f sz ka kb (fun k w2 => (∃ w, P (.inl w) w2.1 ∧ k = 0 ∧ w2.2 0 = w.toInt64) ∨ ∃ e, P (.inr e) w2.1 ∧ k = if e = 2 then 1 else 0) :=
  wM_of (lo0 := [some (.ref o), some (.ref g.2.1), none]) (by decide +kernel) rfl (cs1_q (cs1_q cs1_nil)) (Nat.le_of_ble_eq_true rfl) rfl hl (fun X hX C => by
    refine ga_aload_n C.1 dL_structure_0 rfl rfl ?_
    refine ga_iconst C.1 dL_structure_1 (v := 0) (by decide) ?_
    refine ga_aload_n C.1 dL_structure_2 rfl rfl ?_
    refine wa_call C (fn := fX6_structure o) (to := cOi) (P := P) (As := []) dL_structure_3 cOi_e (fun z o2 z2 k n h => by rw [hX]; exact mX6_structure hl h) hsp hq rfl tL_l37 tLI_X6_structure tLS_X6_structure tZ6 tLC_X6_structure tLH_X6_structure (by decide) (by decide) (Nat.le_of_ble_eq_true rfl) (by omega) (by omega) (fun o2 z2 v hP hv => ?_) (fun e z2 H locs ls q9 ce hP h1 h2 h3 hce hcv hcl => ?_)
    · cases o2 with
      | inr e => cases hv
      | inl w =>
        cases hv
        refine ga_i2l C.1 dL_structure_6 ?_
        refine wa_last C dL_structure_7 ?_
        refine ga_goto C.1 dL_structure_8 (tgt := 14) (by decide) ?_
        refine ga_iconst C.1 dL_structure_14 (v := 0) (by decide) ?_
        exact wa_iret C dL_structure_15 (Or.inl ⟨w, hP, rfl, rfl⟩) (by omega) (by omega)
    · obtain rfl := hE e z2 hP
      refine wa_catch C (he := by decide) [] [] (0, 8, 11, 15) rfl (fun p hp => by cases hp) (by decide) (by decide) tL_k15 tL_cast2 (w := (z2, f)) h1 h2 h3 hce hcv hcl ?_
      refine ga_astore_n C.1 dL_structure_11 rfl (by decide) ?_
      refine ga_iconst C.1 dL_structure_12 (v := 1) (by decide) ?_
      exact wa_iret C dL_structure_13 (Or.inr ⟨2, hP, rfl⟩) (by omega) (by omega))
set_option maxRecDepth 100000 in
set_option maxHeartbeats 4000000 in
theorem wM_type {l : Launch} (hl : l.stackTraces = false) {g : wG} {o n0 : Nat} {p0 : Int32} {p1 : Int32} {z : cS} {f : Nat → Int64} {sz ka kb : Nat} {P : Int32 ⊕ Nat → cS → Prop} (hq : z.1 o = some (6, n0)) (hsp : cSpec (fX6_type o p0 p1) z ka kb P) (hE : ∀ e z2, P (.inr e) z2 → e = 0 ∨ e = 1) : wM l g 8 yL_type cL_type 5 [(0, 10, 13, 13), (0, 10, 17, 20)] [.ref o, .int p0, .int p1, .ref g.2.1] z f sz ka kb (fun k w2 => (∃ w, P (.inl w) w2.1 ∧ k = 0 ∧ w2.2 0 = w.toInt64) ∨ ∃ e, P (.inr e) w2.1 ∧ k = if e = 0 then 1 else (if e = 1 then 2 else 0)) :=
  wM_of (lo0 := [some (.ref o), some (.int p0), some (.int p1), some (.ref g.2.1), none]) (by decide +kernel) rfl (cs1_q (cs1_i (cs1_i (cs1_q cs1_nil)))) (Nat.le_of_ble_eq_true rfl) rfl hl (fun X hX C => by
    refine ga_aload_n C.1 dL_type_0 rfl rfl ?_
    refine ga_iconst C.1 dL_type_1 (v := 0) (by decide) ?_
    refine ga_aload_n C.1 dL_type_2 rfl rfl ?_
    refine ga_iload_n C.1 dL_type_3 rfl rfl ?_
    refine ga_iload_n C.1 dL_type_4 rfl rfl ?_
    refine wa_call C (fn := fX6_type o p0 p1) (to := cOi) (P := P) (As := [.int p0, .int p1]) dL_type_5 cOi_e (fun z o2 z2 k n h => by rw [hX]; exact mX6_type hl h) hsp hq rfl tL_l17 tLI_X6_type tLS_X6_type tZ6 tLC_X6_type tLH_X6_type (by decide) (by decide) (Nat.le_of_ble_eq_true rfl) (by omega) (by omega) (fun o2 z2 v hP hv => ?_) (fun e z2 H locs ls q9 ce hP h1 h2 h3 hce hcv hcl => ?_)
    · cases o2 with
      | inr e => cases hv
      | inl w =>
        cases hv
        refine ga_i2l C.1 dL_type_8 ?_
        refine wa_last C dL_type_9 ?_
        refine ga_goto C.1 dL_type_10 (tgt := 21) (by decide) ?_
        refine ga_iconst C.1 dL_type_21 (v := 0) (by decide) ?_
        exact wa_iret C dL_type_22 (Or.inl ⟨w, hP, rfl, rfl⟩) (by omega) (by omega)
    · rcases hE e z2 hP with rfl | rfl
      · refine wa_catch C (he := by decide) [] [(0, 10, 17, 20)] (0, 10, 13, 13) rfl (fun p hp => by cases hp) (by decide) (by decide) tL_k13 tL_cast0 (w := (z2, f)) h1 h2 h3 hce hcv hcl ?_
        refine ga_astore C.1 dL_type_13 (by decide) ?_
        refine ga_iconst C.1 dL_type_15 (v := 1) (by decide) ?_
        exact wa_iret C dL_type_16 (Or.inr ⟨0, hP, rfl⟩) (by omega) (by omega)
      · refine wa_catch C (he := by decide) [(0, 10, 13, 13)] [] (0, 10, 17, 20) rfl (fun p hp => by rw [List.mem_singleton] at hp; subst hp; exact ⟨0, by decide, by decide, by decide, tL_k13⟩) (by decide) (by decide) tL_k20 tL_cast1 (w := (z2, f)) h1 h2 h3 hce hcv hcl ?_
        refine ga_astore C.1 dL_type_17 (by decide) ?_
        refine ga_iconst C.1 dL_type_19 (v := 2) (by decide) ?_
        exact wa_iret C dL_type_20 (Or.inr ⟨1, hP, rfl⟩) (by omega) (by omega))
set_option maxRecDepth 100000 in
set_option maxHeartbeats 4000000 in
theorem wM_unit {l : Launch} (hl : l.stackTraces = false) {g : wG} {o n0 : Nat} {p0 : Int32} {p1 : Int32} {p2 : Int32} {z : cS} {f : Nat → Int64} {sz ka kb : Nat} {P : Int32 ⊕ Nat → cS → Prop} (hq : z.1 o = some (6, n0)) (hsp : cSpec (fX6_unit o p0 p1 p2) z ka kb P) (hE : ∀ e z2, P (.inr e) z2 → e = 0 ∨ e = 2) : wM l g 8 yL_unit cL_unit 6 [(0, 12, 15, 13), (0, 12, 19, 15)] [.ref o, .int p0, .int p1, .int p2, .ref g.2.1] z f sz ka kb (fun k w2 => (∃ w, P (.inl w) w2.1 ∧ k = 0 ∧ w2.2 0 = w.toInt64) ∨ ∃ e, P (.inr e) w2.1 ∧ k = if e = 0 then 1 else (if e = 2 then 2 else 0)) :=
  wM_of (lo0 := [some (.ref o), some (.int p0), some (.int p1), some (.int p2), some (.ref g.2.1), none]) (by decide +kernel) rfl (cs1_q (cs1_i (cs1_i (cs1_i (cs1_q cs1_nil))))) (Nat.le_of_ble_eq_true rfl) rfl hl (fun X hX C => by
    refine ga_aload C.1 dL_unit_0 rfl ?_
    refine ga_iconst C.1 dL_unit_2 (v := 0) (by decide) ?_
    refine ga_aload_n C.1 dL_unit_3 rfl rfl ?_
    refine ga_iload_n C.1 dL_unit_4 rfl rfl ?_
    refine ga_iload_n C.1 dL_unit_5 rfl rfl ?_
    refine ga_iload_n C.1 dL_unit_6 rfl rfl ?_
    refine wa_call C (fn := fX6_unit o p0 p1 p2) (to := cOi) (P := P) (As := [.int p0, .int p1, .int p2]) dL_unit_7 cOi_e (fun z o2 z2 k n h => by rw [hX]; exact mX6_unit hl h) hsp hq rfl tL_l106 tLI_X6_unit tLS_X6_unit tZ6 tLC_X6_unit tLH_X6_unit (by decide) (by decide) (Nat.le_of_ble_eq_true rfl) (by omega) (by omega) (fun o2 z2 v hP hv => ?_) (fun e z2 H locs ls q9 ce hP h1 h2 h3 hce hcv hcl => ?_)
    · cases o2 with
      | inr e => cases hv
      | inl w =>
        cases hv
        refine ga_i2l C.1 dL_unit_10 ?_
        refine wa_last C dL_unit_11 ?_
        refine ga_goto C.1 dL_unit_12 (tgt := 23) (by decide) ?_
        refine ga_iconst C.1 dL_unit_23 (v := 0) (by decide) ?_
        exact wa_iret C dL_unit_24 (Or.inl ⟨w, hP, rfl, rfl⟩) (by omega) (by omega)
    · rcases hE e z2 hP with rfl | rfl
      · refine wa_catch C (he := by decide) [] [(0, 12, 19, 15)] (0, 12, 15, 13) rfl (fun p hp => by cases hp) (by decide) (by decide) tL_k13 tL_cast0 (w := (z2, f)) h1 h2 h3 hce hcv hcl ?_
        refine ga_astore C.1 dL_unit_15 (by decide) ?_
        refine ga_iconst C.1 dL_unit_17 (v := 1) (by decide) ?_
        exact wa_iret C dL_unit_18 (Or.inr ⟨0, hP, rfl⟩) (by omega) (by omega)
      · refine wa_catch C (he := by decide) [(0, 12, 15, 13)] [] (0, 12, 19, 15) rfl (fun p hp => by rw [List.mem_singleton] at hp; subst hp; exact ⟨0, by decide, by decide, by decide, tL_k13⟩) (by decide) (by decide) tL_k15 tL_cast2 (w := (z2, f)) h1 h2 h3 hce hcv hcl ?_
        refine ga_astore C.1 dL_unit_19 (by decide) ?_
        refine ga_iconst C.1 dL_unit_21 (v := 2) (by decide) ?_
        exact wa_iret C dL_unit_22 (Or.inr ⟨2, hP, rfl⟩) (by omega) (by omega))
set_option maxRecDepth 100000 in
set_option maxHeartbeats 4000000 in
theorem wM_unpack {l : Launch} (hl : l.stackTraces = false) {g : wG} {o n0 : Nat} {p0 : Int32} {z : cS} {f : Nat → Int64} {sz ka kb : Nat} {P : Int32 ⊕ Nat → cS → Prop} (hq : z.1 o = some (6, n0)) (hsp : cSpec (fX6_unpack o p0) z ka kb P) (hE : ∀ e z2, P (.inr e) z2 → e = 0 ∨ e = 2) : wM l g 37 yL_unpack cL_unpack 4 [(0, 9, 12, 13), (0, 9, 15, 15)] [.ref o, .int p0, .ref g.2.1] z f sz ka kb (fun k w2 => (∃ w, P (.inl w) w2.1 ∧ k = 0 ∧ w2.2 0 = w.toInt64) ∨ ∃ e, P (.inr e) w2.1 ∧ k = if e = 0 then 1 else (if e = 2 then 2 else 0)) :=
  wM_of (lo0 := [some (.ref o), some (.int p0), some (.ref g.2.1), none]) (by decide +kernel) rfl (cs1_q (cs1_i (cs1_q cs1_nil))) (Nat.le_of_ble_eq_true rfl) rfl hl (fun X hX C => by
    refine ga_aload_n C.1 dL_unpack_0 rfl rfl ?_
    refine ga_iconst C.1 dL_unpack_1 (v := 0) (by decide) ?_
    refine ga_aload_n C.1 dL_unpack_2 rfl rfl ?_
    refine ga_iload_n C.1 dL_unpack_3 rfl rfl ?_
    refine wa_call C (fn := fX6_unpack o p0) (to := cOi) (P := P) (As := [.int p0]) dL_unpack_4 cOi_e (fun z o2 z2 k n h => by rw [hX]; exact mX6_unpack hl h) hsp hq rfl tL_l103 tLI_X6_unpack tLS_X6_unpack tZ6 tLC_X6_unpack tLH_X6_unpack (by decide) (by decide) (Nat.le_of_ble_eq_true rfl) (by omega) (by omega) (fun o2 z2 v hP hv => ?_) (fun e z2 H locs ls q9 ce hP h1 h2 h3 hce hcv hcl => ?_)
    · cases o2 with
      | inr e => cases hv
      | inl w =>
        cases hv
        refine ga_i2l C.1 dL_unpack_7 ?_
        refine wa_last C dL_unpack_8 ?_
        refine ga_goto C.1 dL_unpack_9 (tgt := 18) (by decide) ?_
        refine ga_iconst C.1 dL_unpack_18 (v := 0) (by decide) ?_
        exact wa_iret C dL_unpack_19 (Or.inl ⟨w, hP, rfl, rfl⟩) (by omega) (by omega)
    · rcases hE e z2 hP with rfl | rfl
      · refine wa_catch C (he := by decide) [] [(0, 9, 15, 15)] (0, 9, 12, 13) rfl (fun p hp => by cases hp) (by decide) (by decide) tL_k13 tL_cast0 (w := (z2, f)) h1 h2 h3 hce hcv hcl ?_
        refine ga_astore_n C.1 dL_unpack_12 rfl (by decide) ?_
        refine ga_iconst C.1 dL_unpack_13 (v := 1) (by decide) ?_
        exact wa_iret C dL_unpack_14 (Or.inr ⟨0, hP, rfl⟩) (by omega) (by omega)
      · refine wa_catch C (he := by decide) [(0, 9, 12, 13)] [] (0, 9, 15, 15) rfl (fun p hp => by rw [List.mem_singleton] at hp; subst hp; exact ⟨0, by decide, by decide, by decide, tL_k13⟩) (by decide) (by decide) tL_k15 tL_cast2 (w := (z2, f)) h1 h2 h3 hce hcv hcl ?_
        refine ga_astore_n C.1 dL_unpack_15 rfl (by decide) ?_
        refine ga_iconst C.1 dL_unpack_16 (v := 2) (by decide) ?_
        exact wa_iret C dL_unpack_17 (Or.inr ⟨2, hP, rfl⟩) (by omega) (by omega))
set_option maxRecDepth 100000 in
set_option maxHeartbeats 4000000 in
theorem wM_view {l : Launch} (hl : l.stackTraces = false) {g : wG} {o n0 : Nat} {p0 : Int32} {p1 : Int32} {z : cS} {f : Nat → Int64} {sz ka kb : Nat} {P : Int32 ⊕ Nat → cS → Prop} (hq : z.1 o = some (6, n0)) (hsp : cSpec (fX6_view o p0 p1) z ka kb P) (hE : ∀ e z2, P (.inr e) z2 → e = 0 ∨ e = 2) : wM l g 37 yL_view cL_view 5 [(0, 10, 13, 13), (0, 10, 17, 15)] [.ref o, .int p0, .int p1, .ref g.2.1] z f sz ka kb (fun k w2 => (∃ w, P (.inl w) w2.1 ∧ k = 0 ∧ w2.2 0 = w.toInt64) ∨ ∃ e, P (.inr e) w2.1 ∧ k = if e = 0 then 1 else (if e = 2 then 2 else 0)) :=
  wM_of (lo0 := [some (.ref o), some (.int p0), some (.int p1), some (.ref g.2.1), none]) (by decide +kernel) rfl (cs1_q (cs1_i (cs1_i (cs1_q cs1_nil)))) (Nat.le_of_ble_eq_true rfl) rfl hl (fun X hX C => by
    refine ga_aload_n C.1 dL_view_0 rfl rfl ?_
    refine ga_iconst C.1 dL_view_1 (v := 0) (by decide) ?_
    refine ga_aload_n C.1 dL_view_2 rfl rfl ?_
    refine ga_iload_n C.1 dL_view_3 rfl rfl ?_
    refine ga_iload_n C.1 dL_view_4 rfl rfl ?_
    refine wa_call C (fn := fX6_view o p0 p1) (to := cOi) (P := P) (As := [.int p0, .int p1]) dL_view_5 cOi_e (fun z o2 z2 k n h => by rw [hX]; exact mX6_view hl h) hsp hq rfl tL_l77 tLI_X6_view tLS_X6_view tZ6 tLC_X6_view tLH_X6_view (by decide) (by decide) (Nat.le_of_ble_eq_true rfl) (by omega) (by omega) (fun o2 z2 v hP hv => ?_) (fun e z2 H locs ls q9 ce hP h1 h2 h3 hce hcv hcl => ?_)
    · cases o2 with
      | inr e => cases hv
      | inl w =>
        cases hv
        refine ga_i2l C.1 dL_view_8 ?_
        refine wa_last C dL_view_9 ?_
        refine ga_goto C.1 dL_view_10 (tgt := 21) (by decide) ?_
        refine ga_iconst C.1 dL_view_21 (v := 0) (by decide) ?_
        exact wa_iret C dL_view_22 (Or.inl ⟨w, hP, rfl, rfl⟩) (by omega) (by omega)
    · rcases hE e z2 hP with rfl | rfl
      · refine wa_catch C (he := by decide) [] [(0, 10, 17, 15)] (0, 10, 13, 13) rfl (fun p hp => by cases hp) (by decide) (by decide) tL_k13 tL_cast0 (w := (z2, f)) h1 h2 h3 hce hcv hcl ?_
        refine ga_astore C.1 dL_view_13 (by decide) ?_
        refine ga_iconst C.1 dL_view_15 (v := 1) (by decide) ?_
        exact wa_iret C dL_view_16 (Or.inr ⟨0, hP, rfl⟩) (by omega) (by omega)
      · refine wa_catch C (he := by decide) [(0, 10, 13, 13)] [] (0, 10, 17, 15) rfl (fun p hp => by rw [List.mem_singleton] at hp; subst hp; exact ⟨0, by decide, by decide, by decide, tL_k13⟩) (by decide) (by decide) tL_k15 tL_cast2 (w := (z2, f)) h1 h2 h3 hce hcv hcl ?_
        refine ga_astore C.1 dL_view_17 (by decide) ?_
        refine ga_iconst C.1 dL_view_19 (v := 2) (by decide) ?_
        exact wa_iret C dL_view_20 (Or.inr ⟨2, hP, rfl⟩) (by omega) (by omega))
set_option maxRecDepth 100000 in
set_option maxHeartbeats 4000000 in
theorem wM_with {l : Launch} (hl : l.stackTraces = false) {g : wG} {o n0 : Nat} {p0 : Int32} {p1 : Int32} {p2 : Int32} {p3 : Int32} {z : cS} {f : Nat → Int64} {sz ka kb : Nat} {P : Int32 ⊕ Nat → cS → Prop} (hq : z.1 o = some (6, n0)) (hsp : cSpec (fX6_with o p0 p1 p2 p3) z ka kb P) (hE : ∀ e z2, P (.inr e) z2 → e = 0 ∨ e = 2) : wM l g 8 yL_with cL_with 7 [(0, 14, 17, 13), (0, 14, 21, 15)] [.ref o, .int p0, .int p1, .int p2, .int p3, .ref g.2.1] z f sz ka kb (fun k w2 => (∃ w, P (.inl w) w2.1 ∧ k = 0 ∧ w2.2 0 = w.toInt64) ∨ ∃ e, P (.inr e) w2.1 ∧ k = if e = 0 then 1 else (if e = 2 then 2 else 0)) :=
  wM_of (lo0 := [some (.ref o), some (.int p0), some (.int p1), some (.int p2), some (.int p3), some (.ref g.2.1), none]) (by decide +kernel) rfl (cs1_q (cs1_i (cs1_i (cs1_i (cs1_i (cs1_q cs1_nil)))))) (Nat.le_of_ble_eq_true rfl) rfl hl (fun X hX C => by
    refine ga_aload C.1 dL_with_0 rfl ?_
    refine ga_iconst C.1 dL_with_2 (v := 0) (by decide) ?_
    refine ga_aload_n C.1 dL_with_3 rfl rfl ?_
    refine ga_iload_n C.1 dL_with_4 rfl rfl ?_
    refine ga_iload_n C.1 dL_with_5 rfl rfl ?_
    refine ga_iload_n C.1 dL_with_6 rfl rfl ?_
    refine ga_iload C.1 dL_with_7 rfl ?_
    refine wa_call C (fn := fX6_with o p0 p1 p2 p3) (to := cOi) (P := P) (As := [.int p0, .int p1, .int p2, .int p3]) dL_with_9 cOi_e (fun z o2 z2 k n h => by rw [hX]; exact mX6_with hl h) hsp hq rfl tL_l64 tLI_X6_with tLS_X6_with tZ6 tLC_X6_with tLH_X6_with (by decide) (by decide) (Nat.le_of_ble_eq_true rfl) (by omega) (by omega) (fun o2 z2 v hP hv => ?_) (fun e z2 H locs ls q9 ce hP h1 h2 h3 hce hcv hcl => ?_)
    · cases o2 with
      | inr e => cases hv
      | inl w =>
        cases hv
        refine ga_i2l C.1 dL_with_12 ?_
        refine wa_last C dL_with_13 ?_
        refine ga_goto C.1 dL_with_14 (tgt := 25) (by decide) ?_
        refine ga_iconst C.1 dL_with_25 (v := 0) (by decide) ?_
        exact wa_iret C dL_with_26 (Or.inl ⟨w, hP, rfl, rfl⟩) (by omega) (by omega)
    · rcases hE e z2 hP with rfl | rfl
      · refine wa_catch C (he := by decide) [] [(0, 14, 21, 15)] (0, 14, 17, 13) rfl (fun p hp => by cases hp) (by decide) (by decide) tL_k13 tL_cast0 (w := (z2, f)) h1 h2 h3 hce hcv hcl ?_
        refine ga_astore C.1 dL_with_17 (by decide) ?_
        refine ga_iconst C.1 dL_with_19 (v := 1) (by decide) ?_
        exact wa_iret C dL_with_20 (Or.inr ⟨0, hP, rfl⟩) (by omega) (by omega)
      · refine wa_catch C (he := by decide) [(0, 14, 17, 13)] [] (0, 14, 21, 15) rfl (fun p hp => by rw [List.mem_singleton] at hp; subst hp; exact ⟨0, by decide, by decide, by decide, tL_k13⟩) (by decide) (by decide) tL_k15 tL_cast2 (w := (z2, f)) h1 h2 h3 hce hcv hcl ?_
        refine ga_astore C.1 dL_with_21 (by decide) ?_
        refine ga_iconst C.1 dL_with_23 (v := 2) (by decide) ?_
        exact wa_iret C dL_with_24 (Or.inr ⟨2, hP, rfl⟩) (by omega) (by omega))
