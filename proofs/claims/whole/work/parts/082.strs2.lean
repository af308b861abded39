/-! THE CALLS ON STRUCTS: made, asked -/
section Strs2
variable {o b t : Nat} {K : Nat → Option (Nat × Nat)} {I : Nat → Nat → Int32} {P : Nat → Nat → Option Nat} {N0 N : Nat} {f : Nat → Int32} {M : Nat → Nat → Int32} {T : List TyD} {n g : Nat} {R : Nat → Option RowD} {F : List FuD} {Q : List (Int32 × Int32)} {U : List UnD}
theorem RR.upN (x : RR f M T n g R F Q U) {n2 : Nat} (hn : n2 ≤ 95) : RR (upd f 4 (nI n2)) M T n2 g R F Q U :=
  ⟨x.ty.congr (upd_n (by omega)) rfl rfl rfl, ⟨upd_s, hn, (upd_n (by omega)).trans x.cn.2.2.1, x.cn.2.2.2⟩, x.rw, x.fu.congr (upd_n (by omega)) (fun _ _ _ => rfl), x.pk.congr (upd_n (by omega)) rfl rfl, x.un.congr (upd_n (by omega)) (fun _ _ _ => rfl), (upd_n (by omega)).trans x.dp⟩
theorem RR.upG (x : RR f M T n g R F Q U) {g2 : Nat} (hg : g ≤ g2) (hn : g2 ≤ 20) : RR (upd f 10 (nI g2)) M T n g2 R F Q U :=
  ⟨x.ty.congr (upd_n (by omega)) rfl rfl rfl, ⟨(upd_n (by omega)).trans x.cn.1, x.cn.2.1, upd_s, hn, fun j h1 h2 => x.cn.2.2.2.2 j (by omega) h2⟩, x.rw, x.fu.congr (upd_n (by omega)) (fun _ _ _ => rfl), x.pk.congr (upd_n (by omega)) rfl rfl, x.un.congr (upd_n (by omega)) (fun _ _ _ => rfl), (upd_n (by omega)).trans x.dp⟩
theorem WF.newS (h : WF t T n g R F Q U) {L : List En} {w p : Nat} (hn : n < 30) (hL : WfS T.length n L) : WF t T (n + 1) g (aup (aup R n (some (L, w, p))) 100 (some ([], 0, 0))) F Q U := by
  refine h.strs (by omega) (by omega) (fun k hk => by rw [aup_n (by omega), aup_n (by omega)]) (fun k hk => ?_)
  by_cases hk1 : k = 100
  · subst hk1; exact ⟨[], 0, 0, aup_s, WfS.nil⟩
  · rw [aup_n hk1]
    by_cases hk2 : k = n
    · subst hk2; exact ⟨L, w, p, aup_s, hL.mono (Nat.le_refl _) (by omega)⟩
    · rw [aup_n hk2]
      obtain ⟨L2, w2, p2, h1, h2⟩ := h.str (show k < n ∨ k = 100 by omega)
      exact ⟨L2, w2, p2, h1, h2.mono (Nat.le_refl _) (by omega)⟩
theorem strs_loop {L : List En} (hn : n < 100) : ∀ m fu q M, q + m = L.length → m < fu → f 4 = nI n → rIt M 100 L → rIt M n (L.take q) → L.length ≤ 30 → ∃ W, fX7_structure_b37 fu (nI (6000 + q)) (f, M) = some (nI n, upd f 4 (nI (n + 1)), mup W 5 100 0) ∧ rIt W n L ∧ itF M W n := by
  intro m
  induction m with
  | zero =>
    intro fu q M hq hf hf4 h1 h2 h30
    cases fu with
    | zero => omega
    | succ fu =>
      refine ⟨M, ?_, by rw [List.take_of_length_le (by omega)] at h2; exact h2, itF.rf⟩
      show fX7_structure_b37_body _ (nI (6000 + q)) (f, M) = _
      unfold fX7_structure_b37_body
      rw [show (100 : Int32) = nI 100 from rfl, r_rd 101 rfl (by omega) (by omega), Option.bind_some, h1.1, show (6000 : Int32) = nI 6000 from rfl, nI_add, if_pos (nI_le (by omega) (by omega)), r_wr 101 rfl (by omega) (by omega), Option.bind_some]
      show some (upd f 4 (f 4 + 1) 4 - 1, upd f 4 (f 4 + 1), mup M 5 100 0) = _
      rw [upd_s, hf4, nI_1, nI_pred]
  | succ m ih =>
    intro fu q M hq hf hf4 h1 h2 h30
    cases fu with
    | zero => omega
    | succ fu =>
      have hql : q < L.length := by omega
      have hg := List.getElem?_eq_getElem hql
      obtain ⟨v1, v2, v3, v4⟩ := h1.2.2 q _ hg
      obtain ⟨W, e1, e2, e3⟩ := puts_r (f := f) h2 (by omega) (by rw [List.length_take]; omega) L[q].1 L[q].2.1 L[q].2.2.1 L[q].2.2.2.2.1 L[q].2.2.2.1 L[q].2.2.2.2.2
      rw [show (L[q].1, L[q].2.1, L[q].2.2.1, L[q].2.2.2.1, L[q].2.2.2.2.1, L[q].2.2.2.2.2) = L[q] from rfl, List.take_append_getElem hql] at e2
      obtain ⟨W2, d1, d2, d3⟩ := ih fu (q + 1) W (by omega) (by omega) hf4 (e3.other (by omega) h1) e2 h30
      refine ⟨W2, ?_, d2, e3.tr d3⟩
      show fX7_structure_b37_body _ (nI (6000 + q)) (f, M) = _
      unfold fX7_structure_b37_body
      rw [show (100 : Int32) = nI 100 from rfl, r_rd 101 rfl (by omega) (by omega), Option.bind_some, h1.1, show (6000 : Int32) = nI 6000 from rfl, nI_add, if_neg (nI_ge (by omega) (by omega)), r_rd 6060 rfl (by omega) (by omega), Option.bind_some, r_rd 6060 rfl (by omega) (by omega), Option.bind_some, r_rd 6060 rfl (by omega) (by omega), Option.bind_some, r_rd 6060 rfl (by omega) (by omega), Option.bind_some, show 6000 + q = 60 * 100 + q from rfl, v1, v2, v3, v4]
      show Option.bind (fX7_puts (f 4) _ _ _ _ (f, M)) _ = _
      rw [hf4, e1, Option.bind_some, nI_1]
      exact d1
theorem s_structure (o t : Nat) : sim_structure o (Inv o t) (Inv o (t + 1)) := by
  intro z S hI
  obtain ⟨K, I, P, N0⟩ := z
  obtain ⟨f, M⟩ := S
  refine sim_core (fun e => e = 2) (fun e => if e = 2 then 1 else 0) hI (fun b T n g R F Q U hR hW => ?_)
  have h30 := hW.1.2.2.1
  obtain ⟨L, w, p, hr, hL⟩ := hW.str (Or.inr rfl)
  have hL30 := hL.len
  by_cases hn : n < 30
  · refine sim_do (nI n) (hW.newS (w := w) (p := p) hn hL).step (fun N hC => ?_) ?_
    · obtain ⟨a, -, hp, -, -⟩ := hC.row hr
      have ha : b + 7 = a := by rw [ptr100] at hp; cases hp; rfl
      subst ha
      obtain ⟨K2, I2, P2, N2, ka, kb, e1, e2, e3, e4⟩ := keep_S hC hn hr hp (by omega)
      rw [Nat.zero_add] at e4
      refine ⟨K2, I2, P2, N2, ka, kb, ?_, by omega, by omega, e4⟩
      unfold fX6_structure
      rw [g61 hC, Option.bind_some, g63 hC, Option.bind_some, r3 hC, Option.bind_some, e1]
      show ause ka kb (if nI n = -1 then _ else _) = _
      rw [if_neg (nI_nm1 (by omega))]
      rfl
    · have hd := (hR.rw 100 _ hr).1 (Nat.le_refl _)
      have hd0 : rIt (mup M 5 n 0) 100 L := by
        refine itF.other (k := n) ⟨fun j hj => mup_k (by omega), fun i hi => mup_i hi, fun j i h1 h2 h3 => by rw [mup_k (by omega)]⟩ (by omega) hd
      have hn0 : rIt (mup M 5 n 0) n [] := ⟨mup_s, by simp, fun p e he => by simp at he⟩
      obtain ⟨W, d1, d2, d3⟩ := strs_loop (f := upd f 54 0) (n := n) (by omega) L.length rFuel 0 _ (by omega) (by show L.length < 100000; omega) ((upd_n (by omega)).trans hR.cn.1) hd0 hn0 hL30
      have f1 : itF M W n := itF.tr ⟨fun j hj => mup_k (by omega), fun i hi => mup_i hi, fun j i h1 h2 h3 => by rw [mup_k (by omega)]⟩ d3
      have q1 := ((hR.thr 0).upIt (d := (L, w, p)) (k := n) (by omega) f1 d2).upIt (d := ([], 0, 0)) (k := 100) (W := mup W 5 100 0) (Nat.le_refl _) ⟨fun j hj => mup_k (by omega), fun i hi => mup_i hi, fun j i h1 h2 h3 => by rw [mup_k (by omega)]⟩ ⟨mup_s, by simp, fun p e he => by simp at he⟩
      have q2 := q1.upN (n2 := n + 1) (by omega)
      refine ⟨_, _, ?_, q2, by rw [upd_n (by omega), upd_s]⟩
      unfold fX7_structure
      show (if f 4 = 30 then _ else _) = _
      rw [hR.cn.1, show (30 : Int32) = nI 30 from rfl, if_neg (nI_ne (by omega) (by omega) (by omega))]
      unfold fX7_structure_b15
      rw [fails_0, Option.bind_some]
      show Option.bind (rwr (upd f 54 0, M) 5 (upd f 54 0 4) 0) _ = _
      rw [upd_n (by omega), hR.cn.1, r_wr 101 rfl (by omega) (by omega), Option.bind_some]
      exact d1
  · have hn30 : n = 30 := by omega
    refine sim_thr 2 0 hR hW rfl (fun N hC => ?_) ?_
    · unfold fX6_structure
      rw [g61 hC, Option.bind_some, g63 hC, Option.bind_some, r3 hC, Option.bind_some, keep_no hC.shS hn30]
      rfl
    · unfold fX7_structure
      show (if f 4 = 30 then _ else _) = _
      rw [hR.cn.1, hn30, if_pos rfl]
      unfold fX7_structure_b15
      rw [fails_1 (by decide), Option.bind_some]
      rfl
theorem s_items (o t : Nat) : sim_items o (Inv o t) (Inv o (t + 1)) := by
  intro z S p0 hI
  obtain ⟨K, I, P, N0⟩ := z
  obtain ⟨f, M⟩ := S
  refine sim_core (fun e => e = 0) (fun e => if e = 0 then 1 else 0) hI (fun b T n g R F Q U hR hW => ?_)
  have h30 := hW.1.2.2.1
  rcases ix_em p0 (n := n) (by omega) with ⟨i, hi, rfl⟩ | h1
  · obtain ⟨X, wi, pi, hri, hX⟩ := hW.str (Or.inl hi)
    refine sim_get (nI X.length) hR hW (fun N hC => ?_) ?_
    · obtain ⟨a, a1, a2, a3, ha⟩ := atS hC hi hri
      unfold fX6_items
      rw [g61 hC, Option.bind_some, r3 hC, Option.bind_some, ha, Option.bind_some]
      show Option.bind (cgI (K, I, P, N) a 2 1) _ = _
      rw [e_gI a2.1, a3.1.1]
      rfl
    · unfold fX7_items
      rw [isStr_t hR hi, Option.bind_some, if_neg i10]
      unfold fX7_items_b14
      rw [fails_0, Option.bind_some]
      show Option.bind (rd (upd f 54 0, M) 5 (nI i)) _ = _
      rw [r_rd 101 rfl (by omega) (by omega), ((hR.rw i _ hri).1 (by omega)).1]
      rfl
  · refine sim_thr 0 0 hR hW rfl (fun N hC => ?_) ?_
    · unfold fX6_items
      rw [g61 hC, Option.bind_some, r3 hC, Option.bind_some, at_no hC.shS h1, Option.bind_some]
      rfl
    · unfold fX7_items
      rw [isStr_f hR h1, Option.bind_some, if_pos rfl]
      unfold fX7_items_b14
      rw [fails_1 (by decide), Option.bind_some]
      rfl
theorem s_item (o t : Nat) : sim_item o (Inv o t) (Inv o (t + 1)) := by
  intro z S p0 p1 p2 p3 hI
  obtain ⟨K, I, P, N0⟩ := z
  obtain ⟨f, M⟩ := S
  refine sim_core (fun e => e = 0 ∨ e = 1) (fun e => if e = 0 then 1 else (if e = 1 then 2 else 0)) hI (fun b T n g R F Q U hR hW => ?_)
  have h30 := hW.1.2.2.1
  have fin : ∀ (s0 : Int32) (v : Int32), ¬ v ≤ 0 → fX7_item_b81 p0 p1 p3 s0 v (f, M) = some (0, upd f 54 v, M) := by
    intro s0 v hv
    unfold fX7_item_b81
    rw [fails_1 hv, Option.bind_some]
    rfl
  rcases ix_em p0 (n := n) (by omega) with ⟨i, hi, rfl⟩ | h1
  · obtain ⟨X, wi, pi, hri, hX⟩ := hW.str (Or.inl hi)
    have hX30 := hX.len
    have hrit := (hR.rw i _ hri).1 (by omega)
    rcases ix_em p1 (n := 3) (by omega) with ⟨kk, hkk, rfl⟩ | h2
    · have hk1 : ¬ nI kk < 0 := nI_pos (by omega)
      have hk3 : nI kk < 3 := by rw [show (3 : Int32) = nI 3 from rfl]; exact nI_lt hkk (by omega)
      have rst : fX7_item (nI i) (nI kk) p2 p3 (f, M) = fX7_item_b32 (nI i) (nI kk) p3 1 (plI (60 * i) (plc X (nI kk) p2)) (f, M) := by
        unfold fX7_item
        rw [isIn_t hk1 (by rw [show (2 : Int32) = nI 2 from rfl]; exact nI_nlt (by omega) (by omega)), Option.bind_some]
        show Option.bind (fX7_isStructure (nI i) (f, M)) _ = _
        rw [isStr_t hR hi, Option.bind_some, if_neg i10]
        show Option.bind (fX7_findsItem (nI i) (nI kk) p2 (f, M)) _ = _
        rw [fi_it hrit (by omega) hX.1, Option.bind_some]
      have cst : ∀ N, CR o b K I P N T n g R F Q U → ∃ a, RowOK K P a ∧ RowIs I a (X, wi, pi) ∧ fX6_item o (nI i) (nI kk) p2 p3 (K, I, P, N) = (fun v51 : Int32 => if (v51) = ((-1)) then some (.inr 0, (K, I, P, N), 1, 6) else if (p3) < 0 then fX6_item_b80 o (K, I, P, N) else if (p3) ≤ (2) then if (p3) = (1) then some (.inl v51, (K, I, P, N), 0, 0) else if (p3) = 0 then fX6_item_b113 o 2 v51 (some a) (K, I, P, N) else fX6_item_b113 o 4 v51 (some a) (K, I, P, N) else fX6_item_b80 o (K, I, P, N)) (plI 0 (plc X (nI kk) p2)) := by
        intro N hC
        obtain ⟨a, a1, a2, a3, ha⟩ := atS hC hi hri
        refine ⟨a, a2, a3, ?_⟩
        unfold fX6_item
        rw [g61 hC, Option.bind_some, r3 hC, Option.bind_some, ha, Option.bind_some]
        show (if some a = none then _ else if nI kk < 0 then _ else if nI kk < 3 then Option.bind (crc (K, I, P, N) (some a) 2) _ else _) = _
        rw [if_neg (fun e => by cases e), if_neg hk1, if_pos hk3, e_rc a2.1, Option.bind_some, placeOf_r a2 a3.1, Option.bind_some]
      cases hp : plc X (nI kk) p2 with
      | none =>
        refine sim_thr 0 0 hR hW (Or.inl rfl) (fun N hC => ?_) ?_
        · obtain ⟨a, a2, a3, ha⟩ := cst N hC
          rw [ha, hp]
          rfl
        · rw [rst, hp]
          unfold fX7_item_b32
          rw [isStr_t hR hi, Option.bind_some, if_neg i10, if_neg i10, if_pos plI_none]
          exact fin _ _ (by decide)
      | some q =>
        obtain ⟨e, he, ek, en⟩ := plc_some hp
        have hql := plc_lt hp
        obtain ⟨v1, v2, v3, v4⟩ := hrit.2.2 q e he
        have hse := hX.2 q e he
        have c0 : ∀ N, CR o b K I P N T n g R F Q U → ∃ a, RowOK K P a ∧ RowIs I a (X, wi, pi) ∧ fX6_item o (nI i) (nI kk) p2 p3 (K, I, P, N) = (if (p3) < 0 then fX6_item_b80 o (K, I, P, N) else if (p3) ≤ (2) then if (p3) = (1) then some (.inl (nI q), (K, I, P, N), 0, 0) else if (p3) = 0 then fX6_item_b113 o 2 (nI q) (some a) (K, I, P, N) else fX6_item_b113 o 4 (nI q) (some a) (K, I, P, N) else fX6_item_b80 o (K, I, P, N)) := by
          intro N hC
          obtain ⟨a, a2, a3, ha⟩ := cst N hC
          refine ⟨a, a2, a3, ?_⟩
          rw [ha, hp]
          show (if nI (0 + q) = -1 then _ else _) = _
          rw [Nat.zero_add, if_neg (nI_nm1 (by omega))]
          simp only [plI, Nat.zero_add]
        have r0 : fX7_item (nI i) (nI kk) p2 p3 (f, M) = Option.bind (fX7_isIn p3 0 2 (f, M)) fun q70 => if (q70.1) = 0 then fX7_item_b81 (nI i) (nI kk) p3 (nI (60 * i + q)) 2 (q70.2) else fX7_item_b81 (nI i) (nI kk) p3 (nI (60 * i + q)) 0 (q70.2) := by
          rw [rst, hp]
          unfold fX7_item_b32
          rw [isStr_t hR hi, Option.bind_some, if_neg i10, if_neg i10, if_neg (show ¬ plI (60 * i) (some q) = -1 from nI_nm1 (by omega))]
          rfl
        have r8 : ∀ v, fX7_item_b81 (nI i) (nI kk) p3 (nI (60 * i + q)) 0 (f, M) = v ↔ (if p3 = 0 then Option.bind (rd (upd f 54 0, M) 8 (nI (60 * i + q))) fun x100 => fX7_item_b136 x100 (upd f 54 0, M) else if p3 = 1 then fX7_item_b136 (nI (60 * i + q) - (60 * nI i)) (upd f 54 0, M) else if nI kk = 1 then Option.bind (rd (upd f 54 0, M) 9 (nI (60 * i + q))) fun x131 => fX7_item_b136 x131 (upd f 54 0, M) else fX7_item_b136 0 (upd f 54 0, M)) = v := by
          intro v
          unfold fX7_item_b81
          rw [fails_0, Option.bind_some]
          exact Iff.rfl
        rcases kind3 p3 with rfl | rfl | rfl | h4
        · refine sim_get e.2.2.1 hR hW (fun N hC => ?_) ?_
          · obtain ⟨a, a2, a3, ha⟩ := c0 N hC
            rw [ha, if_neg (by decide), if_pos (by decide), if_neg (by decide), if_pos rfl]
            unfold fX6_item_b113
            rw [e_rc a2.1, Option.bind_some, get_r2 a2 a3.1 he]
            rfl
          · rw [r0, isIn_t (by decide) (by decide), Option.bind_some, if_neg i10]
            rw [r8, if_pos rfl, r_rd 6060 rfl (by omega) (by omega), v3]
            rfl
        · refine sim_get (nI q) hR hW (fun N hC => ?_) ?_
          · obtain ⟨a, a2, a3, ha⟩ := c0 N hC
            rw [ha, if_neg (by decide), if_pos (by decide), if_pos rfl]
          · rw [r0, isIn_t (by decide) (by decide), Option.bind_some, if_neg i10]
            rw [r8, if_neg (by decide), if_pos rfl, show (60 : Int32) = nI 60 from rfl, pk_mul, pk_sub (by omega), Nat.add_sub_cancel_left]
            rfl
        · refine sim_get e.2.2.2.2.1 hR hW (fun N hC => ?_) ?_
          · obtain ⟨a, a2, a3, ha⟩ := c0 N hC
            rw [ha, if_neg (by decide), if_pos (by decide), if_neg (by decide), if_neg (by decide)]
            unfold fX6_item_b113
            rw [e_rc a2.1, Option.bind_some, get_r4 a2 a3.1 he]
            rfl
          · rw [r0, isIn_t (by decide) (by decide), Option.bind_some, if_neg i10]
            rw [r8, if_neg (by decide), if_neg (by decide)]
            by_cases h1 : nI kk = 1
            · rw [if_pos h1, r_rd 6060 rfl (by omega) (by omega), v4]
              rfl
            · rw [if_neg h1, hse.2.2.2.2.2.1 (by rw [ek]; exact h1)]
              rfl
        · refine sim_thr 1 0 hR hW (Or.inr rfl) (fun N hC => ?_) ?_
          · obtain ⟨a, a2, a3, ha⟩ := c0 N hC
            rw [ha]
            by_cases h5 : p3 < 0
            · rw [if_pos h5]; rfl
            · rw [if_neg h5, if_neg (fun h6 => by
                have h7 := h4.resolve_left h5
                rw [Int32.lt_iff_toInt_lt] at h7
                rw [Int32.le_iff_toInt_le] at h6
                omega)]
              rfl
          · rw [r0, isIn_f h4, Option.bind_some, if_pos rfl]
            exact fin _ _ (by decide)
    · have hk0 : nI 3 = 3 := rfl
      refine sim_thr 1 0 hR hW (Or.inr rfl) (fun N hC => ?_) ?_
      · obtain ⟨a, a1, a2, a3, ha⟩ := atS hC hi hri
        unfold fX6_item
        rw [g61 hC, Option.bind_some, r3 hC, Option.bind_some, ha, Option.bind_some]
        show (if some a = none then _ else if p1 < 0 then _ else if p1 < 3 then _ else _) = _
        rw [if_neg (fun e => by cases e)]
        by_cases h5 : p1 < 0
        · rw [if_pos h5]; rfl
        · rw [if_neg h5, if_neg (fun h6 => by
            have h7 := h2.resolve_left h5
            rw [hk0] at h7
            rw [Int32.lt_iff_toInt_lt] at h6
            rw [Int32.le_iff_toInt_le] at h7
            omega)]
          rfl
      · unfold fX7_item
        rw [isIn_f (by have := (lt_cnt (n := 3) (v := p1) (by omega)).mpr h2; exact this), Option.bind_some]
        show Option.bind (fX7_isStructure (nI i) (f, M)) _ = _
        rw [isStr_t hR hi, Option.bind_some, if_neg i10]
        rw [if_pos rfl]
        unfold fX7_item_b31 fX7_item_b32
        rw [isStr_t hR hi, Option.bind_some, if_neg i10, if_pos rfl]
        exact fin _ _ (by decide)
  · refine sim_thr 0 0 hR hW (Or.inl rfl) (fun N hC => ?_) ?_
    · unfold fX6_item
      rw [g61 hC, Option.bind_some, r3 hC, Option.bind_some, at_no hC.shS h1, Option.bind_some]
      rfl
    · have : ∃ v, fX7_isIn p1 0 2 (f, M) = some (v, f, M) := by
        by_cases h5 : p1 < 0 ∨ 2 < p1
        · exact ⟨0, isIn_f h5⟩
        · exact ⟨1, isIn_t (fun h6 => h5 (Or.inl h6)) (fun h6 => h5 (Or.inr h6))⟩
      obtain ⟨v, hv⟩ := this
      unfold fX7_item
      rw [hv, Option.bind_some]
      show Option.bind (fX7_isStructure p0 (f, M)) _ = _
      rw [isStr_f hR h1, Option.bind_some, if_pos rfl]
      unfold fX7_item_b31 fX7_item_b32
      rw [isStr_f hR h1, Option.bind_some, if_pos rfl]
      exact fin _ _ (by decide)
end Strs2
