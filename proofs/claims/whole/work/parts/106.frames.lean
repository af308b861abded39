/-! MAKING A STRUCT BY A SIGNATURE: the reference's frames -/
def sI (s : Option Nat) : Int32 := match s with
  | none => -1
  | some s => nI s
def FrM (M : Nat → Nat → Int32) (D u : Nat) (s : Option Nat) (q : Nat) (L : List En) : Prop := M 42 D = nI u ∧ M 43 D = sI s ∧ M 44 D = nI (60 * u + q) ∧ M 47 D = nI L.length ∧ (∀ (p : Nat) (e : En), L[p]? = some e → M 48 (60 * D + p) = e.1 ∧ M 49 (60 * D + p) = e.2.1 ∧ M 50 (60 * D + p) = e.2.2.1 ∧ M 51 (60 * D + p) = e.2.2.2.2.1) ∧ ∀ (p : Nat) (e : En), L[p]? = some e → e.1 = 0 → M 46 (10 * D + iN e.2.1) = e.2.2.1
def lowF (M W : Nat → Nat → Int32) (D : Nat) : Prop := ∀ j i, ((j = 42 ∨ j = 43 ∨ j = 44 ∨ j = 47) ∧ i < D) ∨ (j = 46 ∧ i < 10 * D) ∨ (48 ≤ j ∧ j ≤ 51 ∧ i < 60 * D) → W j i = M j i
section Frames
variable {D : Nat} {f : Nat → Int32} {M W V : Nat → Nat → Int32} {T : List TyD} {n g u q : Nat} {s : Option Nat} {R : Nat → Option RowD} {F : List FuD} {Q : List (Int32 × Int32)} {U : List UnD} {k : Nat} {L : List En}
theorem lowF.rf : lowF M M D := fun _ _ _ => rfl
theorem lowF.tr (h : lowF M W D) (h2 : lowF W V D) : lowF M V D := fun j i hj => (h2 j i hj).trans (h j i hj)
theorem lowF.dn {D2 : Nat} (h : lowF M W D) (hd : D2 ≤ D) : lowF M W D2 := fun j i hj => h j i (by omega)
theorem FrM.low (h : FrM M k u s q L) (hk : k < D) (hl : L.length ≤ 60) (hL : ∀ (p : Nat) (e : En), L[p]? = some e → iN e.2.1 < 10) (hw : lowF M W D) : FrM W k u s q L := by
  obtain ⟨h1, h2, h3, h4, h5, h6⟩ := h
  refine ⟨by rw [hw 42 k (by omega)]; exact h1, by rw [hw 43 k (by omega)]; exact h2, by rw [hw 44 k (by omega)]; exact h3, by rw [hw 47 k (by omega)]; exact h4, fun p e he => ?_, fun p e he h0 => ?_⟩
  · have hp := (List.getElem?_eq_some_iff.mp he).1
    rw [hw 48 _ (by omega), hw 49 _ (by omega), hw 50 _ (by omega), hw 51 _ (by omega)]
    exact h5 p e he
  · have := hL p e he
    rw [hw 46 _ (by omega)]
    exact h6 p e he h0
theorem FrM.other (h : FrM M D u s q L) (hw : ∀ j, 42 ≤ j → W j = M j) : FrM W D u s q L := by
  unfold FrM at *
  rw [hw 42 (by omega), hw 43 (by omega), hw 44 (by omega), hw 47 (by omega), hw 48 (by omega), hw 49 (by omega), hw 50 (by omega), hw 51 (by omega), hw 46 (by omega)]
  exact h
theorem lowF.other (hw : ∀ j, 42 ≤ j → W j = M j) : lowF M W D := fun j i hj => by rw [hw j (by omega)]
theorem f41 (hf : f 41 = nI (D + 1)) : f 41 - 1 = nI D := by rw [hf, nI_pred]
theorem laysN {a b c d : Int32} (hf : f 41 = nI (D + 1)) (hD : D ≤ 21) (hF : FrM M D u s q L) (hl : L.length < 60) (h46 : a = 0 → M 46 (10 * D + iN b) = c) : ∃ W, (∀ (β : Type) (kk : rS → Option β), (Option.bind (fX7_lays a b c d (f, M)) fun q1 => Option.bind (rd q1 44 ((q1.1 41) - 1)) fun x => Option.bind (rwr q1 44 ((q1.1 41) - 1) (x + 1)) fun S => kk S) = kk (f, W)) ∧ FrM W D u s (q + 1) (L ++ [(a, b, c, -100, d, -1)]) ∧ lowF M W D ∧ ∀ j, j ≤ 41 ∨ 52 ≤ j → W j = M j := by
  obtain ⟨h1, h2, h3, h4, h5, h6⟩ := hF
  have e41 := f41 hf
  have e60 : (60 : Int32) * nI D + nI L.length = nI (60 * D + L.length) := by rw [show (60 : Int32) = nI 60 from rfl, pk_mul, nI_add]
  generalize hV : mup (mup (mup (mup M 48 (60 * D + L.length) a) 49 (60 * D + L.length) b) 50 (60 * D + L.length) c) 51 (60 * D + L.length) d = V
  have vo : ∀ j, j < 48 ∨ 51 < j → V j = M j := fun j hj => by rw [← hV, mup_k (by omega), mup_k (by omega), mup_k (by omega), mup_k (by omega)]
  have vi : ∀ j i, i ≠ 60 * D + L.length → V j i = M j i := fun j i hi => by
    by_cases hj : j < 48 ∨ 51 < j
    · rw [vo j hj]
    · rw [← hV]
      rcases (show j = 48 ∨ j = 49 ∨ j = 50 ∨ j = 51 by omega) with rfl | rfl | rfl | rfl
      · rw [mup_k (by omega), mup_k (by omega), mup_k (by omega), mup_i hi]
      · rw [mup_k (by omega), mup_k (by omega), mup_i hi, mup_k (by omega)]
      · rw [mup_k (by omega), mup_i hi, mup_k (by omega), mup_k (by omega)]
      · rw [mup_i hi, mup_k (by omega), mup_k (by omega), mup_k (by omega)]
  have v48 : V 48 (60 * D + L.length) = a := by rw [← hV, mup_k (by omega), mup_k (by omega), mup_k (by omega), mup_s]
  have v49 : V 49 (60 * D + L.length) = b := by rw [← hV, mup_k (by omega), mup_k (by omega), mup_s]
  have v50 : V 50 (60 * D + L.length) = c := by rw [← hV, mup_k (by omega), mup_s]
  have v51 : V 51 (60 * D + L.length) = d := by rw [← hV, mup_s]
  have hlay : fX7_lays a b c d (f, M) = some (f, mup V 47 D (nI (L.length + 1))) := by
    unfold fX7_lays
    show Option.bind (rd (f, M) 47 (f 41 - 1)) _ = _
    rw [e41, r_rd 22 rfl (by omega) (by omega), Option.bind_some, h4]
    show Option.bind (rwr (f, M) 48 (60 * nI D + nI L.length) a) _ = _
    rw [e60, r_wr 1320 rfl (by omega) (by omega), Option.bind_some, r_wr 1320 rfl (by omega) (by omega), Option.bind_some, r_wr 1320 rfl (by omega) (by omega), Option.bind_some, r_wr 1320 rfl (by omega) (by omega), Option.bind_some, hV]
    show Option.bind (rd (f, V) 47 (f 41 - 1)) _ = _
    rw [e41, r_rd 22 rfl (by omega) (by omega), Option.bind_some, vo 47 (by omega), h4, nI_1, r_wr 22 rfl (by omega) (by omega), Option.bind_some]
  refine ⟨mup (mup V 47 D (nI (L.length + 1))) 44 D (nI (60 * u + (q + 1))), fun β kk => ?_, ⟨?_, ?_, mup_s, ?_, fun p e he => ?_, fun p e he h0 => ?_⟩, fun j i hj => ?_, fun j hj => ?_⟩
  · rw [hlay, Option.bind_some]
    show Option.bind (rd (f, _) 44 (f 41 - 1)) _ = _
    rw [e41, r_rd 22 rfl (by omega) (by omega), Option.bind_some, mup_k (show 44 ≠ 47 by omega), vo 44 (by omega), h3, nI_1, r_wr 22 rfl (by omega) (by omega), Option.bind_some]
    rfl
  · rw [mup_k (by omega), mup_k (by omega), vo 42 (by omega)]; exact h1
  · rw [mup_k (by omega), mup_k (by omega), vo 43 (by omega)]; exact h2
  · rw [mup_k (by omega), mup_s, List.length_append]; rfl
  · rw [mup_k (show 48 ≠ 44 by omega), mup_k (show 48 ≠ 47 by omega), mup_k (show 49 ≠ 44 by omega), mup_k (show 49 ≠ 47 by omega), mup_k (show 50 ≠ 44 by omega), mup_k (show 50 ≠ 47 by omega), mup_k (show 51 ≠ 44 by omega), mup_k (show 51 ≠ 47 by omega)]
    rcases app_get he with ⟨r1, r2⟩ | ⟨r1, r2⟩
    · rw [vi 48 _ (by omega), vi 49 _ (by omega), vi 50 _ (by omega), vi 51 _ (by omega)]
      exact h5 p e r2
    · rw [r1, r2]
      exact ⟨v48, v49, v50, v51⟩
  · rw [mup_k (show 46 ≠ 44 by omega), mup_k (show 46 ≠ 47 by omega), vo 46 (by omega)]
    rcases app_get he with ⟨r1, r2⟩ | ⟨r1, r2⟩
    · exact h6 p e r2 h0
    · rw [r2]
      rw [r2] at h0
      exact h46 h0
  · by_cases h44 : j = 44
    · subst h44
      rw [mup_i (by omega), mup_k (by omega), vo 44 (by omega)]
    · rw [mup_k h44]
      by_cases h47 : j = 47
      · subst h47
        rw [mup_i (by omega), vo 47 (by omega)]
      · rw [mup_k h47]
        by_cases h48 : 48 ≤ j ∧ j ≤ 51
        · rw [vi j i (by omega)]
        · rw [vo j (by omega)]
  · rw [mup_k (by omega), mup_k (by omega), vo j (by omega)]
theorem meansNow_r (hf : f 41 = nI (D + 1)) (hD : D ≤ 21) (hF : FrM M D u s q L) {m k j : Nat} (hW : WfS m k L) {x : Int32} (hx : mnt L x = nI j) (hj : j < 2 ^ 31) : fX7_meansNow x (f, M) = some (nI j, f, M) := by
  unfold fX7_meansNow fX7_meansNow_b26
  unfold mnt at hx
  by_cases h0 : x < 0
  · rw [if_pos h0] at hx ⊢
    cases hp : plc L 0 (-1 - x) with
    | none => rw [hp] at hx; exact absurd hx.symm (nI_nm1 hj)
    | some p =>
      rw [hp] at hx
      obtain ⟨e, e1, e2, e3⟩ := plc_some hp
      have hx2 : (match L[p]? with
        | none => (-1 : Int32)
        | some m => m.2.2.1) = nI j := hx
      rw [e1] at hx2
      have hx3 : e.2.2.1 = nI j := hx2
      obtain ⟨i, i1, i2⟩ := (hW.2 p e e1).2.1
      have ex : x = -1 - nI i := by rw [← i2, e3]; grind
      have hix : (10 : Int32) * nI D - 1 - x = nI (10 * D + i) := by
        rw [ex, show (10 : Int32) = nI 10 from rfl, pk_mul, ← nI_add]
        grind
      show Option.bind (rd (f, M) 46 (10 * (f 41 - 1) - 1 - x)) _ = _
      rw [f41 hf, hix, r_rd 220 rfl (by omega) (by omega), Option.bind_some]
      have := hF.2.2.2.2.2 p e e1 e2
      rw [i2, iN_nI (by omega)] at this
      rw [this, hx3]
  · rw [if_neg h0] at hx ⊢
    rw [hx]
noncomputable def lvE (S : rS) : Option (Int32 × rS) := (fun S82 : rS => (fun S92 : rS => if (S92.1 41) ≤ 0 then fX7_leaves_b147 S92 else Option.bind (rd S92 44 ((S92.1 41) - 1)) fun x112 => Option.bind (rd S92 14 (x112)) fun x121 => Option.bind (fX7_lays 2 x121 ((S92.1 4) - 1) 0 S92) fun q129 => Option.bind (rd q129 44 ((q129.1 41) - 1)) fun x143 => Option.bind (rwr q129 44 ((q129.1 41) - 1) (x143 + 1)) fun S146 => fX7_leaves_b147 S146) (rpf S82 41 ((S82.1 41) - 1))) (rpf S 4 ((S.1 4) + 1))
theorem lv_loop (hn : n ≤ 100) (hf4 : f 4 = nI n) (hD : D ≤ 21) (h60 : L.length < 60) : ∀ cnt fu p M, p + cnt = L.length → cnt < fu → M 47 D = nI L.length → (∀ (p : Nat) (e : En), L[p]? = some e → M 48 (60 * D + p) = e.1 ∧ M 49 (60 * D + p) = e.2.1 ∧ M 50 (60 * D + p) = e.2.2.1 ∧ M 51 (60 * D + p) = e.2.2.2.2.1) → rIt M n (L.take p) → ∃ W, fX7_leaves_b22 fu (nI D) (nI (60 * D + p)) (f, M) = lvE (f, W) ∧ rIt W n L ∧ itF M W n := by
  intro cnt
  induction cnt with
  | zero =>
    intro fu p M hp hf h47 h48 hI
    cases fu with
    | zero => omega
    | succ fu =>
      refine ⟨M, ?_, by rw [List.take_of_length_le (by omega)] at hI; exact hI, itF.rf⟩
      show fX7_leaves_b22_body _ (nI D) (nI (60 * D + p)) (f, M) = _
      unfold fX7_leaves_b22_body
      rw [r_rd 22 rfl (by omega) (by omega), Option.bind_some, h47, show (60 : Int32) = nI 60 from rfl, pk_mul, nI_add, if_pos (nI_le (by omega) (by omega))]
      rfl
  | succ cnt ih =>
    intro fu p M hp hf h47 h48 hI
    cases fu with
    | zero => omega
    | succ fu =>
      have hpl : p < L.length := by omega
      have hg := List.getElem?_eq_getElem hpl
      obtain ⟨v1, v2, v3, v4⟩ := h48 p _ hg
      obtain ⟨W, d1, d2, d3⟩ := puts_r (f := f) hI hn (by rw [List.length_take]; omega) L[p].1 L[p].2.1 L[p].2.2.1 L[p].2.2.2.2.1 L[p].2.2.2.1 L[p].2.2.2.2.2
      rw [List.take_append_getElem hpl] at d2
      have hWo : ∀ j, 42 ≤ j → W j = M j := fun j hj => d3.1 j (by omega)
      obtain ⟨V, c1, c2, c3⟩ := ih fu (p + 1) W (by omega) (by omega) (by rw [hWo 47 (by omega)]; exact h47) (fun p e he => by rw [hWo 48 (by omega), hWo 49 (by omega), hWo 50 (by omega), hWo 51 (by omega)]; exact h48 p e he) d2
      refine ⟨V, ?_, c2, d3.tr c3⟩
      show fX7_leaves_b22_body _ (nI D) (nI (60 * D + p)) (f, M) = _
      unfold fX7_leaves_b22_body
      rw [r_rd 22 rfl (by omega) (by omega), Option.bind_some, h47, show (60 : Int32) = nI 60 from rfl, pk_mul, nI_add, if_neg (nI_ge (by omega) (by omega)), r_rd 1320 rfl (by omega) (by omega), Option.bind_some, r_rd 1320 rfl (by omega) (by omega), Option.bind_some, r_rd 1320 rfl (by omega) (by omega), Option.bind_some, r_rd 1320 rfl (by omega) (by omega), Option.bind_some, v1, v2, v3, v4]
      show Option.bind (fX7_puts (f 4) _ _ _ _ (f, M)) _ = _
      rw [hf4, d1, Option.bind_some, nI_1]
      exact c1
/-- what waits below a frame -/
def PaI (R : Nat → Option RowD) (g : Nat) (M : Nat → Nat → Int32) (D : Nat) : Option (Nat × Option Nat × Nat × List En × En) → Prop
  | none => D = 0
  | some x => ∃ D', D = D' + 1 ∧ x.1 < g ∧ FrM M D' x.1 x.2.1 x.2.2.1 x.2.2.2.1 ∧ x.2.2.2.1.length < 60 ∧ (∀ (p : Nat) (e : En), x.2.2.2.1[p]? = some e → iN e.2.1 < 10) ∧ (sgL R x.1)[x.2.2.1]? = some x.2.2.2.2
def PaO (W : Nat → Nat → Int32) (D num : Nat) : Option (Nat × Option Nat × Nat × List En × En) → Prop
  | none => True
  | some x => ∀ D', D = D' + 1 → FrM W D' x.1 x.2.1 (x.2.2.1 + 1) (x.2.2.2.1 ++ [(2, x.2.2.2.2.2.1, nI num, -100, 0, -1)])
/-- a frame that is done is left -/
theorem leaves_r {R1 : Nat → Option RowD} {n0 : Nat} (hX : gdX R n0 g) (hag : agr R R1 n0) (hR : RQ (nI (D + 1)) f M T n g R1 F Q U) (hn : n < 95) (hD : D ≤ 20) (hF : FrM M D u s q L) (hl : L.length < 60) {pa : Option (Nat × Option Nat × Nat × List En × En)} (hpar : PaI R g M D pa) : ∃ f2 W, fX7_leaves (f, M) = some (nI n, f2, W) ∧ RQ (nI D) f2 W T (n + 1) g (aup R1 n (some (L, 0, 0))) F Q U ∧ lowF M W (D - 1) ∧ PaO W D n pa ∧ f2 54 = f 54 := by
  have hf4 : f 4 = nI n := hR.cn.1
  have hf := hR.dp
  have h20 := hR.cn.2.2.2.1
  obtain ⟨h1, h2, h3, h4, h5, h6⟩ := hF
  obtain ⟨W, d1, d2, d3⟩ := lv_loop (f := f) (n := n) (by omega) hf4 (show D ≤ 21 by omega) hl L.length rFuel 0 (mup M 5 n 0) (by omega) (by show L.length < 100000; omega) (by rw [mup_k (by omega)]; exact h4) (fun p e he => by rw [mup_k (show 48 ≠ 5 by omega), mup_k (show 49 ≠ 5 by omega), mup_k (show 50 ≠ 5 by omega), mup_k (show 51 ≠ 5 by omega)]; exact h5 p e he) ⟨by rw [mup_s]; rfl, by simp, fun p e he => by simp at he⟩
  have hst : fX7_leaves (f, M) = lvE (f, W) := by
    rw [← d1]
    unfold fX7_leaves
    show Option.bind (rwr (f, M) 5 (f 4) 0) (fun S16 => fX7_leaves_b22 rFuel (f 41 - 1) (60 * (f 41 - 1)) S16) = _
    rw [hf4, r_wr 101 rfl (by omega) (by omega), Option.bind_some, f41 hf, show (60 : Int32) = nI 60 from rfl, pk_mul]
    rfl
  have hF2 : itF M W n := itF.tr ⟨fun j hj => mup_k (by omega), fun i hi => mup_i hi, fun j i h1 h3 h4 => by rw [mup_k (by omega)]⟩ d3
  have hWo : ∀ j, 10 ≤ j → W j = M j := fun j hj => hF2.1 j (by omega)
  have hR2 : RQ (nI D) (upd (upd f 4 (nI (n + 1))) 41 (nI D)) W T (n + 1) g (aup R1 n (some (L, 0, 0))) F Q U := ((hR.upIt (d := (L, 0, 0)) (by omega) hF2 d2).upN (n2 := n + 1) (by omega)).deep (fun j hj => upd_n hj) upd_s
  have e4 : rpf (f, W) 4 (f 4 + 1) = (upd f 4 (nI (n + 1)), W) := by
    show (upd f 4 (f 4 + 1), W) = _
    rw [hf4, nI_1]
  have e41 : rpf (upd f 4 (nI (n + 1)), W) 41 (upd f 4 (nI (n + 1)) 41 - 1) = (upd (upd f 4 (nI (n + 1))) 41 (nI D), W) := by
    show (upd (upd f 4 (nI (n + 1))) 41 (upd f 4 (nI (n + 1)) 41 - 1), W) = _
    rw [upd_n (by omega), f41 hf]
  have elv : lvE (f, W) = (fun S92 : rS => if (S92.1 41) ≤ 0 then fX7_leaves_b147 S92 else Option.bind (rd S92 44 ((S92.1 41) - 1)) fun x112 => Option.bind (rd S92 14 (x112)) fun x121 => Option.bind (fX7_lays 2 x121 ((S92.1 4) - 1) 0 S92) fun q129 => Option.bind (rd q129 44 ((q129.1 41) - 1)) fun x143 => Option.bind (rwr q129 44 ((q129.1 41) - 1) (x143 + 1)) fun S146 => fX7_leaves_b147 S146) (upd (upd f 4 (nI (n + 1))) 41 (nI D), W) := by
    unfold lvE
    show (fun S82 : rS => (fun S92 : rS => _) (rpf S82 41 ((S82.1 41) - 1))) (rpf (f, W) 4 (f 4 + 1)) = _
    rw [e4]
    show (fun S92 : rS => _) (rpf (upd f 4 (nI (n + 1)), W) 41 (upd f 4 (nI (n + 1)) 41 - 1)) = _
    rw [e41]
  rw [hst, elv]
  have e54 : upd (upd f 4 (nI (n + 1))) 41 (nI D) 54 = f 54 := by rw [upd_n (by omega), upd_n (by omega)]
  generalize hf2 : upd (upd f 4 (nI (n + 1))) 41 (nI D) = f2 at *
  have f2_4 : f2 4 = nI (n + 1) := hR2.cn.1
  have f2_41 : f2 41 = nI D := hR2.dp
  have b147 : ∀ V, fX7_leaves_b147 (f2, V) = some (nI n, f2, V) := fun V => by
    unfold fX7_leaves_b147
    show some (f2 4 - 1, f2, V) = _
    rw [f2_4, nI_pred]
  cases pa with
  | none =>
    have h0 : D = 0 := hpar
    refine ⟨f2, W, ?_, hR2, fun j i hj => by omega, trivial, e54⟩
    show (if f2 41 ≤ 0 then fX7_leaves_b147 (f2, W) else _) = _
    rw [f2_41, h0, if_pos (by decide)]
    exact b147 W
  | some x =>
    obtain ⟨u', s', q', L', e'⟩ := x
    obtain ⟨D', hDD, hu', hFp, hlp, hnm, hep⟩ := hpar
    subst hDD
    have hu9 : u' < g := hu'
    obtain ⟨w', hru⟩ := hX.2 u' hu'
    rw [← hag _ (Or.inr (by omega))] at hru
    have hFp2 : FrM W D' u' s' q' L' := FrM.other hFp (fun j hj => hWo j (by omega))
    have hsp : rSp M u' (sgL R u') := by
      have := ((hR.rw _ _ hru).2.1 (by omega) (by omega)).1
      rw [Nat.add_sub_cancel_left] at this
      exact this
    have hep2 : (sgL R u')[q']? = some e' := hep
    have hq60 := (List.getElem?_eq_some_iff.mp hep2).1
    have h60 := hsp.2.1
    obtain ⟨V, c1, c2, c3, c4⟩ := laysN (f := f2) (a := 2) (b := e'.2.1) (c := nI n) (d := 0) (M := W) f2_41 (show D' ≤ 21 by omega) hFp2 hlp (fun h => absurd h (by decide))
    refine ⟨f2, V, ?_, ?_, fun j i hj => by rw [c3 j i (by omega), hWo j (by omega)], fun D2 hD2 => ?_, e54⟩
    · show (if f2 41 ≤ 0 then _ else Option.bind (rd (f2, W) 44 (f2 41 - 1)) _) = _
      rw [if_neg (show ¬ f2 41 ≤ 0 by rw [f2_41]; exact nI_nle (by omega) (by omega)), f41 f2_41, r_rd 22 rfl (by omega) (by omega), Option.bind_some, hFp2.2.2.1, r_rd 1260 rfl (by omega) (by omega), Option.bind_some, hWo 14 (by omega), (hsp.2.2 q' e' hep2).2.1]
      show Option.bind (fX7_lays 2 e'.2.1 (f2 4 - 1) 0 (f2, W)) _ = _
      rw [f2_4, nI_pred]
      exact (c1 _ _).trans (b147 V)
    · exact ⟨hR2.ty.congr rfl (c4 _ (by omega)) (c4 _ (by omega)) (c4 _ (by omega)), hR2.cn.congr rfl rfl (c4 _ (by omega)) (c4 _ (by omega)), hR2.rw.congr (fun j hj => c4 j (by omega)), hR2.fu.congr rfl (fun j _ h2 => c4 j (by omega)), hR2.pk.congr rfl (c4 _ (by omega)) (c4 _ (by omega)), hR2.un.congr rfl (fun j _ h2 => c4 j (by omega)), hR2.dp⟩
    · have hDe : D' = D2 := by omega
      subst hDe
      exact c2
end Frames
