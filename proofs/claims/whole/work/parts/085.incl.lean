/-! THE CALLS ON SIGS: all specs of one into the draft; the draft becomes a sig -/
theorem app_get2 {L X : List En} {e : En} {p : Nat} (h : (L ++ X)[p]? = some e) : (p < L.length ∧ L[p]? = some e) ∨ ∃ q, p = L.length + q ∧ X[q]? = some e := by
  by_cases hl : p < L.length
  · rw [List.getElem?_append_left hl] at h; exact Or.inl ⟨hl, h⟩
  · rw [List.getElem?_append_right (by omega)] at h
    exact Or.inr ⟨p - L.length, by omega, h⟩
theorem Uq_app {L X : List En} (hL : Uq L) (hX : Uq X) (h : ∀ e, e ∈ X → plc L e.1 e.2.1 = none) : Uq (L ++ X) := by
  intro p q a c hp hq h1 h2
  rcases app_get2 hp with ⟨p1, p2⟩ | ⟨r, p1, p2⟩ <;> rcases app_get2 hq with ⟨q1, q2⟩ | ⟨s, q1, q2⟩
  · exact hL p q a c p2 q2 h1 h2
  · exact absurd ⟨h1, h2⟩ (plc_none (h c (List.mem_of_getElem? q2)) a (List.mem_of_getElem? p2))
  · exact absurd ⟨h1.symm, h2.symm⟩ (plc_none (h a (List.mem_of_getElem? p2)) c (List.mem_of_getElem? q2))
  · have := hX r s a c p2 q2 h1 h2; omega
theorem tOK.shift {m : Nat} {L X : List En} {q : Nat} {x : Int32} (h : tOK m X q x) : tOK m (L ++ X) (L.length + q) x := h.imp_right (fun ⟨r, e, a, c, d⟩ => ⟨L.length + r, e, by omega, by rw [List.getElem?_append_right (by omega), Nat.add_sub_cancel_left]; exact c, d⟩)
theorem WfG.app {m i j : Nat} {L X : List En} (hL : WfG m i L) (hX : WfG m j X) (hj : j ≤ i) (h : ∀ e, e ∈ X → plc L e.1 e.2.1 = none) : WfG m i (L ++ X) := by
  refine ⟨Uq_app hL.1 hX.1 h, fun p e he => ?_⟩
  rcases app_get2 he with ⟨p1, p2⟩ | ⟨q, p1, p2⟩
  · exact (hL.2 p e p2).mono (Nat.le_refl _) (Nat.le_refl _) (fun r hr => List.getElem?_append_left (by omega))
  · obtain ⟨h1, h2, h3, h4⟩ := hX.2 q e p2
    refine ⟨h1, h2, h3, ?_⟩
    subst p1
    rcases h4 with ⟨a, b, c⟩ | ⟨a, b, c⟩ | ⟨a, b, r, c, d⟩
    · exact Or.inl ⟨a, b, c.imp_right (fun q => q.shift)⟩
    · exact Or.inr (Or.inl ⟨a, b.shift, c.imp_right (fun q => q.shift)⟩)
    · exact Or.inr (Or.inr ⟨a, b, r, by omega, d⟩)
theorem sumW_app {R : Nat → Option RowD} {L X : List En} : sumW R (L ++ X) = sumW R L + sumW R X ∧ sumP R (L ++ X) = sumP R L + sumP R X := by unfold sumW sumP; simp
section Incl
variable {o b t : Nat} {K : Nat → Option (Nat × Nat)} {I : Nat → Nat → Int32} {P : Nat → Nat → Option Nat} {N0 N a : Nat} {f : Nat → Int32} {M : Nat → Nat → Int32} {T : List TyD} {n g : Nat} {R : Nat → Option RowD} {F : List FuD} {Q : List (Int32 × Int32)} {U : List UnD} {L X : List En}
theorem sG_E {m i : Nat} {e : En} {p : Nat} (h : gE m i L p e) : e = (e.1, e.2.1, e.2.2.1, e.2.2.2.1, 0, -1) := by
  obtain ⟨x1, x2, x3, x4, x5, x6⟩ := e
  obtain ⟨-, h1, h2, -⟩ := h
  simp only at h1 h2
  rw [h1, h2]
/-- the weights of the sigs, as the reference has them -/
def hWt (M : Nat → Nat → Int32) (R : Nat → Option RowD) (g : Nat) : Prop := ∀ j, j < g → M 12 j = nI (wOf R j)
theorem RR.wts (hR : RR f M T n g R F Q U) (hW : WF t T n g R F Q U) : hWt M R g := fun j hj => by
  have h20 := hW.1.2.2.2
  obtain ⟨Y, hY, -, -⟩ := hW.sG hj
  rw [(hR.sp (k := j) (by omega) hY).2, (wOf_of hY).1]
theorem weightOf_r (h20 : g ≤ 20) (hw : hWt M R g) {k : Nat} {e : En} (hk : k < 1260) (h1 : M 13 k = e.1) (h2 : M 15 k = e.2.2.1) {m q i : Nat} (hi : i ≤ g) (hE : gE m i X q e) : fX7_weightOf (nI k) (f, M) = some (nI (wt R e), f, M) := by
  unfold fX7_weightOf
  rw [r_rd 1260 rfl hk (by omega), h1, Option.bind_some]
  by_cases h3 : e.1 = 2
  · rcases hE.2.2.2 with ⟨x, -⟩ | ⟨x, -⟩ | ⟨-, -, j, hj, hx⟩
    · exact absurd (x.symm.trans h3) i02
    · exact absurd (x.symm.trans h3) i12
    · rw [if_pos h3, r_rd 1260 rfl hk (by omega), Option.bind_some, h2, hx, r_rd 21 rfl (by omega) (by omega), Option.bind_some, hw j (by omega)]
      show some (1 + nI (wOf R j), f, M) = _
      unfold wt
      rw [if_pos h3, hx, iN_nI (by omega)]
      rw [show (1 : Int32) = nI 1 from rfl, nI_add]
  · rw [if_neg h3]
    unfold wt
    rw [if_neg h3]
    rfl
/-- a spec that stands in the row s is specified once more in the row k -/
theorem copy_r (h20 : g ≤ 20) (hw : hWt M R g) {s k q w m i : Nat} (hs : s ≤ 20) (hk : k ≤ 20) (hkg : g ≤ k) (hsk : s ≠ k) (hX : rSp M s X) (hL : rSp M k L) (hwk : M 12 k = nI w) (hl : L.length < 60) (hq : q < X.length) (hi : i ≤ g) {e : En} (he : X[q]? = some e) (hE : gE m i X q e) (x y : Int32) : M 13 (60 * s + q) = e.1 ∧ M 14 (60 * s + q) = e.2.1 ∧ M 15 (60 * s + q) = e.2.2.1 ∧ M 16 (60 * s + q) = e.2.2.2.1 ∧ fX7_weightOf (nI (60 * s + q)) (f, M) = some (nI (wt R e), f, M) ∧ ∃ W, fX7_specifies (nI k) e.1 e.2.1 x y (nI (wt R e)) (f, M) = some (f, W) ∧ rSp W k (L ++ [(e.1, e.2.1, x, y, 0, -1)]) ∧ W 12 k = nI (w + wt R e) ∧ spF M W k ∧ rSp W s X ∧ hWt W R g := by
  have h60 := hX.2.1
  obtain ⟨v1, v2, v3, v4⟩ := hX.2.2 q e he
  obtain ⟨W, e1, e2, e3, e4⟩ := specifies_r (f := f) hL hk hl hwk e.1 e.2.1 x y 0 (-1) (wt R e)
  exact ⟨v1, v2, v3, v4, weightOf_r h20 hw (by omega) v1 v3 hi hE, W, e1, e2, e3, e4, e4.other hsk hX, fun j hj => by rw [e4.2.1 12 j (by omega) (by omega) (by omega)]; exact hw j hj⟩
theorem incl_test_c (hC : CR o b K I P N T n g R F Q U) {i c w p : Nat} {d : RowD} (hi : i < g) (hr : R 220 = some (L, w, p)) (hri : R (200 + i) = some d) (hX : d.1 = X) (hp : ptr b P (200 + i) = some c) : ∀ m fu q, q + m = X.length → m < fu → (∀ e, e ∈ X.take q → plc L e.1 e.2.1 = none) → (¬ (∀ e, e ∈ X → plc L e.1 e.2.1 = none) ∧ fX6_include_b25 o fu (some c) (nI q) (K, I, P, N) = some (.inr 2, (K, I, P, N), 1, 6)) ∨ ((∀ e, e ∈ X → plc L e.1 e.2.1 = none) ∧ ∃ fu2, fX6_include_b25 o fu (some c) (nI q) (K, I, P, N) = fX6_include_b25 o (fu2 + 1) (some c) (nI X.length) (K, I, P, N)) := by
  obtain ⟨hpp, hok, hrow⟩ := row220 hC hr
  obtain ⟨c2, -, c4, c5, c6⟩ := hC.row hri
  have hcc : c2 = c := by rw [hp] at c4; cases c4; rfl
  subst hcc
  have h30 : X.length ≤ 30 := by rw [← hX]; exact c6.1.2.1
  have hrx : RowE I c2 X := by rw [← hX]; exact c6.1
  intro m
  induction m with
  | zero =>
    intro fu q hq hf hno
    cases fu with
    | zero => omega
    | succ fu =>
      refine Or.inr ⟨fun e he => hno e (by rw [List.take_of_length_le (by omega)]; exact he), fu, by rw [show X.length = q by omega]⟩
  | succ m ih =>
    intro fu q hq hf hno
    cases fu with
    | zero => omega
    | succ fu =>
      have hql : q < X.length := by omega
      have hg := List.getElem?_eq_getElem hql
      have st : fX6_include_b25 o (fu + 1) (some c2) (nI q) (K, I, P, N) = tbind (fX6_needPlace (some (b + 9)) X[q].1 X[q].2.1 (K, I, P, N)) fun v49 z49 => fX6_include_b25 o fu (some c2) (nI (q + 1)) z49 := by
        show fX6_include_b25_body o _ (some c2) (nI q) (K, I, P, N) = _
        unfold fX6_include_b25_body
        rw [Option.bind_some, e_gI c5.1, Option.bind_some, hrx.1, if_neg (nI_ge hql (by omega)), g64 hC, nI_1]
        simp only [Option.bind_some, e_rc c5.1, get_r0 c5 hrx hg, get_r1 c5 hrx hg]
      by_cases hpl : plc L X[q].1 X[q].2.1 = none
      · rw [st, needPlace_t hok hrow.1 hpl, tb_l]
        refine ih fu (q + 1) (by omega) (by omega) (fun e he => ?_)
        rw [← List.take_append_getElem hql] at he
        rcases List.mem_append.mp he with h1 | h1
        · exact hno e h1
        · rw [List.mem_singleton.mp h1]; exact hpl
      · refine Or.inl ⟨fun h => hpl (h _ (List.mem_of_getElem? hg)), ?_⟩
        rw [st, needPlace_f hok hrow.1 hpl]
        rfl
theorem incl_test_r (hR : RR f M T n g R F Q U) {i w p : Nat} {d : RowD} (hi : i < g) (hr : R 220 = some (L, w, p)) (hri : R (200 + i) = some d) (hX : d.1 = X) (hu : Uq L) : ∀ m fu q, q + m = X.length → m < fu → (∀ e, e ∈ X.take q → plc L e.1 e.2.1 = none) → (¬ (∀ e, e ∈ X → plc L e.1 e.2.1 = none) ∧ fX7_include_b41 (fu + 1) (nI i) 1 1 (nI (60 * i + q)) (f, M) = fX7_include_b97 (nI i) 1 0 (f, M)) ∨ ((∀ e, e ∈ X → plc L e.1 e.2.1 = none) ∧ fX7_include_b41 (fu + 1) (nI i) 1 1 (nI (60 * i + q)) (f, M) = fX7_include_b97 (nI i) 1 1 (f, M)) := by
  have h20 := hR.cn.2.2.2.1
  obtain ⟨hsp, -⟩ := hR.sp (k := 20) (Nat.le_refl _) hr
  obtain ⟨h1, h2, h3⟩ := (hR.sp (k := i) (by omega) hri).1
  rw [hX] at h1 h2 h3
  have hst : (60 : Int32) * nI i + nI X.length = nI (60 * i + X.length) := by rw [show (60 : Int32) = nI 60 from rfl, pk_mul, nI_add]
  intro m
  induction m with
  | zero =>
    intro fu q hq hf hno
    refine Or.inr ⟨fun e he => hno e (by rw [List.take_of_length_le (by omega)]; exact he), ?_⟩
    show fX7_include_b41_body _ (nI i) 1 1 (nI (60 * i + q)) (f, M) = _
    unfold fX7_include_b41_body
    rw [if_neg i10, r_rd 21 rfl (by omega) (by omega), Option.bind_some, h1, hst, if_pos (nI_le (by omega) (by omega))]
  | succ m ih =>
    intro fu q hq hf hno
    cases fu with
    | zero => omega
    | succ fu =>
      have hql : q < X.length := by omega
      have hg := List.getElem?_eq_getElem hql
      obtain ⟨v1, v2, v3, v4⟩ := h3 q _ hg
      have st : fX7_include_b41 (fu + 1 + 1) (nI i) 1 1 (nI (60 * i + q)) (f, M) = if plI (60 * 20) (plc L X[q].1 X[q].2.1) = -1 then fX7_include_b90 (fX7_include_b41 (fu + 1)) (nI i) 1 (nI (60 * i + q)) 1 (f, M) else fX7_include_b90 (fX7_include_b41 (fu + 1)) (nI i) 1 (nI (60 * i + q)) 0 (f, M) := by
        show fX7_include_b41_body _ (nI i) 1 1 (nI (60 * i + q)) (f, M) = _
        unfold fX7_include_b41_body
        rw [if_neg i10, r_rd 21 rfl (by omega) (by omega), Option.bind_some, h1, hst, if_neg (nI_ge (by omega) (by omega)), r_rd 1260 rfl (by omega) (by omega), Option.bind_some, v1, r_rd 1260 rfl (by omega) (by omega), Option.bind_some, v2, show (20 : Int32) = nI 20 from rfl, fi_sp hsp (Nat.le_refl _) hu, Option.bind_some]
      by_cases hpl : plc L X[q].1 X[q].2.1 = none
      · rw [st, hpl, if_pos plI_none]
        unfold fX7_include_b90
        rw [nI_1]
        refine ih fu (q + 1) (by omega) (by omega) (fun e he => ?_)
        rw [← List.take_append_getElem hql] at he
        rcases List.mem_append.mp he with h1 | h1
        · exact hno e h1
        · rw [List.mem_singleton.mp h1]; exact hpl
      · refine Or.inl ⟨fun h => hpl (h _ (List.mem_of_getElem? hg)), ?_⟩
        rw [st]
        have hne : ¬ plI (60 * 20) (plc L X[q].1 X[q].2.1) = -1 := by
          cases hx : plc L X[q].1 X[q].2.1 with
          | none => exact absurd hx hpl
          | some r =>
            have h60 : L.length ≤ 60 := hsp.2.1
            have := plc_lt hx
            exact nI_nm1 (by omega)
        rw [if_neg hne]
        unfold fX7_include_b90
        show fX7_include_b41_body _ (nI i) 1 0 _ (f, M) = _
        unfold fX7_include_b41_body
        rw [if_pos rfl]
/-- all specs of a sig come into the draft -/
theorem incl_do (h20 : g ≤ 20) {i m0 : Nat} (hi : i < g) (hXG : WfG m0 i X) : ∀ m fu q L M w, q + m = X.length → m < fu → hWt M R g → rSp M i X → rSp M 20 L → M 12 20 = nI w → L.length + m ≤ 30 → ∃ W, fX7_include_b129 fu (nI i) (nI (60 * i + q)) (f, M) = some (nI (L.length + m), f, W) ∧ rSp W 20 (L ++ X.drop q) ∧ W 12 20 = nI (w + sumW R (X.drop q)) ∧ spF M W 20 := by
  intro m
  induction m with
  | zero =>
    intro fu q L M w hq hf hw hX hL hwk hl
    have h60 := hX.2.1
    cases fu with
    | zero => omega
    | succ fu =>
      refine ⟨M, ?_, by rw [List.drop_eq_nil_of_le (by omega), List.append_nil]; exact hL, by rw [List.drop_eq_nil_of_le (by omega), hwk]; rfl, spF.rf⟩
      show fX7_include_b129_body _ (nI i) (nI (60 * i + q)) (f, M) = _
      unfold fX7_include_b129_body
      rw [r_rd 21 rfl (by omega) (by omega), Option.bind_some, hX.1, show (60 : Int32) = nI 60 from rfl, pk_mul, nI_add, if_pos (nI_le (by omega) (by omega)), show (20 : Int32) = nI 20 from rfl, r_rd 21 rfl (by omega) (by omega), hL.1]
      rfl
  | succ m ih =>
    intro fu q L M w hq hf hw hX hL hwk hl
    have h60 := hX.2.1
    cases fu with
    | zero => omega
    | succ fu =>
      have hql : q < X.length := by omega
      have hg := List.getElem?_eq_getElem hql
      have hE := hXG.2 q _ hg
      obtain ⟨v1, v2, v3, v4, v5, W, e1, e2, e3, e4, e5, e6⟩ := copy_r (f := f) h20 hw (s := i) (k := 20) (by omega) (Nat.le_refl _) h20 (by omega) hX hL hwk (by omega) hql (by omega) hg hE X[q].2.2.1 X[q].2.2.2.1
      rw [← sG_E hE] at e2
      obtain ⟨W2, d1, d2, d3, d4⟩ := ih fu (q + 1) (L ++ [X[q]]) W _ (by omega) (by omega) e6 e5 e2 e3 (by simp; omega)
      have hdr : X.drop q = X[q] :: X.drop (q + 1) := List.drop_eq_getElem_cons hql
      refine ⟨W2, ?_, by rw [hdr]; rw [List.append_assoc] at d2; exact d2, by rw [hdr, d3]; unfold sumW; rw [List.map_cons, List.sum_cons, Nat.add_assoc], e4.tr d4⟩
      show fX7_include_b129_body _ (nI i) (nI (60 * i + q)) (f, M) = _
      unfold fX7_include_b129_body
      rw [r_rd 21 rfl (by omega) (by omega), Option.bind_some, hX.1, show (60 : Int32) = nI 60 from rfl, pk_mul, nI_add, if_neg (nI_ge (by omega) (by omega)), r_rd 1260 rfl (by omega) (by omega), Option.bind_some, r_rd 1260 rfl (by omega) (by omega), Option.bind_some, r_rd 1260 rfl (by omega) (by omega), Option.bind_some, r_rd 1260 rfl (by omega) (by omega), Option.bind_some, v1, v2, v3, v4, v5, Option.bind_some]
      show Option.bind (fX7_specifies 20 _ _ _ _ (nI (wt R X[q])) (f, M)) _ = _
      rw [show (20 : Int32) = nI 20 from rfl, e1, Option.bind_some, nI_1]
      rw [List.length_append, List.length_singleton, show L.length + 1 + m = L.length + (m + 1) by omega] at d1
      exact d1
theorem s_include (o t : Nat) : sim_include o (Inv o t) (Inv o (t + 1)) := by
  intro z S p0 hI
  obtain ⟨K, I, P, N0⟩ := z
  obtain ⟨f, M⟩ := S
  refine sim_core (fun e => e = 0 ∨ e = 2) (fun e => if e = 0 then 1 else (if e = 2 then 2 else 0)) hI (fun b T n g R F Q U hR hW => ?_)
  have h20 := hW.1.2.2.2
  obtain ⟨L, hr, hw60, hL⟩ := hW.dG
  have hL30 := hL.len
  obtain ⟨hsp, hsw⟩ := hR.sp (k := 20) (Nat.le_refl _) hr
  have thr : ∀ v : Int32, ¬ v ≤ 0 → ∀ x, fX7_include_b115 x v (f, M) = some (0, upd f 54 v, M) := by
    intro v hv x
    unfold fX7_include_b115
    rw [fails_1 hv, Option.bind_some]
    rfl
  rcases ix_em p0 (n := g) (by omega) with ⟨i, hi, rfl⟩ | h1
  · obtain ⟨X, hri, hx60, hX⟩ := hW.sG hi
    obtain ⟨hspi, hswi⟩ := hR.sp (k := i) (by omega) hri
    have hX30 := hX.len
    have cst : ∀ N, CR o b K I P N T n g R F Q U → ∃ c, ptr b P (200 + i) = some c ∧ RowOK K P c ∧ RowIs I c (X, sumW R X, sumP R X) ∧ fX6_include o (nI i) (K, I, P, N) = fX6_include_b25 o rFuel (some c) (nI 0) (K, I, P, N) := by
      intro N hC
      obtain ⟨c, c1, c2, c3, hc⟩ := atG hC hi hri
      refine ⟨c, c1, c2, c3, ?_⟩
      unfold fX6_include
      rw [g62 hC, Option.bind_some, r5 hC, Option.bind_some, hc, Option.bind_some]
      rfl
    have rst : fX7_include (nI i) (f, M) = if 60 < sumW R L + sumW R X then fX7_include_b33 (nI i) 1 (f, M) else fX7_include_b34 (nI i) 1 1 (f, M) := by
      unfold fX7_include
      rw [isSig_t hR hi, Option.bind_some]
      show (if (1 : Int32) = 0 then _ else Option.bind (rd (f, M) 12 20) _) = _
      rw [if_neg i10, show (20 : Int32) = nI 20 from rfl, r_rd 21 rfl (by omega) (by omega), hsw, Option.bind_some, r_rd 21 rfl (by omega) (by omega), hswi, Option.bind_some]
      show (if (60 : Int32) < nI (sumW R L) + nI (sumW R X) then _ else _) = _
      rw [nI_add, show (60 : Int32) = nI 60 from rfl]
      by_cases h : 60 < sumW R L + sumW R X
      · rw [if_pos (nI_lt h (by omega)), if_pos h]
      · rw [if_neg (nI_nlt (by omega) (by omega)), if_neg h]
    have r33 : fX7_include_b33 (nI i) 1 (f, M) = some (0, upd f 54 2, M) := by
      unfold fX7_include_b33 fX7_include_b34
      show fX7_include_b41 rFuel (nI i) 1 0 _ (f, M) = _
      have : ∃ k, rFuel = k + 1 := ⟨99999, rfl⟩
      obtain ⟨k, hk⟩ := this
      rw [hk]
      show fX7_include_b41_body _ (nI i) 1 0 _ (f, M) = _
      unfold fX7_include_b41_body
      rw [if_pos rfl]
      unfold fX7_include_b97
      rw [if_neg i10, if_pos rfl]
      exact thr 2 (by decide) _
    have r34 : fX7_include_b34 (nI i) 1 1 (f, M) = fX7_include_b41 (99999 + 1) (nI i) 1 1 (nI (60 * i + 0)) (f, M) := by
      unfold fX7_include_b34
      show fX7_include_b41 rFuel (nI i) 1 1 (60 * nI i) (f, M) = _
      rw [show (60 : Int32) = nI 60 from rfl, pk_mul]
      rfl
    have rtest := incl_test_r hR hi hr hri rfl hL.1 X.length 99999 0 (show 0 + X.length = X.length by omega) (by omega) (fun e he => by simp at he)
    have ctest : ∀ N c, CR o b K I P N T n g R F Q U → ptr b P (200 + i) = some c → _ := fun N c hC hp => incl_test_c (o := o) hC hi hr hri rfl hp X.length rFuel 0 (show 0 + X.length = X.length by omega) (by show X.length < 100000; omega) (fun e he => by simp at he)
    have fin : ∀ fu N c, CR o b K I P N T n g R F Q U → RowOK K P c → RowIs I c (X, sumW R X, sumP R X) → fX6_include_b25 o (fu + 1) (some c) (nI X.length) (K, I, P, N) = tbind (fX6_needRoomForSpecs o (nI (sumW R X)) (K, I, P, N)) fun v63 z63 =>
      Option.bind (cgR z63 o 6 4) fun x67 =>
      Option.bind (crc z63 x67 2) fun c71 =>
      Option.bind (fX2_addAll c71 (some c) z63) fun q71 =>
      Option.bind (cgR (q71.2) o 6 4) fun x75 =>
      Option.bind x75 fun q78 =>
      Option.bind (cgI (q71.2) q78 2 1) fun x78 =>
      some (.inl x78, q71.2, 0, 0) := by
      intro fu N c hC hok hrow
      show fX6_include_b25_body o _ (some c) (nI X.length) (K, I, P, N) = _
      unfold fX6_include_b25_body
      rw [Option.bind_some, e_gI hok.1, Option.bind_some, hrow.1.1, if_pos (nI_le (Nat.le_refl _) (show X.length < 2 ^ 31 by omega)), Option.bind_some, e_gI hok.1, Option.bind_some, ro hC, Option.bind_some, hrow.2.1]
    by_cases hfr : ∀ e, e ∈ X → plc L e.1 e.2.1 = none
    · by_cases h60 : 60 < sumW R L + sumW R X
      · refine sim_thr 2 0 hR hW (Or.inr rfl) (fun N hC => ?_) (by rw [rst, if_pos h60, r33]; rfl)
        obtain ⟨c, c1, c2, c3, c4⟩ := cst N hC
        obtain ⟨hpp, hok, hrow⟩ := row220 hC hr
        rcases ctest N c hC c1 with ⟨h5, -⟩ | ⟨-, fu2, h6⟩
        · exact absurd hfr h5
        · rw [c4, h6, fin fu2 N c hC c2 c3, needRoom_f hC hok hrow.2.1 h60 (show sumW R L + sumW R X < 2 ^ 31 by omega)]
          rfl
      · have hL2 := hL.app hX (Nat.le_of_lt hi) hfr
        have hL230 := hL2.len
        rw [List.length_append] at hL230
        have hW2 := hW.draftG hL2 (by rw [sumW_app.1]; omega)
        rw [sumW_app.1, sumW_app.2] at hW2
        refine sim_do (nI (L.length + X.length)) hW2.step (fun N hC => ?_) ?_
        · obtain ⟨c, c1, c2, c3, c4⟩ := cst N hC
          obtain ⟨hpp, hok, hrow⟩ := row220 hC hr
          have hne : b + 9 ≠ c := fun e => by
            have := hC.sd.2.1 _ _ _ c1 (hpp.trans (by rw [e]))
            omega
          rcases ctest N c hC c1 with ⟨h5, -⟩ | ⟨-, fu2, h6⟩
          · exact absurd hfr h5
          · obtain ⟨J, e1, e2, e3, e4, e5⟩ := addAll_r (N := N) hok c2 hne c3.1 hrow.1 hL230
            refine ⟨K, J, P, N, 0, 0, ?_, by omega, by omega, hC.upRow (by omega) hpp e3 ⟨e2, by rw [e4, hrow.2.1, c3.2.1, nI_add], by rw [e5, hrow.2.2, c3.2.2, nI_add]⟩⟩
            rw [c4, h6, fin fu2 N c hC c2 c3, needRoom_t hC hok hrow.2.1 (show sumW R L + sumW R X ≤ 60 by omega), tb_l, g64 hC, Option.bind_some, e_rc hok.1, Option.bind_some, e1, Option.bind_some, e_gR hC.Ko, hC.sf.2.2.2.2.2.1, Option.bind_some, Option.bind_some, e_gI hok.1, Option.bind_some, e2.1, List.length_append]
        · rcases rtest with ⟨h5, -⟩ | ⟨-, h6⟩
          · exact absurd hfr h5
          · obtain ⟨W, d1, d2, d3, d4⟩ := incl_do (f := upd f 54 0) (R := R) h20 hi hX X.length rFuel 0 L M (sumW R L) (by omega) (by show X.length < 100000; omega) (hR.wts hW) hspi hsp hsw (by omega)
            rw [List.drop_zero] at d2 d3
            refine ⟨_, W, ?_, (hR.thr 0).upSp (k := 20) (d := (L ++ X, sumW R L + sumW R X, sumP R L + sumP R X)) (Nat.le_refl _) (fun _ => rfl) d4 d2 d3, upd_s⟩
            rw [rst, if_neg h60, r34, h6]
            unfold fX7_include_b97
            rw [if_neg i10, if_neg i10]
            unfold fX7_include_b115
            rw [fails_0, Option.bind_some]
            show fX7_include_b129 rFuel (nI i) (60 * nI i) (upd f 54 0, M) = _
            rw [show (60 : Int32) = nI 60 from rfl, pk_mul]
            exact d1
    · refine sim_thr 2 0 hR hW (Or.inr rfl) (fun N hC => ?_) ?_
      · obtain ⟨c, c1, c2, c3, c4⟩ := cst N hC
        rcases ctest N c hC c1 with ⟨-, h5⟩ | ⟨h5, -⟩
        · rw [c4, h5]
        · exact absurd h5 hfr
      · rw [rst]
        by_cases h60 : 60 < sumW R L + sumW R X
        · rw [if_pos h60, r33]; rfl
        · rw [if_neg h60, r34]
          rcases rtest with ⟨-, h6⟩ | ⟨h5, -⟩
          · rw [h6]
            unfold fX7_include_b97
            rw [if_neg i10, if_pos rfl]
            exact thr 2 (by decide) _
          · exact absurd h5 hfr
  · refine sim_thr 0 0 hR hW (Or.inl rfl) (fun N hC => ?_) ?_
    · unfold fX6_include
      rw [g62 hC, Option.bind_some, r5 hC, Option.bind_some, at_no hC.shG h1, Option.bind_some]
      rfl
    · unfold fX7_include
      rw [isSig_f hR h1, Option.bind_some]
      show (if (0 : Int32) = 0 then fX7_include_b33 p0 0 (f, M) else _) = _
      rw [if_pos rfl]
      unfold fX7_include_b33 fX7_include_b34
      show fX7_include_b41 rFuel p0 0 0 _ (f, M) = _
      have : ∃ k, rFuel = k + 1 := ⟨99999, rfl⟩
      obtain ⟨k, hk⟩ := this
      rw [hk]
      show fX7_include_b41_body _ p0 0 0 _ (f, M) = _
      unfold fX7_include_b41_body
      rw [if_pos rfl]
      unfold fX7_include_b97
      rw [if_pos rfl]
      exact thr 1 (by decide) _
end Incl
