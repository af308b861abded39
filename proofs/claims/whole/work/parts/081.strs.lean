/-! THE CALLS ON STRUCTS, the rest -/
section Strs
variable {o b t : Nat} {K : Nat → Option (Nat × Nat)} {I : Nat → Nat → Int32} {P : Nat → Nat → Option Nat} {N0 N : Nat} {f : Nat → Int32} {M : Nat → Nat → Int32} {T : List TyD} {n g : Nat} {R : Nat → Option RowD} {F : List FuD} {Q : List (Int32 × Int32)} {U : List UnD}
theorem g61 (hC : CR o b K I P N T n g R F Q U) : cgR (K, I, P, N) o 6 1 = some (some (b + 3)) := by rw [e_gR hC.Ko, hC.sf.2.2.1]
theorem g62 (hC : CR o b K I P N T n g R F Q U) : cgR (K, I, P, N) o 6 2 = some (some (b + 5)) := by rw [e_gR hC.Ko, hC.sf.2.2.2.1]
theorem g60 (hC : CR o b K I P N T n g R F Q U) : cgR (K, I, P, N) o 6 0 = some (some b) := by rw [e_gR hC.Ko, hC.sf.2.1]
theorem g63 (hC : CR o b K I P N T n g R F Q U) : cgR (K, I, P, N) o 6 3 = some (some (b + 7)) := by rw [e_gR hC.Ko, hC.sf.2.2.2.2.1]
theorem g64 (hC : CR o b K I P N T n g R F Q U) : cgR (K, I, P, N) o 6 4 = some (some (b + 9)) := by rw [e_gR hC.Ko, hC.sf.2.2.2.2.2.1]
theorem g65 (hC : CR o b K I P N T n g R F Q U) : cgR (K, I, P, N) o 6 5 = some (some (b + 11)) := by rw [e_gR hC.Ko, hC.sf.2.2.2.2.2.2.1]
theorem r3 (hC : CR o b K I P N T n g R F Q U) : crc (K, I, P, N) (some (b + 3)) 3 = some (b + 3) := e_rc hC.shS.1
theorem r5 (hC : CR o b K I P N T n g R F Q U) : crc (K, I, P, N) (some (b + 5)) 3 = some (b + 5) := e_rc hC.shG.1
theorem r4 (hC : CR o b K I P N T n g R F Q U) : crc (K, I, P, N) (some b) 4 = some b := e_rc hC.K0
theorem ro (hC : CR o b K I P N T n g R F Q U) : crc (K, I, P, N) (some o) 6 = some o := e_rc hC.Ko
theorem atS (hC : CR o b K I P N T n g R F Q U) {i : Nat} {d : RowD} (hi : i < n) (hr : R i = some d) : ∃ a, ptr b P i = some a ∧ RowOK K P a ∧ RowIs I a d ∧ fX3_at (b + 3) (nI i) (K, I, P, N) = some (some a, K, I, P, N) := by
  obtain ⟨a, -, h1, h2, h3⟩ := hC.row hr
  exact ⟨a, h1, h2, h3, by rw [at_ok hC.shS hi, Nat.zero_add, h1]⟩
theorem atG (hC : CR o b K I P N T n g R F Q U) {i : Nat} {d : RowD} (hi : i < g) (hr : R (200 + i) = some d) : ∃ a, ptr b P (200 + i) = some a ∧ RowOK K P a ∧ RowIs I a d ∧ fX3_at (b + 5) (nI i) (K, I, P, N) = some (some a, K, I, P, N) := by
  obtain ⟨a, -, h1, h2, h3⟩ := hC.row hr
  exact ⟨a, h1, h2, h3, by rw [at_ok hC.shG hi, h1]⟩
theorem s_addPart (o t : Nat) : sim_addPart o (Inv o t) (Inv o (t + 1)) := by
  intro z S p0 p1 hI
  obtain ⟨K, I, P, N0⟩ := z
  obtain ⟨f, M⟩ := S
  refine sim_core (fun e => e = 0 ∨ e = 1) (fun e => if e = 0 then 1 else (if e = 1 then 2 else 0)) hI (fun b T n g R F Q U hR hW => ?_)
  have h30 := hW.1.2.2.1
  obtain ⟨L, w, p, hr, hL⟩ := hW.str (Or.inr rfl)
  have hL30 := hL.len
  rcases ix_em p1 (n := n) (by omega) with ⟨i, hi, rfl⟩ | h1
  · obtain ⟨LI, wi, pi, hri, -⟩ := hW.str (Or.inl hi)
    rcases isNm_em p0 with h0 | h0
    · have hs : WfS T.length n (hide L (2, p0, nI i, -100, 0, -1)) := hL.hid ⟨Or.inr (Or.inr rfl), h0, fun _ => ⟨i, hi, rfl⟩, fun e => absurd rfl e, rfl, fun _ => rfl, rfl⟩
      refine sim_do (hidden L 2 p0) (hW.draftS (w := w) (p := p) hs).step (fun N hC => ?_) ?_
      · obtain ⟨J2, d1, d2⟩ := addHiding_c hC hr (kd := 2) (nm := p0) (x := nI i) (num := 0) hs.len
        obtain ⟨a, -, -, -, ha⟩ := atS hC hi hri
        refine ⟨K, J2, P, N, 0, 0, ?_, by omega, by omega, d2⟩
        unfold fX6_addPart
        rw [g61 hC, Option.bind_some, r3 hC, Option.bind_some, ha, Option.bind_some, needRow_t, tb_l, needName_t h0, tb_l, ro hC, Option.bind_some, d1, Option.bind_some]
        exact hidden_cb
      · obtain ⟨W2, d1, d2⟩ := adds_rr (hR.thr 0) hr hL.1 hL30 2 p0 (nI i) 0
        refine ⟨_, W2, ?_, d2, upd_s⟩
        unfold fX7_addPart
        rw [isStr_t hR hi, Option.bind_some, if_neg i10, isName_t h0, Option.bind_some, if_neg i10]
        unfold fX7_addPart_b25
        rw [fails_0, Option.bind_some]
        show Option.bind (fX7_adds 2 p0 (nI i) 0 (upd f 54 0, M)) _ = _
        rw [d1, Option.bind_some]
        exact hidden_rb
    · refine sim_thr 1 0 hR hW (Or.inr rfl) (fun N hC => ?_) ?_
      · obtain ⟨a, -, -, -, ha⟩ := atS hC hi hri
        unfold fX6_addPart
        rw [g61 hC, Option.bind_some, r3 hC, Option.bind_some, ha, Option.bind_some, needRow_t, tb_l, needName_f h0]
        rfl
      · unfold fX7_addPart
        rw [isStr_t hR hi, Option.bind_some, if_neg i10, isName_f h0, Option.bind_some, if_pos rfl]
        unfold fX7_addPart_b25
        rw [fails_1 (by decide), Option.bind_some]
        rfl
  · refine sim_thr 0 0 hR hW (Or.inl rfl) (fun N hC => ?_) ?_
    · unfold fX6_addPart
      rw [g61 hC, Option.bind_some, r3 hC, Option.bind_some, at_no hC.shS h1, Option.bind_some, needRow_f]
      rfl
    · unfold fX7_addPart
      rw [isStr_f hR h1, Option.bind_some, if_pos rfl]
      unfold fX7_addPart_b25
      rw [fails_1 (by decide), Option.bind_some]
      rfl
/-! open -/
def opn : List En → List En → Int32 → List En × Int32
  | [], acc, c => (acc, c)
  | e :: X, acc, c => opn X (hide acc e) (match plc acc e.1 e.2.1 with
    | none => c
    | some _ => c + 1)
theorem sE_eq {m n : Nat} {e : En} (h : sE m n e) : e = (e.1, e.2.1, e.2.2.1, -100, e.2.2.2.2.1, -1) := by
  obtain ⟨a, b, c, d, x, y⟩ := e
  obtain ⟨-, -, -, -, h1, -, h2⟩ := h
  simp only at h1 h2
  rw [h1, h2]
theorem opn_wf {m n : Nat} : ∀ (X acc : List En) (c : Int32), (∀ e, e ∈ X → sE m n e) → WfS m n acc → WfS m n (opn X acc c).1 := by
  intro X
  induction X with
  | nil => intro acc c _ h; exact h
  | cons e X ih => intro acc c hX h; exact ih _ _ (fun x hx => hX x (List.mem_cons_of_mem _ hx)) (h.hid (hX e List.mem_cons_self))
theorem opn_c {i a : Nat} {X : List En} {w p wi pi : Nat} (hi : i < 100) : ∀ m fu q I R acc c, q + m = X.length → m < fu → CR o b K I P N T n g R F Q U → R i = some (X, wi, pi) → ptr b P i = some a → (∀ e, e ∈ X → sE T.length n e) → R 100 = some (acc, w, p) → WfS T.length n acc → ∃ J, fX6_open_b28 o fu (some a) c (nI q) (K, I, P, N) = some (.inl (opn (X.drop q) acc c).2, (K, J, P, N), 0, 0) ∧ CR o b K J P N T n g (aup R 100 (some ((opn (X.drop q) acc c).1, w, p))) F Q U := by
  intro m
  induction m with
  | zero =>
    intro fu q I R acc c hq hf hC hri hp hX hr hA
    cases fu with
    | zero => omega
    | succ fu =>
      obtain ⟨a2, h1, h2, h3, h4⟩ := hC.row hri
      have ha : a2 = a := by rw [hp] at h2; cases h2; rfl
      subst ha
      have h30 : X.length ≤ 30 := h4.1.2.1
      refine ⟨I, ?_, ?_⟩
      · show fX6_open_b28_body o _ (some a2) c (nI q) (K, I, P, N) = _
        unfold fX6_open_b28_body
        rw [Option.bind_some, e_gI h3.1, Option.bind_some, h4.1.1, if_pos (nI_le (show X.length ≤ q by omega) (by omega)), List.drop_eq_nil_of_le (by omega)]
        rfl
      · rw [List.drop_eq_nil_of_le (by omega)]
        show CR o b K I P N T n g (aup R 100 (some (acc, w, p))) F Q U
        rw [aup_id hr]
        exact hC
  | succ m ih =>
    intro fu q I R acc c hq hf hC hri hp hX hr hA
    cases fu with
    | zero => omega
    | succ fu =>
      obtain ⟨a2, h1, h2, h3, h4⟩ := hC.row hri
      have ha : a2 = a := by rw [hp] at h2; cases h2; rfl
      subst ha
      have h30 : X.length ≤ 30 := h4.1.2.1
      have hql : q < X.length := by omega
      have hg := List.getElem?_eq_getElem hql
      have hse := hX _ (List.mem_of_getElem? hg)
      have hA2 := hA.hid hse
      have heq := sE_eq hse
      obtain ⟨J, d1, d2⟩ := addHiding_c hC hr (kd := X[q].1) (nm := X[q].2.1) (x := X[q].2.2.1) (num := X[q].2.2.2.2.1) (by rw [← heq]; exact hA2.len)
      rw [← heq] at d2
      obtain ⟨J2, c1, c2⟩ := ih fu (q + 1) J _ (hide acc X[q]) (match plc acc X[q].1 X[q].2.1 with
        | none => c
        | some _ => c + 1) (by omega) (by omega) d2 (by rw [aup_n (by omega)]; exact hri) hp hX aup_s hA2
      rw [aup_aup] at c2
      have hdr : opn (X.drop q) acc c = opn (X.drop (q + 1)) (hide acc X[q]) (match plc acc X[q].1 X[q].2.1 with
        | none => c
        | some _ => c + 1) := by rw [List.drop_eq_getElem_cons hql]; rfl
      refine ⟨J2, ?_, by rw [hdr]; exact c2⟩
      rw [hdr]
      show fX6_open_b28_body o _ (some a2) c (nI q) (K, I, P, N) = _
      unfold fX6_open_b28_body
      rw [Option.bind_some, e_gI h3.1, Option.bind_some, h4.1.1, if_neg (nI_ge hql (by omega)), e_rc h3.1]
      simp only [Option.bind_some, e_rc h3.1, get_r0 h3 h4.1 hg, get_r1 h3 h4.1 hg, get_r2 h3 h4.1 hg, get_r4 h3 h4.1 hg, ro hC, d1]
      unfold hidden fX6_open_b75
      cases hpl : plc acc X[q].1 X[q].2.1 with
      | none =>
        rw [hpl] at c1
        rw [nI_1]
        exact c1
      | some _ =>
        rw [hpl] at c1
        rw [nI_1]
        exact c1
theorem opn_r {i : Nat} {X : List En} {w p wi pi : Nat} (hi : i < 100) : ∀ m fu q M R acc c, q + m = X.length → m < fu → RR f M T n g R F Q U → R i = some (X, wi, pi) → (∀ e, e ∈ X → sE T.length n e) → R 100 = some (acc, w, p) → WfS T.length n acc → ∃ W, fX7_open_b29 fu (nI i) c (nI (60 * i + q)) (f, M) = some ((opn (X.drop q) acc c).2, f, W) ∧ RR f W T n g (aup R 100 (some ((opn (X.drop q) acc c).1, w, p))) F Q U := by
  intro m
  induction m with
  | zero =>
    intro fu q M R acc c hq hf hR hri hX hr hA
    cases fu with
    | zero => omega
    | succ fu =>
      obtain ⟨h1, h2, h3⟩ := (hR.rw i _ hri).1 (by omega)
      have h2' : X.length ≤ 60 := h2
      refine ⟨M, ?_, ?_⟩
      · show fX7_open_b29_body _ (nI i) c (nI (60 * i + q)) (f, M) = _
        unfold fX7_open_b29_body
        rw [r_rd 101 rfl (by omega) (by omega), Option.bind_some, h1, show (60 : Int32) = nI 60 from rfl, pk_mul, nI_add, if_pos (nI_le (show 60 * i + X.length ≤ _ by omega) (by omega)), List.drop_eq_nil_of_le (by omega)]
        rfl
      · rw [List.drop_eq_nil_of_le (by omega)]
        show RR f M T n g (aup R 100 (some (acc, w, p))) F Q U
        rw [aup_id hr]
        exact hR
  | succ m ih =>
    intro fu q M R acc c hq hf hR hri hX hr hA
    cases fu with
    | zero => omega
    | succ fu =>
      obtain ⟨h1, h2, h3⟩ := (hR.rw i _ hri).1 (by omega)
      have h2' : X.length ≤ 60 := h2
      have hql : q < X.length := by omega
      have hg := List.getElem?_eq_getElem hql
      have hse := hX _ (List.mem_of_getElem? hg)
      have hA2 := hA.hid hse
      have heq := sE_eq hse
      obtain ⟨v1, v2, v3, v4⟩ := h3 q _ hg
      obtain ⟨W, d1, d2⟩ := adds_rr hR hr hA.1 hA.len X[q].1 X[q].2.1 X[q].2.2.1 X[q].2.2.2.2.1
      rw [← heq] at d2
      obtain ⟨W2, c1, c2⟩ := ih fu (q + 1) W _ (hide acc X[q]) (match plc acc X[q].1 X[q].2.1 with
        | none => c
        | some _ => c + 1) (by omega) (by omega) d2 (by rw [aup_n (by omega)]; exact hri) hX aup_s hA2
      rw [aup_aup] at c2
      have hdr : opn (X.drop q) acc c = opn (X.drop (q + 1)) (hide acc X[q]) (match plc acc X[q].1 X[q].2.1 with
        | none => c
        | some _ => c + 1) := by rw [List.drop_eq_getElem_cons hql]; rfl
      refine ⟨W2, ?_, by rw [hdr]; exact c2⟩
      rw [hdr]
      show fX7_open_b29_body _ (nI i) c (nI (60 * i + q)) (f, M) = _
      unfold fX7_open_b29_body
      rw [r_rd 101 rfl (by omega) (by omega), Option.bind_some, h1, show (60 : Int32) = nI 60 from rfl, pk_mul, nI_add, if_neg (nI_ge (show 60 * i + q < 60 * i + X.length by omega) (by omega)), r_rd 6060 rfl (by omega) (by omega), Option.bind_some, r_rd 6060 rfl (by omega) (by omega), Option.bind_some, r_rd 6060 rfl (by omega) (by omega), Option.bind_some, r_rd 6060 rfl (by omega) (by omega), Option.bind_some, v1, v2, v3, v4, d1, Option.bind_some]
      unfold hidden fX7_open_b81
      cases hpl : plc acc X[q].1 X[q].2.1 with
      | none =>
        rw [hpl] at c1
        rw [nI_1]
        show fX7_open_b29 fu (nI i) (c + 0) (nI (60 * i + q + 1)) (f, W) = _
        rw [Int32.add_zero]
        exact c1
      | some _ =>
        rw [hpl] at c1
        rw [nI_1]
        exact c1
theorem s_open (o t : Nat) : sim_open o (Inv o t) (Inv o (t + 1)) := by
  intro z S p0 hI
  obtain ⟨K, I, P, N0⟩ := z
  obtain ⟨f, M⟩ := S
  refine sim_core (fun e => e = 0) (fun e => if e = 0 then 1 else 0) hI (fun b T n g R F Q U hR hW => ?_)
  have h30 := hW.1.2.2.1
  obtain ⟨L, w, p, hr, hL⟩ := hW.str (Or.inr rfl)
  rcases ix_em p0 (n := n) (by omega) with ⟨i, hi, rfl⟩ | h1
  · obtain ⟨X, wi, pi, hri, hX⟩ := hW.str (Or.inl hi)
    have hX2 : ∀ e, e ∈ X → sE T.length n e := fun e he => by
      obtain ⟨q, hq⟩ := List.mem_iff_getElem?.mp he
      exact hX.2 q e hq
    have hX30 := hX.len
    have hs := opn_wf X L 0 hX2 hL
    refine sim_do (opn X L 0).2 (hW.draftS (w := w) (p := p) hs).step (fun N hC => ?_) ?_
    · obtain ⟨a, a1, a2, a3, ha⟩ := atS hC hi hri
      obtain ⟨J, d1, d2⟩ := opn_c (o := o) (w := w) (p := p) (a := a) (by omega) X.length rFuel 0 I R L 0 (by omega) (by show X.length < 100000; omega) hC hri a1 hX2 hr hL
      refine ⟨K, J, P, N, 0, 0, ?_, by omega, by omega, d2⟩
      unfold fX6_open
      rw [g61 hC, Option.bind_some, r3 hC, Option.bind_some, ha, Option.bind_some]
      exact d1
    · obtain ⟨W, d1, d2⟩ := opn_r (w := w) (p := p) (by omega) X.length rFuel 0 M R L 0 (by omega) (by show X.length < 100000; omega) (hR.thr 0) hri hX2 hr hL
      refine ⟨_, W, ?_, d2, upd_s⟩
      unfold fX7_open
      rw [isStr_t hR hi, Option.bind_some, if_neg i10]
      unfold fX7_open_b14
      rw [fails_0, Option.bind_some]
      show fX7_open_b29 rFuel (nI i) 0 (60 * nI i) (upd f 54 0, M) = _
      rw [show (60 : Int32) = nI 60 from rfl, pk_mul]
      exact d1
  · refine sim_thr 0 0 hR hW rfl (fun N hC => ?_) ?_
    · unfold fX6_open
      rw [g61 hC, Option.bind_some, r3 hC, Option.bind_some, at_no hC.shS h1, Option.bind_some]
      rfl
    · unfold fX7_open
      rw [isStr_f hR h1, Option.bind_some, if_pos rfl]
      unfold fX7_open_b14
      rw [fails_1 (by decide), Option.bind_some]
      rfl
end Strs
