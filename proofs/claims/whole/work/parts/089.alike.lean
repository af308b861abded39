/-! ALIKE -/
def alkL (rec : Nat → Nat → Bool) : List En → List En → Bool
  | [], [] => true
  | e :: X, f :: Y => decide (e.1 = f.1 ∧ e.2.1 = f.2.1 ∧ e.2.2.2.1 = f.2.2.2.1) && ((if e.1 = 2 then rec (iN e.2.2.1) (iN f.2.2.1) else decide (e.2.2.1 = f.2.2.1)) && alkL rec X Y)
  | [], _ :: _ => false
  | _ :: _, [] => false
def sgL (R : Nat → Option RowD) (s : Nat) : List En := match R (200 + s) with
  | some d => d.1
  | none => []
def alk (R : Nat → Option RowD) : Nat → Nat → Nat → Bool
  | 0, _, _ => false
  | n + 1, s, u => alkL (alk R n) (sgL R s) (sgL R u)
def b2 (x : Bool) : Int32 := if x = true then 1 else 0
theorem b2_cb {x : Bool} {β : Type} {y : Option β} : cbo (b2 x) y = y := by cases x; exact cbo_0; exact cbo_1
theorem b2_rb {x : Bool} {S : rS} : rbo (b2 x) S = some (b2 x, S) := by cases x; exact rbo_0; exact rbo_1
theorem b2_0 {x : Bool} : b2 x = 0 ↔ x = false := by cases x <;> decide
/-- the sigs, as both have them -/
def wfG (R : Nat → Option RowD) (g : Nat) : Prop := g ≤ 20 ∧ ∀ i, i < g → ∃ L w p m, R (200 + i) = some (L, w, p) ∧ WfG m i L ∧ m ≤ 400
theorem WF.wfG {t : Nat} {T : List TyD} {n g : Nat} {R : Nat → Option RowD} {F : List FuD} {Q : List (Int32 × Int32)} {U : List UnD} (h : WF t T n g R F Q U) : wfG R g := ⟨h.1.2.2.2, fun i hi => let ⟨L, a, _, c⟩ := h.sG hi; ⟨L, _, _, _, a, c, by have := h.1.2.1; omega⟩⟩
theorem wfG.L {R : Nat → Option RowD} {g : Nat} (h : wfG R g) {i : Nat} (hi : i < g) : ∃ w p m, R (200 + i) = some (sgL R i, w, p) ∧ WfG m i (sgL R i) ∧ m ≤ 400 := by
  obtain ⟨L, w, p, m, h1, h2, h3⟩ := h.2 i hi
  have : sgL R i = L := by unfold sgL; rw [h1]
  rw [this]
  exact ⟨w, p, m, h1, h2, h3⟩
theorem gE.part {m i : Nat} {L : List En} {p : Nat} {e : En} (h : gE m i L p e) (h2 : e.1 = 2) : ∃ j, j < i ∧ e.2.2.1 = nI j := by
  rcases h.2.2.2 with ⟨a, -⟩ | ⟨a, -⟩ | ⟨-, -, h⟩
  · exact absurd (a.symm.trans h2) i02
  · exact absurd (a.symm.trans h2) i12
  · exact h
theorem alkL_len {rec : Nat → Nat → Bool} : ∀ (X Y : List En), X.length ≠ Y.length → alkL rec X Y = false := by
  intro X
  induction X with
  | nil => intro Y h; cases Y with
    | nil => exact absurd rfl h
    | cons f Y => rfl
  | cons e X ih => intro Y h; cases Y with
    | nil => rfl
    | cons f Y =>
      unfold alkL
      rw [ih Y (fun h2 => h (by simp [h2])), Bool.and_false, Bool.and_false]
theorem alkL_congr {rec rec2 : Nat → Nat → Bool} : ∀ (X Y : List En), (∀ e f, e ∈ X → f ∈ Y → e.1 = 2 → f.1 = 2 → rec (iN e.2.2.1) (iN f.2.2.1) = rec2 (iN e.2.2.1) (iN f.2.2.1)) → alkL rec X Y = alkL rec2 X Y := by
  intro X
  induction X with
  | nil => intro Y _; cases Y <;> rfl
  | cons e X ih => intro Y h; cases Y with
    | nil => rfl
    | cons f Y =>
      unfold alkL
      rw [ih Y (fun a c ha hc => h a c (List.mem_cons_of_mem _ ha) (List.mem_cons_of_mem _ hc))]
      by_cases h1 : e.1 = 2
      · by_cases h2 : f.1 = 2
        · rw [if_pos h1, if_pos h1, h e f List.mem_cons_self List.mem_cons_self h1 h2]
        · have : decide (e.1 = f.1 ∧ e.2.1 = f.2.1 ∧ e.2.2.2.1 = f.2.2.2.1) = false := decide_eq_false (fun h3 => h2 (h3.1.symm.trans h1))
          rw [this, Bool.false_and, Bool.false_and]
      · rw [if_neg h1, if_neg h1]
theorem alk_fuel {R : Nat → Option RowD} {g : Nat} (hG : wfG R g) : ∀ (n k s u : Nat), s < n → s < k → s < g → u < g → alk R n s u = alk R k s u := by
  have h20 := hG.1
  intro n
  induction n with
  | zero => intro k s u h; omega
  | succ n ih =>
    intro k s u h1 h2 h3 h4
    cases k with
    | zero => omega
    | succ k =>
      obtain ⟨wx, px, mx, rx, hX, _⟩ := hG.L h3
      obtain ⟨wy, py, my, ry, hY, _⟩ := hG.L h4
      show alkL (alk R n) _ _ = alkL (alk R k) _ _
      refine alkL_congr _ _ (fun e f he hf e2 f2 => ?_)
      obtain ⟨p, hp⟩ := List.mem_iff_getElem?.mp he
      obtain ⟨q, hq⟩ := List.mem_iff_getElem?.mp hf
      obtain ⟨j, hj, hj2⟩ := (hX.2 p e hp).part e2
      obtain ⟨l, hl, hl2⟩ := (hY.2 q f hq).part f2
      rw [hj2, hl2, iN_nI (by omega), iN_nI (by omega)]
      exact ih k j l (by omega) (by omega) (by omega) (by omega)
section Alike
variable {o b t : Nat} {K : Nat → Option (Nat × Nat)} {I : Nat → Nat → Int32} {P : Nat → Nat → Option Nat} {N0 N a : Nat} {f : Nat → Int32} {M : Nat → Nat → Int32} {T : List TyD} {n g : Nat} {R : Nat → Option RowD} {F : List FuD} {Q : List (Int32 × Int32)} {U : List UnD} {L X : List En}
theorem alike_loop (hC : CR o b K I P N T n g R F Q U) {a c : Nat} {X Y : List En} (ha : RowOK K P a) (hc : RowOK K P c) (hX : RowE I a X) (hY : RowE I c Y) (hl : X.length = Y.length) {self : Nat → Int32 → Int32 → Int32 → cS → Option (Int32 × cS)} {rec : Nat → Nat → Bool} {d : Nat} (hs : ∀ e f, e ∈ X → f ∈ Y → e.1 = 2 → f.1 = 2 → self o e.2.2.1 f.2.2.1 (nI (d + 1)) (K, I, P, N) = some (b2 (rec (iN e.2.2.1) (iN f.2.2.1)), K, I, P, N)) : ∀ m fu q, q + m = X.length → m < fu → fX6_areAlike_b54 self o fu (nI d) (some a) (some c) (nI q) (K, I, P, N) = some (b2 (alkL rec (X.drop q) (Y.drop q)), K, I, P, N) := by
  have h30 := hX.2.1
  intro m
  induction m with
  | zero =>
    intro fu q hq hf
    cases fu with
    | zero => omega
    | succ fu =>
      show fX6_areAlike_b54_body self o _ (nI d) (some a) (some c) (nI q) (K, I, P, N) = _
      unfold fX6_areAlike_b54_body
      rw [Option.bind_some, e_gI ha.1, Option.bind_some, hX.1, if_pos (nI_le (by omega) (by omega)), List.drop_eq_nil_of_le (by omega), List.drop_eq_nil_of_le (by omega)]
      exact cbo_1
  | succ m ih =>
    intro fu q hq hf
    cases fu with
    | zero => omega
    | succ fu =>
      have hq1 : q < X.length := by omega
      have hq2 : q < Y.length := by omega
      have g1 := List.getElem?_eq_getElem hq1
      have g2 := List.getElem?_eq_getElem hq2
      have hn := ih fu (q + 1) (by omega) (by omega)
      have b193 : ∀ x : Bool, fX6_areAlike_b193 self o (fX6_areAlike_b54 self o fu) (nI d) (some a) (some c) (nI q) (b2 x) (K, I, P, N) = some (b2 (x && alkL rec (X.drop (q + 1)) (Y.drop (q + 1))), K, I, P, N) := by
        intro x
        unfold fX6_areAlike_b193
        cases x with
        | false => exact cbo_0
        | true =>
          rw [if_neg (show ¬ b2 true = 0 by decide), nI_1, hn, Bool.true_and]
      rw [List.drop_eq_getElem_cons hq1, List.drop_eq_getElem_cons hq2]
      show fX6_areAlike_b54_body self o _ (nI d) (some a) (some c) (nI q) (K, I, P, N) = _
      unfold fX6_areAlike_b54_body
      rw [Option.bind_some, e_gI ha.1, Option.bind_some, hX.1, if_neg (nI_ge hq1 (by omega))]
      simp only [Option.bind_some, e_rc ha.1, e_rc hc.1, get_r0 ha hX g1, get_r0 hc hY g2, get_r1 ha hX g1, get_r1 hc hY g2, get_r2 ha hX g1, get_r2 hc hY g2, get_r3 ha hX g1, get_r3 hc hY g2]
      have b145 : ∀ x y, fX6_areAlike_b145 self o (fX6_areAlike_b54 self o fu) (nI d) (some a) (some c) (nI q) x y (K, I, P, N) = some (0, K, I, P, N) := by
        intro x y
        unfold fX6_areAlike_b145 fX6_areAlike_b146
        rw [if_pos rfl]
        exact cbo_0
      unfold alkL
      by_cases c1 : X[q].1 = Y[q].1
      · rw [if_pos c1]
        by_cases c2 : X[q].2.1 = Y[q].2.1
        · rw [if_pos c2]
          by_cases c3 : X[q].2.2.2.1 = Y[q].2.2.2.1
          · rw [if_pos c3, decide_eq_true ⟨c1, c2, c3⟩, Bool.true_and]
            unfold fX6_areAlike_b146
            rw [if_neg i10, e_rc ha.1, Option.bind_some, get_r0 ha hX g1, Option.bind_some]
            by_cases c4 : X[q].1 = 2
            · rw [if_pos c4, if_pos c4]
              show Option.bind (crc (K, I, P, N) (some o) 6) _ = _
              rw [ro hC, Option.bind_some, nI_1, hs _ _ (List.mem_of_getElem? g1) (List.mem_of_getElem? g2) c4 (c1.symm.trans c4), Option.bind_some]
              exact b193 _
            · rw [if_neg c4, if_neg c4]
              by_cases c5 : X[q].2.2.1 = Y[q].2.2.1
              · rw [if_pos c5, decide_eq_true c5]
                exact b193 true
              · rw [if_neg c5, decide_eq_false c5]
                exact b193 false
          · rw [if_neg c3, decide_eq_false (fun h => c3 h.2.2), Bool.false_and]
            exact b145 _ _
        · rw [if_neg c2, decide_eq_false (fun h => c2 h.2.1), Bool.false_and]
          exact b145 _ _
      · rw [if_neg c1, decide_eq_false (fun h => c1 h.1), Bool.false_and]
        exact b145 _ _
theorem alike_c (hC : CR o b K I P N T n g R F Q U) (hG : wfG R g) : ∀ fu s u d, s < g → u < g → s + d ≤ 19 → s < fu → fX6_areAlike fu o (nI s) (nI u) (nI d) (K, I, P, N) = some (b2 (alk R fu s u), K, I, P, N) := by
  have h20 := hG.1
  intro fu
  induction fu with
  | zero => intro s u d _ _ _ h; omega
  | succ fu ih =>
    intro s u d hs hu hd hf
    obtain ⟨w1, p1, m1, r1, hX, -⟩ := hG.L hs
    obtain ⟨w2, p2, m2, r2, hY, -⟩ := hG.L hu
    obtain ⟨a, -, ha, hra, ea⟩ := atG hC hs r1
    obtain ⟨c, -, hc, hrc, ec⟩ := atG hC hu r2
    have hX30 : (sgL R s).length ≤ 30 := hra.1.2.1
    have hY30 : (sgL R u).length ≤ 30 := hrc.1.2.1
    show fX6_areAlike_fun (fX6_areAlike fu) o (nI s) (nI u) (nI d) (K, I, P, N) = _
    unfold fX6_areAlike_fun
    rw [g62 hC, Option.bind_some, r5 hC, Option.bind_some, ea, Option.bind_some]
    show Option.bind (cgR (K, I, P, N) o 6 2) _ = _
    rw [g62 hC, Option.bind_some, r5 hC, Option.bind_some, ec, Option.bind_some]
    show (if some a = none then _ else if some c = none then _ else if (20 : Int32) < nI d then _ else Option.bind (cgI (K, I, P, N) a 2 1) _) = _
    rw [if_neg (fun e => by cases e), if_neg (fun e => by cases e), show (20 : Int32) = nI 20 from rfl, if_neg (nI_nlt (by omega) (by omega)), e_gI ha.1, Option.bind_some, hra.1.1]
    show Option.bind (cgI (K, I, P, N) c 2 1) _ = _
    rw [e_gI hc.1, Option.bind_some, hrc.1.1]
    show (if nI (sgL R s).length = nI (sgL R u).length then _ else _) = some (b2 (alkL (alk R fu) (sgL R s) (sgL R u)), _)
    by_cases hl : (sgL R s).length = (sgL R u).length
    · rw [if_pos (by rw [hl])]
      have := alike_loop (N := N) (X := sgL R s) (Y := sgL R u) hC ha hc hra.1 hrc.1 hl (self := fX6_areAlike fu) (rec := alk R fu) (d := d) (fun e x he hx e2 x2 => by
        obtain ⟨p, hp⟩ := List.mem_iff_getElem?.mp he
        obtain ⟨q, hq⟩ := List.mem_iff_getElem?.mp hx
        obtain ⟨j, hj, hj2⟩ := (hX.2 p e hp).part e2
        obtain ⟨l, hl, hl2⟩ := (hY.2 q x hq).part x2
        rw [hj2, hl2, iN_nI (by omega), iN_nI (by omega)]
        exact ih j l (d + 1) (by omega) (by omega) (by omega) (by omega)) (sgL R s).length rFuel 0 (by omega) (by show (sgL R s).length < 100000; omega)
      rw [List.drop_zero, List.drop_zero] at this
      exact this
    · rw [if_neg (nI_ne (by omega) (by omega) hl), alkL_len _ _ hl]
      exact cbo_0
/-! the reference's table -/
theorem r_wz {k i : Nat} {v : Int32} (len : Nat) (hl : rLen k = len) (hi : i < len) (h9 : len < 2 ^ 31) (hv : vp_nar .boolean v = v) : rwz (f, M) k (nI i) v = some (f, mup M k i v) := by
  unfold rwz
  rw [hl, if_neg (nI_in hi h9), nI_clamp (by omega), hv]
  rfl
theorem b2_nar {x : Bool} : vp_nar .boolean (b2 x) = b2 x := by cases x <;> decide
def tA (M : Nat → Nat → Int32) (R : Nat → Option RowD) (g a c : Nat) : Prop := ∀ s u, u < g → s < a ∨ (s = a ∧ u < c) → M 53 (20 * s + u) = b2 (alk R 30 s u)
theorem comp_in (hG : wfG R g) {s u : Nat} (hs : s < g) (hu : u < g) (hsp : ∀ i, i < g → rSp M i (sgL R i)) {c : Nat} (ht : tA M R g s c) {rec2 : Int32 → rS → Option rS} {rec12 : Int32 → Int32 → rS → Option rS} : ∀ m fu q acc, q + m = (sgL R s).length → m < fu → (acc = true → (sgL R s).length = (sgL R u).length) → fX7_compares_b44 rec2 rec12 fu (nI s) (nI u) (b2 acc) (nI q) (f, M) = fX7_compares_b221 rec2 rec12 (nI s) (nI u) (b2 (acc && alkL (alk R 29) ((sgL R s).drop q) ((sgL R u).drop q))) (f, M) := by
  have h20 := hG.1
  obtain ⟨x1, x2, x3⟩ := hsp s hs
  obtain ⟨y1, y2, y3⟩ := hsp u hu
  obtain ⟨wx, px, mx, rx, hX, _⟩ := hG.L hs
  obtain ⟨wy, py, my, ry, hY, _⟩ := hG.L hu
  intro m
  induction m with
  | zero =>
    intro fu q acc hq hf hl
    cases fu with
    | zero => omega
    | succ fu =>
      show fX7_compares_b44_body _ rec2 rec12 (nI s) (nI u) (b2 acc) (nI q) (f, M) = _
      unfold fX7_compares_b44_body
      rw [r_rd 21 rfl (by omega) (by omega), Option.bind_some, x1, if_pos (nI_le (by omega) (by omega))]
      cases acc with
      | false => rw [Bool.false_and]
      | true =>
        have := hl rfl
        rw [List.drop_eq_nil_of_le (by omega), List.drop_eq_nil_of_le (by omega)]
        rfl
  | succ m ih =>
    intro fu q acc hq hf hl
    cases fu with
    | zero => omega
    | succ fu =>
      have hq1 : q < (sgL R s).length := by omega
      show fX7_compares_b44_body _ rec2 rec12 (nI s) (nI u) (b2 acc) (nI q) (f, M) = _
      unfold fX7_compares_b44_body
      rw [r_rd 21 rfl (by omega) (by omega), Option.bind_some, x1, if_neg (nI_ge hq1 (by omega))]
      cases acc with
      | false => rw [if_pos (show b2 false = 0 from rfl), Bool.false_and]
      | true =>
        have hll := hl rfl
        have hq2 : q < (sgL R u).length := by omega
        have g1 := List.getElem?_eq_getElem hq1
        have g2 := List.getElem?_eq_getElem hq2
        obtain ⟨v1, v2, v3, v4⟩ := x3 q _ g1
        obtain ⟨u1, u2, u3, u4⟩ := y3 q _ g2
        have e1 : (60 : Int32) * nI s + nI q = nI (60 * s + q) := by rw [show (60 : Int32) = nI 60 from rfl, pk_mul, nI_add]
        have e2 : (60 : Int32) * nI u + nI q = nI (60 * u + q) := by rw [show (60 : Int32) = nI 60 from rfl, pk_mul, nI_add]
        have a13 : rd (f, M) 13 (nI (60 * s + q)) = some (sgL R s)[q].1 := by rw [r_rd 1260 rfl (by omega) (by omega), v1]
        have a14 : rd (f, M) 14 (nI (60 * s + q)) = some (sgL R s)[q].2.1 := by rw [r_rd 1260 rfl (by omega) (by omega), v2]
        have a15 : rd (f, M) 15 (nI (60 * s + q)) = some (sgL R s)[q].2.2.1 := by rw [r_rd 1260 rfl (by omega) (by omega), v3]
        have a16 : rd (f, M) 16 (nI (60 * s + q)) = some (sgL R s)[q].2.2.2.1 := by rw [r_rd 1260 rfl (by omega) (by omega), v4]
        have b13 : rd (f, M) 13 (nI (60 * u + q)) = some (sgL R u)[q].1 := by rw [r_rd 1260 rfl (by omega) (by omega), u1]
        have b14 : rd (f, M) 14 (nI (60 * u + q)) = some (sgL R u)[q].2.1 := by rw [r_rd 1260 rfl (by omega) (by omega), u2]
        have b15 : rd (f, M) 15 (nI (60 * u + q)) = some (sgL R u)[q].2.2.1 := by rw [r_rd 1260 rfl (by omega) (by omega), u3]
        have b16 : rd (f, M) 16 (nI (60 * u + q)) = some (sgL R u)[q].2.2.2.1 := by rw [r_rd 1260 rfl (by omega) (by omega), u4]
        have hn : ∀ x : Bool, fX7_compares_b214 rec2 rec12 (fX7_compares_b44 rec2 rec12 fu) (nI s) (nI u) (nI q) (b2 x) (f, M) = fX7_compares_b221 rec2 rec12 (nI s) (nI u) (b2 (x && alkL (alk R 29) ((sgL R s).drop (q + 1)) ((sgL R u).drop (q + 1)))) (f, M) := by
          intro x
          unfold fX7_compares_b214
          rw [nI_1]
          exact ih fu (q + 1) x (by omega) (by omega) (fun _ => hll)
        have b168 : ∀ x : Bool, fX7_compares_b168 rec2 rec12 (fX7_compares_b44 rec2 rec12 fu) (nI s) (nI u) (nI q) (nI (60 * s + q)) (nI (60 * u + q)) (b2 x) (f, M) = fX7_compares_b221 rec2 rec12 (nI s) (nI u) (b2 ((decide ((sgL R s)[q].1 = (sgL R u)[q].1 ∧ (sgL R s)[q].2.1 = (sgL R u)[q].2.1) && x) && alkL (alk R 29) ((sgL R s).drop (q + 1)) ((sgL R u).drop (q + 1)))) (f, M) := by
          intro x
          unfold fX7_compares_b168 fX7_compares_b213
          rw [a13, Option.bind_some, b13, Option.bind_some]
          by_cases c1 : (sgL R s)[q].1 = (sgL R u)[q].1
          · rw [if_pos c1, a14, Option.bind_some, b14, Option.bind_some]
            by_cases c2 : (sgL R s)[q].2.1 = (sgL R u)[q].2.1
            · rw [if_pos c2, decide_eq_true ⟨c1, c2⟩, Bool.true_and]
              cases x with
              | false => rw [if_pos (show b2 false = 0 from rfl)]; exact hn false
              | true => rw [if_neg (show ¬ b2 true = 0 by decide)]; exact hn true
            · rw [if_neg c2, decide_eq_false (fun h => c2 h.2), Bool.false_and]; exact hn false
          · rw [if_neg c1, decide_eq_false (fun h => c1 h.1), Bool.false_and]; exact hn false
        rw [if_neg (show ¬ b2 true = 0 by decide), e1, e2, Bool.true_and, List.drop_eq_getElem_cons hq1, List.drop_eq_getElem_cons hq2]
        show Option.bind (rd (f, M) 13 (nI (60 * s + q))) _ = _
        rw [a13, Option.bind_some]
        unfold alkL
        by_cases c1 : (sgL R s)[q].1 = 2
        · obtain ⟨j, hj, hj2⟩ := (hX.2 q _ g1).part c1
          have hto : (sgL R s)[q].2.2.2.1 = -100 := by
            rcases (hX.2 q _ g1).2.2.2 with ⟨h, -⟩ | ⟨h, -⟩ | ⟨-, h, -⟩
            · exact absurd (h.symm.trans c1) i02
            · exact absurd (h.symm.trans c1) i12
            · exact h
          have s20 : (20 : Int32) * nI j = nI (20 * j) := by rw [show (20 : Int32) = nI 20 from rfl, pk_mul]
          rw [if_pos c1, a15, Option.bind_some, b13, Option.bind_some, hj2, s20, if_pos c1]
          by_cases c2 : (sgL R u)[q].1 = 2
          · obtain ⟨l, hl1, hl2⟩ := (hY.2 q _ g2).part c2
            have hto2 : (sgL R u)[q].2.2.2.1 = -100 := by
              rcases (hY.2 q _ g2).2.2.2 with ⟨h, -⟩ | ⟨h, -⟩ | ⟨-, h, -⟩
              · exact absurd (h.symm.trans c2) i02
              · exact absurd (h.symm.trans c2) i12
              · exact h
            rw [if_pos c2, b15, Option.bind_some, hl2]
            unfold fX7_compares_b124
            rw [nI_add, r_rd 400 rfl (by omega) (by omega), Option.bind_some, ht j l (by omega) (Or.inl hj), b168, iN_nI (by omega), iN_nI (by omega), alk_fuel hG 29 30 j l (by omega) (by omega) (by omega) (by omega), hto, hto2]
            simp only [and_true, Bool.and_assoc]
          · rw [if_neg c2]
            unfold fX7_compares_b124
            have : ∃ x : Bool, M 53 (20 * j) = b2 x := ⟨_, ht j 0 (by omega) (Or.inl hj)⟩
            obtain ⟨x, hx⟩ := this
            rw [Int32.add_zero, r_rd 400 rfl (by omega) (by omega), Option.bind_some, hx, b168, decide_eq_false (fun h => c2 (h.1.symm.trans c1)), decide_eq_false (fun h => c2 (h.1.symm.trans c1)), Bool.false_and, Bool.false_and, Bool.false_and]
        · rw [if_neg c1, a15, Option.bind_some, b15, Option.bind_some, if_neg c1]
          by_cases c3 : (sgL R s)[q].2.2.1 = (sgL R u)[q].2.2.1
          · rw [if_pos c3, a16, Option.bind_some, b16, Option.bind_some]
            by_cases c4 : (sgL R s)[q].2.2.2.1 = (sgL R u)[q].2.2.2.1
            · rw [if_pos c4, show (1 : Int32) = b2 true from rfl, b168]
              refine congrArg (fun x => fX7_compares_b221 rec2 rec12 (nI s) (nI u) (b2 x) (f, M)) ?_
              simp [c3, c4]
            · rw [if_neg c4]
              unfold fX7_compares_b167
              rw [show (0 : Int32) = b2 false from rfl, b168]
              refine congrArg (fun x => fX7_compares_b221 rec2 rec12 (nI s) (nI u) (b2 x) (f, M)) ?_
              simp [c4]
          · rw [if_neg c3]
            unfold fX7_compares_b167
            rw [show (0 : Int32) = b2 false from rfl, b168]
            refine congrArg (fun x => fX7_compares_b221 rec2 rec12 (nI s) (nI u) (b2 x) (f, M)) ?_
            simp [c3]
def on53 (M W : Nat → Nat → Int32) : Prop := ∀ j, j ≠ 53 → W j = M j
theorem comp_mid (hG : wfG R g) (hf10 : f 10 = nI g) {s : Nat} (hs : s < g) {rec2 : Int32 → rS → Option rS} : ∀ m fu u M, u + m = g → m < fu → (∀ i, i < g → rSp M i (sgL R i)) → tA M R g s u → ∃ W, fX7_compares_b12 rec2 fu (nI s) (nI u) (f, M) = rec2 (nI (s + 1)) (f, W) ∧ tA W R g (s + 1) 0 ∧ on53 M W := by
  have h20 := hG.1
  intro m
  induction m with
  | zero =>
    intro fu u M hu hf hsp ht
    cases fu with
    | zero => omega
    | succ fu =>
      refine ⟨M, ?_, fun a c hc h => ht a c hc (by omega), fun _ _ => rfl⟩
      show fX7_compares_b12_body _ rec2 (nI s) (nI u) (f, M) = _
      unfold fX7_compares_b12_body
      show (if f 10 ≤ nI u then _ else _) = _
      rw [hf10, if_pos (nI_le (by omega) (by omega)), nI_1]
  | succ m ih =>
    intro fu u M hu hf hsp ht
    cases fu with
    | zero => omega
    | succ fu =>
      have hug : u < g := by omega
      have x1 := (hsp s hs).1
      have x2 := (hsp s hs).2.1
      have y1 := (hsp u hug).1
      have y2 := (hsp u hug).2.1
      have ht2 : tA (mup M 53 (20 * s + u) (b2 (alk R 30 s u))) R g s (u + 1) := by
        intro a c hc h
        by_cases h2 : a = s ∧ c = u
        · rw [h2.1, h2.2, mup_s]
        · rw [mup_i (by omega)]
          exact ht a c hc (by omega)
      obtain ⟨W, d1, d2, d3⟩ := ih fu (u + 1) (mup M 53 (20 * s + u) (b2 (alk R 30 s u))) (by omega) (by omega) (fun i hi => (hsp i hi).congr (fun j _ _ => mup_k (by omega))) ht2
      refine ⟨W, ?_, d2, fun j hj => by rw [d3 j hj, mup_k hj]⟩
      show fX7_compares_b12_body _ rec2 (nI s) (nI u) (f, M) = _
      unfold fX7_compares_b12_body
      show (if f 10 ≤ nI u then _ else _) = _
      rw [hf10, if_neg (nI_ge hug (by omega)), r_rd 21 rfl (by omega) (by omega), Option.bind_some, r_rd 21 rfl (by omega) (by omega), Option.bind_some, x1, y1]
      have e1 : (20 : Int32) * nI s + nI u = nI (20 * s + u) := by rw [show (20 : Int32) = nI 20 from rfl, pk_mul, nI_add]
      have fin : fX7_compares_b221 rec2 (fX7_compares_b12 rec2 fu) (nI s) (nI u) (b2 (alk R 30 s u)) (f, M) = rec2 (nI (s + 1)) (f, W) := by
        unfold fX7_compares_b221
        rw [e1, r_wz 400 rfl (by omega) (by omega) b2_nar, Option.bind_some, nI_1]
        exact d1
      by_cases hl : (sgL R s).length = (sgL R u).length
      · rw [if_pos (by rw [hl])]
        unfold fX7_compares_b40
        have := comp_in (f := f) hG hs hug hsp ht (rec2 := rec2) (rec12 := fX7_compares_b12 rec2 fu) (sgL R s).length rFuel 0 true (by omega) (by show (sgL R s).length < 100000; omega) (fun _ => hl)
        rw [List.drop_zero, List.drop_zero, Bool.true_and] at this
        exact this.trans fin
      · rw [if_neg (nI_ne (by omega) (by omega) hl)]
        unfold fX7_compares_b40
        have := comp_in (f := f) hG hs hug hsp ht (rec2 := rec2) (rec12 := fX7_compares_b12 rec2 fu) (sgL R s).length rFuel 0 false (by omega) (by show (sgL R s).length < 100000; omega) (fun h => by cases h)
        rw [Bool.false_and] at this
        have hz : alk R 30 s u = false := alkL_len _ _ hl
        rw [hz] at fin
        exact this.trans fin
theorem comp_out (hG : wfG R g) (hf10 : f 10 = nI g) : ∀ m fu s M, s + m = g → m < fu → (∀ i, i < g → rSp M i (sgL R i)) → tA M R g s 0 → ∃ W, fX7_compares_b2 fu (nI s) (f, M) = some (f, W) ∧ tA W R g g 0 ∧ on53 M W := by
  have h20 := hG.1
  intro m
  induction m with
  | zero =>
    intro fu s M hs hf hsp ht
    cases fu with
    | zero => omega
    | succ fu =>
      refine ⟨M, ?_, by rw [show g = s by omega] at ht ⊢; exact ht, fun _ _ => rfl⟩
      show fX7_compares_b2_body _ (nI s) (f, M) = _
      unfold fX7_compares_b2_body
      show (if f 10 ≤ nI s then _ else _) = _
      rw [hf10, if_pos (nI_le (by omega) (by omega))]
  | succ m ih =>
    intro fu s M hs hf hsp ht
    cases fu with
    | zero => omega
    | succ fu =>
      obtain ⟨W, d1, d2, d3⟩ := comp_mid (f := f) hG hf10 (s := s) (by omega) (rec2 := fX7_compares_b2 fu) g rFuel 0 M (by omega) (by show g < 100000; omega) hsp ht
      obtain ⟨W2, c1, c2, c3⟩ := ih fu (s + 1) W (by omega) (by omega) (fun i hi => (hsp i hi).congr (fun j _ _ => d3 j (by omega))) d2
      refine ⟨W2, ?_, c2, fun j hj => by rw [c3 j hj, d3 j hj]⟩
      show fX7_compares_b2_body _ (nI s) (f, M) = _
      unfold fX7_compares_b2_body
      show (if f 10 ≤ nI s then _ else _) = _
      rw [hf10, if_neg (nI_ge (by omega) (by omega))]
      exact d1.trans c1
theorem compares_r (hR : RR f M T n g R F Q U) (hG : wfG R g) : ∃ W, fX7_compares (f, M) = some (f, W) ∧ (∀ s u, s < g → u < g → W 53 (20 * s + u) = b2 (alk R 30 s u)) ∧ on53 M W ∧ RR f W T n g R F Q U := by
  have h20 := hG.1
  obtain ⟨W, d1, d2, d3⟩ := comp_out (f := f) hG hR.cn.2.2.1 g rFuel 0 M (by omega) (by show g < 100000; omega) (fun i hi => by
    obtain ⟨w, p, m, h1, -⟩ := hG.L hi
    exact (hR.sp (k := i) (by omega) h1).1) (fun a c _ h => by omega)
  exact ⟨W, d1, fun s u hs hu => d2 s u hu (Or.inl hs), d3, hR.tmp (fun j hj => d3 j (by omega))⟩
theorem s_alike (o t : Nat) : sim_alike o (Inv o t) (Inv o (t + 1)) := by
  intro z S p0 p1 hI
  obtain ⟨K, I, P, N0⟩ := z
  obtain ⟨f, M⟩ := S
  refine sim_core (fun e => e = 0) (fun e => if e = 0 then 1 else 0) hI (fun b T n g R F Q U hR hW => ?_)
  have hG := hW.wfG
  have h20 := hG.1
  have bad : fX7_alike_b21 p0 p1 (f, M) = some (0, upd f 54 1, M) := by
    unfold fX7_alike_b21 fX7_alike_b22
    rw [fails_1 (by decide), Option.bind_some]
    exact rbo_0
  rcases ix_em p0 (n := g) (by omega) with ⟨i, hi, rfl⟩ | h1
  · obtain ⟨w1, q1, m1, r1, -⟩ := hG.L hi
    rcases ix_em p1 (n := g) (by omega) with ⟨j, hj, rfl⟩ | h2
    · obtain ⟨w2, q2, m2, r2, -⟩ := hG.L hj
      refine sim_do (b2 (alk R 30 i j)) hW.step (fun N hC => ?_) ?_
      · obtain ⟨a, a1, a2, a3, ha⟩ := atG hC hi r1
        obtain ⟨c, c1, c2, c3, hc⟩ := atG hC hj r2
        refine ⟨K, I, P, N, 0, 0, ?_, by omega, by omega, hC⟩
        unfold fX6_alike
        rw [g62 hC, Option.bind_some, r5 hC, Option.bind_some, ha, Option.bind_some, needRow_t, tb_l, g62 hC, Option.bind_some, r5 hC, Option.bind_some, hc, Option.bind_some, needRow_t, tb_l, ro hC, Option.bind_some, show (0 : Int32) = nI 0 from rfl, alike_c hC hG 30 i j 0 hi hj (by omega) (by omega), Option.bind_some]
        exact b2_cb
      · obtain ⟨W, d1, d2, d3, d4⟩ := compares_r (hR.thr 0) hG
        refine ⟨_, W, ?_, d4, upd_s⟩
        unfold fX7_alike
        rw [isSig_t hR hi, Option.bind_some, if_neg i10, isSig_t hR hj, Option.bind_some, if_neg i10]
        unfold fX7_alike_b22
        rw [fails_0, Option.bind_some]
        show Option.bind (fX7_compares (upd f 54 0, M)) _ = _
        rw [d1, Option.bind_some, show (20 : Int32) = nI 20 from rfl, pk_mul, nI_add, r_rd 400 rfl (by omega) (by omega), d2 i j hi hj]
        exact b2_rb
    · refine sim_thr 0 0 hR hW rfl (fun N hC => ?_) ?_
      · obtain ⟨a, a1, a2, a3, ha⟩ := atG hC hi r1
        unfold fX6_alike
        rw [g62 hC, Option.bind_some, r5 hC, Option.bind_some, ha, Option.bind_some, needRow_t, tb_l, g62 hC, Option.bind_some, r5 hC, Option.bind_some, at_no hC.shG h2, Option.bind_some, needRow_f]
        rfl
      · unfold fX7_alike
        rw [isSig_t hR hi, Option.bind_some, if_neg i10, isSig_f hR h2, Option.bind_some, if_pos rfl]
        exact bad
  · refine sim_thr 0 0 hR hW rfl (fun N hC => ?_) ?_
    · unfold fX6_alike
      rw [g62 hC, Option.bind_some, r5 hC, Option.bind_some, at_no hC.shG h1, Option.bind_some, needRow_f]
      rfl
    · unfold fX7_alike
      rw [isSig_f hR h1, Option.bind_some, if_pos rfl]
      exact bad
end Alike
