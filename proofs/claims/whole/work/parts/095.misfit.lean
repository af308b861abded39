/-! MATCHING: what both answer -/
def mfL (rec : Nat → Nat → Int32) (fit : En → En → Bool) (X : List En) : List En → Int32
  | [] => 0
  | e :: Y => match plc X e.1 e.2.1 with
    | none => 10 * (2 * e.1 + 1) + e.2.1
    | some p => match X[p]? with
      | none => 0
      | some m => if (if e.1 = 2 then decide (rec (iN m.2.2.1) (iN e.2.2.1) = 0) else fit m e) = true then mfL rec fit X Y else 10 * (2 * e.1 + 2) + e.2.1
def mf (fit : List En → En → En → Bool) (rows : Nat → List En) (R : Nat → Option RowD) : Nat → Nat → Nat → Int32
  | 0, _, _ => 0
  | n + 1, s, g => mfL (mf fit rows R n) (fit (rows s)) (rows s) (sgL R g)
def stR (R : Nat → Option RowD) (s : Nat) : List En := match R s with
  | some d => d.1
  | none => []
/-- a type or an arrow of two, in one form -/
def nrm (T : List TyD) (a c : Int32) : Int32 ⊕ (Int32 × Int32) := if c = -100 then (match tyd T a with
    | none => .inl a
    | some y => .inr y) else .inr (a, c)
def fitC (T : List TyD) (X : List En) (m e : En) : Bool := if e.1 = 0 then decide (e.2.2.1 = -100 ∨ tyO X (-1 - e.2.1) = tyO X e.2.2.1) else decide (nrm T (tyO X m.2.2.1) (tyT X m.2.2.2.1) = nrm T (tyO X e.2.2.1) (tyT X e.2.2.2.1))
def mnt (X : List En) (x : Int32) : Int32 := if x < 0 then (match plc X 0 (-1 - x) with
    | none => -1
    | some p => match X[p]? with
      | none => -1
      | some m => m.2.2.1) else x
def fitS (T : List TyD) (X : List En) (m e : En) : Bool := if e.1 = 0 then decide (e.2.2.1 = -100 ∨ mnt X e.2.2.1 = m.2.2.1) else if e.2.2.2.1 = -100 then decide (mnt X e.2.2.1 = m.2.2.1) else decide (tyd T m.2.2.1 = some (mnt X e.2.2.1, mnt X e.2.2.2.1))
section Misfit
variable {o b t : Nat} {K : Nat → Option (Nat × Nat)} {I : Nat → Nat → Int32} {P : Nat → Nat → Option Nat} {N0 N a : Nat} {f : Nat → Int32} {M : Nat → Nat → Int32} {T : List TyD} {n g : Nat} {R : Nat → Option RowD} {F : List FuD} {Q : List (Int32 × Int32)} {U : List UnD} {L X Y : List En}
theorem isSame_c (hC : CR o b K I P N T n g R F Q U) (hw : TyW T) (a1 c1 a2 c2 : Int32) : fX6_isSameType o a1 c1 a2 c2 (K, I, P, N) = some (b2 (decide (nrm T a1 c1 = nrm T a2 c2)), K, I, P, N) := by
  have h200 := hC.ty.2.1
  have e155 : ∀ x y z w : Int32, fX6_isSameType_b155 o x y z w (K, I, P, N) = some (b2 (decide (x = y ∧ z = w)), K, I, P, N) := by
    intro x y z w
    unfold fX6_isSameType_b155
    by_cases h1 : x = y
    · rw [if_pos h1]
      by_cases h2 : z = w
      · rw [if_pos h2, decide_eq_true ⟨h1, h2⟩]; exact cbo_1
      · rw [if_neg h2, decide_eq_false (fun h => h2 h.2)]; exact cbo_0
    · rw [if_neg h1, decide_eq_false (fun h => h1 h.1)]; exact cbo_0
  have e92 : ∀ x : Int32, fX6_isSameType_b92 o a1 c1 a2 c2 x (K, I, P, N) = some (b2 (decide (x = (if c2 = -100 then tdF (tyd T a2) else a2) ∧ (if c1 = -100 then tdT (tyd T a1) else c1) = (if c2 = -100 then tdT (tyd T a2) else c2))), K, I, P, N) := by
    intro x
    have e133 : ∀ y z : Int32, fX6_isSameType_b133 o a2 c2 x y z (K, I, P, N) = some (b2 (decide (x = y ∧ z = (if c2 = -100 then tdT (tyd T a2) else c2))), K, I, P, N) := by
      intro y z
      unfold fX6_isSameType_b133
      by_cases h2 : c2 = -100
      · rw [if_pos h2, if_pos h2, g60 hC, Option.bind_some, r4 hC, Option.bind_some, toOf_a hC, Option.bind_some]; exact e155 _ _ _ _
      · rw [if_neg h2, if_neg h2]; exact e155 _ _ _ _
    have e113 : ∀ y : Int32, fX6_isSameType_b113 o a1 c1 a2 c2 x y (K, I, P, N) = some (b2 (decide (x = y ∧ (if c1 = -100 then tdT (tyd T a1) else c1) = (if c2 = -100 then tdT (tyd T a2) else c2))), K, I, P, N) := by
      intro y
      unfold fX6_isSameType_b113
      by_cases h1 : c1 = -100
      · rw [if_pos h1, if_pos h1, g60 hC, Option.bind_some, r4 hC, Option.bind_some, toOf_a hC, Option.bind_some]; exact e133 _ _
      · rw [if_neg h1, if_neg h1]; exact e133 _ _
    unfold fX6_isSameType_b92
    by_cases h2 : c2 = -100
    · rw [if_pos h2, g60 hC, Option.bind_some, r4 hC, Option.bind_some, fromOf_a hC, Option.bind_some]
      have := e113 (tdF (tyd T a2))
      rw [if_pos h2]
      exact this
    · rw [if_neg h2]
      have := e113 a2
      rw [if_neg h2] at this ⊢
      rw [if_neg h2]
      exact this
  have e47 : ∀ p q : Bool, fX6_isSameType_b47 o a1 c1 a2 c2 (b2 p) (b2 q) (K, I, P, N) = some (b2 (if p = q then (if p = true then decide ((if c1 = -100 then tdF (tyd T a1) else a1) = (if c2 = -100 then tdF (tyd T a2) else a2) ∧ (if c1 = -100 then tdT (tyd T a1) else c1) = (if c2 = -100 then tdT (tyd T a2) else c2)) else decide (a1 = a2)) else false), K, I, P, N) := by
    intro p q
    unfold fX6_isSameType_b47
    by_cases hpq : p = q
    · subst hpq
      rw [if_pos rfl, if_pos rfl]
      cases p with
      | false =>
        rw [if_pos bF, if_neg (show ¬ (false = true) by decide)]
        by_cases h : a1 = a2
        · rw [if_pos h, decide_eq_true h]; exact cbo_1
        · rw [if_neg h, decide_eq_false h]; exact cbo_0
      | true =>
        rw [if_neg (show ¬ b2 true = 0 by decide), if_pos rfl]
        by_cases h1 : c1 = -100
        · rw [if_pos h1, g60 hC, Option.bind_some, r4 hC, Option.bind_some, fromOf_a hC, Option.bind_some]
          have := e92 (tdF (tyd T a1))
          rw [if_pos h1] at this ⊢
          rw [if_pos h1]
          exact this
        · rw [if_neg h1]
          have := e92 a1
          rw [if_neg h1] at this ⊢
          rw [if_neg h1]
          exact this
    · rw [if_neg (fun h => hpq (by cases p <;> cases q <;> first | rfl | exact absurd h (by decide))), if_neg hpq]
      exact cbo_0
  have e22 : ∀ p : Bool, fX6_isSameType_b22 o a1 c1 a2 c2 (b2 p) (K, I, P, N) = fX6_isSameType_b47 o a1 c1 a2 c2 (b2 p) (b2 (decide (c2 ≠ -100 ∨ tyd T a2 ≠ none))) (K, I, P, N) := by
    intro p
    unfold fX6_isSameType_b22 fX6_isSameType_b42
    by_cases h2 : c2 = -100
    · rw [if_pos h2, g60 hC, Option.bind_some, r4 hC, Option.bind_some, isArrow_a hC hw, Option.bind_some]
      by_cases h3 : tyd T a2 = none
      · rw [if_pos h3, decide_eq_false (fun h => h.elim (fun h => h h2) (fun h => h h3))]
        rfl
      · rw [if_neg h3, decide_eq_true (Or.inr h3)]
        rfl
    · rw [if_neg h2, decide_eq_true (Or.inl h2)]
      rfl
  have e0 : fX6_isSameType o a1 c1 a2 c2 (K, I, P, N) = fX6_isSameType_b22 o a1 c1 a2 c2 (b2 (decide (c1 ≠ -100 ∨ tyd T a1 ≠ none))) (K, I, P, N) := by
    unfold fX6_isSameType fX6_isSameType_b17
    by_cases h1 : c1 = -100
    · rw [if_pos h1, g60 hC, Option.bind_some, r4 hC, Option.bind_some, isArrow_a hC hw, Option.bind_some]
      by_cases h3 : tyd T a1 = none
      · rw [if_pos h3, decide_eq_false (fun h => h.elim (fun h => h h1) (fun h => h h3))]
        rfl
      · rw [if_neg h3, decide_eq_true (Or.inr h3)]
        rfl
    · rw [if_neg h1, decide_eq_true (Or.inl h1)]
      rfl
  rw [e0, e22, e47]
  refine congrArg (fun x => some (b2 x, K, I, P, N)) ?_
  unfold nrm
  have td : ∀ x y : Int32 × Int32, (tdF (some x) = tdF (some y) ∧ tdT (some x) = tdT (some y)) = (x = y) := fun x y => propext ⟨fun h => Prod.ext h.1 h.2, fun h => by rw [h]; exact ⟨rfl, rfl⟩⟩
  by_cases h1 : c1 = -100 <;> by_cases h2 : c2 = -100
  · cases h3 : tyd T a1 <;> cases h4 : tyd T a2 <;> simp [h1, h2, td]
  · cases h3 : tyd T a1 with
    | none => simp [h1, h2]
    | some x => simp [h1, h2, tdF, tdT, Prod.ext_iff]
  · cases h4 : tyd T a2 with
    | none => simp [h1, h2]
    | some x => simp [h1, h2, tdF, tdT, Prod.ext_iff]
  · simp [h1, h2]
theorem fits_c (hC : CR o b K I P N T n g R F Q U) (hw : TyW T) {a c p q : Nat} {X Y : List En} (ha : RowOK K P a) (hc : RowOK K P c) (hX : RowE I a X) (hY : RowE I c Y) {m e : En} (hm : X[p]? = some m) (he : Y[q]? = some e) : fX6_fitsType o (some a) (nI p) (some c) (nI q) (K, I, P, N) = some (b2 (fitC T X m e), K, I, P, N) := by
  unfold fX6_fitsType fitC
  rw [e_rc hc.1, Option.bind_some, get_r2 hc hY he, Option.bind_some]
  show Option.bind (crc (K, I, P, N) (some c) 2) _ = _
  rw [e_rc hc.1, Option.bind_some, get_r0 hc hY he, Option.bind_some]
  by_cases h0 : e.1 = 0
  · rw [if_pos h0, if_pos h0]
    by_cases h1 : e.2.2.1 = -100
    · rw [if_pos h1, decide_eq_true (Or.inl h1)]
      exact cbo_1
    · rw [if_neg h1]
      show Option.bind (crc (K, I, P, N) (some c) 2) _ = _
      rw [e_rc hc.1, Option.bind_some, get_r1 hc hY he, Option.bind_some]
      show Option.bind (crc (K, I, P, N) (some a) 2) _ = _
      rw [e_rc ha.1, Option.bind_some, typeOf_r ha hX, Option.bind_some]
      show Option.bind (crc (K, I, P, N) (some a) 2) _ = _
      rw [e_rc ha.1, Option.bind_some, typeOf_r ha hX, Option.bind_some]
      by_cases h2 : tyO X (-1 - e.2.1) = tyO X e.2.2.1
      · rw [if_pos h2, decide_eq_true (Or.inr h2)]; exact cbo_1
      · rw [if_neg h2, decide_eq_false (fun h => h.elim h1 h2)]; exact cbo_0
  · rw [if_neg h0, if_neg h0]
    show Option.bind (crc (K, I, P, N) (some a) 2) _ = _
    simp only [Option.bind_some, e_rc ha.1, e_rc hc.1, get_r2 ha hX hm, get_r3 ha hX hm, get_r3 hc hY he, typeOf_r ha hX, tyT_O, ro hC, isSame_c hC hw]
    exact b2_cb
/-- the rows that are matched: a shelf of them -/
def shK (o b : Nat) (K : Nat → Option (Nat × Nat)) (I : Nat → Nat → Int32) (P : Nat → Nat → Option Nat) (N sh cnt : Nat) (rows : Nat → List En) : Prop := K sh = some (3, 0) ∧ cnt ≤ 100 ∧ ∀ s, s < cnt → (∃ a, RowOK K P a ∧ RowE I a (rows s) ∧ fX3_at sh (nI s) (K, I, P, N) = some (some a, K, I, P, N)) ∧ ∀ (p : Nat) (e : En), (rows s)[p]? = some e → e.1 = 2 → ∃ j, j < cnt ∧ e.2.2.1 = nI j
theorem misfit_loop (hC : CR o b K I P N T n g R F Q U) (hw : TyW T) {a c sh d : Nat} {X Y : List En} (ha : RowOK K P a) (hc : RowOK K P c) (hX : RowE I a X) (hY : RowE I c Y) {self : Nat → Option Nat → Int32 → Int32 → Int32 → cS → Option (Int32 × cS)} {rec : Nat → Nat → Int32} (hs : ∀ m e, m ∈ X → e ∈ Y → m.1 = 2 → e.1 = 2 → self o (some sh) m.2.2.1 e.2.2.1 (nI (d + 1)) (K, I, P, N) = some (rec (iN m.2.2.1) (iN e.2.2.1), K, I, P, N)) : ∀ m fu q, q + m = Y.length → m < fu → fX6_firstMisfit_b39 self o fu (some sh) (nI d) (some a) (some c) (nI q) (K, I, P, N) = some (mfL rec (fitC T X) X (Y.drop q), K, I, P, N) := by
  have h30 := hY.2.1
  have hX30 := hX.2.1
  intro m
  induction m with
  | zero =>
    intro fu q hq hf
    cases fu with
    | zero => omega
    | succ fu =>
      show fX6_firstMisfit_b39_body self o _ (some sh) (nI d) (some a) (some c) (nI q) (K, I, P, N) = _
      unfold fX6_firstMisfit_b39_body
      rw [Option.bind_some, e_gI hc.1, Option.bind_some, hY.1, if_pos (nI_le (by omega) (by omega)), List.drop_eq_nil_of_le (by omega)]
      rfl
  | succ m ih =>
    intro fu q hq hf
    cases fu with
    | zero => omega
    | succ fu =>
      have hql : q < Y.length := by omega
      have hg := List.getElem?_eq_getElem hql
      have hn := ih fu (q + 1) (by omega) (by omega)
      have b153 : ∀ z : Bool, fX6_firstMisfit_b153 self o (fX6_firstMisfit_b39 self o fu) (some sh) (nI d) (some a) (some c) (nI q) Y[q].1 Y[q].2.1 (b2 z) (K, I, P, N) = some (if z = true then mfL rec (fitC T X) X (Y.drop (q + 1)) else 10 * (2 * Y[q].1 + 2) + Y[q].2.1, K, I, P, N) := by
        intro z
        unfold fX6_firstMisfit_b153
        cases z with
        | false => rw [if_pos bF, if_neg (by decide)]
        | true => rw [if_neg (show ¬ b2 true = 0 by decide), if_pos rfl, nI_1, hn]
      rw [List.drop_eq_getElem_cons hql]
      show fX6_firstMisfit_b39_body self o _ (some sh) (nI d) (some a) (some c) (nI q) (K, I, P, N) = _
      unfold fX6_firstMisfit_b39_body
      rw [Option.bind_some, e_gI hc.1, Option.bind_some, hY.1, if_neg (nI_ge hql (by omega)), e_rc hc.1, Option.bind_some, get_r0 hc hY hg, Option.bind_some]
      show Option.bind (crc (K, I, P, N) (some c) 2) _ = _
      rw [e_rc hc.1, Option.bind_some, get_r1 hc hY hg, Option.bind_some]
      show Option.bind (crc (K, I, P, N) (some a) 2) _ = _
      rw [e_rc ha.1, Option.bind_some, placeOf_r ha hX, Option.bind_some]
      unfold mfL
      cases hp : plc X Y[q].1 Y[q].2.1 with
      | none =>
        show (if (-1 : Int32) = -1 then _ else _) = _
        rw [if_pos rfl]
      | some p =>
        obtain ⟨x, hx, xk, xn⟩ := plc_some hp
        have hpl := plc_lt hp
        show (if nI (0 + p) = -1 then _ else if Y[q].1 = 2 then Option.bind (crc (K, I, P, N) (some a) 2) _ else Option.bind (crc (K, I, P, N) (some o) 6) _) = some ((match X[p]? with
          | none => 0
          | some m => if (if Y[q].1 = 2 then decide (rec (iN m.2.2.1) (iN Y[q].2.2.1) = 0) else fitC T X m Y[q]) = true then mfL rec (fitC T X) X (Y.drop (q + 1)) else 10 * (2 * Y[q].1 + 2) + Y[q].2.1), K, I, P, N)
        rw [hx, Nat.zero_add, if_neg (nI_nm1 (by omega))]
        show _ = some (if (if Y[q].1 = 2 then decide (rec (iN x.2.2.1) (iN Y[q].2.2.1) = 0) else fitC T X x Y[q]) = true then mfL rec (fitC T X) X (Y.drop (q + 1)) else 10 * (2 * Y[q].1 + 2) + Y[q].2.1, K, I, P, N)
        by_cases h2 : Y[q].1 = 2
        · rw [if_pos h2, if_pos h2, e_rc ha.1, Option.bind_some]
          show Option.bind (fX2_get a (nI (0 + p)) 2 (K, I, P, N)) _ = _
          rw [Nat.zero_add, get_r2 ha hX hx, Option.bind_some]
          show Option.bind (crc (K, I, P, N) (some c) 2) _ = _
          rw [e_rc hc.1, Option.bind_some, get_r2 hc hY hg, Option.bind_some]
          show Option.bind (crc (K, I, P, N) (some o) 6) _ = _
          rw [ro hC, Option.bind_some, nI_1, hs _ _ (List.mem_of_getElem? hx) (List.mem_of_getElem? hg) (xk.trans h2) h2, Option.bind_some]
          by_cases h3 : rec (iN x.2.2.1) (iN Y[q].2.2.1) = 0
          · rw [if_pos h3, decide_eq_true h3]; exact b153 true
          · rw [if_neg h3, decide_eq_false h3]; exact b153 false
        · rw [if_neg h2, if_neg h2, ro hC, Option.bind_some]
          show Option.bind (fX6_fitsType o (some a) (nI (0 + p)) (some c) (nI q) (K, I, P, N)) _ = _
          rw [Nat.zero_add, fits_c hC hw ha hc hX hY hx hg, Option.bind_some]
          exact b153 _
theorem misfit_c (hC : CR o b K I P N T n g R F Q U) (hw : TyW T) (hG : wfG R g) {sh cnt : Nat} {rows : Nat → List En} (hsh : shK o b K I P N sh cnt rows) : ∀ fu s u d, s < cnt → u < g → u + d ≤ 19 → u < fu → fX6_firstMisfit fu o (some sh) (nI s) (nI u) (nI d) (K, I, P, N) = some (mf (fitC T) rows R fu s u, K, I, P, N) := by
  have h20 := hG.1
  obtain ⟨k3, kc, hs⟩ := hsh
  intro fu
  induction fu with
  | zero => intro s u d _ _ _ h; omega
  | succ fu ih =>
    intro s u d h1 h2 h3 h4
    obtain ⟨⟨a, a1, a2, a3⟩, a4⟩ := hs s h1
    obtain ⟨w2, p2, m2, r2, hY, _⟩ := hG.L h2
    obtain ⟨c, -, hc, hrc, ec⟩ := atG hC h2 r2
    have hY30 : (sgL R u).length ≤ 30 := hrc.1.2.1
    show fX6_firstMisfit_fun (fX6_firstMisfit fu) o (some sh) (nI s) (nI u) (nI d) (K, I, P, N) = _
    unfold fX6_firstMisfit_fun
    rw [e_rc k3, Option.bind_some, a3, Option.bind_some]
    show Option.bind (cgR (K, I, P, N) o 6 2) _ = _
    rw [g62 hC, Option.bind_some, r5 hC, Option.bind_some, ec, Option.bind_some]
    show (if some a = none then _ else if some c = none then _ else if nI d ≤ (20 : Int32) then fX6_firstMisfit_b39 (fX6_firstMisfit fu) o rFuel (some sh) (nI d) (some a) (some c) (nI 0) (K, I, P, N) else _) = _
    rw [if_neg (fun e => by cases e), if_neg (fun e => by cases e), show (20 : Int32) = nI 20 from rfl, if_pos (nI_le (by omega) (by omega))]
    have := misfit_loop (N := N) (sh := sh) (d := d) hC hw a1 hc a2 hrc.1 (self := fX6_firstMisfit fu) (rec := mf (fitC T) rows R fu) (fun m e hm he m2 e2 => by
      obtain ⟨p, hp⟩ := List.mem_iff_getElem?.mp hm
      obtain ⟨q, hq⟩ := List.mem_iff_getElem?.mp he
      obtain ⟨j, hj, hj2⟩ := a4 p m hp m2
      obtain ⟨l, hl, hl2⟩ := (hY.2 q e hq).part e2
      rw [hj2, hl2, iN_nI (by omega), iN_nI (by omega)]
      exact ih j l (d + 1) hj (by omega) (by omega) (by omega)) (sgL R u).length rFuel 0 (by show 0 + (sgL R u).length = (sgL R u).length; omega) (by show (sgL R u).length < 100000; omega)
    rw [List.drop_zero] at this
    exact this
theorem shK_S (hC : CR o b K I P N T n g R F Q U) (hr : ∀ s, s < n → ∃ L w p m k, R s = some (L, w, p) ∧ WfS m k L ∧ k ≤ n) : shK o b K I P N (b + 3) n (stR R) := by
  have h30 := hC.cn.2.1
  refine ⟨hC.shS.1, by omega, fun s hs => ?_⟩
  obtain ⟨L, w, p, m, k, h1, h2, h3⟩ := hr s hs
  obtain ⟨a, -, a2, a3, a4⟩ := atS hC hs h1
  have e1 : stR R s = L := by unfold stR; rw [h1]
  rw [e1]
  exact ⟨⟨a, a2, a3.1, a4⟩, fun p e he h2e => let ⟨i, q1, q2⟩ := (h2.2 p e he).2.2.1 h2e; ⟨i, by omega, q2⟩⟩
theorem shK_G (hC : CR o b K I P N T n g R F Q U) (hG : wfG R g) : shK o b K I P N (b + 5) g (sgL R) := by
  have h20 := hG.1
  refine ⟨hC.shG.1, by omega, fun s hs => ?_⟩
  obtain ⟨w, p, m, h1, h2, h3⟩ := hG.L hs
  obtain ⟨a, -, a2, a3, a4⟩ := atG hC hs h1
  exact ⟨⟨a, a2, a3.1, a4⟩, fun p e he h2e => let ⟨i, q1, q2⟩ := (h2.2 p e he).part h2e; ⟨i, by omega, q2⟩⟩
end Misfit
