/-! UNITS: stale -/
theorem bit_iff {s k : Nat} (hs : s < 2 ^ 31) (hk : k < 8) : uBit (nI s) k ↔ s / 2 ^ k % 2 = 1 := by
  have key : nI s >>> (nI k &&& 31) = nI (s / 2 ^ k) := by
    rcases (show k = 0 ∨ k = 1 ∨ k = 2 ∨ k = 3 ∨ k = 4 ∨ k = 5 ∨ k = 6 ∨ k = 7 by omega) with rfl | rfl | rfl | rfl | rfl | rfl | rfl | rfl <;> exact pk_shrN hs _ _ (by decide)
  have hl : s / 2 ^ k < 2 ^ 32 := Nat.lt_of_le_of_lt (Nat.div_le_self _ _) (by omega)
  unfold uBit
  rw [key, pk_andN hl 1 (by decide), show (1 : Int32) = nI 1 from rfl, nI_eq (by omega) (by omega)]
theorem bit_no {s u k : Nat} (hs : s < 2 ^ u) (hu : u ≤ k) (hk : k < 8) : ¬ uBit (nI s) k := by
  have h1 : 2 ^ u ≤ 2 ^ k := Nat.pow_le_pow_right (by omega) hu
  have h2 : 2 ^ k ≤ 2 ^ 8 := Nat.pow_le_pow_right (by omega) (by omega)
  have h3 : s < 2 ^ 31 := by omega
  rw [bit_iff h3 hk, Nat.div_eq_of_lt (by omega)]
  decide
theorem bit_tb {s k : Nat} (hs : s < 2 ^ 31) (hk : k < 8) : uBit (nI s) k ↔ s.testBit k = true := by
  rw [bit_iff hs hk, Nat.testBit_eq_decide_div_mod_eq, decide_eq_true_iff]
theorem nI_or (a c : Nat) : nI a ||| nI c = nI (a ||| c) := by
  apply Int32.toBitVec_inj.mp
  show BitVec.ofNat 32 a ||| BitVec.ofNat 32 c = BitVec.ofNat 32 (a ||| c)
  ext i hi
  simp
theorem nI_shl {k : Nat} (hk : k < 8) : (1 : Int32) <<< (nI k &&& 31) = nI (2 ^ k) := by
  rcases (show k = 0 ∨ k = 1 ∨ k = 2 ∨ k = 3 ∨ k = 4 ∨ k = 5 ∨ k = 6 ∨ k = 7 by omega) with rfl | rfl | rfl | rfl | rfl | rfl | rfl | rfl <;> decide
theorem bF : b2 false = 0 := rfl
def uB (x : Int32) (k : Nat) : Bool := decide ((x >>> (nI k &&& 31)) &&& 1 = 1)
theorem uB_iff {x : Int32} {k : Nat} : uB x k = true ↔ uBit x k := decide_eq_true_iff
/-- whether one of the units that are used is another than it was noted -/
def stL (R : Nat → Option RowD) (x : UnD) : Nat → List UnD → Bool
  | _, [] => false
  | k, y :: Y => (uB x.1 k && (!(alk R 30 (iN y.2.2.1) (iN (x.2.2.2.2.2.1 k))) || (decide (y.2.1 ≠ 0) && decide (nI y.2.2.2.1 ≠ x.2.2.2.2.2.2 k)))) || stL R x (k + 1) Y
def stU (R : Nat → Option RowD) (U : List UnD) (x : UnD) : Bool := match x.2.2.2.2.1 with
  | none => true
  | some c => decide (c ≠ x.2.2.2.1) || stL R x 0 U
def stN (R : Nat → Option RowD) (U : List UnD) : Nat → Nat → List UnD → Nat
  | _, a, [] => a
  | u, a, y :: Y => stN R U (u + 1) (if stU R U y = true then a ||| 2 ^ u else a) Y
section Stale
variable {o b t : Nat} {K : Nat → Option (Nat × Nat)} {I : Nat → Nat → Int32} {P : Nat → Nat → Option Nat} {N0 N a : Nat} {f : Nat → Int32} {M : Nat → Nat → Int32} {T : List TyD} {n g : Nat} {R : Nat → Option RowD} {F : List FuD} {Q : List (Int32 × Int32)} {U : List UnD} {L X : List En}
theorem ptr6 {u : Nat} (hu : u < 8) : ptr b P (600 + u) = P (b + 15) u := by
  unfold ptr
  rw [if_neg (by omega), if_neg (by omega), if_neg (by omega), if_neg (by omega), if_neg (by omega), if_neg (by omega), if_neg (by omega), if_neg (by omega), if_pos (by omega), Nat.add_sub_cancel_left]
theorem unitAt_ok (hC : CR o b K I P N T n g R F Q U) {u : Nat} (hu : u < 8) : fX6_unitAt o (nI u) (K, I, P, N) = some (ptr b P (600 + u), K, I, P, N) := by
  obtain ⟨⟨s1, s2, s3, s4, s5, s6, s7, s8, s9, s10, s11⟩, t1, t2, t3, t4, t5, t6, t7, t8, t9, t10, t11, t12, t13⟩ := hC.sf
  unfold fX6_unitAt
  rw [if_neg (nI_pos (by omega)), e_gR s1, Option.bind_some, t9, Option.bind_some, e_len s11, Option.bind_some, if_neg (nI_ge hu (by omega)), Option.bind_some, Option.bind_some, e_ldR s11 hu (by omega), ptr6 hu]
  rfl
theorem unitAt_no (hC : CR o b K I P N T n g R F Q U) {x : Int32} (hx : x < 0 ∨ nI U.length ≤ x) : fX6_unitAt o x (K, I, P, N) = some (none, K, I, P, N) := by
  obtain ⟨⟨s1, s2, s3, s4, s5, s6, s7, s8, s9, s10, s11⟩, t1, t2, t3, t4, t5, t6, t7, t8, t9, t10, t11, t12, t13⟩ := hC.sf
  have h8 := hC.un.2.1
  rcases pk_ix x (n := 8) (by omega) with h | h | ⟨j, hj, rfl⟩
  · unfold fX6_unitAt
    rw [if_pos h]
    rfl
  · unfold fX6_unitAt
    by_cases h0 : x < 0
    · rw [if_pos h0]; rfl
    · rw [if_neg h0, e_gR s1, Option.bind_some, t9, Option.bind_some, e_len s11, Option.bind_some, if_pos h]
      rfl
  · rw [unitAt_ok hC hj, hC.un.2.2.2 j (by
      rcases hx with h | h
      · exact absurd h (nI_pos (by omega))
      · exact (nI_leI (by omega) (by omega)).mp h) hj]
theorem unitAt_is (hC : CR o b K I P N T n g R F Q U) {u : Nat} {x : UnD} (hx : U[u]? = some x) : ∃ a, ptr b P (600 + u) = some a ∧ K a = some (5, 0) ∧ UnIs I a x ∧ fX6_unitAt o (nI u) (K, I, P, N) = some (some a, K, I, P, N) := by
  have h8 := hC.un.2.1
  have hl := (List.getElem?_eq_some_iff.mp hx).1
  obtain ⟨a, h1, h2⟩ := hC.un.2.2.1 u x hx
  have h3 := hC.sd.1 _ _ h1
  rw [pkd5 (by omega)] at h3
  exact ⟨a, h1, h3, h2, by rw [unitAt_ok hC (by omega), h1]⟩
theorem isUsing_c (h : K a = some (5, 0)) {k : Nat} : fX5_isUsing a (nI k) (K, I, P, N) = some (b2 (uB (I a 0) k), K, I, P, N) := by
  unfold fX5_isUsing
  rw [e_gI h, Option.bind_some]
  unfold uB
  by_cases c : (I a 0 >>> (nI k &&& 31)) &&& 1 = 1
  · rw [if_pos c, decide_eq_true c]; exact cbo_1
  · rw [if_neg c, decide_eq_false c]; exact cbo_0
/-- the units, as both have them -/
def wfU (R : Nat → Option RowD) (g : Nat) (U : List UnD) : Prop := ∀ (u : Nat) (x : UnD), U[u]? = some x → (∃ s, s < 2 ^ u ∧ x.1 = nI s) ∧ (x.2.1 = 0 ∨ x.2.1 = 1) ∧ (∃ c, c < g ∧ x.2.2.1 = nI c) ∧ x.2.2.2.1 < 2 ^ 31 ∧ ∀ c, x.2.2.2.2.1 = some c → c < 2 ^ 31 ∧ ∀ k, k < u → uBit x.1 k → ∃ h, h < g ∧ x.2.2.2.2.2.1 k = nI h
theorem WF.wfU (h : WF t T n g R F Q U) (ht : t ≤ 512) : wfU R g U := fun u x hx => by
  obtain ⟨h1, h2, h3, h4, h5⟩ := h.2.2.2.2.2.2 u x hx
  exact ⟨h1, h2, h3, by omega, fun c hc => ⟨by have := (h5 c hc).1; omega, (h5 c hc).2⟩⟩
theorem stL_none {x : UnD} : ∀ (Y : List UnD) (k : Nat), (∀ j, k ≤ j → j < k + Y.length → ¬ uBit x.1 j) → stL R x k Y = false := by
  intro Y
  induction Y with
  | nil => intro k _; rfl
  | cons y Y ih =>
    intro k h
    unfold stL
    have h0 : uB x.1 k = false := by
      cases hb : uB x.1 k with
      | false => rfl
      | true => exact absurd (uB_iff.mp hb) (h k (Nat.le_refl _) (by simp))
    rw [h0, ih (k + 1) (fun j h1 h2 => h j (by omega) (by simp; omega))]
    rfl
theorem isStale_loop_c (hC : CR o b K I P N T n g R F Q U) (hG : wfG R g) (hU : wfU R g U) {a : Nat} {x : UnD} (ha : K a = some (5, 0)) (hx : UnIs I a x) (hv : ∀ k, k < U.length → uBit x.1 k → ∃ h, h < g ∧ x.2.2.2.2.2.1 k = nI h) : ∀ m fu k, k + m = U.length → m < fu → fX6_isStale_b15 o fu (some a) (nI k) (K, I, P, N) = some (b2 (stL R x k (U.drop k)), K, I, P, N) := by
  have h8 := hC.un.2.1
  have h20 := hG.1
  obtain ⟨q1, q2, q3, q4⟩ := hC.sd.2.2.2.2 a ha
  intro m
  induction m with
  | zero =>
    intro fu k hk hf
    cases fu with
    | zero => omega
    | succ fu =>
      show fX6_isStale_b15_body o _ (some a) (nI k) (K, I, P, N) = _
      unfold fX6_isStale_b15_body
      rw [e_gI hC.Ko, Option.bind_some, hC.un.1, if_pos (nI_le (by omega) (by omega)), List.drop_eq_nil_of_le (by omega)]
      exact cbo_0
  | succ m ih =>
    intro fu k hk hf
    cases fu with
    | zero => omega
    | succ fu =>
      have hkl : k < U.length := by omega
      have hg := List.getElem?_eq_getElem hkl
      obtain ⟨c, c1, c2, c3, c4⟩ := unitAt_is hC hg
      obtain ⟨-, -, ⟨fc, hfc, hfe⟩, -⟩ := hU k _ hg
      have hn : fX6_isStale_b79 o (fX6_isStale_b15 o fu) (some a) (nI k) (K, I, P, N) = some (b2 (stL R x (k + 1) (U.drop (k + 1))), K, I, P, N) := by
        unfold fX6_isStale_b79
        rw [nI_1]
        exact ih fu (k + 1) (by omega) (by omega)
      rw [List.drop_eq_getElem_cons hkl]
      show fX6_isStale_b15_body o _ (some a) (nI k) (K, I, P, N) = _
      unfold fX6_isStale_b15_body stL
      rw [e_gI hC.Ko, Option.bind_some, hC.un.1, if_neg (nI_ge hkl (by omega)), ro hC, Option.bind_some, c4, Option.bind_some]
      show (if some c = none then _ else Option.bind (crc (K, I, P, N) (some a) 5) _) = _
      rw [if_neg (fun e => by cases e), e_rc ha, Option.bind_some, isUsing_c ha, Option.bind_some, hx.1]
      cases hb : uB x.1 k with
      | false =>
        show (if b2 false = 0 then fX6_isStale_b79 o _ (some a) (nI k) (K, I, P, N) else _) = _
        rw [if_pos bF, hn, Bool.false_and, Bool.false_or]
      | true =>
        obtain ⟨h, hh, hhe⟩ := hv k hkl (uB_iff.mp hb)
        show (if b2 true = 0 then _ else Option.bind (cgI (K, I, P, N) c 5 2) _) = _
        have n1 : fX5_notedFace a (nI k) (K, I, P, N) = some (nI h, K, I, P, N) := by
          unfold fX5_notedFace
          rw [e_gR ha, Option.bind_some, q1, e_read q2 (by omega) (by omega), Option.bind_some, (hx.2.2.2.2.2 k (by omega)).1, hhe]
        have n2 : fX5_notedChanges a (nI k) (K, I, P, N) = some (x.2.2.2.2.2.2 k, K, I, P, N) := by
          unfold fX5_notedChanges
          rw [e_gR ha, Option.bind_some, q3, e_read q4 (by omega) (by omega), Option.bind_some, (hx.2.2.2.2.2 k (by omega)).2]
        rw [if_neg (show ¬ b2 true = 0 by decide), e_gI c2, Option.bind_some, c3.2.2.1, hfe]
        show Option.bind (crc (K, I, P, N) (some a) 5) _ = _
        rw [e_rc ha, Option.bind_some, n1, Option.bind_some, ro hC, Option.bind_some, show fX6_areAlike 30 o (nI fc) (nI h) 0 (K, I, P, N) = some (b2 (alk R 30 fc h), K, I, P, N) from alike_c hC hG 30 fc h 0 hfc hh (by omega) (by omega), Option.bind_some, hhe, iN_nI (by omega), iN_nI (by omega), Bool.true_and]
        show (if b2 (alk R 30 fc h) = 0 then fX6_isStale_b77 o (K, I, P, N) else Option.bind (cgI (K, I, P, N) c 5 1) _) = _
        cases hal : alk R 30 fc h with
        | false => rw [if_pos bF]; exact cbo_1
        | true =>
          rw [if_neg (show ¬ b2 true = 0 by decide), e_gI c2, Option.bind_some, c3.2.1]
          by_cases hin : U[k].2.1 = 0
          · rw [if_pos hin, decide_eq_false (fun h => h hin)]
            exact hn
          · rw [if_neg hin, decide_eq_true hin]
            show Option.bind (cgI (K, I, P, N) c 5 3) _ = _
            rw [e_gI c2, Option.bind_some, c3.2.2.2.1]
            show Option.bind (crc (K, I, P, N) (some a) 5) _ = _
            rw [e_rc ha, Option.bind_some, n2, Option.bind_some]
            by_cases hch : nI U[k].2.2.2.1 = x.2.2.2.2.2.2 k
            · rw [if_pos hch, decide_eq_false (fun h => h hch)]
              exact hn
            · rw [if_neg hch, decide_eq_true hch]
              exact cbo_1
theorem stale_bits {u : Nat} {x : UnD} (hU : wfU R g U) (h8 : U.length ≤ 8) (hx : U[u]? = some x) : ∀ k, u ≤ k → k < 8 → ¬ uBit x.1 k := by
  obtain ⟨⟨s, h1, h2⟩, -⟩ := hU u x hx
  intro k hk hk8
  rw [h2]
  exact bit_no h1 hk hk8
theorem isStale_c (hC : CR o b K I P N T n g R F Q U) (hG : wfG R g) (hU : wfU R g U) {u : Nat} {x : UnD} (hx : U[u]? = some x) {a : Nat} (ha : K a = some (5, 0)) (hi : UnIs I a x) : fX6_isStale o (some a) (K, I, P, N) = some (b2 (stU R U x), K, I, P, N) := by
  have h8 := hC.un.2.1
  have hl := (List.getElem?_eq_some_iff.mp hx).1
  obtain ⟨-, -, -, w4, w5⟩ := hU u x hx
  unfold fX6_isStale stU
  rw [Option.bind_some, e_gI ha, Option.bind_some, Option.bind_some, e_gI ha, Option.bind_some, hi.2.2.2.1, hi.2.2.2.2.1]
  cases hbt : x.2.2.2.2.1 with
  | none =>
    show (if (-1 : Int32) = nI x.2.2.2.1 then _ else _) = _
    rw [if_neg (fun e => nI_nm1 w4 e.symm)]
    exact cbo_1
  | some c =>
    obtain ⟨v1, v2⟩ := w5 c hbt
    show (if nI c = nI x.2.2.2.1 then _ else _) = _
    by_cases hcc : c = x.2.2.2.1
    · rw [if_pos (by rw [hcc])]
      have := isStale_loop_c hC hG hU ha hi (fun k hk hb => by
        by_cases hku : k < u
        · exact v2 k hku hb
        · exact absurd hb (stale_bits hU h8 hx k (by omega) (by omega))) U.length rFuel 0 (by omega) (by show U.length < 100000; omega)
      rw [List.drop_zero] at this
      show fX6_isStale_b15 o rFuel (some a) (nI 0) (K, I, P, N) = _
      rw [this]
      show _ = some (b2 (decide (c ≠ x.2.2.2.1) || stL R x 0 U), K, I, P, N)
      rw [decide_eq_false (fun h => h hcc), Bool.false_or]
    · rw [if_neg (nI_ne v1 w4 hcc)]
      show cbo 1 _ = some (b2 (decide (c ≠ x.2.2.2.1) || stL R x 0 U), K, I, P, N)
      rw [decide_eq_true hcc]
      exact cbo_1
theorem stale_c (hC : CR o b K I P N T n g R F Q U) (hG : wfG R g) (hU : wfU R g U) : ∀ m fu u a, u + m = U.length → m < fu → fX6_stale_b4 o fu (nI a) (nI u) (K, I, P, N) = some (nI (stN R U u a (U.drop u)), K, I, P, N) := by
  have h8 := hC.un.2.1
  intro m
  induction m with
  | zero =>
    intro fu u a hu hf
    cases fu with
    | zero => omega
    | succ fu =>
      show fX6_stale_b4_body o _ (nI a) (nI u) (K, I, P, N) = _
      unfold fX6_stale_b4_body
      rw [e_gI hC.Ko, Option.bind_some, hC.un.1, if_pos (nI_le (by omega) (by omega)), List.drop_eq_nil_of_le (by omega)]
      rfl
  | succ m ih =>
    intro fu u a hu hf
    cases fu with
    | zero => omega
    | succ fu =>
      have hul : u < U.length := by omega
      have hg := List.getElem?_eq_getElem hul
      obtain ⟨c, c1, c2, c3, c4⟩ := unitAt_is hC hg
      rw [List.drop_eq_getElem_cons hul]
      show fX6_stale_b4_body o _ (nI a) (nI u) (K, I, P, N) = _
      unfold fX6_stale_b4_body stN
      rw [e_gI hC.Ko, Option.bind_some, hC.un.1, if_neg (nI_ge hul (by omega)), ro hC, Option.bind_some, c4, Option.bind_some]
      show (if some c = none then _ else Option.bind (crc (K, I, P, N) (some o) 6) _) = _
      rw [if_neg (fun e => by cases e), ro hC, Option.bind_some, isStale_c hC hG hU hg c2 c3, Option.bind_some]
      unfold fX6_stale_b36
      cases hst : stU R U U[u] with
      | false =>
        show (if b2 false = 0 then _ else _) = _
        rw [if_pos bF, nI_1]
        exact ih fu (u + 1) a (by omega) (by omega)
      | true =>
        show (if b2 true = 0 then _ else fX6_stale_b4 o fu (nI a ||| (1 <<< (nI u &&& 31))) (nI u + 1) (K, I, P, N)) = _
        rw [if_neg (show ¬ b2 true = 0 by decide), nI_shl (by omega), nI_or, nI_1]
        exact ih fu (u + 1) _ (by omega) (by omega)
/-! the reference -/
theorem isStale_loop_r (hR : RR f M T n g R F Q U) (hG : wfG R g) (hU : wfU R g U) (ht : ∀ s u, s < g → u < g → M 53 (20 * s + u) = b2 (alk R 30 s u)) {u : Nat} {x : UnD} {c : Nat} (hx : U[u]? = some x) (hb : x.2.2.2.2.1 = some c) : ∀ m fu k acc, k + m = u → m < fu → fX7_isStale_b32 fu (nI u) (b2 acc) (nI k) (f, M) = some (b2 (acc || stL R x k (U.drop k)), f, M) := by
  have h8 := hR.un.2.1
  have h20 := hG.1
  have hul := (List.getElem?_eq_some_iff.mp hx).1
  obtain ⟨u1, u2, u3, u4, u5⟩ := hR.un.2.2.1 u x hx
  unfold rBt at u5
  rw [hb] at u5
  obtain ⟨u6, u7, u8⟩ := u5
  obtain ⟨-, -, -, -, w5⟩ := hU u x hx
  obtain ⟨w6, w7⟩ := w5 c hb
  intro m
  induction m with
  | zero =>
    intro fu k acc hk hf
    cases fu with
    | zero => omega
    | succ fu =>
      show fX7_isStale_b32_body _ (nI u) (b2 acc) (nI k) (f, M) = _
      unfold fX7_isStale_b32_body
      rw [if_pos (nI_le (by omega) (by omega)), stL_none _ _ (fun j h1 h2 => stale_bits hU h8 hx j (by omega) (by simp at h2; omega)), Bool.or_false]
      exact b2_rb
  | succ m ih =>
    intro fu k acc hk hf
    cases fu with
    | zero => omega
    | succ fu =>
      have hku : k < u := by omega
      have hkl : k < U.length := by omega
      have hg := List.getElem?_eq_getElem hkl
      obtain ⟨k1, k2, k3, k4, -⟩ := hR.un.2.2.1 k _ hg
      obtain ⟨-, -, ⟨fc, hfc, hfe⟩, -⟩ := hU k _ hg
      have hn : ∀ z : Bool, fX7_isStale_b119 (fX7_isStale_b32 fu) (nI u) (b2 z) (nI k) (f, M) = some (b2 (z || stL R x (k + 1) (U.drop (k + 1))), f, M) := by
        intro z
        unfold fX7_isStale_b119
        rw [nI_1]
        exact ih fu (k + 1) z (by omega) (by omega)
      have n113 : fX7_isStale_b113 (fX7_isStale_b32 fu) (nI u) (nI k) (f, M) = some (b2 (true || stL R x (k + 1) (U.drop (k + 1))), f, M) := hn true
      have n117 : fX7_isStale_b117 (fX7_isStale_b32 fu) (nI u) (nI k) (f, M) = some (b2 (false || stL R x (k + 1) (U.drop (k + 1))), f, M) := hn false
      have e8 : (8 : Int32) * nI u + nI k = nI (8 * u + k) := by rw [show (8 : Int32) = nI 8 from rfl, pk_mul, nI_add]
      rw [List.drop_eq_getElem_cons hkl]
      show fX7_isStale_b32_body _ (nI u) (b2 acc) (nI k) (f, M) = _
      unfold fX7_isStale_b32_body stL
      rw [if_neg (nI_ge hku (by omega)), e8]
      cases acc with
      | true =>
        show (if b2 true = 0 then _ else _) = _
        rw [if_neg (show ¬ b2 true = 0 by decide), hn true, Bool.true_or, Bool.true_or]
      | false =>
        show (if b2 false = 0 then Option.bind (rd (f, M) 34 (nI u)) _ else _) = _
        rw [if_pos bF, r_rd 8 rfl (by omega) (by omega), Option.bind_some, u2, Bool.false_or]
        cases hbb : uB x.1 k with
        | false =>
          have hnb : ¬ ((x.1 >>> (nI k &&& 31)) &&& 1 = 1) := of_decide_eq_false hbb
          rw [if_neg hnb, show b2 false = b2 false from rfl, hn false, Bool.false_and, Bool.false_or]
        | true =>
          have hyb : (x.1 >>> (nI k &&& 31)) &&& 1 = 1 := of_decide_eq_true hbb
          obtain ⟨v1, v2⟩ := u8 k hku hyb
          obtain ⟨h, hh, hhe⟩ := w7 k hku hyb
          rw [if_pos hyb, r_rd 8 rfl (by omega) (by omega), Option.bind_some, k1, hfe, r_rd 64 rfl (by omega) (by omega), Option.bind_some, v1, hhe, show (20 : Int32) = nI 20 from rfl, pk_mul, nI_add, r_rd 400 rfl (by omega) (by omega), Option.bind_some, ht fc h hfc hh, iN_nI (by omega), iN_nI (by omega), Bool.true_and]
          cases hal : alk R 30 fc h with
          | false => rw [if_pos bF, n113]; rfl
          | true =>
            rw [if_neg (show ¬ b2 true = 0 by decide), r_rd 8 rfl (by omega) (by omega), Option.bind_some, k3]
            by_cases hin : U[k].2.1 = 0
            · rw [if_pos hin, n117, decide_eq_false (fun h => h hin)]
              rfl
            · rw [if_neg hin, r_rd 8 rfl (by omega) (by omega), Option.bind_some, k4, r_rd 64 rfl (by omega) (by omega), Option.bind_some, v2, decide_eq_true hin]
              by_cases hch : nI U[k].2.2.2.1 = x.2.2.2.2.2.2 k
              · rw [if_pos hch, n117, decide_eq_false (fun h => h hch)]
                rfl
              · rw [if_neg hch, n113, decide_eq_true hch]
                rfl
theorem isStale_all {f : Nat → Int32} {M : Nat → Nat → Int32} {u : Nat} (hu : u ≤ 8) : ∀ m fu k, k + m = u → m < fu → fX7_isStale_b32 fu (nI u) 1 (nI k) (f, M) = some (1, f, M) := by
  intro m
  induction m with
  | zero =>
    intro fu k hk hf
    cases fu with
    | zero => omega
    | succ fu =>
      show fX7_isStale_b32_body _ (nI u) 1 (nI k) (f, M) = _
      unfold fX7_isStale_b32_body
      rw [if_pos (nI_le (by omega) (by omega))]
      exact rbo_1
  | succ m ih =>
    intro fu k hk hf
    cases fu with
    | zero => omega
    | succ fu =>
      show fX7_isStale_b32_body _ (nI u) 1 (nI k) (f, M) = _
      unfold fX7_isStale_b32_body
      rw [if_neg (nI_ge (by omega) (by omega))]
      show (if (1 : Int32) = 0 then _ else fX7_isStale_b119 _ (nI u) 1 (nI k) (f, M)) = _
      rw [if_neg i10]
      unfold fX7_isStale_b119
      rw [nI_1]
      exact ih fu (k + 1) (by omega) (by omega)
theorem isStale_r (hR : RR f M T n g R F Q U) (hG : wfG R g) (hU : wfU R g U) (ht : ∀ s u, s < g → u < g → M 53 (20 * s + u) = b2 (alk R 30 s u)) {u : Nat} {x : UnD} (hx : U[u]? = some x) : fX7_isStale (nI u) (f, M) = some (b2 (stU R U x), f, M) := by
  have h8 := hR.un.2.1
  have hul := (List.getElem?_eq_some_iff.mp hx).1
  obtain ⟨u1, u2, u3, u4, u5⟩ := hR.un.2.2.1 u x hx
  obtain ⟨-, -, -, w4, w5⟩ := hU u x hx
  have b24 : fX7_isStale_b24 (nI u) (f, M) = some (1, f, M) := isStale_all (by omega) u rFuel 0 (by omega) (by show u < 100000; omega)
  unfold fX7_isStale stU
  unfold rBt at u5
  rw [r_rd 8 rfl (by omega) (by omega), Option.bind_some]
  cases hb : x.2.2.2.2.1 with
  | none =>
    rw [hb] at u5
    rw [if_pos u5, b24]
    rfl
  | some c =>
    rw [hb] at u5
    obtain ⟨u6, u7, u8⟩ := u5
    obtain ⟨v1, v2⟩ := w5 c hb
    rw [u6, if_neg i10, r_rd 8 rfl (by omega) (by omega), Option.bind_some, u7, r_rd 8 rfl (by omega) (by omega), Option.bind_some, u4]
    show _ = some (b2 (decide (c ≠ x.2.2.2.1) || stL R x 0 U), f, M)
    by_cases hcc : c = x.2.2.2.1
    · rw [if_pos (by rw [hcc]), decide_eq_false (fun h => h hcc)]
      have := isStale_loop_r hR hG hU ht hx hb u rFuel 0 false (by omega) (by show u < 100000; omega)
      rw [List.drop_zero] at this
      exact this
    · rw [if_neg (nI_ne v1 w4 hcc), decide_eq_true hcc, b24]
      rfl
theorem stales_r (hR : RR f M T n g R F Q U) (hG : wfG R g) (hU : wfU R g U) (ht : ∀ s u, s < g → u < g → M 53 (20 * s + u) = b2 (alk R 30 s u)) : ∀ m fu u a, u + m = U.length → m < fu → fX7_stales_b8 fu (nI a) (nI u) (f, M) = some (nI (stN R U u a (U.drop u)), f, M) := by
  have h8 := hR.un.2.1
  intro m
  induction m with
  | zero =>
    intro fu u a hu hf
    cases fu with
    | zero => omega
    | succ fu =>
      show fX7_stales_b8_body _ (nI a) (nI u) (f, M) = _
      unfold fX7_stales_b8_body
      show (if f 32 ≤ nI u then _ else _) = _
      rw [hR.un.1, if_pos (nI_le (by omega) (by omega)), List.drop_eq_nil_of_le (by omega)]
      rfl
  | succ m ih =>
    intro fu u a hu hf
    cases fu with
    | zero => omega
    | succ fu =>
      have hul : u < U.length := by omega
      have hg := List.getElem?_eq_getElem hul
      rw [List.drop_eq_getElem_cons hul]
      show fX7_stales_b8_body _ (nI a) (nI u) (f, M) = _
      unfold fX7_stales_b8_body stN
      show (if f 32 ≤ nI u then _ else _) = _
      rw [hR.un.1, if_neg (nI_ge hul (by omega)), isStale_r hR hG hU ht hg, Option.bind_some]
      unfold fX7_stales_b32
      cases hst : stU R U U[u] with
      | false =>
        show (if b2 false = 0 then fX7_stales_b8 fu (nI a ||| 0) (nI u + 1) (f, M) else _) = _
        rw [if_pos bF, nI_1, show (0 : Int32) = nI 0 from rfl, nI_or, Nat.or_zero]
        exact ih fu (u + 1) a (by omega) (by omega)
      | true =>
        show (if b2 true = 0 then _ else fX7_stales_b8 fu (nI a ||| (1 <<< (nI u &&& 31))) (nI u + 1) (f, M)) = _
        rw [if_neg (show ¬ b2 true = 0 by decide), nI_shl (by omega), nI_or, nI_1]
        exact ih fu (u + 1) _ (by omega) (by omega)
theorem stales_rr (hR : RR f M T n g R F Q U) (hG : wfG R g) (hU : wfU R g U) : ∃ W, fX7_stales (f, M) = some (nI (stN R U 0 0 U), f, W) ∧ RR f W T n g R F Q U := by
  have h8 := hR.un.2.1
  obtain ⟨W, d1, d2, d3, d4⟩ := compares_r hR hG
  refine ⟨W, ?_, d4⟩
  have := stales_r d4 hG hU d2 U.length rFuel 0 0 (by omega) (by show U.length < 100000; omega)
  rw [List.drop_zero] at this
  unfold fX7_stales
  rw [d1, Option.bind_some]
  exact this
theorem sim_pcore {fn : cS → Option (Int32 × cS)} {fr : Option (Int32 × rS)} (hI : Inv o t (K, I, P, N0) (f, M)) (H : ∀ b T n g R F Q U, RR f M T n g R F Q U → WF t T n g R F Q U → ∃ v U2, (∀ N, CR o b K I P N T n g R F Q U → ∃ I2, fn (K, I, P, N) = some (v, (K, I2, P, N)) ∧ CR o b K I2 P N T n g R F Q U2) ∧ (∃ f2 M2, fr = some (v, f2, M2) ∧ RR f2 M2 T n g R F Q U2) ∧ WF (t + 1) T n g R F Q U2) : ∃ Pd : Int32 → cS → Prop, pSpec fn (K, I, P, N0) Pd ∧ ∃ v S1, fr = some (v, S1) ∧ ∀ w z2, Pd w z2 → w = v ∧ Inv o (t + 1) z2 S1 := by
  obtain ⟨b, T, n, g, R, F, Q, U, nx, hC, hR, hW⟩ := hI
  obtain ⟨v, U2, h1, ⟨f2, M2, e1, e2⟩, h3⟩ := H b T n g R F Q U hR hW
  refine ⟨fun r z2 => r = v ∧ ∃ nx2, CR o b z2.1 z2.2.1 z2.2.2.1 nx2 T n g R F Q U2, ?_, v, (f2, M2), e1, ?_⟩
  · intro nx2 hfr
    obtain ⟨I2, d1, d2⟩ := h1 nx2 (hC.next hfr)
    exact ⟨v, (K, I2, P, nx2), d1, rfl, nx2, d2⟩
  · rintro w z2 ⟨hq, nx2, hq2⟩
    exact ⟨hq, b, T, n, g, R, F, Q, U2, nx2, hq2, e2, h3⟩
theorem s_stale (o t : Nat) (ht : t ≤ 512) : sim_stale o (Inv o t) (Inv o (t + 1)) := by
  intro z S hI
  obtain ⟨K, I, P, N0⟩ := z
  obtain ⟨f, M⟩ := S
  refine sim_pcore hI (fun b T n g R F Q U hR hW => ?_)
  have hG := hW.wfG
  have hU := hW.wfU ht
  refine ⟨nI (stN R U 0 0 U), U, fun N hC => ⟨I, ?_, hC⟩, ?_, hW.step⟩
  · have h8 := hC.un.2.1
    have := stale_c hC hG hU U.length rFuel 0 0 (by omega) (by show U.length < 100000; omega)
    rw [List.drop_zero] at this
    exact this
  · obtain ⟨W, d1, d2⟩ := stales_rr (hR.thr 0) hG hU
    refine ⟨_, W, ?_, d2⟩
    unfold fX7_stale
    show Option.bind (fX7_stales (upd f 54 0, M)) _ = _
    rw [d1]
    rfl
end Stale
