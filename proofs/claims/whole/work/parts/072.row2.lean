/-! THE CLASS'S ROWS, the loops -/
section CRow2
variable {K : Nat → Option (Nat × Nat)} {I : Nat → Nat → Int32} {P : Nat → Nat → Option Nat} {N a b p : Nat} {v : Int32} {L M : List En} {e : En}
theorem get_r0 (h : RowOK K P a) (hr : RowE I a L) (hp : L[p]? = some e) : fX2_get a (nI p) 0 (K, I, P, N) = some (e.1, K, I, P, N) := get_r (q := 0) h hr hp (by omega)
theorem get_r1 (h : RowOK K P a) (hr : RowE I a L) (hp : L[p]? = some e) : fX2_get a (nI p) 1 (K, I, P, N) = some (e.2.1, K, I, P, N) := get_r (q := 1) h hr hp (by omega)
theorem get_r2 (h : RowOK K P a) (hr : RowE I a L) (hp : L[p]? = some e) : fX2_get a (nI p) 2 (K, I, P, N) = some (e.2.2.1, K, I, P, N) := get_r (q := 2) h hr hp (by omega)
theorem get_r3 (h : RowOK K P a) (hr : RowE I a L) (hp : L[p]? = some e) : fX2_get a (nI p) 3 (K, I, P, N) = some (e.2.2.2.1, K, I, P, N) := get_r (q := 3) h hr hp (by omega)
theorem get_r4 (h : RowOK K P a) (hr : RowE I a L) (hp : L[p]? = some e) : fX2_get a (nI p) 4 (K, I, P, N) = some (e.2.2.2.2.1, K, I, P, N) := get_r (q := 4) h hr hp (by omega)
theorem get_r5 (h : RowOK K P a) (hr : RowE I a L) (hp : L[p]? = some e) : fX2_get a (nI p) 5 (K, I, P, N) = some (e.2.2.2.2.2, K, I, P, N) := get_r (q := 5) h hr hp (by omega)
theorem row_ne (ha : RowOK K P a) (hb : RowOK K P b) (hab : a ≠ b) : b ≠ a ∧ b ≠ a + 1 ∧ b + 1 ≠ a ∧ b + 1 ≠ a + 1 := by
  refine ⟨Ne.symm hab, fun e => ?_, fun e => ?_, by omega⟩
  · have := hb.1; rw [e, ha.2.2] at this; cases this
  · have := hb.2.2; rw [e, ha.1] at this; cases this
theorem RowO.row {J : Nat → Nat → Int32} (ho : RowO I J a) (ha : RowOK K P a) (hb : RowOK K P b) (hab : a ≠ b) : J b = I b ∧ J (b + 1) = I (b + 1) := by
  obtain ⟨h1, h2, h3, h4⟩ := row_ne ha hb hab
  exact ⟨ho b h1 h2, ho (b + 1) h3 h4⟩
theorem addAll_loop (ha : RowOK K P a) (hb : RowOK K P b) (hab : a ≠ b) : ∀ n f p I L, RowE I b M → RowE I a L → p + n = M.length → L.length + n ≤ 30 → n < f → ∃ J, fX2_addAll_b2 a f (some b) (nI p) (K, I, P, N) = some ((), K, J, P, N) ∧ RowE J a (L ++ M.drop p) ∧ RowO I J a ∧ J a 2 = I a 2 + I b 2 ∧ J a 3 = I a 3 + I b 3 := by
  intro n
  induction n with
  | zero =>
    intro f p I L hM hL hp hl hf
    cases f with
    | zero => omega
    | succ f =>
      have h30 := hM.2.1
      have ne : a ≠ a + 1 := by omega
      have nb := (row_ne ha hb hab).1
      refine ⟨cup (cup I a 2 (I a 2 + I b 2)) a 3 (I a 3 + I b 3), ?_, ?_, ?_, ?_, ?_⟩
      · show fX2_addAll_b2_body a _ (some b) (nI p) (K, I, P, N) = _
        unfold fX2_addAll_b2_body
        simp only [Option.bind_some, e_gI hb.1, e_gI ha.1, e_pI ha.1]
        rw [hM.1, if_pos (nI_le (by omega) (by omega)), cup_j (by omega), cup_q nb]
      · rw [List.drop_eq_nil_of_le (by omega), List.append_nil]
        exact hL.congr (by rw [cup_j (by omega), cup_j (by omega)]) (by rw [cup_q (by omega), cup_q (by omega)])
      · intro q h1 h2
        rw [cup_q h1, cup_q h1]
      · rw [cup_j (by omega), cup_s]
      · rw [cup_s]
  | succ n ih =>
    intro f p I L hM hL hp hl hf
    cases f with
    | zero => omega
    | succ f =>
      have h30 := hM.2.1
      have hpl : p < M.length := by omega
      have hg := List.getElem?_eq_getElem hpl
      obtain ⟨J, e1, e2, e3, e4, e5⟩ := add_r (N := N) ha hL (by omega) M[p].1 M[p].2.1 M[p].2.2.1 M[p].2.2.2.1 M[p].2.2.2.2.1 M[p].2.2.2.2.2
      obtain ⟨jb, jb1⟩ := e3.row ha hb hab
      have hM' : RowE J b M := hM.congr (by rw [jb]) jb1
      obtain ⟨J2, d1, d2, d3, d4, d5⟩ := ih f (p + 1) J _ hM' e2 (by omega) (by simp; omega) (by omega)
      refine ⟨J2, ?_, ?_, e3.tr d3, ?_, ?_⟩
      · show fX2_addAll_b2_body a _ (some b) (nI p) (K, I, P, N) = _
        unfold fX2_addAll_b2_body
        simp only [Option.bind_some, e_gI hb.1]
        rw [hM.1, if_neg (nI_ge (by omega) (by omega))]
        simp only [Option.bind_some, e_rc hb.1, e_rc ha.1, get_r0 hb hM hg, get_r1 hb hM hg, get_r2 hb hM hg, get_r3 hb hM hg, get_r4 hb hM hg, get_r5 hb hM hg, e1, nI_1]
        exact d1
      · rw [List.append_assoc] at d2
        rw [List.drop_eq_getElem_cons hpl]
        exact d2
      · rw [d4, e4, jb]
      · rw [d5, e5, jb]
theorem addAll_r (ha : RowOK K P a) (hb : RowOK K P b) (hab : a ≠ b) (hM : RowE I b M) (hL : RowE I a L) (hl : L.length + M.length ≤ 30) : ∃ J, fX2_addAll a (some b) (K, I, P, N) = some ((), K, J, P, N) ∧ RowE J a (L ++ M) ∧ RowO I J a ∧ J a 2 = I a 2 + I b 2 ∧ J a 3 = I a 3 + I b 3 := by
  have h := addAll_loop (N := N) ha hb hab M.length rFuel 0 I L hM hL (by omega) hl (by show M.length < 100000; have := hM.2.1; omega)
  rw [List.drop_zero] at h
  exact h
/-! takeOut -/
def Tk (I : Nat → Nat → Int32) (a : Nat) (L : List En) (i t : Nat) : Prop := ∀ (p : Nat) (e : En) (q : Nat), q < 6 → (if p < i ∨ t ≤ p * 6 + q then L[p]? else L[p + 1]?) = some e → I (a + 1) (p * 6 + q) = en e q
theorem takeOut_in (ha : RowOK K P a) {m i : Nat} (hm : L.length = m + 1) (h30 : m + 1 ≤ 30) {rec2 : Int32 → cS → Option (Unit × cS)} {p : Nat} (hp : p < m) (hi : i ≤ p) : ∀ n f c I, c + n = 6 → n < f → Tk I a L i (p * 6 + c) → I a 1 = nI (m + 1) → ∃ J, fX2_takeOut_b14 a rec2 f (nI p) (nI c) (K, I, P, N) = rec2 (nI (p + 1)) (K, J, P, N) ∧ Tk J a L i ((p + 1) * 6) ∧ (∀ q, q ≠ a + 1 → J q = I q) := by
  intro n
  induction n with
  | zero =>
    intro f c I hc hf hT h1
    cases f with
    | zero => omega
    | succ f =>
      refine ⟨I, ?_, ?_, fun _ _ => rfl⟩
      · show fX2_takeOut_b14_body a _ rec2 (nI p) (nI c) (K, I, P, N) = _
        unfold fX2_takeOut_b14_body
        rw [show (6 : Int32) = nI 6 from rfl, if_pos (nI_le (by omega) (by omega)), nI_1]
      · rw [show (p + 1) * 6 = p * 6 + c by omega]
        exact hT
  | succ n ih =>
    intro f c I hc hf hT h1
    cases f with
    | zero => omega
    | succ f =>
      have hg : L[p + 1]? = some (L[p + 1]'(by omega)) := List.getElem?_eq_getElem (by omega)
      have hv : I (a + 1) ((p + 1) * 6 + c) = en (L[p + 1]'(by omega)) c := hT (p + 1) _ c (by omega) (by rw [if_pos (Or.inr (by omega))]; exact hg)
      have hT2 : Tk (cup I (a + 1) (p * 6 + c) (en (L[p + 1]'(by omega)) c)) a L i (p * 6 + (c + 1)) := by
        intro p2 e q hq he
        by_cases h2 : p2 * 6 + q = p * 6 + c
        · have h3 : p2 = p := by omega
          have h4 : q = c := by omega
          subst h3; subst h4
          rw [if_neg (by omega), hg] at he
          cases he
          rw [cup_s]
        · rw [cup_j h2]
          refine hT p2 e q hq ?_
          rw [← he]
          by_cases h5 : p2 < i ∨ p * 6 + c ≤ p2 * 6 + q
          · rw [if_pos h5, if_pos (by omega)]
          · rw [if_neg h5, if_neg (by omega)]
      obtain ⟨J, d1, d2, d3⟩ := ih f (c + 1) _ (by omega) (by omega) hT2 (by rw [cup_q (by omega)]; exact h1)
      refine ⟨J, ?_, d2, fun q hq => by rw [d3 q hq, cup_q hq]⟩
      show fX2_takeOut_b14_body a _ rec2 (nI p) (nI c) (K, I, P, N) = _
      unfold fX2_takeOut_b14_body
      rw [show (6 : Int32) = nI 6 from rfl, if_neg (nI_ge (by omega) (by omega)), nI_1, nI_1]
      simp only [e_rc ha.1, Option.bind_some, get_c ha h1 (show p + 1 < m + 1 by omega) h30 (show c < 6 by omega), hv, set_c ha h1 (show p < m + 1 by omega) h30 (show c < 6 by omega)]
      exact d1
theorem takeOut_out (ha : RowOK K P a) {m i : Nat} (hm : L.length = m + 1) (h30 : m + 1 ≤ 30) : ∀ n f p I, p + n = m → n < f → i ≤ p → Tk I a L i (p * 6) → I a 1 = nI (m + 1) → ∃ J, fX2_takeOut_b2 a f (nI p) (K, I, P, N) = some ((), K, J, P, N) ∧ J a 1 = nI m ∧ Tk J a L i (m * 6) ∧ RowO I J a ∧ J a 2 = I a 2 ∧ J a 3 = I a 3 := by
  intro n
  induction n with
  | zero =>
    intro f p I hc hf hi hT h1
    cases f with
    | zero => omega
    | succ f =>
      refine ⟨cup I a 1 (nI m), ?_, cup_s, ?_, fun q h2 h3 => cup_q h2, cup_j (by omega), cup_j (by omega)⟩
      · show fX2_takeOut_b2_body a _ (nI p) (K, I, P, N) = _
        unfold fX2_takeOut_b2_body
        simp only [e_gI ha.1, Option.bind_some, h1, nI_pred, e_pI ha.1]
        rw [if_pos (nI_le (by omega) (by omega))]
      · intro p2 e q hq he
        rw [cup_q (by omega)]
        exact hT p2 e q hq (by rw [show p = m by omega]; exact he)
  | succ n ih =>
    intro f p I hc hf hi hT h1
    cases f with
    | zero => omega
    | succ f =>
      obtain ⟨J, d1, d2, d3⟩ := takeOut_in (N := N) ha hm h30 (rec2 := fX2_takeOut_b2 a f) (p := p) (by omega) hi 6 rFuel 0 I (by omega) (by show 6 < 100000; omega) hT h1
      have ne : a ≠ a + 1 := by omega
      have ja := d3 a ne
      obtain ⟨J2, c1, c2, c3, c4, c5, c6⟩ := ih f (p + 1) J (by omega) (by omega) (by omega) d2 (by rw [ja]; exact h1)
      refine ⟨J2, ?_, c2, c3, fun q h2 h3 => by rw [c4 q h2 h3, d3 q h3], by rw [c5, ja], by rw [c6, ja]⟩
      show fX2_takeOut_b2_body a _ (nI p) (K, I, P, N) = _
      unfold fX2_takeOut_b2_body
      simp only [e_gI ha.1, Option.bind_some, h1, nI_pred]
      rw [if_neg (nI_ge (by omega) (by omega))]
      exact d1.trans c1
theorem takeOut_r (ha : RowOK K P a) (hL : RowE I a L) {i : Nat} (hi : i < L.length) : ∃ J, fX2_takeOut a (nI i) (K, I, P, N) = some ((), K, J, P, N) ∧ RowE J a (L.eraseIdx i) ∧ RowO I J a ∧ J a 2 = I a 2 ∧ J a 3 = I a 3 := by
  have h30 := hL.2.1
  obtain ⟨m, hm⟩ : ∃ m, L.length = m + 1 := ⟨L.length - 1, by omega⟩
  obtain ⟨J, c1, c2, c3, c4, c5, c6⟩ := takeOut_out (N := N) (i := i) ha hm (by omega) (m - i) rFuel i I (by omega) (by show m - i < 100000; omega) (Nat.le_refl _) (fun p e q hq he => by
    refine hL.2.2 p e ?_ q hq
    by_cases h : p < i ∨ i * 6 ≤ p * 6 + q
    · rw [if_pos h] at he; exact he
    · omega) (by rw [hL.1, hm])
  have hlen : (L.eraseIdx i).length = m := by rw [List.length_eraseIdx_of_lt hi]; omega
  refine ⟨J, c1, ⟨by rw [c2, hlen], by omega, fun p e hp q hq => c3 p e q hq ?_⟩, c4, c5, c6⟩
  have hpm := (List.getElem?_eq_some_iff.mp hp).1
  rw [eraseIdx_get] at hp
  rw [← hp]
  by_cases h : p < i
  · rw [if_pos h, if_pos (Or.inl h)]
  · rw [if_neg h, if_neg (by omega)]
theorem clear_r (ha : RowOK K P a) : fX2_clear a (K, I, P, N) = some ((), K, cup (cup (cup I a 1 0) a 2 0) a 3 0, P, N) := by
  unfold fX2_clear
  simp only [e_pI ha.1, Option.bind_some]
theorem clear_is : RowIs (cup (cup (cup I a 1 0) a 2 0) a 3 0) a ([], 0, 0) := by
  refine ⟨⟨?_, by simp, fun p e hp => by simp at hp⟩, ?_, ?_⟩
  · rw [cup_j (by omega), cup_j (by omega), cup_s]; rfl
  · rw [cup_j (by omega), cup_s]; rfl
  · rw [cup_s]; rfl
theorem clear_o : RowO I (cup (cup (cup I a 1 0) a 2 0) a 3 0) a := fun q h1 h2 => by rw [cup_q h1, cup_q h1, cup_q h1]
/-! tellEverywhere -/
def tl (told ty : Int32) (e : En) : En := (e.1, e.2.1, if e.2.2.1 = told then ty else e.2.2.1, if e.2.2.2.1 = told then ty else e.2.2.2.1, e.2.2.2.2)
def Te (I : Nat → Nat → Int32) (a : Nat) (L : List En) (told ty : Int32) (t : Nat) : Prop := ∀ (p : Nat) (e : En), L[p]? = some e → ∀ q, q < 6 → I (a + 1) (p * 6 + q) = en (if p < t then tl told ty e else e) q
theorem tell_loop (ha : RowOK K P a) {told ty : Int32} (h30 : L.length ≤ 30) : ∀ n f p I, p + n = L.length → n < f → Te I a L told ty p → I a 1 = nI L.length → ∃ J, fX2_tellEverywhere_b2 a f told ty (nI p) (K, I, P, N) = some ((), K, J, P, N) ∧ Te J a L told ty L.length ∧ ∀ q, q ≠ a + 1 → J q = I q := by
  intro n
  induction n with
  | zero =>
    intro f p I hc hf hT h1
    cases f with
    | zero => omega
    | succ f =>
      refine ⟨I, ?_, ?_, fun _ _ => rfl⟩
      · show fX2_tellEverywhere_b2_body a _ told ty (nI p) (K, I, P, N) = _
        unfold fX2_tellEverywhere_b2_body
        simp only [e_gI ha.1, Option.bind_some, h1]
        rw [if_pos (nI_le (by omega) (by omega))]
      · rw [show L.length = p by omega]; exact hT
  | succ n ih =>
    intro f p I hc hf hT h1
    cases f with
    | zero => omega
    | succ f =>
      have hpl : p < L.length := by omega
      have hg := List.getElem?_eq_getElem hpl
      have key : ∃ J, Te J a L told ty (p + 1) ∧ (∀ q, q ≠ a + 1 → J q = I q) ∧ fX2_tellEverywhere_b2 a (f + 1) told ty (nI p) (K, I, P, N) = fX2_tellEverywhere_b2 a f told ty (nI (p + 1)) (K, J, P, N) := by
        have ne : a ≠ a + 1 := by omega
        have v2 : I (a + 1) (p * 6 + 2) = L[p].2.2.1 := by have := hT p _ hg 2 (by omega); rw [if_neg (by omega)] at this; exact this
        have v3 : I (a + 1) (p * 6 + 3) = L[p].2.2.2.1 := by have := hT p _ hg 3 (by omega); rw [if_neg (by omega)] at this; exact this
        refine ⟨cup (cup I (a + 1) (p * 6 + 2) (if L[p].2.2.1 = told then ty else L[p].2.2.1)) (a + 1) (p * 6 + 3) (if L[p].2.2.2.1 = told then ty else L[p].2.2.2.1), ?_, fun q hq => by rw [cup_q hq, cup_q hq], ?_⟩
        · intro p2 e he q hq
          by_cases h2 : p2 = p
          · subst h2
            rw [hg] at he
            cases he
            rw [if_pos (show p2 < p2 + 1 by omega)]
            rcases (show q = 3 ∨ q = 2 ∨ (q ≠ 2 ∧ q ≠ 3) by omega) with rfl | rfl | ⟨h3, h4⟩
            · rw [cup_s]; rfl
            · rw [cup_j (by omega), cup_s]; rfl
            · rw [cup_j (by omega), cup_j (by omega), hT p2 _ hg q hq, if_neg (by omega)]
              rcases (show q = 0 ∨ q = 1 ∨ q = 4 ∨ q = 5 by omega) with rfl | rfl | rfl | rfl <;> rfl
          · rw [cup_j (by omega), cup_j (by omega), hT p2 e he q hq]
            by_cases h3 : p2 < p
            · rw [if_pos h3, if_pos (by omega)]
            · rw [if_neg h3, if_neg (by omega)]
        · have same2 : cup I (a + 1) (p * 6 + 2) L[p].2.2.1 = I := by
            funext x y
            by_cases hx : x = a + 1
            · subst hx
              by_cases hy : y = p * 6 + 2
              · subst hy; rw [cup_s, v2]
              · rw [cup_j hy]
            · rw [cup_q hx]
          have same3 : ∀ I2 : Nat → Nat → Int32, I2 (a + 1) (p * 6 + 3) = L[p].2.2.2.1 → cup I2 (a + 1) (p * 6 + 3) L[p].2.2.2.1 = I2 := by
            intro I2 h2
            funext x y
            by_cases hx : x = a + 1
            · subst hx
              by_cases hy : y = p * 6 + 3
              · subst hy; rw [cup_s, h2]
              · rw [cup_j hy]
            · rw [cup_q hx]
          have b27 : ∀ I2 : Nat → Nat → Int32, I2 a 1 = nI L.length → I2 (a + 1) (p * 6 + 3) = L[p].2.2.2.1 → fX2_tellEverywhere_b27 a (fX2_tellEverywhere_b2 a f) told ty (nI p) (K, I2, P, N) = fX2_tellEverywhere_b2 a f told ty (nI (p + 1)) (K, cup I2 (a + 1) (p * 6 + 3) (if L[p].2.2.2.1 = told then ty else L[p].2.2.2.1), P, N) := by
            intro I2 h2 h3
            unfold fX2_tellEverywhere_b27
            have g := get_c (N := N) (q := 3) ha h2 hpl h30 (by omega)
            have s := set_c (N := N) (q := 3) (v := ty) ha h2 hpl h30 (by omega)
            rw [h3] at g
            rw [e_rc ha.1, Option.bind_some, show (3 : Int32) = nI 3 from rfl, g, Option.bind_some]
            show (if L[p].2.2.2.1 = told then _ else _) = _
            by_cases h4 : L[p].2.2.2.1 = told
            · rw [if_pos h4, if_pos h4]
              show Option.bind (crc (K, I2, P, N) (some a) 2) _ = _
              rw [e_rc ha.1, Option.bind_some, s, Option.bind_some]
              unfold fX2_tellEverywhere_b44
              rw [nI_1]
            · rw [if_neg h4, if_neg h4, same3 I2 h3]
              unfold fX2_tellEverywhere_b44
              rw [nI_1]
          show fX2_tellEverywhere_b2_body a _ told ty (nI p) (K, I, P, N) = _
          unfold fX2_tellEverywhere_b2_body
          have g := get_c (N := N) (q := 2) ha h1 hpl h30 (by omega)
          have s := set_c (N := N) (q := 2) (v := ty) ha h1 hpl h30 (by omega)
          rw [v2] at g
          rw [e_gI ha.1, Option.bind_some, h1, if_neg (nI_ge (by omega) (by omega)), e_rc ha.1, Option.bind_some, show (2 : Int32) = nI 2 from rfl, g, Option.bind_some]
          show (if L[p].2.2.1 = told then _ else _) = _
          by_cases h4 : L[p].2.2.1 = told
          · rw [if_pos h4, if_pos h4]
            show Option.bind (crc (K, I, P, N) (some a) 2) _ = _
            rw [e_rc ha.1, Option.bind_some, s, Option.bind_some, b27 _ (by rw [cup_q ne, h1]) (by rw [cup_j (by omega), v3])]
          · rw [if_neg h4, if_neg h4, same2, b27 _ h1 v3]
      obtain ⟨J, t1, t2, t3⟩ := key
      obtain ⟨J2, c1, c2, c3⟩ := ih f (p + 1) J (by omega) (by omega) t1 (by rw [t2 a (by omega)]; exact h1)
      exact ⟨J2, t3.trans c1, c2, fun q hq => by rw [c3 q hq, t2 q hq]⟩
theorem tell_r (ha : RowOK K P a) (hL : RowE I a L) (told ty : Int32) : ∃ J, fX2_tellEverywhere a told ty (K, I, P, N) = some ((), K, J, P, N) ∧ RowE J a (L.map (tl told ty)) ∧ RowO I J a ∧ J a 2 = I a 2 ∧ J a 3 = I a 3 := by
  have h30 := hL.2.1
  obtain ⟨J, c1, c2, c3⟩ := tell_loop (N := N) ha (told := told) (ty := ty) h30 L.length rFuel 0 I (by omega) (by show L.length < 100000; omega) (fun p e hp q hq => by rw [if_neg (by omega)]; exact hL.2.2 p e hp q hq) hL.1
  have ja := c3 a (by omega)
  refine ⟨J, c1, ⟨by rw [ja, hL.1, List.length_map], by rw [List.length_map]; exact h30, fun p e hp q hq => ?_⟩, fun q _ h2 => c3 q h2, by rw [ja], by rw [ja]⟩
  rw [List.getElem?_map] at hp
  cases hx : L[p]? with
  | none => rw [hx] at hp; cases hp
  | some x =>
    rw [hx] at hp
    cases hp
    rw [c2 p x hx q hq, if_pos (List.getElem?_eq_some_iff.mp hx).1]
/-! typeOf -/
def tyF : Nat → List En → Int32 → Int32
  | 0, _, t => t
  | n + 1, L, t => if 0 ≤ t then t else match plc L 0 (-1 - t) with
    | none => -200
    | some p => match L[p]? with
      | none => -200
      | some e => if e.2.2.1 = -100 then t else tyF n L e.2.2.1
def tyO (L : List En) (t : Int32) : Int32 := if t = -100 then -100 else tyF 11 L t
def tyT (L : List En) (t : Int32) : Int32 := if t = -100 then -100 else tyO L t
theorem typeOf_loop (ha : RowOK K P a) (hL : RowE I a L) : ∀ n f s t, s + n = 11 → n < f → fX2_typeOf_b13 a f t (nI s) (K, I, P, N) = some (tyF n L t, K, I, P, N) := by
  intro n
  induction n with
  | zero =>
    intro f s t hs hf
    cases f with
    | zero => omega
    | succ f =>
      show fX2_typeOf_b13_body a _ t (nI s) (K, I, P, N) = _
      unfold fX2_typeOf_b13_body
      rw [show (10 : Int32) = nI 10 from rfl, if_pos (nI_lt (by omega) (by omega))]
      rfl
  | succ n ih =>
    intro f s t hs hf
    cases f with
    | zero => omega
    | succ f =>
      show fX2_typeOf_b13_body a _ t (nI s) (K, I, P, N) = _
      unfold fX2_typeOf_b13_body tyF
      rw [show (10 : Int32) = nI 10 from rfl, if_neg (nI_nlt (by omega) (by omega))]
      by_cases h0 : 0 ≤ t
      · rw [if_pos h0, if_pos h0]; rfl
      · rw [if_neg h0, if_neg h0, e_rc ha.1, Option.bind_some, placeOf_r ha hL, Option.bind_some]
        cases hp : plc L 0 (-1 - t) with
        | none => rfl
        | some p =>
          obtain ⟨e, he, -⟩ := plc_some hp
          have h30 := hL.2.1
          have hpl := plc_lt hp
          show (if nI (0 + p) = -1 then _ else _) = _
          rw [Nat.zero_add, if_neg (nI_nm1 (by omega))]
          show Option.bind (crc (K, I, P, N) (some a) 2) _ = _
          simp only [e_rc ha.1, Option.bind_some, plI, Nat.zero_add, get_r2 ha hL he, he]
          by_cases h1 : e.2.2.1 = -100
          · rw [if_pos h1, if_pos h1]
          · rw [if_neg h1, if_neg h1, nI_1]
            exact ih f (s + 1) _ (by omega) (by omega)
theorem typeOf_r (ha : RowOK K P a) (hL : RowE I a L) (t : Int32) : fX2_typeOf a t (K, I, P, N) = some (tyO L t, K, I, P, N) := by
  unfold fX2_typeOf tyO
  by_cases h : t = -100
  · rw [if_pos h, if_pos h]
  · rw [if_neg h, if_neg h]
    exact typeOf_loop ha hL 11 rFuel 0 t (by omega) (by show 11 < 100000; omega)
theorem tyT_O (L : List En) (t : Int32) : tyT L t = tyO L t := by
  unfold tyT tyO
  by_cases h : t = -100
  · rw [if_pos h, if_pos h]
  · rw [if_neg h]
end CRow2
