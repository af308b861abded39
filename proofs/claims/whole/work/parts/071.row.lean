/-! THE CLASS'S ROWS -/
theorem cup_s {I : Nat → Nat → Int32} {q j : Nat} {v : Int32} : cup I q j v q j = v := by unfold cup upd; rw [if_pos rfl, if_pos rfl]
theorem cup_j {I : Nat → Nat → Int32} {q j i : Nat} {v : Int32} (h : i ≠ j) : cup I q j v q i = I q i := by unfold cup upd; rw [if_pos rfl, if_neg h]
theorem cup_q {I : Nat → Nat → Int32} {q p j : Nat} {v : Int32} (h : p ≠ q) : cup I q j v p = I p := by unfold cup; rw [if_neg h]
theorem cuR_s {I : Nat → Nat → Option Nat} {q j : Nat} {v : Option Nat} : cuR I q j v q j = v := by unfold cuR va_up; rw [if_pos rfl, if_pos rfl]
theorem cuR_j {I : Nat → Nat → Option Nat} {q j i : Nat} {v : Option Nat} (h : i ≠ j) : cuR I q j v q i = I q i := by unfold cuR va_up; rw [if_pos rfl, if_neg h]
theorem cuR_q {I : Nat → Nat → Option Nat} {q p j : Nat} {v : Option Nat} (h : p ≠ q) : cuR I q j v p = I p := by unfold cuR; rw [if_neg h]
section CEv
variable {K : Nat → Option (Nat × Nat)} {I : Nat → Nat → Int32} {P : Nat → Nat → Option Nat} {N q ci n k i j w m : Nat} {v : Int32} {r : Option Nat}
theorem e_gI (h : K q = some (ci, n)) : cgI (K, I, P, N) q ci j = some (I q j) := by simp [cgI, h]
theorem e_gR (h : K q = some (ci, n)) : cgR (K, I, P, N) q ci j = some (P q j) := by simp [cgR, h]
theorem e_rc (h : K q = some (ci, n)) : crc (K, I, P, N) (some q) ci = some q := by simp [crc, h]
theorem e_pI (h : K q = some (ci, n)) : cpI (K, I, P, N) q ci j v = some (K, cup I q j v, P, N) := by simp [cpI, h]
theorem e_pR (h : K q = some (ci, n)) : cpR (K, I, P, N) q ci j r = some (K, I, cuR P q j r, N) := by simp [cpR, h]
theorem e_al (h : K q = some (k, n)) : cAl (K, I, P, N) q k = some n := by simp [cAl, h]
theorem e_len (h : K q = some (k, n)) : clen (K, I, P, N) q k = some (nI n) := by unfold clen; rw [e_al h]; rfl
theorem e_ldI (h : K q = some (8, n)) (hi : i < n) (hn : n < 2 ^ 31) : cldI (K, I, P, N) q (nI i) = some (I q i) := by
  unfold cldI
  rw [e_al h]
  show (if nI i < 0 ∨ n ≤ (nI i).toNatClampNeg then none else some (I q (nI i).toNatClampNeg)) = _
  rw [if_neg (nI_in hi hn), nI_clamp (Nat.lt_trans hi hn)]
theorem e_stI (h : K q = some (8, n)) (hi : i < n) (hn : n < 2 ^ 31) : cstI (K, I, P, N) q (nI i) v = some (K, cup I q i v, P, N) := by
  unfold cstI
  rw [e_al h]
  show (if nI i < 0 ∨ n ≤ (nI i).toNatClampNeg then none else some (K, cup I q (nI i).toNatClampNeg v, P, N)) = _
  rw [if_neg (nI_in hi hn), nI_clamp (Nat.lt_trans hi hn)]
theorem e_ldR (h : K q = some (k, n)) (hi : i < n) (hn : n < 2 ^ 31) : cldR (K, I, P, N) q k (nI i) = some (P q i) := by
  unfold cldR
  rw [e_al h]
  show (if nI i < 0 ∨ n ≤ (nI i).toNatClampNeg then none else some (P q (nI i).toNatClampNeg)) = _
  rw [if_neg (nI_in hi hn), nI_clamp (Nat.lt_trans hi hn)]
theorem e_stR (h : K q = some (k, n)) (hw : K w = some (cEl k, m)) (hi : i < n) (hn : n < 2 ^ 31) : cstR (K, I, P, N) q k (nI i) (some w) = some (K, I, cuR P q i (some w), N) := by
  unfold cstR
  show (if (K w).map Prod.fst = some (cEl k) then Option.bind (cAl (K, I, P, N) q k) _ else none) = _
  rw [if_pos (by rw [hw]; rfl), e_al h]
  show (if nI i < 0 ∨ n ≤ (nI i).toNatClampNeg then none else some (K, I, cuR P q (nI i).toNatClampNeg (some w), N)) = _
  rw [if_neg (nI_in hi hn), nI_clamp (Nat.lt_trans hi hn)]
theorem e_read (h : K q = some (8, n)) (hi : i < n) (hn : n < 2 ^ 31) : fX6_read (some q) (nI i) (K, I, P, N) = some (I q i, K, I, P, N) := by
  unfold fX6_read
  rw [if_neg (nI_pos (Nat.lt_trans hi hn))]
  simp only [Option.bind_some, e_len h, e_ldI h hi hn, if_neg (nI_ge hi hn), fX6_read_b17]
theorem e_write (h : K q = some (8, n)) (hi : i < n) (hn : n < 2 ^ 31) : fX6_write (some q) (nI i) v (K, I, P, N) = some ((), K, cup I q i v, P, N) := by
  unfold fX6_write
  rw [if_neg (nI_pos (Nat.lt_trans hi hn))]
  simp only [Option.bind_some, e_len h, e_stI h hi hn, if_neg (nI_ge hi hn), fX6_write_b14]
end CEv
/-- a row object and its cells -/
def RowOK (K : Nat → Option (Nat × Nat)) (P : Nat → Nat → Option Nat) (a : Nat) : Prop := K a = some (2, 0) ∧ P a 0 = some (a + 1) ∧ K (a + 1) = some (8, 180)
def RowE (I : Nat → Nat → Int32) (a : Nat) (L : List En) : Prop := I a 1 = nI L.length ∧ L.length ≤ 30 ∧ ∀ (p : Nat) (e : En), L[p]? = some e → ∀ q, q < 6 → I (a + 1) (p * 6 + q) = en e q
def RowIs (I : Nat → Nat → Int32) (a : Nat) (d : RowD) : Prop := RowE I a d.1 ∧ I a 2 = nI d.2.1 ∧ I a 3 = nI d.2.2
/-- no other cell is changed -/
def RowO (I J : Nat → Nat → Int32) (a : Nat) : Prop := ∀ q, q ≠ a → q ≠ a + 1 → J q = I q
theorem RowO.rf {I : Nat → Nat → Int32} {a : Nat} : RowO I I a := fun _ _ _ => rfl
theorem RowO.tr {I J L : Nat → Nat → Int32} {a : Nat} (h : RowO I J a) (h2 : RowO J L a) : RowO I L a := fun q h3 h4 => (h2 q h3 h4).trans (h q h3 h4)
theorem RowE.congr {I J : Nat → Nat → Int32} {a : Nat} {L : List En} (h : RowE I a L) (h1 : J a 1 = I a 1) (h2 : J (a + 1) = I (a + 1)) : RowE J a L := ⟨h1.trans h.1, h.2.1, fun p e hp q hq => by rw [h2]; exact h.2.2 p e hp q hq⟩
theorem RowIs.congr {I J : Nat → Nat → Int32} {a : Nat} {d : RowD} (h : RowIs I a d) (h1 : J a = I a) (h2 : J (a + 1) = I (a + 1)) : RowIs J a d := ⟨h.1.congr (by rw [h1]) h2, by rw [h1]; exact h.2.1, by rw [h1]; exact h.2.2⟩
section CRow
variable {K : Nat → Option (Nat × Nat)} {I : Nat → Nat → Int32} {P : Nat → Nat → Option Nat} {N a c p q : Nat} {v : Int32} {L : List En}
theorem six (p q : Nat) : nI p * 6 + nI q = nI (p * 6 + q) := by
  rw [show (6 : Int32) = nI 6 from rfl, pk_mul, nI_add]
theorem get_c (h : RowOK K P a) (hc : I a 1 = nI c) (hp : p < c) (h30 : c ≤ 30) (hq : q < 6) : fX2_get a (nI p) (nI q) (K, I, P, N) = some (I (a + 1) (p * 6 + q), K, I, P, N) := by
  unfold fX2_get
  have hi : p * 6 + q < 180 := by omega
  simp only [if_neg (nI_pos (show p < 2 ^ 31 by omega)), e_gI h.1, e_gR h.1, Option.bind_some, hc, if_neg (nI_ge hp (by omega)), h.2.1, six, if_neg (nI_pos (show p * 6 + q < 2 ^ 31 by omega)), e_len h.2.2, if_neg (nI_ge hi (by omega)), e_ldI h.2.2 hi (by omega), fX2_get_b42]
theorem set_c (h : RowOK K P a) (hc : I a 1 = nI c) (hp : p < c) (h30 : c ≤ 30) (hq : q < 6) : fX2_set a (nI p) (nI q) v (K, I, P, N) = some ((), K, cup I (a + 1) (p * 6 + q) v, P, N) := by
  unfold fX2_set
  have hi : p * 6 + q < 180 := by omega
  simp only [if_neg (nI_pos (show p < 2 ^ 31 by omega)), e_gI h.1, e_gR h.1, Option.bind_some, hc, if_neg (nI_ge hp (by omega)), h.2.1, six, if_neg (nI_pos (show p * 6 + q < 2 ^ 31 by omega)), e_len h.2.2, if_neg (nI_ge hi (by omega)), e_stI h.2.2 hi (by omega), fX2_set_b43]
theorem get_r (h : RowOK K P a) (hr : RowE I a L) {e : En} (hp : L[p]? = some e) (hq : q < 6) : fX2_get a (nI p) (nI q) (K, I, P, N) = some (en e q, K, I, P, N) := by
  rw [get_c h hr.1 (List.getElem?_eq_some_iff.mp hp).1 hr.2.1 hq, hr.2.2 p e hp q hq]
theorem get_m1 (h : RowOK K P a) : fX2_get a (-1) v (K, I, P, N) = some (-1, K, I, P, N) := by
  unfold fX2_get
  show (if (-1 : Int32) < 0 then _ else _) = _
  rw [if_pos (by decide)]
  rfl
theorem find_drop {L : List En} {kd nm : Int32} {p : Nat} (hp : p < L.length) : (L.drop p).findIdx? (hit kd nm) = if hit kd nm L[p] = true then some 0 else ((L.drop (p + 1)).findIdx? (hit kd nm)).map (· + 1) := by
  rw [List.drop_eq_getElem_cons hp, List.findIdx?_cons]
theorem placeOf_loop (h : RowOK K P a) (hr : RowE I a L) (kd nm : Int32) : ∀ n f p, p + n = L.length → n < f → fX2_placeOf_b2 a f kd nm (nI p) (K, I, P, N) = some (plI p ((L.drop p).findIdx? (hit kd nm)), K, I, P, N) := by
  intro n
  induction n with
  | zero =>
    intro f p hp hf
    cases f with
    | zero => omega
    | succ f =>
      have h30 := hr.2.1
      show fX2_placeOf_b2_body a _ kd nm (nI p) (K, I, P, N) = _
      unfold fX2_placeOf_b2_body
      rw [e_gI h.1, hr.1, Option.bind_some, if_pos (nI_le (by omega) (by omega)), List.drop_eq_nil_of_le (by omega)]
      rfl
  | succ n ih =>
    intro f p hp hf
    cases f with
    | zero => omega
    | succ f =>
      have h30 := hr.2.1
      show fX2_placeOf_b2_body a _ kd nm (nI p) (K, I, P, N) = _
      unfold fX2_placeOf_b2_body
      have hpl : p < L.length := by omega
      have hg := List.getElem?_eq_getElem hpl
      have g0 := get_r (N := N) (q := 0) h hr hg (by omega)
      have g1 := get_r (N := N) (q := 1) h hr hg (by omega)
      rw [e_gI h.1, hr.1, Option.bind_some, if_neg (nI_ge (by omega) (by omega)), e_rc h.1, Option.bind_some, show (0 : Int32) = nI 0 from rfl, g0, Option.bind_some]
      have hn : fX2_placeOf_b2 a f kd nm (nI p + 1) (K, I, P, N) = some (plI p (((L.drop (p + 1)).findIdx? (hit kd nm)).map (· + 1)), K, I, P, N) := by
        rw [nI_1, ih f (p + 1) (by omega) (by omega)]
        cases (L.drop (p + 1)).findIdx? (hit kd nm) with
        | none => rfl
        | some i => show some (nI (p + 1 + i), _) = some (nI (p + (i + 1)), _); rw [show p + 1 + i = p + (i + 1) by omega]
      rw [find_drop hpl]
      show (if en L[p] 0 = kd then _ else _) = _
      by_cases e0 : L[p].1 = kd
      · rw [if_pos (show en L[p] 0 = kd from e0)]
        show Option.bind (crc (K, I, P, N) (some a) 2) _ = _
        rw [e_rc h.1, Option.bind_some, show (1 : Int32) = nI 1 from rfl, g1, Option.bind_some]
        show (if en L[p] 1 = nm then _ else _) = _
        by_cases e1 : L[p].2.1 = nm
        · rw [if_pos (show en L[p] 1 = nm from e1), if_pos (show hit kd nm L[p] = true from decide_eq_true ⟨e0, e1⟩)]
          rfl
        · rw [if_neg (show ¬ en L[p] 1 = nm from e1), if_neg (fun hh => e1 (hit_t hh).2)]
          exact hn
      · rw [if_neg (show ¬ en L[p] 0 = kd from e0), if_neg (fun hh => e0 (hit_t hh).1)]
        exact hn
theorem placeOf_r (h : RowOK K P a) (hr : RowE I a L) (kd nm : Int32) : fX2_placeOf a kd nm (K, I, P, N) = some (plI 0 (plc L kd nm), K, I, P, N) := by
  have h30 := hr.2.1
  have := placeOf_loop (N := N) h hr kd nm L.length rFuel 0 (by omega) (by show L.length < 100000; omega)
  rw [List.drop_zero] at this
  exact this
theorem a1ne (h : RowOK K P a) : a + 1 ≠ a := by omega
theorem add_r (h : RowOK K P a) (hr : RowE I a L) (hl : L.length < 30) (x0 x1 x2 x3 x4 x5 : Int32) : ∃ J, fX2_add a x0 x1 x2 x3 x4 x5 (K, I, P, N) = some ((), K, J, P, N) ∧ RowE J a (L ++ [(x0, x1, x2, x3, x4, x5)]) ∧ RowO I J a ∧ J a 2 = I a 2 ∧ J a 3 = I a 3 := by
  refine ⟨cup (cup (cup (cup (cup (cup (cup I a 1 (nI (L.length + 1))) (a + 1) (L.length * 6 + 0) x0) (a + 1) (L.length * 6 + 1) x1) (a + 1) (L.length * 6 + 2) x2) (a + 1) (L.length * 6 + 3) x3) (a + 1) (L.length * 6 + 4) x4) (a + 1) (L.length * 6 + 5) x5, ?_, ?_, ?_, ?_, ?_⟩
  · unfold fX2_add
    have ne : a ≠ a + 1 := by omega
    rw [e_gI h.1, Option.bind_some, hr.1, show (30 : Int32) = nI 30 from rfl, if_pos (nI_lt hl (by omega)), Option.bind_some, Option.bind_some, nI_1, e_pI h.1, Option.bind_some]
    rw [show (0 : Int32) = nI 0 from rfl, show (1 : Int32) = nI 1 from rfl, show (2 : Int32) = nI 2 from rfl, show (3 : Int32) = nI 3 from rfl, show (4 : Int32) = nI 4 from rfl, show (5 : Int32) = nI 5 from rfl]
    rw [e_rc h.1, Option.bind_some, set_c h (c := L.length + 1) cup_s (by omega) (by omega) (by omega), Option.bind_some]
    rw [e_rc h.1, Option.bind_some, set_c h (c := L.length + 1) (by rw [cup_q ne, cup_s]) (by omega) (by omega) (by omega), Option.bind_some]
    rw [e_rc h.1, Option.bind_some, set_c h (c := L.length + 1) (by rw [cup_q ne, cup_q ne, cup_s]) (by omega) (by omega) (by omega), Option.bind_some]
    rw [e_rc h.1, Option.bind_some, set_c h (c := L.length + 1) (by rw [cup_q ne, cup_q ne, cup_q ne, cup_s]) (by omega) (by omega) (by omega), Option.bind_some]
    rw [e_rc h.1, Option.bind_some, set_c h (c := L.length + 1) (by rw [cup_q ne, cup_q ne, cup_q ne, cup_q ne, cup_s]) (by omega) (by omega) (by omega), Option.bind_some]
    rw [e_rc h.1, Option.bind_some, set_c h (c := L.length + 1) (by rw [cup_q ne, cup_q ne, cup_q ne, cup_q ne, cup_q ne, cup_s]) (by omega) (by omega) (by omega), Option.bind_some]
  · have ne : a ≠ a + 1 := by omega
    have ne2 : a + 1 ≠ a := by omega
    refine ⟨?_, by simp; omega, fun p e hp q hq => ?_⟩
    · rw [cup_q ne, cup_q ne, cup_q ne, cup_q ne, cup_q ne, cup_q ne, cup_s, List.length_append]; rfl
    · by_cases hpl : p < L.length
      · rw [List.getElem?_append_left hpl] at hp
        rw [cup_j (by omega), cup_j (by omega), cup_j (by omega), cup_j (by omega), cup_j (by omega), cup_j (by omega), cup_q ne2]
        exact hr.2.2 p e hp q hq
      · have hp' : p = L.length := by
          have := (List.getElem?_eq_some_iff.mp hp).1
          simp at this
          omega
        subst hp'
        rw [List.getElem?_append_right (Nat.le_refl _), Nat.sub_self] at hp
        cases hp
        rcases (show q = 0 ∨ q = 1 ∨ q = 2 ∨ q = 3 ∨ q = 4 ∨ q = 5 by omega) with rfl | rfl | rfl | rfl | rfl | rfl
        · rw [cup_j (by omega), cup_j (by omega), cup_j (by omega), cup_j (by omega), cup_j (by omega), cup_s]; rfl
        · rw [cup_j (by omega), cup_j (by omega), cup_j (by omega), cup_j (by omega), cup_s]; rfl
        · rw [cup_j (by omega), cup_j (by omega), cup_j (by omega), cup_s]; rfl
        · rw [cup_j (by omega), cup_j (by omega), cup_s]; rfl
        · rw [cup_j (by omega), cup_s]; rfl
        · rw [cup_s]; rfl
  · intro q h1 h2
    rw [cup_q h2, cup_q h2, cup_q h2, cup_q h2, cup_q h2, cup_q h2, cup_q h1]
  · have ne : a ≠ a + 1 := by omega
    rw [cup_q ne, cup_q ne, cup_q ne, cup_q ne, cup_q ne, cup_q ne, cup_j (by omega)]
  · have ne : a ≠ a + 1 := by omega
    rw [cup_q ne, cup_q ne, cup_q ne, cup_q ne, cup_q ne, cup_q ne, cup_j (by omega)]
end CRow
