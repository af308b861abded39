/-! PURE: what the class's small functions answer -/
theorem cgI_of {z : cS} {q ci j n : Nat} (h : z.1 q = some (ci, n)) : cgI z q ci j = some (z.2.1 q j) := by simp [cgI, h]
theorem cgR_of {z : cS} {q ci j n : Nat} (h : z.1 q = some (ci, n)) : cgR z q ci j = some (z.2.2.1 q j) := by simp [cgR, h]
theorem crc_of {z : cS} {q ci n : Nat} (h : z.1 q = some (ci, n)) : crc z (some q) ci = some q := by simp [crc, h]
theorem cAl_of {z : cS} {q k n : Nat} (h : z.1 q = some (k, n)) : cAl z q k = some n := by simp [cAl, h]
theorem clen_of {z : cS} {q k n : Nat} (h : z.1 q = some (k, n)) : clen z q k = some (nI n) := by simp [clen, cAl_of h, nI]
theorem cldI_of {z : cS} {q n i : Nat} (h : z.1 q = some (8, n)) (hi : i < n) (hn : n < 2 ^ 31) : cldI z q (nI i) = some (z.2.1 q i) := by
  unfold cldI
  rw [cAl_of h]
  show (if nI i < 0 ∨ n ≤ (nI i).toNatClampNeg then none else some (z.2.1 q (nI i).toNatClampNeg)) = _
  rw [if_neg (nI_in hi hn), nI_clamp (Nat.lt_trans hi hn)]
theorem cstI_of {z : cS} {q n i : Nat} {v : Int32} (h : z.1 q = some (8, n)) (hi : i < n) (hn : n < 2 ^ 31) : cstI z q (nI i) v = some (z.1, cup z.2.1 q i v, z.2.2.1, z.2.2.2) := by
  unfold cstI
  rw [cAl_of h]
  show (if nI i < 0 ∨ n ≤ (nI i).toNatClampNeg then none else some (z.1, cup z.2.1 q (nI i).toNatClampNeg v, z.2.2.1, z.2.2.2)) = _
  rw [if_neg (nI_in hi hn), nI_clamp (Nat.lt_trans hi hn)]
theorem read_of {z : cS} {c n i : Nat} (h : z.1 c = some (8, n)) (hi : i < n) (hn : n < 2 ^ 31) : fX6_read (some c) (nI i) z = some (z.2.1 c i, z) := by
  unfold fX6_read
  rw [if_neg (nI_pos (Nat.lt_trans hi hn))]
  show Option.bind (clen z c 8) _ = _
  rw [clen_of h]
  show (if nI n ≤ nI i then _ else _) = _
  rw [if_neg (nI_ge hi hn)]
  show Option.bind (cldI z c (nI i)) _ = _
  rw [cldI_of h hi hn]
  rfl
theorem write_of {z : cS} {c n i : Nat} {v : Int32} (h : z.1 c = some (8, n)) (hi : i < n) (hn : n < 2 ^ 31) : fX6_write (some c) (nI i) v z = some ((), (z.1, cup z.2.1 c i v, z.2.2.1, z.2.2.2)) := by
  unfold fX6_write
  rw [if_neg (nI_pos (Nat.lt_trans hi hn))]
  show Option.bind (clen z c 8) _ = _
  rw [clen_of h]
  show (if nI n ≤ nI i then _ else _) = _
  rw [if_neg (nI_ge hi hn)]
  show Option.bind (cstI z c (nI i) v) _ = _
  rw [cstI_of h hi hn]
  rfl
/-- a row: its object o, its cells c, how many entries -/
def RowAt (z : cS) (o c k : Nat) : Prop := (∃ n, z.1 o = some (2, n)) ∧ z.2.2.1 o 0 = some c ∧ z.1 c = some (8, 180) ∧ z.2.1 o 1 = nI k ∧ k ≤ 30
theorem six (p q : Nat) : nI p * 6 + nI q = nI (p * 6 + q) := by
  rw [show (6 : Int32) = nI 6 from rfl, pk_mul, nI_add]
theorem get_of {z : cS} {o c k p q : Nat} (h : RowAt z o c k) (hp : p < k) (hq : q < 6) : fX2_get o (nI p) (nI q) z = some (z.2.1 c (p * 6 + q), z) := by
  obtain ⟨⟨n, h1⟩, h2, h3, h4, h5⟩ := h
  unfold fX2_get
  rw [if_neg (nI_pos (by omega)), cgI_of h1, h4]
  show (if nI k ≤ nI p then _ else _) = _
  rw [if_neg (nI_ge hp (by omega)), cgR_of h1, h2, six]
  show Option.bind (fX6_read (some c) (nI (p * 6 + q)) z) _ = _
  rw [read_of h3 (by omega) (by omega)]
  rfl
theorem set_of {z : cS} {o c k p q : Nat} {v : Int32} (h : RowAt z o c k) (hp : p < k) (hq : q < 6) : fX2_set o (nI p) (nI q) v z = some ((), (z.1, cup z.2.1 c (p * 6 + q) v, z.2.2.1, z.2.2.2)) := by
  obtain ⟨⟨n, h1⟩, h2, h3, h4, h5⟩ := h
  unfold fX2_set
  rw [if_neg (nI_pos (by omega)), cgI_of h1, h4]
  show (if nI k ≤ nI p then _ else _) = _
  rw [if_neg (nI_ge hp (by omega)), cgR_of h1, h2, six]
  show Option.bind (fX6_write (some c) (nI (p * 6 + q)) v z) _ = _
  rw [write_of h3 (by omega) (by omega)]
  rfl
/-- the first place with that kind and name, from p on -/
def plc (E : Nat → Nat → Int32) (kd nm : Int32) : Nat → Nat → Int32
  | 0, _ => -1
  | n + 1, p => if E p 0 = kd ∧ E p 1 = nm then nI p else plc E kd nm n (p + 1)
def rowE (z : cS) (c : Nat) : Nat → Nat → Int32 := fun p q => z.2.1 c (p * 6 + q)
theorem placeOf_loop {z : cS} {o c k : Nat} (h : RowAt z o c k) (kd nm : Int32) : ∀ (n f p : Nat), p + n = k → n < f → fX2_placeOf_b2 o f kd nm (nI p) z = some (plc (rowE z c) kd nm n p, z) := by
  intro n
  induction n with
  | zero =>
    intro f p hp hf
    cases f with
    | zero => omega
    | succ f =>
      show fX2_placeOf_b2_body o _ kd nm (nI p) z = _
      unfold fX2_placeOf_b2_body
      obtain ⟨⟨m, h1⟩, h2, h3, h4, h5⟩ := h
      rw [cgI_of h1, h4]
      show (if nI k ≤ nI p then _ else _) = _
      rw [if_pos (nI_le (by omega) (by omega))]
      rfl
  | succ n ih =>
    intro f p hp hf
    cases f with
    | zero => omega
    | succ f =>
      show fX2_placeOf_b2_body o _ kd nm (nI p) z = _
      unfold fX2_placeOf_b2_body
      have g0 := get_of (q := 0) h (show p < k by omega) (by omega)
      have g1 := get_of (q := 1) h (show p < k by omega) (by omega)
      have hn : fX2_placeOf_b2 o f kd nm (nI p + 1) z = some (plc (rowE z c) kd nm n (p + 1), z) := by
        rw [nI_1]
        exact ih f (p + 1) (by omega) (by omega)
      obtain ⟨⟨m, h1⟩, h2, h3, h4, h5⟩ := h
      rw [cgI_of h1, h4]
      show (if nI k ≤ nI p then _ else _) = _
      rw [if_neg (nI_ge (by omega) (by omega)), crc_of h1]
      show Option.bind (fX2_get o (nI p) 0 z) _ = _
      rw [show (0 : Int32) = nI 0 from rfl, g0]
      show (if rowE z c p 0 = kd then _ else _) = _
      unfold plc
      by_cases e0 : rowE z c p 0 = kd
      · rw [if_pos e0]
        show Option.bind (crc z (some o) 2) _ = _
        rw [crc_of h1]
        show Option.bind (fX2_get o (nI p) 1 z) _ = _
        rw [show (1 : Int32) = nI 1 from rfl, g1]
        show (if rowE z c p 1 = nm then _ else _) = _
        by_cases e1 : rowE z c p 1 = nm
        · rw [if_pos e1, if_pos ⟨e0, e1⟩]
        · rw [if_neg e1, if_neg (fun q => e1 q.2)]
          exact hn
      · rw [if_neg e0, if_neg (fun q => e0 q.1)]
        exact hn
theorem placeOf_of {z : cS} {o c k : Nat} (h : RowAt z o c k) (kd nm : Int32) : fX2_placeOf o kd nm z = some (plc (rowE z c) kd nm k 0, z) := by
  have h5 := h.2.2.2.2
  exact placeOf_loop h kd nm k rFuel 0 (by omega) (by show k < 100000; omega)
