/-! NEW OBJECTS; UNIT -/
section AllocX
variable {o b t : Nat} {K K2 : Nat → Option (Nat × Nat)} {I I2 : Nat → Nat → Int32} {P P2 : Nat → Nat → Option Nat} {N0 N N2 a : Nat} {f : Nat → Int32} {M W : Nat → Nat → Int32} {T : List TyD} {n g : Nat} {R : Nat → Option RowD} {F : List FuD} {Q : List (Int32 × Int32)} {U V : List UnD}
/-- what is there already stays, when cells are made and one row of references is written -/
theorem CR.allocX (h : CR o b K I P N T n g R F Q U) {arr : Nat} (harr : arr = b + 13 ∨ arr = b + 14 ∨ arr = b + 15) (hK : ∀ q, q < N → K2 q = K q) (hI : ∀ q, q < N → q ≠ o → I2 q = I q) (hP : ∀ q, q < N → q ≠ arr → P2 q = P q)
    (h2 : ∀ a, N ≤ a → K2 a = some (2, 0) → P2 a 0 = some (a + 1) ∧ K2 (a + 1) = some (8, 180))
    (h0 : ∀ a, N ≤ a → K2 a = some (0, 0) → P2 a 3 = some (a + 1) ∧ K2 (a + 1) = some (2, 0) ∧ P2 a 4 = some (a + 3) ∧ K2 (a + 3) = some (8, 30))
    (h5 : ∀ a, N ≤ a → K2 a = some (5, 0) → P2 a 5 = some (a + 1) ∧ K2 (a + 1) = some (8, 8) ∧ P2 a 6 = some (a + 2) ∧ K2 (a + 2) = some (8, 8))
    (hr : ∀ j c, ptr b P2 j = some c → ptr b P j = some c ∨ (N ≤ c ∧ K2 c = some (pkd j, 0)))
    (hinj : ∀ i j c, N ≤ c → ptr b P2 i = some c → ptr b P2 j = some c → i = j)
    (hmono : ∀ j c, ptr b P j = some c → ptr b P2 j = some c) :
    ShF o b K2 P2 ∧ ShD b K2 P2 ∧ cTy b I2 T ∧ cCn o b I2 n g ∧ cRw b I2 P2 R ∧ (∀ (f : Nat) (x : FuD), F[f]? = some x → ∃ a, ptr b P2 (400 + f) = some a ∧ FuIs I2 a x) ∧ (∀ (f : Nat) (x : Int32 × Int32), Q[f]? = some x → ∃ a, ptr b P2 (500 + f) = some a ∧ PkIs I2 a x) ∧ ∀ (f : Nat) (x : UnD), U[f]? = some x → ∃ a, ptr b P2 (600 + f) = some a ∧ UnIs I2 a x := by
  have hlt : ∀ q x, K q = some x → q < N := fun q x hx => h.fr q (by rw [hx]; exact fun e => by cases e)
  obtain ⟨⟨s1, s2, s3, s4, s5, s6, s7, s8, s9, s10, s11⟩, t⟩ := h.sf
  have hKo : ∀ q x, K q = some x → K2 q = some x := fun q x hx => by rw [hK q (hlt q x hx), hx]
  have hPo : ∀ q x, K q = some x → x.1 ≠ 10 → x.1 ≠ 11 → x.1 ≠ 13 → P2 q = P q := fun q x hx h10 h11 h13 => hP q (hlt q x hx) (fun e => by
    rcases harr with h | h | h
    · rw [e, h, s9] at hx; cases hx; exact h10 rfl
    · rw [e, h, s10] at hx; cases hx; exact h11 rfl
    · rw [e, h, s11] at hx; cases hx; exact h13 rfl)
  have hIo : ∀ q x, K q = some x → x ≠ (6, 0) → I2 q = I q := fun q x hx h6 => hI q (hlt q x hx) (fun e => by subst e; rw [s1] at hx; cases hx; exact h6 rfl)
  have old : ∀ a x, a < N → K2 a = some x → K a = some x := fun a x ha hx => by rw [← hK a ha]; exact hx
  refine ⟨⟨⟨hKo _ _ s1, hKo _ _ s2, hKo _ _ s3, hKo _ _ s4, hKo _ _ s5, hKo _ _ s6, hKo _ _ s7, hKo _ _ s8, hKo _ _ s9, hKo _ _ s10, hKo _ _ s11⟩, by rw [hPo o _ s1 (by decide) (by decide) (by decide), hPo b _ s2 (by decide) (by decide) (by decide), hPo (b + 3) _ s5 (by decide) (by decide) (by decide), hPo (b + 5) _ s7 (by decide) (by decide) (by decide)]; exact t⟩, ⟨?_, ?_, ?_, ?_, ?_⟩, h.ty.congr (hIo _ _ s2 (by decide)) (hIo _ _ s3 (by decide)) (hIo _ _ s4 (by decide)), h.cn.congr (hIo _ _ s5 (by decide)) (hIo _ _ s7 (by decide)), ?_, ?_, ?_, ?_⟩
  · intro j c hj
    rcases hr j c hj with h1 | h1
    · exact hKo _ _ (h.sd.1 j c h1)
    · exact h1.2
  · intro i j c hi hj
    by_cases hc : N ≤ c
    · exact hinj i j c hc hi hj
    · rcases hr i c hi with h1 | h1
      · rcases hr j c hj with h3 | h3
        · exact h.sd.2.1 i j c h1 h3
        · exact absurd h3.1 hc
      · exact absurd h1.1 hc
  · intro a ha
    by_cases hN : N ≤ a
    · exact h2 a hN ha
    · have ha2 := old a _ (by omega) ha
      obtain ⟨q1, q2⟩ := h.sd.2.2.1 a ha2
      exact ⟨by rw [hPo a _ ha2 (by decide) (by decide) (by decide)]; exact q1, hKo _ _ q2⟩
  · intro a ha
    by_cases hN : N ≤ a
    · exact h0 a hN ha
    · have ha2 := old a _ (by omega) ha
      obtain ⟨q1, q2, q3, q4⟩ := h.sd.2.2.2.1 a ha2
      rw [hPo a _ ha2 (by decide) (by decide) (by decide)]
      exact ⟨q1, hKo _ _ q2, q3, hKo _ _ q4⟩
  · intro a ha
    by_cases hN : N ≤ a
    · exact h5 a hN ha
    · have ha2 := old a _ (by omega) ha
      obtain ⟨q1, q2, q3, q4⟩ := h.sd.2.2.2.2 a ha2
      rw [hPo a _ ha2 (by decide) (by decide) (by decide)]
      exact ⟨q1, hKo _ _ q2, q3, hKo _ _ q4⟩
  · intro k d hk
    obtain ⟨a, h1, q2, h3, h4⟩ := h.row hk
    exact ⟨h1, a, hmono _ _ q2, h4.congr (hIo _ _ h3.1 (by decide)) (hIo _ _ h3.2.2 (by decide))⟩
  · intro f x hx
    obtain ⟨a, h1, q2⟩ := h.fu.2.2.1 f x hx
    have hl := (List.getElem?_eq_some_iff.mp hx).1
    have h8 := h.fu.2.1
    have h3 := h.sd.1 _ _ h1
    rw [pkd0 (by omega) (by omega)] at h3
    obtain ⟨-, -, -, h4⟩ := h.sd.2.2.2.1 a h3
    exact ⟨a, hmono _ _ h1, q2.congr (hIo _ _ h3 (by decide)) (hIo _ _ h4 (by decide))⟩
  · intro f x hx
    obtain ⟨a, h1, q2⟩ := h.pk.2.2.1 f x hx
    have hl := (List.getElem?_eq_some_iff.mp hx).1
    have h8 := h.pk.2.1
    have h3 := h.sd.1 _ _ h1
    rw [pkd1 (by omega) (by omega)] at h3
    exact ⟨a, hmono _ _ h1, q2.congr (hIo _ _ h3 (by decide))⟩
  · intro f x hx
    obtain ⟨a, h1, q2⟩ := h.un.2.2.1 f x hx
    have h3 := h.sd.1 _ _ h1
    rw [pkd5 (by omega)] at h3
    obtain ⟨-, h4, -, h5⟩ := h.sd.2.2.2.2 a h3
    exact ⟨a, hmono _ _ h1, q2.congr (hIo _ _ h3 (by decide)) (hIo _ _ h4 (by decide)) (hIo _ _ h5 (by decide))⟩
/-! uses, as a set -/
theorem mask_iff {X u : Nat} (hX : X < 2 ^ 32) (hu : u ≤ 8) : X &&& ((2 ^ (32 - u) - 1) <<< u) = 0 ↔ X < 2 ^ u := by
  constructor
  · intro h
    refine Nat.lt_pow_two_of_testBit _ (fun i hi => ?_)
    by_cases h32 : i < 32
    · have h1 : (X &&& ((2 ^ (32 - u) - 1) <<< u)).testBit i = false := by rw [h]; exact Nat.zero_testBit i
      rw [Nat.testBit_and, Nat.testBit_shiftLeft, Nat.testBit_two_pow_sub_one, decide_eq_true (show i ≥ u by omega), decide_eq_true (show i - u < 32 - u by omega)] at h1
      simpa using h1
    · exact Nat.testBit_lt_two_pow (Nat.lt_of_lt_of_le hX (Nat.pow_le_pow_right (by omega) (by omega)))
  · intro h
    apply Nat.eq_of_testBit_eq
    intro i
    rw [Nat.testBit_and, Nat.testBit_shiftLeft, Nat.zero_testBit]
    by_cases hi : i < u
    · rw [decide_eq_false (show ¬ i ≥ u by omega), Bool.false_and, Bool.and_false]
    · rw [Nat.testBit_lt_two_pow (Nat.lt_of_lt_of_le h (Nat.pow_le_pow_right (by omega) (by omega))), Bool.false_and]
theorem use_c {u : Nat} (hu : u ≤ 8) (x : Int32) : (x &&& (((1 <<< (nI u &&& 31)) - 1) ^^^ -1)) = 0 ↔ ∃ s, s < 2 ^ u ∧ x = nI s := by
  have hm : ((((1 : Int32) <<< (nI u &&& 31)) - 1) ^^^ -1).toBitVec.toNat = (2 ^ (32 - u) - 1) <<< u := by
    rcases (show u = 0 ∨ u = 1 ∨ u = 2 ∨ u = 3 ∨ u = 4 ∨ u = 5 ∨ u = 6 ∨ u = 7 ∨ u = 8 by omega) with rfl | rfl | rfl | rfl | rfl | rfl | rfl | rfl | rfl <;> decide
  have h0 : (x &&& (((1 <<< (nI u &&& 31)) - 1) ^^^ -1)) = 0 ↔ x.toBitVec.toNat < 2 ^ u := by
    rw [← mask_iff x.toBitVec.isLt hu, ← hm, ← BitVec.toNat_and]
    constructor
    · intro h
      have : (x &&& (((1 <<< (nI u &&& 31)) - 1) ^^^ -1)).toBitVec = (0 : Int32).toBitVec := by rw [h]
      exact congrArg BitVec.toNat this
    · intro h
      exact Int32.toBitVec_inj.mp (BitVec.eq_of_toNat_eq h)
  rw [h0]
  have h8 : 2 ^ u ≤ 2 ^ 8 := Nat.pow_le_pow_right (by omega) hu
  constructor
  · intro h
    refine ⟨x.toBitVec.toNat, h, Int32.toBitVec_inj.mp (BitVec.eq_of_toNat_eq ?_)⟩
    rw [pk_tn (by omega)]
  · rintro ⟨s, hs, rfl⟩
    rw [pk_tn (by omega)]
    exact hs
theorem use_r {u : Nat} (hu : u ≤ 8) (x : Int32) : (¬ x < 0 ∧ x >>> (nI u &&& 31) = 0) ↔ ∃ s, s < 2 ^ u ∧ x = nI s := by
  have h8 : 2 ^ u ≤ 2 ^ 8 := Nat.pow_le_pow_right (by omega) hu
  have key : ∀ j, j < 2 ^ 31 → nI j >>> (nI u &&& 31) = nI (j / 2 ^ u) := fun j hj => by
    rcases (show u = 0 ∨ u = 1 ∨ u = 2 ∨ u = 3 ∨ u = 4 ∨ u = 5 ∨ u = 6 ∨ u = 7 ∨ u = 8 by omega) with rfl | rfl | rfl | rfl | rfl | rfl | rfl | rfl | rfl <;> exact pk_shrN hj _ _ (by decide)
  constructor
  · rintro ⟨h1, h2⟩
    obtain ⟨j, hj, rfl⟩ := nI_of h1
    rw [key j hj, show (0 : Int32) = nI 0 from rfl, nI_eq (Nat.lt_of_le_of_lt (Nat.div_le_self _ _) hj) (by omega)] at h2
    refine ⟨j, ?_, rfl⟩
    exact (Nat.div_eq_zero_iff_lt (Nat.two_pow_pos u)).mp h2
  · rintro ⟨s, hs, rfl⟩
    exact ⟨nI_pos (by omega), by rw [key s (by omega), Nat.div_eq_of_lt hs]; rfl⟩
theorem e_pZ {q ci m j : Nat} {v : Int32} (h : K q = some (ci, m)) (hv : v = 0 ∨ v = 1) : cpZ (K, I, P, N) q ci j v = some (K, cup I q j v, P, N) := by
  unfold cpZ
  rw [if_pos (by rcases hv with rfl | rfl <;> exact ⟨rfl, rfl⟩), e_pI h]
/-- a new unit -/
theorem newUnit_c (h : CR o b K I P N T n g R F Q U) (hl : U.length < 8) (fc us il : Int32) (hil : il = 0 ∨ il = 1) : ∃ K2 I2 P2, (abind (fX5_init N fc us il (cnw (K, I, P, N) 5 0)) fun v84 z84 => Option.bind (some (b + 15)) fun q87 => Option.bind (cstR z84 q87 13 (nI U.length) (some N)) fun z87 => Option.bind (cgI z87 o 6 11) fun x90 => Option.bind (cpI z87 o 6 11 (x90 + 1)) fun z95 => some ((.inl (nI U.length) : Int32 ⊕ Nat), z95, 0, 0)) = some (.inl (nI U.length), (K2, I2, P2, N + 3), 2, 16) ∧ CR o b K2 I2 P2 (N + 3) T n g R F Q (U ++ [(us, il, fc, 0, none, (fun _ => 0), fun _ => 0)]) := by
  have hlt : ∀ q x, K q = some x → q < N := fun q x hx => h.fr q (by rw [hx]; exact fun e => by cases e)
  obtain ⟨⟨s1, s2, s3, s4, s5, s6, s7, s8, s9, s10, s11⟩, t1⟩ := h.sf
  have hoN := hlt _ _ s1
  have haN := hlt _ _ s11
  let K1 : Nat → Option (Nat × Nat) := fun q => if q = N then some (5, 0) else K q
  let Ka : Nat → Option (Nat × Nat) := fun q => if q = N + 1 then some (8, 8) else K1 q
  let K2 : Nat → Option (Nat × Nat) := fun q => if q = N + 2 then some (8, 8) else Ka q
  let I1 : Nat → Nat → Int32 := cup (fun q => if q = N then fun _ => 0 else I q) N 4 (-1)
  let Ia : Nat → Nat → Int32 := fun q => if q = N + 1 then fun _ => 0 else I1 q
  let Ib : Nat → Nat → Int32 := fun q => if q = N + 2 then fun _ => 0 else Ia q
  let I2 : Nat → Nat → Int32 := cup (cup (cup Ib N 2 fc) N 0 us) N 1 il
  let P1 : Nat → Nat → Option Nat := cuR (fun q => if q = N + 1 then fun _ => none else (fun q => if q = N then fun _ => none else P q) q) N 5 (some (N + 1))
  let P2 : Nat → Nat → Option Nat := cuR (fun q => if q = N + 2 then fun _ => none else P1 q) N 6 (some (N + 2))
  have k0 : K2 N = some (5, 0) := by
    show (if N = N + 2 then _ else if N = N + 1 then _ else if N = N then _ else _) = _
    rw [if_neg (by omega), if_neg (by omega), if_pos rfl]
  have k1 : K2 (N + 1) = some (8, 8) := by
    show (if N + 1 = N + 2 then _ else if N + 1 = N + 1 then _ else _) = _
    rw [if_neg (by omega), if_pos rfl]
  have k2 : K2 (N + 2) = some (8, 8) := if_pos rfl
  have kO : ∀ q, q < N → K2 q = K q := fun q hq => by
    show (if q = N + 2 then _ else if q = N + 1 then _ else if q = N then _ else K q) = _
    rw [if_neg (by omega), if_neg (by omega), if_neg (by omega)]
  have kN : ∀ q, N + 3 ≤ q → K2 q = none := fun q hq => by
    show (if q = N + 2 then _ else if q = N + 1 then _ else if q = N then _ else K q) = _
    rw [if_neg (by omega), if_neg (by omega), if_neg (by omega)]
    exact Classical.byContradiction (fun h9 => by have := h.fr q h9; omega)
  have iO : ∀ q, q < N → I2 q = I q := fun q hq => by
    show cup (cup (cup Ib N 2 fc) N 0 us) N 1 il q = _
    rw [cup_q (by omega), cup_q (by omega), cup_q (by omega)]
    show (if q = N + 2 then _ else if q = N + 1 then _ else cup _ N 4 (-1) q) = _
    rw [if_neg (by omega), if_neg (by omega), cup_q (by omega), if_neg (by omega)]
  have pO : ∀ q, q < N → P2 q = P q := fun q hq => by
    show cuR _ N 6 (some (N + 2)) q = _
    rw [cuR_q (by omega), if_neg (by omega)]
    show cuR _ N 5 (some (N + 1)) q = _
    rw [cuR_q (by omega), if_neg (by omega)]
    show (if q = N then _ else P q) = _
    rw [if_neg (by omega)]
  have p6 : P2 N 6 = some (N + 2) := cuR_s
  have p5 : P2 N 5 = some (N + 1) := by
    show cuR _ N 6 (some (N + 2)) N 5 = _
    rw [cuR_j (by omega), if_neg (by omega)]
    exact cuR_s
  have hpp : ∀ j, ptr b (cuR P2 (b + 15) U.length (some N)) j = if j = 600 + U.length then some N else ptr b P j := by
    obtain ⟨⟨t1, t2, t3, t4, t5, t6, t7, t8, t9, t10, t11⟩, -⟩ := h.sf
    have e1 : cuR P2 (b + 15) U.length (some N) (b + 4) = P (b + 4) := by rw [cuR_q (by omega), pO _ (hlt _ _ t6)]
    have e2 : cuR P2 (b + 15) U.length (some N) (b + 6) = P (b + 6) := by rw [cuR_q (by omega), pO _ (hlt _ _ t8)]
    have e3 : cuR P2 (b + 15) U.length (some N) (b + 13) = P (b + 13) := by rw [cuR_q (by omega), pO _ (hlt _ _ t9)]
    have e4 : cuR P2 (b + 15) U.length (some N) (b + 14) = P (b + 14) := by rw [cuR_q (by omega), pO _ (hlt _ _ t10)]
    have e5 : ∀ i, i ≠ U.length → cuR P2 (b + 15) U.length (some N) (b + 15) i = P (b + 15) i := fun i hi => by rw [cuR_j hi, pO _ (hlt _ _ t11)]
    intro j
    by_cases hj : j = 600 + U.length
    · rw [if_pos hj, hj, ptr6 hl, cuR_s]
    · rw [if_neg hj]
      by_cases h6 : 600 ≤ j ∧ j < 608
      · obtain ⟨i, rfl⟩ : ∃ i, j = 600 + i := ⟨j - 600, by omega⟩
        rw [ptr6 (by omega), ptr6 (by omega), e5 i (by omega)]
      · unfold ptr
        rw [e1, e2, e3, e4, if_neg h6, if_neg h6]
  have hnone : ptr b P (600 + U.length) = none := h.un.2.2.2 _ (Nat.le_refl _) hl
  have I3o : ∀ q, q < N → q ≠ o → cup I2 o 11 (nI (U.length + 1)) q = I q := fun q hq ho => by rw [cup_q ho, iO q hq]
  have iNN : ∀ j, cup I2 o 11 (nI (U.length + 1)) N j = I2 N j := fun j => by rw [cup_q (by omega)]
  obtain ⟨c1, c2, c3, c4, c5, c6, c7, c8⟩ := h.allocX (K2 := K2) (I2 := cup I2 o 11 (nI (U.length + 1))) (P2 := cuR P2 (b + 15) U.length (some N)) (arr := b + 15) (Or.inr (Or.inr rfl)) kO I3o (fun q hq hqa => by rw [cuR_q hqa, pO q hq]) (fun a ha hk => by
      rcases (show a = N ∨ a = N + 1 ∨ a = N + 2 ∨ N + 3 ≤ a by omega) with rfl | rfl | rfl | h9
      · rw [k0] at hk; cases hk
      · rw [k1] at hk; cases hk
      · rw [k2] at hk; cases hk
      · rw [kN a h9] at hk; cases hk) (fun a ha hk => by
      rcases (show a = N ∨ a = N + 1 ∨ a = N + 2 ∨ N + 3 ≤ a by omega) with rfl | rfl | rfl | h9
      · rw [k0] at hk; cases hk
      · rw [k1] at hk; cases hk
      · rw [k2] at hk; cases hk
      · rw [kN a h9] at hk; cases hk) (fun a ha hk => by
      rcases (show a = N ∨ a = N + 1 ∨ a = N + 2 ∨ N + 3 ≤ a by omega) with rfl | rfl | rfl | h9
      · rw [cuR_q (by omega)]; exact ⟨p5, k1, p6, k2⟩
      · rw [k1] at hk; cases hk
      · rw [k2] at hk; cases hk
      · rw [kN a h9] at hk; cases hk) (fun j c hj => by
      rw [hpp] at hj
      by_cases h9 : j = 600 + U.length
      · rw [if_pos h9] at hj; cases hj; exact Or.inr ⟨Nat.le_refl _, by rw [k0, pkd5 (by omega)]⟩
      · rw [if_neg h9] at hj; exact Or.inl hj) (fun i j c hc hi hj => by
      have hold : ∀ j, ptr b P j = some c → False := fun j hj => by have := hlt _ _ (h.sd.1 j c hj); omega
      rw [hpp] at hi hj
      by_cases h9 : i = 600 + U.length
      · by_cases h10 : j = 600 + U.length
        · rw [h9, h10]
        · rw [if_neg h10] at hj; exact absurd hj (hold j)
      · rw [if_neg h9] at hi; exact absurd hi (hold i)) (fun j c hj => by rw [hpp, if_neg (fun e => by rw [e, hnone] at hj; cases hj)]; exact hj)
  refine ⟨K2, cup I2 o 11 (nI (U.length + 1)), cuR P2 (b + 15) U.length (some N), ?_, ⟨fun q hq => Nat.lt_of_not_le (fun h9 => hq (kN q h9)), c1, c2, c3, c4, c5, ?_, ?_, ?_⟩⟩
  · have e0 : cnw (K, I, P, N) 5 0 = (K1, (fun q => if q = N then fun _ => 0 else I q), (fun q => if q = N then fun _ => none else P q), N + 1) := rfl
    have ini : fX5_init N fc us il (cnw (K, I, P, N) 5 0) = some ((), (K2, I2, P2, N + 3), 2, 16) := by
      unfold fX5_init
      rw [e0, e_pI (n := 0) (show K1 N = some (5, 0) from if_pos rfl), Option.bind_some]
      have n1 : ∀ z : cS, cna z 8 8 = some (cnw z 8 8) := fun z => if_neg (by decide)
      rw [n1, Option.bind_some]
      have ka : Ka N = some (5, 0) := by
        show (if N = N + 1 then _ else if N = N then _ else _) = _
        rw [if_neg (by omega), if_pos rfl]
      show ause 1 8 (Option.bind (cpR (Ka, Ia, (fun q => if q = N + 1 then fun _ => none else (fun q => if q = N then fun _ => none else P q) q), N + 2) N 5 5 (some (N + 1))) _) = _
      rw [e_pR ka, Option.bind_some, n1, Option.bind_some]
      show ause 1 8 (ause 1 8 (Option.bind (cpR (K2, Ib, (fun q => if q = N + 2 then fun _ => none else P1 q), N + 3) N 5 6 (some (N + 2))) _)) = _
      rw [e_pR k0, Option.bind_some, e_pI k0, Option.bind_some, e_pI k0, Option.bind_some, e_pZ k0 hil, Option.bind_some]
      rfl
    rw [ini]
    show ause 2 16 (Option.bind (cstR (K2, I2, P2, N + 3) (b + 15) 13 (nI U.length) (some N)) _) = _
    have ko : K2 o = some (6, 0) := by rw [kO o hoN, s1]
    rw [e_stR (n := 8) (m := 0) (by rw [kO _ haN, s11]) k0 hl (by omega), Option.bind_some, e_gI ko, Option.bind_some, iO o hoN, h.un.1, nI_1, e_pI ko, Option.bind_some]
    rfl
  · have hfu := h.fu
    refine ⟨by rw [cup_j (by omega), iO o hoN]; exact hfu.1, hfu.2.1, c6, fun i h1 h2 => by rw [hpp, if_neg (by omega)]; exact hfu.2.2.2 i h1 h2⟩
  · have hpk := h.pk
    refine ⟨by rw [cup_j (by omega), iO o hoN]; exact hpk.1, hpk.2.1, c7, fun i h1 h2 => by rw [hpp, if_neg (by omega)]; exact hpk.2.2.2 i h1 h2⟩
  · refine ⟨by rw [cup_s, List.length_append]; rfl, by simp; omega, fun u x hx => ?_, fun u h1 h2 => ?_⟩
    · by_cases hu : u < U.length
      · rw [List.getElem?_append_left hu] at hx
        exact c8 u x hx
      · have hl2 := (List.getElem?_eq_some_iff.mp hx).1
        have hu2 : u = U.length := by simp at hl2; omega
        subst hu2
        rw [List.getElem?_append_right (Nat.le_refl _), Nat.sub_self] at hx
        cases hx
        refine ⟨N, by rw [hpp, if_pos rfl], ?_, ?_, ?_, ?_, ?_, fun k hk => ?_⟩
        · rw [iNN]
          show cup (cup (cup Ib N 2 fc) N 0 us) N 1 il N 0 = us
          rw [cup_j (by omega), cup_s]
        · rw [iNN]; exact cup_s
        · rw [iNN]
          show cup (cup (cup Ib N 2 fc) N 0 us) N 1 il N 2 = fc
          rw [cup_j (by omega), cup_j (by omega), cup_s]
        · rw [iNN]
          show cup (cup (cup Ib N 2 fc) N 0 us) N 1 il N 3 = nI 0
          rw [cup_j (by omega), cup_j (by omega), cup_j (by omega)]
          show (if N = N + 2 then _ else if N = N + 1 then _ else cup _ N 4 (-1) N) 3 = _
          rw [if_neg (by omega), if_neg (by omega), cup_j (by omega), if_pos rfl]
          rfl
        · rw [iNN]
          show cup (cup (cup Ib N 2 fc) N 0 us) N 1 il N 4 = -1
          rw [cup_j (by omega), cup_j (by omega), cup_j (by omega)]
          show (if N = N + 2 then _ else if N = N + 1 then _ else cup _ N 4 (-1) N) 4 = _
          rw [if_neg (by omega), if_neg (by omega)]
          exact cup_s
        · rw [cup_q (by omega), cup_q (by omega)]
          show cup (cup (cup Ib N 2 fc) N 0 us) N 1 il (N + 1) k = 0 ∧ cup (cup (cup Ib N 2 fc) N 0 us) N 1 il (N + 2) k = 0
          rw [cup_q (by omega), cup_q (by omega), cup_q (by omega), cup_q (by omega), cup_q (by omega), cup_q (by omega)]
          constructor
          · have e1 : Ib (N + 1) = fun _ => 0 := by
              show (if N + 1 = N + 2 then _ else if N + 1 = N + 1 then _ else _) = _
              rw [if_neg (by omega), if_pos rfl]
            rw [e1]
          · have e1 : Ib (N + 2) = fun _ => 0 := if_pos rfl
            rw [e1]
    · rw [List.length_append, List.length_singleton] at h1
      rw [hpp, if_neg (by omega)]
      exact h.un.2.2.2 u (by omega) h2
theorem s_unit (o t : Nat) : sim_unit o (Inv o t) (Inv o (t + 1)) := by
  intro z S p0 p1 p2 hp2 hI
  obtain ⟨K, I, P, N0⟩ := z
  obtain ⟨f, M⟩ := S
  refine sim_core (fun e => e = 0 ∨ e = 2) (fun e => if e = 0 then 1 else (if e = 2 then 2 else 0)) hI (fun b T n g R F Q U hR hW => ?_)
  have h20 := hW.1.2.2.2
  have h8 := hR.un.2.1
  have thr : ∀ v : Int32, ¬ v ≤ 0 → fX7_unit_b52 p0 p1 p2 v (f, M) = some (0, upd f 54 v, M) := by
    intro v hv
    unfold fX7_unit_b52
    rw [fails_1 hv, Option.bind_some]
    rfl
  have bad : fX7_unit_b25 p0 p1 p2 (f, M) = some (0, upd f 54 1, M) := by
    unfold fX7_unit_b25 fX7_unit_b26
    rw [if_pos rfl]
    exact thr 1 (by decide)
  rcases ix_em p0 (n := g) (by omega) with ⟨i, hi, rfl⟩ | h1
  · obtain ⟨X, hri, -, -⟩ := hW.sG hi
    have cst : ∀ N, CR o b K I P N T n g R F Q U → fX6_unit o (nI i) p1 p2 (K, I, P, N) = if (p1 &&& (((1 <<< (nI U.length &&& 31)) - 1) ^^^ (-1))) = 0 then
        (if U.length < 8 then ause 1 7 (abind (fX5_init N (nI i) p1 p2 (cnw (K, I, P, N) 5 0)) fun v84 z84 => Option.bind (some (b + 15)) fun q87 => Option.bind (cstR z84 q87 13 (nI U.length) (some N)) fun z87 => Option.bind (cgI z87 o 6 11) fun x90 => Option.bind (cpI z87 o 6 11 (x90 + 1)) fun z95 => some ((.inl (nI U.length) : Int32 ⊕ Nat), z95, 0, 0)) else fX6_unit_b60 o (K, I, P, N))
      else some (.inr 0, (K, I, P, N), 1, 6) := by
      intro N hC
      obtain ⟨c, c1, c2, c3, c4⟩ := atG hC hi hri
      obtain ⟨⟨s1, s2, s3, s4, s5, s6, s7, s8, s9, s10, s11⟩, t1, t2, t3, t4, t5, t6, t7, t8, t9, -⟩ := hC.sf
      unfold fX6_unit
      rw [g62 hC, Option.bind_some, r5 hC, Option.bind_some, c4, Option.bind_some, needRow_t, tb_l, e_gI s1, Option.bind_some, hC.un.1]
      show (if p1 &&& (((1 <<< (nI U.length &&& 31)) - 1) ^^^ -1) = 0 then (if nI U.length < 0 then _ else Option.bind (cgR (K, I, P, N) o 6 10) _) else _) = _
      by_cases hm : p1 &&& (((1 <<< (nI U.length &&& 31)) - 1) ^^^ -1) = 0
      · rw [if_pos hm, if_pos hm, if_neg (nI_pos (by omega)), e_gR s1, Option.bind_some, t9, Option.bind_some, e_len s11, Option.bind_some]
        by_cases hl : U.length < 8
        · rw [if_pos (nI_lt hl (by omega)), if_pos hl]
          rfl
        · rw [if_neg (nI_nlt (by omega) (by omega)), if_neg hl]
      · rw [if_neg hm, if_neg hm]
    have rst : fX7_unit (nI i) p1 p2 (f, M) = if ¬ p1 < 0 ∧ p1 >>> (nI U.length &&& 31) = 0 then fX7_unit_b26 (nI i) p1 p2 1 (f, M) else fX7_unit_b25 (nI i) p1 p2 (f, M) := by
      unfold fX7_unit
      rw [isSig_t hR hi, Option.bind_some, if_neg i10]
      show (if p1 < 0 then _ else if p1 >>> (f 32 &&& 31) = 0 then _ else _) = _
      rw [hR.un.1]
      by_cases h0 : p1 < 0
      · rw [if_pos h0, if_neg (fun h => h.1 h0)]
      · rw [if_neg h0]
        by_cases h1 : p1 >>> (nI U.length &&& 31) = 0
        · rw [if_pos h1, if_pos ⟨h0, h1⟩]
        · rw [if_neg h1, if_neg (fun h => h1 h.2)]
    by_cases hus : ∃ s, s < 2 ^ U.length ∧ p1 = nI s
    · by_cases hl : U.length < 8
      · have hW2 : WF (t + 1) T n g R F Q (U ++ [(p1, p2, nI i, 0, none, (fun _ => 0), fun _ => 0)]) := by
          obtain ⟨a, c, d, e, fu, pk, un⟩ := hW.step
          refine ⟨a, c, d, e, fu, pk, fun u x hx => ?_⟩
          by_cases hu : u < U.length
          · rw [List.getElem?_append_left hu] at hx
            exact un u x hx
          · have hl2 := (List.getElem?_eq_some_iff.mp hx).1
            have hu2 : u = U.length := by simp at hl2; omega
            subst hu2
            rw [List.getElem?_append_right (Nat.le_refl _), Nat.sub_self] at hx
            cases hx
            exact ⟨hus, hp2, ⟨i, hi, rfl⟩, Nat.zero_le _, fun c hc => by cases hc⟩
        refine sim_do (nI U.length) hW2 (fun N hC => ?_) ?_
        · obtain ⟨K2, I2, P2, e1, e2⟩ := newUnit_c hC hl (nI i) p1 p2 hp2
          refine ⟨K2, I2, P2, N + 3, 3, 23, ?_, by omega, by omega, e2⟩
          rw [cst N hC, if_pos ((use_c h8 p1).mpr hus), if_pos hl, e1]
          rfl
        · refine ⟨upd (upd f 54 0) 32 (nI (U.length + 1)), mup (mup (mup M 33 U.length (nI i)) 34 U.length p1) 35 U.length p2, ?_, ?_, by rw [upd_n (by omega), upd_s]⟩
          · rw [rst, if_pos ((use_r h8 p1).mpr hus)]
            unfold fX7_unit_b26
            rw [if_neg i10]
            show (if f 32 = 8 then _ else _) = _
            rw [hR.un.1, show (8 : Int32) = nI 8 from rfl, if_neg (nI_ne (by omega) (by omega) (by omega))]
            unfold fX7_unit_b52
            rw [fails_0, Option.bind_some]
            show Option.bind (rwr (upd f 54 0, M) 33 (upd f 54 0 32) (nI i)) _ = _
            have e32 : upd f 54 0 32 = nI U.length := by rw [upd_n (by omega), hR.un.1]
            rw [e32, r_wr 8 rfl (by omega) (by omega), Option.bind_some]
            show Option.bind (rwr (upd f 54 0, _) 34 (upd f 54 0 32) p1) _ = _
            rw [e32, r_wr 8 rfl (by omega) (by omega), Option.bind_some]
            show Option.bind (rwz (upd f 54 0, _) 35 (upd f 54 0 32) p2) _ = _
            rw [e32, r_wz 8 rfl (by omega) (by omega) (by rcases hp2 with rfl | rfl; exact b2_nar (x := false); exact b2_nar (x := true)), Option.bind_some]
            show some (upd (upd f 54 0) 32 (upd f 54 0 32 + 1) 32 - 1, upd (upd f 54 0) 32 (upd f 54 0 32 + 1), _) = _
            rw [upd_s, e32, nI_1, nI_pred]
          · have hR2 := hR.thr 0
            have hW3 : ∀ j, j < 33 ∨ 35 < j → mup (mup (mup M 33 U.length (nI i)) 34 U.length p1) 35 U.length p2 j = M j := fun j hj => by rw [mup_k (by omega), mup_k (by omega), mup_k (by omega)]
            refine ⟨hR2.ty.congr (upd_n (by omega)) (hW3 _ (by omega)) (hW3 _ (by omega)) (hW3 _ (by omega)), hR2.cn.congr (upd_n (by omega)) (upd_n (by omega)) (hW3 _ (by omega)) (hW3 _ (by omega)), hR2.rw.congr (fun j hj => hW3 j (by omega)), hR2.fu.congr (upd_n (by omega)) (fun j _ h2 => hW3 j (by omega)), hR2.pk.congr (upd_n (by omega)) (hW3 _ (by omega)) (hW3 _ (by omega)), ⟨by rw [upd_s, List.length_append]; rfl, by simp; omega, fun u x hx => ?_, fun u h1 h2 => ?_⟩, (upd_n (by omega)).trans hR2.dp⟩
            · rw [mup_k (show 33 ≠ 35 by omega), mup_k (show 33 ≠ 34 by omega), mup_k (show 34 ≠ 35 by omega), hW3 36 (by omega)]
              by_cases hu : u < U.length
              · rw [List.getElem?_append_left hu] at hx
                obtain ⟨q1, q2, q3, q4, q5⟩ := hR2.un.2.2.1 u x hx
                rw [mup_i (by omega), mup_i (by omega), mup_k (show 34 ≠ 33 by omega), mup_i (by omega), mup_k (show 35 ≠ 34 by omega), mup_k (show 35 ≠ 33 by omega)]
                exact ⟨q1, q2, q3, q4, q5.congr (fun j h1 h2 => hW3 j (by omega))⟩
              · have hl2 := (List.getElem?_eq_some_iff.mp hx).1
                have hu2 : u = U.length := by simp at hl2; omega
                subst hu2
                rw [List.getElem?_append_right (Nat.le_refl _), Nat.sub_self] at hx
                cases hx
                obtain ⟨z1, z2⟩ := hR2.un.2.2.2 U.length (Nat.le_refl _) hl
                rw [mup_s, mup_s, mup_s, z1]
                refine ⟨rfl, rfl, rfl, rfl, ?_⟩
                show mup (mup (mup M 33 U.length (nI i)) 34 U.length p1) 35 U.length p2 37 U.length = 0
                rw [hW3 37 (by omega)]
                exact z2
            · rw [List.length_append, List.length_singleton] at h1
              rw [hW3 36 (by omega), hW3 37 (by omega)]
              exact hR2.un.2.2.2 u (by omega) h2
      · have hl8 : U.length = 8 := by omega
        refine sim_thr 2 0 hR hW (Or.inr rfl) (fun N hC => ?_) ?_
        · rw [cst N hC, if_pos ((use_c h8 p1).mpr hus), if_neg hl]
          rfl
        · rw [rst, if_pos ((use_r h8 p1).mpr hus)]
          unfold fX7_unit_b26
          rw [if_neg i10]
          show (if f 32 = 8 then _ else _) = _
          rw [hR.un.1, hl8, if_pos (show nI 8 = (8 : Int32) from rfl)]
          exact thr 2 (by decide)
    · refine sim_thr 0 0 hR hW (Or.inl rfl) (fun N hC => ?_) ?_
      · rw [cst N hC, if_neg (fun h => hus ((use_c h8 p1).mp h))]
      · rw [rst, if_neg (fun h => hus ((use_r h8 p1).mp h))]
        exact bad
  · refine sim_thr 0 0 hR hW (Or.inl rfl) (fun N hC => ?_) ?_
    · unfold fX6_unit
      rw [g62 hC, Option.bind_some, r5 hC, Option.bind_some, at_no hC.shG h1, Option.bind_some, needRow_f]
      rfl
    · unfold fX7_unit
      rw [isSig_f hR h1, Option.bind_some, if_pos rfl]
      exact bad
end AllocX
