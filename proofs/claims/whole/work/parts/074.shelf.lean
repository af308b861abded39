/-! THE CLASS'S SHELVES AND TYPES -/
theorem cbo_1 {β : Type} {x : Option β} : cbo 1 x = x := if_pos rfl
theorem cbo_0 {β : Type} {x : Option β} : cbo 0 x = x := if_pos rfl
section CSh
variable {o b : Nat} {K : Nat → Option (Nat × Nat)} {I J : Nat → Nat → Int32} {P : Nat → Nat → Option Nat} {N : Nat} {T : List TyD} {n g : Nat} {R : Nat → Option RowD} {F : List FuD} {Q : List (Int32 × Int32)} {U : List UnD} {k a : Nat} {d : RowD}
/-- more cells, the old ones as they were -/
theorem CR.grow (h : CR o b K I P N T n g R F Q U) {K2 : Nat → Option (Nat × Nat)} {I2 : Nat → Nat → Int32} {P2 : Nat → Nat → Option Nat} {N2 : Nat} (hN : ∀ q, K2 q ≠ none → q < N2) (hI : ∀ q x, K q = some x → I2 q = I q) (hF : ShF o b K2 P2) (hD : ShD b K2 P2) (hp : ∀ j c, ptr b P j = some c → ptr b P2 j = some c) (hq : ∀ j, 400 ≤ j → ptr b P2 j = ptr b P j) : CR o b K2 I2 P2 N2 T n g R F Q U := by
  obtain ⟨⟨s1, s2, s3, s4, s5, s6, s7, s8, s9, s10, s11⟩, -⟩ := h.sf
  have jo := hI _ _ s1
  refine ⟨hN, hF, hD, h.ty.congr (hI _ _ s2) (hI _ _ s3) (hI _ _ s4), h.cn.congr (hI _ _ s5) (hI _ _ s7), ?_, ?_, ?_, ?_⟩
  · intro k d hk
    obtain ⟨a, h1, h2, h3, h4⟩ := h.row hk
    exact ⟨h1, a, hp _ _ h2, h4.congr (hI _ _ h3.1) (hI _ _ h3.2.2)⟩
  · have := h.fu
    refine ⟨by rw [jo]; exact this.1, this.2.1, fun f x hx => ?_, fun f hf h8 => by rw [hq _ (by omega)]; exact this.2.2.2 f hf h8⟩
    obtain ⟨a, h1, h2⟩ := this.2.2.1 f x hx
    have hl := (List.getElem?_eq_some_iff.mp hx).1
    have h8 := this.2.1
    have h3 := h.sd.1 _ _ h1
    rw [pkd0 (by omega) (by omega)] at h3
    obtain ⟨-, -, -, h4⟩ := h.sd.2.2.2.1 a h3
    exact ⟨a, hp _ _ h1, h2.congr (hI _ _ h3) (hI _ _ h4)⟩
  · have := h.pk
    refine ⟨by rw [jo]; exact this.1, this.2.1, fun f x hx => ?_, fun f hf h8 => by rw [hq _ (by omega)]; exact this.2.2.2 f hf h8⟩
    obtain ⟨a, h1, h2⟩ := this.2.2.1 f x hx
    exact ⟨a, hp _ _ h1, h2.congr (hI _ _ (h.sd.1 _ _ h1))⟩
  · have := h.un
    refine ⟨by rw [jo]; exact this.1, this.2.1, fun f x hx => ?_, fun f hf h8 => by rw [hq _ (by omega)]; exact this.2.2.2 f hf h8⟩
    obtain ⟨a, h1, h2⟩ := this.2.2.1 f x hx
    have h3 := h.sd.1 _ _ h1
    rw [pkd5 (by omega)] at h3
    obtain ⟨-, h4, -, h5⟩ := h.sd.2.2.2.2 a h3
    exact ⟨a, hp _ _ h1, h2.congr (hI _ _ h3) (hI _ _ h4) (hI _ _ h5)⟩
/-- a new row for a role that has none -/
theorem CR.alloc (h : CR o b K I P N T n g R F Q U) {K2 : Nat → Option (Nat × Nat)} {I2 : Nat → Nat → Int32} {P2 : Nat → Nat → Option Nat} {arr cap : Nat} (ha : K arr = some (12, cap)) (hk : k < 400) (hK : ∀ q, q < N → K2 q = K q) (hK0 : K2 N = some (2, 0)) (hK1 : K2 (N + 1) = some (8, 180)) (hK2 : ∀ q, N + 2 ≤ q → K2 q = none) (hI : ∀ q, q < N → I2 q = I q) (hP : ∀ q, q < N → q ≠ arr → P2 q = P q) (hP0 : P2 N 0 = some (N + 1)) (hr : ∀ j, ptr b P2 j = if j = k then some N else ptr b P j) (hn : ptr b P k = none) : CR o b K2 I2 P2 (N + 2) T n g R F Q U := by
  have hlt : ∀ q x, K q = some x → q < N := fun q x hx => h.fr q (by rw [hx]; exact fun e => by cases e)
  have hKo : ∀ q x, K q = some x → K2 q = some x := fun q x hx => by rw [hK q (hlt q x hx), hx]
  have hPo : ∀ q x, K q = some x → x.1 ≠ 12 → P2 q = P q := fun q x hx h12 => hP q (hlt q x hx) (fun e => by subst e; rw [ha] at hx; cases hx; exact h12 rfl)
  have back : ∀ q x, K2 q = some x → x ≠ (2, 0) → x ≠ (8, 180) → K q = some x := fun q x hx h1 h2 => by
    rcases (show q < N ∨ q = N ∨ q = N + 1 ∨ N + 2 ≤ q by omega) with h3 | h3 | h3 | h3
    · rw [← hK q h3]; exact hx
    · subst h3; rw [hK0] at hx; cases hx; exact absurd rfl h1
    · subst h3; rw [hK1] at hx; cases hx; exact absurd rfl h2
    · rw [hK2 q h3] at hx; cases hx
  obtain ⟨⟨s1, s2, s3, s4, s5, s6, s7, s8, s9, s10, s11⟩, t⟩ := h.sf
  refine h.grow (fun q hq => ?_) (fun q x hx => hI q (hlt q x hx)) ⟨⟨hKo _ _ s1, hKo _ _ s2, hKo _ _ s3, hKo _ _ s4, hKo _ _ s5, hKo _ _ s6, hKo _ _ s7, hKo _ _ s8, hKo _ _ s9, hKo _ _ s10, hKo _ _ s11⟩, by rw [hPo o _ s1 (by decide), hPo b _ s2 (by decide), hPo (b + 3) _ s5 (by decide), hPo (b + 5) _ s7 (by decide)]; exact t⟩ ⟨?_, ?_, ?_, ?_, ?_⟩ ?_ ?_
  · refine Nat.lt_of_not_le (fun h2 => hq (hK2 q h2))
  · intro j c hj
    rw [hr] at hj
    by_cases hjk : j = k
    · rw [if_pos hjk] at hj
      cases hj
      rw [hK0, hjk, pkd2 hk]
    · rw [if_neg hjk] at hj
      exact hKo _ _ (h.sd.1 j c hj)
  · intro i j c hi hj
    rw [hr] at hi hj
    have hlt2 : ∀ j c, ptr b P j = some c → c < N := fun j c hj => hlt _ _ (h.sd.1 j c hj)
    by_cases h1 : i = k <;> by_cases h2 : j = k
    · rw [h1, h2]
    · rw [if_pos h1] at hi; rw [if_neg h2] at hj; cases hi; exact absurd (hlt2 j _ hj) (Nat.lt_irrefl _)
    · rw [if_neg h1] at hi; rw [if_pos h2] at hj; cases hj; exact absurd (hlt2 i _ hi) (Nat.lt_irrefl _)
    · rw [if_neg h1] at hi; rw [if_neg h2] at hj; exact h.sd.2.1 i j c hi hj
  · intro a ha2
    rcases (show a < N ∨ a = N ∨ a = N + 1 ∨ N + 2 ≤ a by omega) with h3 | h3 | h3 | h3
    · rw [hK a h3] at ha2
      obtain ⟨q1, q2⟩ := h.sd.2.2.1 a ha2
      exact ⟨by rw [hPo a _ ha2 (by decide)]; exact q1, hKo _ _ q2⟩
    · subst h3; exact ⟨hP0, hK1⟩
    · subst h3; rw [hK1] at ha2; cases ha2
    · rw [hK2 a h3] at ha2; cases ha2
  · intro a ha2
    have ha3 := back a _ ha2 (by decide) (by decide)
    obtain ⟨q1, q2, q3, q4⟩ := h.sd.2.2.2.1 a ha3
    rw [hPo a _ ha3 (by decide)]
    exact ⟨q1, hKo _ _ q2, q3, hKo _ _ q4⟩
  · intro a ha2
    have ha3 := back a _ ha2 (by decide) (by decide)
    obtain ⟨q1, q2, q3, q4⟩ := h.sd.2.2.2.2 a ha3
    rw [hPo a _ ha3 (by decide)]
    exact ⟨q1, hKo _ _ q2, q3, hKo _ _ q4⟩
  · intro j c hj
    rw [hr, if_neg (fun e => by rw [e, hn] at hj; cases hj)]
    exact hj
  · intro j hj
    rw [hr, if_neg (by omega)]
/-- a shelf: its object, its row of rows, how many it may hold, how many it counts, its first role -/
def Shf (b : Nat) (K : Nat → Option (Nat × Nat)) (I : Nat → Nat → Int32) (P : Nat → Nat → Option Nat) (s arr cap cnt rb : Nat) : Prop := K s = some (3, 0) ∧ P s 0 = some arr ∧ K arr = some (12, cap) ∧ I s 1 = nI cnt ∧ cnt ≤ cap ∧ cap ≤ 30 ∧ rb + cap ≤ 300 ∧ (∀ k, k < cap → ptr b P (rb + k) = P arr k) ∧ ∀ (P2 : Nat → Nat → Option Nat) (k : Nat) (x : Option Nat), k < cap → (∀ q, q = b + 4 ∨ q = b + 6 ∨ q = b + 13 ∨ q = b + 14 ∨ q = b + 15 → P2 q = cuR P arr k x q) → ∀ j, ptr b P2 j = if j = rb + k then x else ptr b P j
theorem CR.shS (h : CR o b K I P N T n g R F Q U) : Shf b K I P (b + 3) (b + 4) 30 n 0 := by
  obtain ⟨⟨s1, s2, s3, s4, s5, s6, s7, s8, s9, s10, s11⟩, t1, t2, t3, t4, t5, t6, t7, t8, t9, t10, t11, t12, t13⟩ := h.sf
  refine ⟨s5, t12, s6, h.cn.1, h.cn.2.1, by omega, by omega, fun k hk => ?_, fun P2 k x hk hP j => ?_⟩
  · unfold ptr; rw [if_pos (by omega), Nat.zero_add]
  · have e1 := hP (b + 4) (by omega)
    have e2 := hP (b + 6) (by omega)
    have e3 := hP (b + 13) (by omega)
    have e4 := hP (b + 14) (by omega)
    have e5 := hP (b + 15) (by omega)
    rw [cuR_q (by omega)] at e2 e3 e4 e5
    unfold ptr
    rw [e2, e3, e4, e5, e1]
    by_cases hj : j < 30
    · rw [if_pos hj, if_pos hj]
      by_cases hjk : j = k
      · rw [hjk, cuR_s, if_pos (by omega)]
      · rw [cuR_j hjk, if_neg (by omega)]
    · rw [if_neg hj, if_neg hj, if_neg (show ¬ j = 0 + k by omega)]
theorem CR.shG (h : CR o b K I P N T n g R F Q U) : Shf b K I P (b + 5) (b + 6) 20 g 200 := by
  obtain ⟨⟨s1, s2, s3, s4, s5, s6, s7, s8, s9, s10, s11⟩, t1, t2, t3, t4, t5, t6, t7, t8, t9, t10, t11, t12, t13⟩ := h.sf
  refine ⟨s7, t13, s8, h.cn.2.2.1, h.cn.2.2.2, by omega, by omega, fun k hk => ?_, fun P2 k x hk hP j => ?_⟩
  · unfold ptr; rw [if_neg (by omega), if_neg (by omega), if_pos (by omega), Nat.add_sub_cancel_left]
  · have e1 := hP (b + 4) (by omega)
    have e2 := hP (b + 6) (by omega)
    have e3 := hP (b + 13) (by omega)
    have e4 := hP (b + 14) (by omega)
    have e5 := hP (b + 15) (by omega)
    rw [cuR_q (by omega)] at e1 e3 e4 e5
    unfold ptr
    rw [e1, e3, e4, e5, e2]
    by_cases h1 : j < 30
    · rw [if_pos h1, if_pos h1, if_neg (show ¬ j = 200 + k by omega)]
    · rw [if_neg h1, if_neg h1]
      by_cases h2 : j = 100
      · rw [if_pos h2, if_pos h2, if_neg (show ¬ j = 200 + k by omega)]
      · rw [if_neg h2, if_neg h2]
        by_cases h3 : 200 ≤ j ∧ j < 220
        · rw [if_pos h3, if_pos h3]
          by_cases hjk : j = 200 + k
          · rw [hjk, Nat.add_sub_cancel_left, cuR_s, if_pos rfl]
          · rw [cuR_j (by omega), if_neg hjk]
        · rw [if_neg h3, if_neg h3, if_neg (show ¬ j = 200 + k by omega)]
theorem at_ok {s arr cap cnt rb : Nat} (h : Shf b K I P s arr cap cnt rb) {i : Nat} (hi : i < cnt) : fX3_at s (nI i) (K, I, P, N) = some (ptr b P (rb + i), K, I, P, N) := by
  obtain ⟨h1, h2, h3, h4, h5, h6, -, h7, -⟩ := h
  unfold fX3_at
  rw [if_neg (nI_pos (by omega)), e_gI h1, Option.bind_some, h4, if_neg (nI_ge hi (by omega)), e_gR h1, Option.bind_some, h2, Option.bind_some, e_len h3, Option.bind_some, if_neg (nI_ge (by omega) (by omega)), Option.bind_some, Option.bind_some, e_ldR h3 (by omega) (by omega), h7 i (by omega)]
  rfl
theorem at_no {s arr cap cnt rb : Nat} (h : Shf b K I P s arr cap cnt rb) {x : Int32} (hx : x < 0 ∨ nI cnt ≤ x) : fX3_at s x (K, I, P, N) = some (none, K, I, P, N) := by
  obtain ⟨h1, h2, h3, h4, h5, h6, -⟩ := h
  unfold fX3_at
  rcases hx with hx | hx
  · rw [if_pos hx]; rfl
  · by_cases h0 : x < 0
    · rw [if_pos h0]; rfl
    · rw [if_neg h0, e_gI h1, Option.bind_some, h4, if_pos hx]; rfl
end CSh
