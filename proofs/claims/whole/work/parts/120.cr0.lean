/-! THE BEGINNING: what holds of the class -/
def R00 : Nat → Option RowD := fun k => if k = 100 ∨ k = 220 ∨ k = 308 then some ([], 0, 0) else none
section Cr0
variable {q b : Nat} {I : Nat → Nat → Int32} {P : Nat → Nat → Option Nat}
theorem I6_z (hqb : q < b) (hI : ∀ p, I p = fun _ => 0) {p : Nat} (hp : p < b ∨ b + 3 ≤ p) (j : Nat) : I6 b I p j = 0 := by
  unfold I6
  rw [cup_q (by omega), cup_q (by omega), cup_q (by omega), cup_q (by omega), cup_q (by omega), cup_q (by omega), hI]
theorem CR0 (hqb : q < b) (hI : ∀ p, I p = fun _ => 0) (hP : ∀ p, P p = fun _ => none) : CR q b (mkK q b kl16) (I6 b I) (P6 q b P) (b + 16) [none, none] 0 0 R00 [] [] [] := by
  have kq : mkK q b kl16 q = some (6, 0) := mkK_q
  have ki : ∀ i, mkK q b kl16 (b + i) = kl16[i]? := fun i => mkK_i hqb
  have hz : ∀ p j, (p < b ∨ b + 3 ≤ p) → I6 b I p j = 0 := fun p j hp => I6_z hqb hI hp j
  have pn : ∀ i j, (i = 4 ∨ i = 6 ∨ i = 13 ∨ i = 14 ∨ i = 15) → P6 q b P (b + i) j = none := by
    intro i j hi
    unfold P6
    rcases hi with rfl | rfl | rfl | rfl | rfl <;> (repeat rw [cuR_q (by omega)]) <;> rw [hP]
  have pt : ∀ k a, ptr b (P6 q b P) k = some a → (k = 100 ∧ a = b + 7) ∨ (k = 220 ∧ a = b + 9) ∨ (k = 308 ∧ a = b + 11) := by
    intro k a h
    unfold ptr at h
    by_cases h1 : k < 30
    · rw [if_pos h1, pn 4 _ (by omega)] at h; cases h
    · rw [if_neg h1] at h
      by_cases h2 : k = 100
      · rw [if_pos h2] at h; cases h; exact Or.inl ⟨h2, rfl⟩
      · rw [if_neg h2] at h
        by_cases h3 : 200 ≤ k ∧ k < 220
        · rw [if_pos h3, pn 6 _ (by omega)] at h; cases h
        · rw [if_neg h3] at h
          by_cases h4 : k = 220
          · rw [if_pos h4] at h; cases h; exact Or.inr (Or.inl ⟨h4, rfl⟩)
          · rw [if_neg h4] at h
            by_cases h5 : 300 ≤ k ∧ k < 308
            · rw [if_pos h5, pn 13 _ (by omega)] at h; cases h
            · rw [if_neg h5] at h
              by_cases h6 : k = 308
              · rw [if_pos h6] at h; cases h; exact Or.inr (Or.inr ⟨h6, rfl⟩)
              · rw [if_neg h6] at h
                by_cases h7 : 400 ≤ k ∧ k < 408
                · rw [if_pos h7, pn 13 _ (by omega)] at h; cases h
                · rw [if_neg h7] at h
                  by_cases h8 : 500 ≤ k ∧ k < 510
                  · rw [if_pos h8, pn 14 _ (by omega)] at h; cases h
                  · rw [if_neg h8] at h
                    by_cases h9 : 600 ≤ k ∧ k < 608
                    · rw [if_pos h9, pn 15 _ (by omega)] at h; cases h
                    · rw [if_neg h9] at h; cases h
  have kc : ∀ a x, mkK q b kl16 a = some x → (a = q ∧ x = (6, 0)) ∨ ∃ i, i < 16 ∧ a = b + i ∧ kl16[i]? = some x := fun a x h => mkK_c h
  have row : ∀ i, (i = 7 ∨ i = 9 ∨ i = 11) → P6 q b P (b + i) 0 = some (b + i + 1) ∧ mkK q b kl16 (b + i) = some (2, 0) ∧ mkK q b kl16 (b + i + 1) = some (8, 180) := by
    intro i hi
    rcases hi with rfl | rfl | rfl
    · refine ⟨?_, ki 7, ki 8⟩
      unfold P6
      repeat (first | rw [cuR_s] | rw [cuR_j (by omega)] | rw [cuR_q (by omega)])
    · refine ⟨?_, ki 9, ki 10⟩
      unfold P6
      repeat (first | rw [cuR_s] | rw [cuR_j (by omega)] | rw [cuR_q (by omega)])
    · refine ⟨?_, ki 11, ki 12⟩
      unfold P6
      repeat (first | rw [cuR_s] | rw [cuR_j (by omega)] | rw [cuR_q (by omega)])
  have pp : ∀ k, (k = 100 ∨ k = 220 ∨ k = 308) → ∃ i, (i = 7 ∨ i = 9 ∨ i = 11) ∧ ptr b (P6 q b P) k = some (b + i) := by
    intro k hk
    rcases hk with rfl | rfl | rfl
    · exact ⟨7, by omega, rfl⟩
    · exact ⟨9, by omega, rfl⟩
    · exact ⟨11, by omega, rfl⟩
  refine ⟨fun p hp => ?_, ⟨⟨kq, ki 0, ki 1, ki 2, ki 3, ki 4, ki 5, ki 6, ki 13, ki 14, ki 15⟩, ?_, ?_, ?_, ?_, ?_, ?_, ?_, ?_, ?_, ?_, ?_, ?_, ?_⟩, ⟨fun k a h => ?_, fun j k a h1 h2 => ?_, fun a h => ?_, fun a h => ?_, fun a h => ?_⟩, ⟨cup_s, by decide, fun t x hx => ?_⟩, ⟨hz _ _ (by omega), by omega, hz _ _ (by omega), by omega⟩, fun k d hk => ?_, ⟨hz _ _ (by omega), by decide, fun f x h => by simp at h, fun f _ h8 => ?_⟩, ⟨hz _ _ (by omega), by decide, fun f x h => by simp at h, fun f _ h8 => ?_⟩, ⟨hz _ _ (by omega), by decide, fun f x h => by simp at h, fun f _ h8 => ?_⟩⟩
  · cases hx : mkK q b kl16 p with
    | none => exact absurd hx hp
    | some x => rcases kc p x hx with ⟨h, -⟩ | ⟨i, h1, h2, -⟩ <;> omega
  · unfold P6
    repeat (first | rw [cuR_s] | rw [cuR_j (by omega)] | rw [cuR_q (by omega)])
  · unfold P6
    repeat (first | rw [cuR_s] | rw [cuR_j (by omega)] | rw [cuR_q (by omega)])
  · unfold P6
    repeat (first | rw [cuR_s] | rw [cuR_j (by omega)] | rw [cuR_q (by omega)])
  · unfold P6
    repeat (first | rw [cuR_s] | rw [cuR_j (by omega)] | rw [cuR_q (by omega)])
  · unfold P6
    repeat (first | rw [cuR_s] | rw [cuR_j (by omega)] | rw [cuR_q (by omega)])
  · unfold P6
    repeat (first | rw [cuR_s] | rw [cuR_j (by omega)] | rw [cuR_q (by omega)])
  · unfold P6
    repeat (first | rw [cuR_s] | rw [cuR_j (by omega)] | rw [cuR_q (by omega)])
  · unfold P6
    repeat (first | rw [cuR_s] | rw [cuR_j (by omega)] | rw [cuR_q (by omega)])
  · unfold P6
    repeat (first | rw [cuR_s] | rw [cuR_j (by omega)] | rw [cuR_q (by omega)])
  · unfold P6
    repeat (first | rw [cuR_s] | rw [cuR_j (by omega)] | rw [cuR_q (by omega)])
  · unfold P6
    repeat (first | rw [cuR_s] | rw [cuR_j (by omega)] | rw [cuR_q (by omega)])
  · unfold P6
    repeat (first | rw [cuR_s] | rw [cuR_j (by omega)] | rw [cuR_q (by omega)])
  · unfold P6
    repeat (first | rw [cuR_s] | rw [cuR_j (by omega)] | rw [cuR_q (by omega)])
  · rcases pt k a h with ⟨rfl, rfl⟩ | ⟨rfl, rfl⟩ | ⟨rfl, rfl⟩
    · exact ki 7
    · exact ki 9
    · exact ki 11
  · rcases pt j a h1 with ⟨x1, x2⟩ | ⟨x1, x2⟩ | ⟨x1, x2⟩ <;> rcases pt k a h2 with ⟨y1, y2⟩ | ⟨y1, y2⟩ | ⟨y1, y2⟩ <;> omega
  · rcases kc a _ h with ⟨-, h1⟩ | ⟨i, i1, rfl, i2⟩
    · exact absurd h1 (by decide)
    · rcases (show i = 0 ∨ i = 1 ∨ i = 2 ∨ i = 3 ∨ i = 4 ∨ i = 5 ∨ i = 6 ∨ i = 7 ∨ i = 8 ∨ i = 9 ∨ i = 10 ∨ i = 11 ∨ i = 12 ∨ i = 13 ∨ i = 14 ∨ i = 15 by omega) with rfl | rfl | rfl | rfl | rfl | rfl | rfl | rfl | rfl | rfl | rfl | rfl | rfl | rfl | rfl | rfl <;> first | exact absurd i2 (by decide) | exact ⟨(row _ (by omega)).1, (row _ (by omega)).2.2⟩
  · rcases kc a _ h with ⟨-, h1⟩ | ⟨i, i1, rfl, i2⟩
    · exact absurd h1 (by decide)
    · rcases (show i = 0 ∨ i = 1 ∨ i = 2 ∨ i = 3 ∨ i = 4 ∨ i = 5 ∨ i = 6 ∨ i = 7 ∨ i = 8 ∨ i = 9 ∨ i = 10 ∨ i = 11 ∨ i = 12 ∨ i = 13 ∨ i = 14 ∨ i = 15 by omega) with rfl | rfl | rfl | rfl | rfl | rfl | rfl | rfl | rfl | rfl | rfl | rfl | rfl | rfl | rfl | rfl <;> exact absurd i2 (by decide)
  · rcases kc a _ h with ⟨-, h1⟩ | ⟨i, i1, rfl, i2⟩
    · exact absurd h1 (by decide)
    · rcases (show i = 0 ∨ i = 1 ∨ i = 2 ∨ i = 3 ∨ i = 4 ∨ i = 5 ∨ i = 6 ∨ i = 7 ∨ i = 8 ∨ i = 9 ∨ i = 10 ∨ i = 11 ∨ i = 12 ∨ i = 13 ∨ i = 14 ∨ i = 15 by omega) with rfl | rfl | rfl | rfl | rfl | rfl | rfl | rfl | rfl | rfl | rfl | rfl | rfl | rfl | rfl | rfl <;> exact absurd i2 (by decide)
  · have ht := (List.getElem?_eq_some_iff.mp hx).1
    have ht2 : t = 0 ∨ t = 1 := by simp at ht; omega
    have hx0 : x = none := by
      rcases ht2 with rfl | rfl
      · cases hx; rfl
      · cases hx; rfl
    rw [hx0]
    unfold I6
    rcases ht2 with rfl | rfl
    · refine ⟨?_, ?_⟩
      · repeat (first | rw [cup_s] | rw [cup_j (by omega)] | rw [cup_q (by omega)])
        rfl
      · repeat (first | rw [cup_s] | rw [cup_j (by omega)] | rw [cup_q (by omega)])
        rfl
    · refine ⟨?_, ?_⟩
      · repeat (first | rw [cup_s] | rw [cup_j (by omega)] | rw [cup_q (by omega)])
        rfl
      · repeat (first | rw [cup_s] | rw [cup_j (by omega)] | rw [cup_q (by omega)])
        rfl
  · unfold R00 at hk
    by_cases h : k = 100 ∨ k = 220 ∨ k = 308
    · rw [if_pos h] at hk
      cases hk
      obtain ⟨i, i1, i2⟩ := pp k h
      exact ⟨by omega, b + i, i2, ⟨hz _ _ (by omega), by decide, fun p e he => by simp at he⟩, hz _ _ (by omega), hz _ _ (by omega)⟩
    · rw [if_neg h] at hk
      cases hk
  · rw [ptr4 h8]
    exact pn 13 f (by omega)
  · rw [ptr5 h8]
    exact pn 14 f (by omega)
  · rw [ptr6 h8]
    exact pn 15 f (by omega)
theorem WF0 (t : Nat) : WF t [none, none] 0 0 R00 [] [] [] := by
  have r100 : R00 100 = some ([], 0, 0) := if_pos (by omega)
  have r220 : R00 220 = some ([], 0, 0) := if_pos (by omega)
  have r308 : R00 308 = some ([], 0, 0) := if_pos (by omega)
  refine ⟨⟨⟨Nat.le_refl _, rfl, rfl, fun t x y h => ?_, fun s t x h => ?_⟩, by decide, by decide, by decide⟩, fun k hk => ?_, ⟨fun i hi => by omega, [], r220, Nat.zero_le _, WfG.nil⟩, fun i hi => ?_, fun i x h => by simp at h, fun i x h => by simp at h, fun u x h => by simp at h⟩
  · have ht := (List.getElem?_eq_some_iff.mp h).1
    have ht2 : t = 0 ∨ t = 1 := by simp at ht; omega
    rcases ht2 with rfl | rfl <;> cases h
  · have ht := (List.getElem?_eq_some_iff.mp h).1
    have ht2 : s = 0 ∨ s = 1 := by simp at ht; omega
    rcases ht2 with rfl | rfl <;> cases h
  · have : k = 100 := by omega
    subst this
    exact ⟨[], 0, 0, r100, WfS.nil⟩
  · have : i = 8 := by
      rcases hi with h | h
      · exact absurd h (by simp)
      · exact h
    subst this
    exact ⟨[], 0, 0, r308, WfB.nil⟩
theorem RR0 {f : Nat → Int32} {M : Nat → Nat → Int32} (h0 : f 0 = nI 2) (hf : ∀ j, (j = 4 ∨ j = 10 ∨ j = 17 ∨ j = 29 ∨ j = 32 ∨ j = 41) → f j = 0) (hM : ∀ j i, j < 41 → (j ≠ 0 ∧ j ≠ 4 ∧ j ≠ 10 ∧ j ≠ 17 ∧ j ≠ 29 ∧ j ≠ 32 ∧ j ≠ 28) → M j i = 0) (h28 : ∀ i, i < 240 → M 28 i = -1) : RR f M [none, none] 0 0 R00 [] [] [] := by
  refine ⟨⟨h0, by decide, fun t x hx => ?_⟩, ⟨hf 4 (by omega), by omega, hf 10 (by omega), by omega, fun j _ _ => ⟨hM 11 j (by omega) (by omega), hM 12 j (by omega) (by omega)⟩⟩, fun k d hk => ?_, ⟨hf 17 (by omega), by decide, fun i x h => by simp at h, fun i s _ h2 h3 => h28 _ (by omega)⟩, ⟨hf 29 (by omega), by decide, fun i x h => by simp at h⟩, ⟨hf 32 (by omega), by decide, fun i x h => by simp at h, fun u _ _ => ⟨hM 36 u (by omega) (by omega), hM 37 u (by omega) (by omega)⟩⟩, hf 41 (by omega)⟩
  · have ht := (List.getElem?_eq_some_iff.mp hx).1
    have ht2 : t = 0 ∨ t = 1 := by simp at ht; omega
    have hx0 : x = none := by
      rcases ht2 with rfl | rfl
      · cases hx; rfl
      · cases hx; rfl
    rw [hx0, hM 1 t (by omega) (by omega)]
    refine ⟨?_, fun y z h => by cases h⟩
    show (0 : Int32) = if t < 2 then 0 else 1
    rw [if_pos (by omega)]
  · unfold R00 at hk
    by_cases h : k = 100 ∨ k = 220 ∨ k = 308
    · rw [if_pos h] at hk
      cases hk
      refine ⟨fun h1 => ⟨hM 5 k (by omega) (by omega), by decide, fun p e he => by simp at he⟩, fun h1 h2 => ⟨⟨hM 11 _ (by omega) (by omega), by decide, fun p e he => by simp at he⟩, hM 12 _ (by omega) (by omega)⟩, fun h1 h2 => ⟨hM 18 _ (by omega) (by omega), by decide, fun p e he => by simp at he⟩⟩
    · rw [if_neg h] at hk
      cases hk
end Cr0
