/-! from the one heap of the entry to the class's part and the model's -/
theorem cFlds7 : ∀ k, k < 55 → (cFlds 7).getD k false = !(rInt k) := by decide
theorem rObj_cObj (G : rG) {f F : Nat → Int32} {h : Nat → Option Nat} (h1 : ∀ k, k < 55 → rInt k = true → f k = F k) (h2 : ∀ k, k < 55 → rInt k = false → h k = some (G.2.2.2.2 k)) : cObj 7 f h = rObj G F := by
  show (List.range 55).map _ = (List.range 55).map _
  refine List.map_congr_left (fun k hk => ?_)
  have hk' : k < 55 := List.mem_range.mp hk
  rw [cFlds7 k hk']
  cases hr : rInt k with
  | true => rw [h1 k hk' hr]; rfl
  | false => rw [h2 k hk' hr]; rfl
/-- the model's object o, its arrays at a, holding S, in the heap z -/
def mAt (z : cS) (o : Nat) (a : Nat → Nat) (S : rS) : Prop := (∃ n, z.1 o = some (7, n)) ∧ (∀ k, k < 55 → rInt k = true → z.2.1 o k = S.1 k) ∧ (∀ k, k < 55 → rInt k = false → z.2.2.1 o k = some (a k) ∧ z.1 (a k) = some ((if rZ k then 9 else 8), rLen k) ∧ z.2.1 (a k) = S.2 k) ∧
  (∀ j k, j < 55 → k < 55 → rInt j = false → rInt k = false → a j = a k → j = k)
theorem mAt_rH {G : cG} {z : cS} {o : Nat} {a : Nat → Nat} {S : rS} {H : Heap} (h : cH G z H) (hm : mAt z o a S) : rH (G.1, G.2 8, G.2 9, o, a) S H := by
  obtain ⟨⟨n, h1⟩, h2, h3, h4⟩ := hm
  refine ⟨?_, fun k hk hi => ?_⟩
  · have := cH_obj h h1 (by decide)
    rw [rObj_cObj (G.1, G.2 8, G.2 9, o, a) h2 (fun k hk hi => (h3 k hk hi).1)] at this
    exact this
  · obtain ⟨-, e1, e2⟩ := h3 k hk hi
    have := h.2 _ _ _ e1
    rw [e2] at this
    cases hz : rZ k with
    | true =>
      rw [hz] at this
      show va_at G.1 vwCl (a k, .inl (rTy (G.1, G.2 8, G.2 9, o, a) k, rLen k, .inl (S.2 k))) H
      rw [show rTy (G.1, G.2 8, G.2 9, o, a) k = G.2 9 by simp [rTy, hz]]
      exact this
    | false =>
      rw [hz] at this
      show va_at G.1 vwCl (a k, .inl (rTy (G.1, G.2 8, G.2 9, o, a) k, rLen k, .inl (S.2 k))) H
      rw [show rTy (G.1, G.2 8, G.2 9, o, a) k = G.2 8 by simp [rTy, hz]]
      exact this
theorem mAt_ap {G : cG} {z : cS} {o : Nat} {a : Nat → Nat} {S : rS} (hm : mAt z o a S) : rAp (G.1, G.2 8, G.2 9, o, a) := by
  obtain ⟨⟨n, h1⟩, h2, h3, h4⟩ := hm
  refine ⟨h4, fun k hk hi he => ?_⟩
  obtain ⟨-, e1, -⟩ := h3 k hk hi
  have he' : a k = o := he
  rw [he', h1] at e1
  cases hz : rZ k <;> rw [hz] at e1 <;> cases e1
/-- a part of a heap -/
def zSub (zc z : cS) : Prop := ∀ q x, zc.1 q = some x → z.1 q = some x ∧ zc.2.1 q = z.2.1 q ∧ zc.2.2.1 q = z.2.2.1 q
theorem zSub_cH {G : cG} {zc z : cS} {H : Heap} (hs : zSub zc z) (h : cH G (cwn z H.size) H) : cH G (cwn zc H.size) H := by
  refine ⟨rfl, fun q ci n hq => ?_⟩
  obtain ⟨e1, e2, e3⟩ := hs q (ci, n) hq
  have := h.2 q ci n e1
  show va_at G.1 vwCl (q, cCell G ci n (zc.2.1 q) (zc.2.2.1 q)) H
  rw [e2, e3]
  exact this
