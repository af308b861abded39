section LNewL
variable {G : cG} {X : rX} {Q : State → Prop} {pc : Nat} {lo : List (Option Value)} {st : List Value} {z zc : cS} {kc ks : Nat}
/-- 'new long[1]': from here the law's own world stands -/
theorem le_newL (C : eC G X) {cL : ClassId} (hKL : va_K G.1 vwCl [(cL, .long)] X.2.2.2.2.1) {o : Nat} {a : Nat → Nat} {S : rS} (hsub : zSub zc z) (hm : mAt z o a S) (hd : zc.1 o = none ∧ ∀ k, k < 55 → rInt k = false → zc.1 (a k) = none) (hdg : decode cL_law pc = .ok (.newarray .long, 2)) (hk : kc + 1 ≤ 601024) (hs : ks + 1 ≤ 7293034)
    (kk : ∀ q, (∀ p, z.1 p ≠ none → p < q) → gAW X (lR (G, q, cL) (G.1, G.2 8, G.2 9, o, a) X.2.2.2.2.1.heap.size) (lA X.2.2.2.2.1.heap.size) Q 7 (pc + 2) lo (.ref q :: st) (zc, S, fun _ => 0) (kc + 1) (ks + 1)) : gAW X (eR G X.2.2.2.2.1.heap.size) (lA X.2.2.2.2.1.heap.size) Q 7 pc lo (.int 1 :: st) z kc ks := by
  intro H locs ls h1 h2 h3
  obtain ⟨hH, hb0⟩ := h1
  obtain ⟨C0, hown, hts, hK, hR, -⟩ := C
  have hle : X.2.2.2.2.1.heap.size ≤ H.size := h2.1
  refine va_newaK (atype := .long) (N := 1) C0.1 C0.2.1 (hts _ tAL) rfl hdg rfl (by decide) (by decide) (by decide) (by rw [hR]; exact hk) (by rw [hR]; exact hs) rfl fun H1 cA' e1 z1 o1 hAr hNm => ?_
  have hcA : cA' = cL := by
    have h9 := (hKL.2 0 _ rfl).2
    exact Option.some.inj (hNm.symm.trans h9)
  have hlt : ∀ p, z.1 p ≠ none → p < H.size := fun p hp => cH_lt hH hp
  have hz1 : cH G (cwn z H1.size) H1 := ⟨rfl, fun q ci n hq => by
    have := hH.2 q ci n hq
    exact this.kept (o1 q this.lt)⟩
  have hzn : ∀ p, zc.1 p ≠ none → z.1 p ≠ none := fun p hp => by
    cases hx : zc.1 p with
    | none => exact absurd hx hp
    | some x => rw [(hsub p x hx).1]; exact fun h => by cases h
  have hro : ∀ p, rA (G.1, G.2 8, G.2 9, o, a) p → z.1 p ≠ none ∧ zc.1 p = none := fun p hp => by
    rcases hp with hp | ⟨k, hk1, hk2, hp⟩
    · have hpo : p = o := hp
      obtain ⟨⟨n, q1⟩, -⟩ := hm
      rw [hpo]
      exact ⟨(by rw [q1]; exact fun h => by cases h), hd.1⟩
    · have hpo : p = a k := hp
      rw [hpo]
      exact ⟨(by rw [(hm.2.2.1 k hk1 hk2).2.1]; exact fun h => by cases h), hd.2 k hk1 hk2⟩
  refine kk H.size hlt H1 locs ls ⟨zSub_cH hsub hz1, ?_, mAt_rH hz1 hm, ?_, fun p hp => ⟨(hro p hp).2, Nat.ne_of_lt (hlt p (hro p hp).1)⟩, fun p hp => hb0 p (hzn p hp), hle, fun p hp => hb0 p (hro p hp).1⟩ ⟨Nat.le_trans h2.1 (by omega), fun x q1 q2 => (o1 x (Nat.lt_of_lt_of_le q1 h2.1)).trans (h2.2.1 x q1 q2), h2.2.2⟩ h3
  · show H1[H.size]? = some (vp_cell _ _)
    rw [e1, hcA, vp_cell_l]
    rfl
  · show zc.1 H.size = none
    cases hx : zc.1 H.size with
    | none => rfl
    | some x => exact absurd (hlt H.size (hzn _ (by rw [hx]; exact fun h => by cases h))) (Nat.lt_irrefl _)
end LNewL
