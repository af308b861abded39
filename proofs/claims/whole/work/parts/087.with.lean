/-! WITH: what is made -/
def wE (tk nm ty : Int32) (pl q : Nat) (e : En) : En := (e.1, e.2.1, (if q = pl then ty else if tk = 0 then e.2.2.1 else if e.1 = 2 then e.2.2.1 else if e.2.2.1 = -1 - nm then ty else e.2.2.1), (if tk = 0 then e.2.2.2.1 else if e.1 = 2 then e.2.2.2.1 else if e.2.2.2.1 = -1 - nm then ty else e.2.2.2.1), 0, -1)
def wL (tk nm ty : Int32) (pl : Nat) : Nat → List En → List En
  | _, [] => []
  | q, e :: X => if q = pl ∧ tk ≠ 0 then wL tk nm ty pl (q + 1) X else wE tk nm ty pl q e :: wL tk nm ty pl (q + 1) X
/-- a name isn't told as -100, nor is a type -/
theorem nm_100 {nm : Int32} (h : isNm nm) : (-1 - nm : Int32) ≠ -100 := by
  obtain ⟨i, hi, rfl⟩ := h
  rcases (show i = 0 ∨ i = 1 ∨ i = 2 ∨ i = 3 ∨ i = 4 ∨ i = 5 ∨ i = 6 ∨ i = 7 ∨ i = 8 ∨ i = 9 by omega) with rfl | rfl | rfl | rfl | rfl | rfl | rfl | rfl | rfl | rfl <;> decide
theorem nm_neg {nm : Int32} (h : isNm nm) : (-1 - nm : Int32) < 0 := by
  obtain ⟨i, hi, rfl⟩ := h
  rcases (show i = 0 ∨ i = 1 ∨ i = 2 ∨ i = 3 ∨ i = 4 ∨ i = 5 ∨ i = 6 ∨ i = 7 ∨ i = 8 ∨ i = 9 by omega) with rfl | rfl | rfl | rfl | rfl | rfl | rfl | rfl | rfl | rfl <;> decide
theorem m1_inj {x y : Int32} (h : (-1 - x : Int32) = -1 - y) : x = y := by have := m1m1 x; rw [h, m1m1] at this; exact this.symm
theorem nI_nneg {i : Nat} {nm : Int32} (h31 : i < 2 ^ 31) (hn : isNm nm) : nI i ≠ -1 - nm := fun e => by have := nm_neg hn; rw [← e] at this; exact nI_pos h31 this
section With
variable {o b t : Nat} {K : Nat → Option (Nat × Nat)} {I : Nat → Nat → Int32} {P : Nat → Nat → Option Nat} {N0 N a : Nat} {f : Nat → Int32} {M : Nat → Nat → Int32} {T : List TyD} {n g : Nat} {R : Nat → Option RowD} {F : List FuD} {Q : List (Int32 × Int32)} {U : List UnD} {L X : List En}
theorem wE_tl {tk nm ty : Int32} {pl q : Nat} {m i : Nat} {e : En} (hE : gE m i X q e) (hi : i ≤ 20) (hq : q ≠ pl) (hn : isNm nm) (htk : tk ≠ 0) : wE tk nm ty pl q e = tl (-1 - nm) ty e := by
  obtain ⟨x1, x2, x3, x4, x5, x6⟩ := e
  obtain ⟨-, h1, h2, h3⟩ := hE
  simp only at h1 h2 h3
  subst h1; subst h2
  unfold wE tl
  simp only [if_neg hq, if_neg htk]
  by_cases h2 : x1 = 2
  · subst h2
    rcases h3 with ⟨a, -⟩ | ⟨a, -⟩ | ⟨-, c, j, hj, d⟩
    · exact absurd a i20
    · exact absurd a i21
    · rw [if_pos rfl, if_pos rfl, if_neg (fun e => nI_nneg (by omega) hn (d.symm.trans e)), if_neg (fun e => nm_100 hn (by rw [← e, c]))]
  · rw [if_neg h2, if_neg h2]
theorem wE_id {nm ty : Int32} {pl q : Nat} {m i : Nat} {e : En} (hE : gE m i X q e) : wE 0 nm ty pl q e = (e.1, e.2.1, if q = pl then ty else e.2.2.1, e.2.2.2) := by
  obtain ⟨x1, x2, x3, x4, x5, x6⟩ := e
  obtain ⟨-, h1, h2, h3⟩ := hE
  simp only at h1 h2 h3
  subst h1; subst h2
  unfold wE
  simp only [if_pos]
theorem wL_set {nm ty : Int32} {pl m i : Nat} : ∀ (X Y : List En) (q : Nat), (∀ (r : Nat) (e : En), X[r]? = some e → gE m i Y (q + r) e) → ∀ r, (wL 0 nm ty pl q X)[r]? = (X[r]?).map (fun e => (e.1, e.2.1, if q + r = pl then ty else e.2.2.1, e.2.2.2)) := by
  intro X
  induction X with
  | nil => intro Y q _ r; simp [wL]
  | cons e X ih =>
    intro Y q hE r
    unfold wL
    rw [if_neg (fun h => h.2 rfl)]
    cases r with
    | zero => simp only [List.getElem?_cons_zero, Option.map_some]; rw [wE_id (q := q) (hE 0 e rfl)]; rfl
    | succ r =>
      simp only [List.getElem?_cons_succ]
      rw [ih Y (q + 1) (fun r e he => by have := hE (r + 1) e he; rw [show q + (r + 1) = q + 1 + r by omega] at this; exact this) r, show q + 1 + r = q + (r + 1) by omega]
theorem wL_set0 {nm ty : Int32} {pl m i : Nat} {e : En} (hX : ∀ (r : Nat) (e : En), X[r]? = some e → gE m i X r e) (he : X[pl]? = some e) : wL 0 nm ty pl 0 X = X.set pl (e.1, e.2.1, ty, e.2.2.2) := by
  apply List.ext_getElem?
  intro r
  rw [wL_set X X 0 (fun r e he => by rw [Nat.zero_add]; exact hX r e he) r, List.getElem?_set, Nat.zero_add]
  by_cases h : pl = r
  · subst h
    rw [if_pos rfl, if_pos (List.getElem?_eq_some_iff.mp he).1, he]
    simp only [Option.map_some, if_pos]
  · rw [if_neg h]
    cases X[r]? with
    | none => rfl
    | some x => simp only [Option.map_some]; rw [if_neg (fun e => h e.symm)]
theorem wL_map {tk nm ty : Int32} {pl m i : Nat} (htk : tk ≠ 0) (hn : isNm nm) (hi : i ≤ 20) : ∀ (X Y : List En) (q : Nat), (∀ (r : Nat) (e : En), X[r]? = some e → gE m i Y (q + r) e) → pl < q → wL tk nm ty pl q X = X.map (tl (-1 - nm) ty) := by
  intro X
  induction X with
  | nil => intro Y q _ _; rfl
  | cons e X ih =>
    intro Y q hE hq
    unfold wL
    rw [if_neg (fun h => by omega), List.map_cons, wE_tl (q := q) (hE 0 e rfl) hi (by omega) hn htk, ih Y (q + 1) (fun r e he => by have := hE (r + 1) e he; rw [show q + (r + 1) = q + 1 + r by omega] at this; exact this) (by omega)]
theorem wL_erase {tk nm ty : Int32} {pl m i : Nat} (htk : tk ≠ 0) (hn : isNm nm) (hi : i ≤ 20) : ∀ (X Y : List En) (q : Nat), (∀ (r : Nat) (e : En), X[r]? = some e → gE m i Y (q + r) e) → q ≤ pl → wL tk nm ty pl q X = (X.map (tl (-1 - nm) ty)).eraseIdx (pl - q) := by
  intro X
  induction X with
  | nil => intro Y q _ _; rfl
  | cons e X ih =>
    intro Y q hE hq
    have hE2 : ∀ (r : Nat) (e : En), X[r]? = some e → gE m i Y (q + 1 + r) e := fun r e he => by have := hE (r + 1) e he; rw [show q + (r + 1) = q + 1 + r by omega] at this; exact this
    unfold wL
    by_cases h : q = pl
    · rw [if_pos ⟨h, htk⟩, h, Nat.sub_self, List.map_cons, List.eraseIdx_cons_zero, ← h]
      exact wL_map htk hn hi X Y (q + 1) hE2 (by omega)
    · rw [if_neg (fun hh => h hh.1), List.map_cons, show pl - q = (pl - (q + 1)) + 1 by omega, List.eraseIdx_cons_succ, wE_tl (q := q) (hE 0 e rfl) hi h hn htk, ih Y (q + 1) hE2 (by omega)]
theorem wE_wt {tk nm ty : Int32} {pl q : Nat} {e : En} (h : q = pl → e.1 ≠ 2) : wt R (wE tk nm ty pl q e) = wt R e ∧ pt R (wE tk nm ty pl q e) = pt R e := by
  unfold wt pt
  by_cases h2 : e.1 = 2
  · have hq : q ≠ pl := fun e2 => h e2 h2
    have h3 : (wE tk nm ty pl q e).2.2.1 = e.2.2.1 := by
      unfold wE
      simp only [if_neg hq, if_pos h2, ite_self]
    rw [h3]
    have h4 : (wE tk nm ty pl q e).1 = e.1 := rfl
    rw [h4]
    exact ⟨rfl, rfl⟩
  · have h4 : (wE tk nm ty pl q e).1 = e.1 := rfl
    rw [h4, if_neg h2, if_neg h2, if_neg h2, if_neg h2]
    exact ⟨rfl, rfl⟩
theorem wL_sum {tk nm ty : Int32} {pl : Nat} : ∀ (X : List En) (q : Nat), (∀ e, q ≤ pl → X[pl - q]? = some e → e.1 = 0) → sumW R (wL tk nm ty pl q X) + (if tk ≠ 0 ∧ q ≤ pl ∧ pl < q + X.length then 1 else 0) = sumW R X ∧ sumP R (wL tk nm ty pl q X) = sumP R X := by
  intro X
  induction X with
  | nil => intro q _; rw [if_neg (by simp; try omega)]; exact ⟨rfl, rfl⟩
  | cons e X ih =>
    intro q hE
    have hE2 : ∀ e, q + 1 ≤ pl → X[pl - (q + 1)]? = some e → e.1 = 0 := fun x hx he => hE x (by omega) (by rw [show pl - q = pl - (q + 1) + 1 by omega, List.getElem?_cons_succ]; exact he)
    obtain ⟨i1, i2⟩ := ih (q + 1) hE2
    have hs : sumW R (e :: X) = wt R e + sumW R X := by unfold sumW; simp
    have hp : sumP R (e :: X) = pt R e + sumP R X := by unfold sumP; simp
    unfold wL
    by_cases h : q = pl
    · have he0 : e.1 = 0 := hE e (by omega) (by rw [h, Nat.sub_self]; rfl)
      have hw1 : wt R e = 1 := if_neg (by rw [he0]; exact i02)
      have hp0 : pt R e = 0 := if_neg (by rw [he0]; exact i02)
      rw [if_neg (by omega)] at i1
      by_cases htk : tk ≠ 0
      · rw [if_pos ⟨h, htk⟩, if_pos ⟨htk, by omega, by simp; omega⟩, hs, hp, hw1, hp0, i2]
        exact ⟨by omega, by omega⟩
      · obtain ⟨w1, w2⟩ := wE_wt (R := R) (tk := tk) (nm := nm) (ty := ty) (pl := pl) (q := q) (e := e) (fun _ => by rw [he0]; exact i02)
        have hs2 : ∀ Y, sumW R (wE tk nm ty pl q e :: Y) = wt R e + sumW R Y := fun Y => by unfold sumW; simp [w1]
        have hp2 : ∀ Y, sumP R (wE tk nm ty pl q e :: Y) = pt R e + sumP R Y := fun Y => by unfold sumP; simp [w2]
        rw [if_neg (fun hh => htk hh.2), if_neg (fun hh => htk hh.1), hs, hp, hs2, hp2, i2]
        exact ⟨by omega, rfl⟩
    · obtain ⟨w1, w2⟩ := wE_wt (R := R) (tk := tk) (nm := nm) (ty := ty) (pl := pl) (q := q) (e := e) (fun e => absurd e h)
      have hs2 : ∀ Y, sumW R (wE tk nm ty pl q e :: Y) = wt R e + sumW R Y := fun Y => by unfold sumW; simp [w1]
      have hp2 : ∀ Y, sumP R (wE tk nm ty pl q e :: Y) = pt R e + sumP R Y := fun Y => by unfold sumP; simp [w2]
      rw [if_neg (fun hh => h hh.1), hs, hp, hs2, hp2, i2]
      refine ⟨?_, rfl⟩
      by_cases h5 : tk ≠ 0 ∧ q ≤ pl ∧ pl < q + (e :: X).length
      · rw [if_pos ⟨h5.1, by omega, by have := h5.2.2; simp at this; omega⟩] at i1
        rw [if_pos h5]
        omega
      · rw [if_neg (fun h6 => h5 ⟨h6.1, by omega, by simp; omega⟩)] at i1
        rw [if_neg h5]
        omega
/-! what holds of what is made -/
theorem tOK.map {m p p2 : Nat} {Y : List En} {x : Int32} (h : tOK m X p x) (hm : ∀ (q : Nat) (e : En), q < p → X[q]? = some e → e.1 = 0 → x = -1 - e.2.1 → ∃ r e2, r < p2 ∧ Y[r]? = some e2 ∧ e2.1 = 0 ∧ e2.2.1 = e.2.1) : tOK m Y p2 x := by
  rcases h with h | ⟨q, e, h1, h2, h3, h4⟩
  · exact Or.inl h
  · obtain ⟨r, e2, k1, k2, k3, k4⟩ := hm q e h1 h2 h3 h4
    exact Or.inr ⟨r, e2, k1, k2, k3, by rw [k4]; exact h4⟩
theorem WfG.set {m i pl : Nat} {e : En} {ty : Int32} (h : WfG m i X) (he : X[pl]? = some e) (h0 : e.1 = 0) (hty : ∃ j, j < m ∧ ty = nI j) : WfG m i (X.set pl (e.1, e.2.1, ty, e.2.2.2)) := by
  have hpl := (List.getElem?_eq_some_iff.mp he).1
  have acc : ∀ (r : Nat) (x : En), (X.set pl (e.1, e.2.1, ty, e.2.2.2))[r]? = some x → (r = pl ∧ x = (e.1, e.2.1, ty, e.2.2.2)) ∨ (r ≠ pl ∧ X[r]? = some x) := by
    intro r x hx
    rw [List.getElem?_set] at hx
    by_cases h1 : pl = r
    · rw [if_pos h1, if_pos (by omega)] at hx; cases hx; exact Or.inl ⟨h1.symm, rfl⟩
    · rw [if_neg h1] at hx; exact Or.inr ⟨fun e => h1 e.symm, hx⟩
  have fwd : ∀ (r : Nat) (x : En), X[r]? = some x → ∃ y, (X.set pl (e.1, e.2.1, ty, e.2.2.2))[r]? = some y ∧ y.1 = x.1 ∧ y.2.1 = x.2.1 := by
    intro r x hx
    rw [List.getElem?_set]
    by_cases h1 : pl = r
    · subst h1
      rw [if_pos rfl, if_pos hpl]
      rw [he] at hx
      cases hx
      exact ⟨_, rfl, rfl, rfl⟩
    · rw [if_neg h1]; exact ⟨x, hx, rfl, rfl⟩
  have bk : ∀ (r : Nat) (x : En), (X.set pl (e.1, e.2.1, ty, e.2.2.2))[r]? = some x → ∃ y, X[r]? = some y ∧ y.1 = x.1 ∧ y.2.1 = x.2.1 := by
    intro r x hx
    rcases acc r x hx with ⟨h1, h2⟩ | ⟨h1, h2⟩
    · subst h1; subst h2; exact ⟨e, he, rfl, rfl⟩
    · exact ⟨x, h2, rfl, rfl⟩
  have tm : ∀ {p : Nat} {x : Int32}, tOK m X p x → tOK m (X.set pl (e.1, e.2.1, ty, e.2.2.2)) p x := fun {p x} h => h.map (fun q y hq hy h0 _ => let ⟨z, z1, z2, z3⟩ := fwd q y hy; ⟨q, z, hq, z1, z2.trans h0, z3⟩)
  refine ⟨fun p q x y hp hq h1 h2 => ?_, fun p x hx => ?_⟩
  · obtain ⟨u, u1, u2, u3⟩ := bk p x hp
    obtain ⟨v, v1, v2, v3⟩ := bk q y hq
    exact h.1 p q u v u1 v1 (u2.trans (h1.trans v2.symm)) (u3.trans (h2.trans v3.symm))
  · rcases acc p x hx with ⟨h1, h2⟩ | ⟨h1, h2⟩
    · subst h1; subst h2
      obtain ⟨g1, g2, g3, g4⟩ := h.2 p e he
      rcases g4 with ⟨-, g5, -⟩ | ⟨g5, -⟩ | ⟨g5, -⟩
      · exact ⟨g1, g2, g3, Or.inl ⟨h0, g5, Or.inr (Or.inl hty)⟩⟩
      · exact absurd (h0.symm.trans g5) i01
      · exact absurd (h0.symm.trans g5) i02
    · obtain ⟨g1, g2, g3, g4⟩ := h.2 p x h2
      refine ⟨g1, g2, g3, ?_⟩
      rcases g4 with ⟨a, c, d⟩ | ⟨a, c, d⟩ | g4
      · exact Or.inl ⟨a, c, d.imp_right tm⟩
      · exact Or.inr (Or.inl ⟨a, tm c, d.imp_right tm⟩)
      · exact Or.inr (Or.inr g4)
theorem WfG.tell {m i pl : Nat} {e : En} {ty : Int32} (h : WfG m i X) (hi : i ≤ 20) (he : X[pl]? = some e) (h0 : e.1 = 0) (hty : ∃ j, j < m ∧ ty = nI j) : WfG m i ((X.map (tl (-1 - e.2.1) ty)).eraseIdx pl) := by
  have hpl := (List.getElem?_eq_some_iff.mp he).1
  have hn : isNm e.2.1 := (h.2 pl e he).1
  have acc : ∀ (r : Nat) (x : En), ((X.map (tl (-1 - e.2.1) ty)).eraseIdx pl)[r]? = some x → ∃ q y, X[q]? = some y ∧ x = tl (-1 - e.2.1) ty y ∧ q ≠ pl ∧ r = if q < pl then q else q - 1 := by
    intro r x hx
    rw [eraseIdx_get] at hx
    split at hx
    · rw [List.getElem?_map] at hx
      cases hy : X[r]? with
      | none => rw [hy] at hx; cases hx
      | some y => rw [hy] at hx; cases hx; exact ⟨r, y, hy, rfl, by omega, by rw [if_pos (by omega)]⟩
    · rw [List.getElem?_map] at hx
      cases hy : X[r + 1]? with
      | none => rw [hy] at hx; cases hx
      | some y => rw [hy] at hx; cases hx; exact ⟨r + 1, y, hy, rfl, by omega, by rw [if_neg (by omega)]; omega⟩
  have fwd : ∀ (q : Nat) (y : En), X[q]? = some y → q ≠ pl → ((X.map (tl (-1 - e.2.1) ty)).eraseIdx pl)[if q < pl then q else q - 1]? = some (tl (-1 - e.2.1) ty y) := by
    intro q y hy hq
    rw [eraseIdx_get]
    by_cases h1 : q < pl
    · rw [if_pos h1, if_pos h1, List.getElem?_map, hy]; rfl
    · rw [if_neg h1, if_neg (by omega), show q - 1 + 1 = q by omega, List.getElem?_map, hy]; rfl
  have tm : ∀ {q r : Nat} {x : Int32}, tOK m X q x → q ≠ pl → (r = if q < pl then q else q - 1) → tOK m ((X.map (tl (-1 - e.2.1) ty)).eraseIdx pl) r (if x = -1 - e.2.1 then ty else x) := by
    intro q r x hx hq hr
    by_cases h1 : x = -1 - e.2.1
    · rw [if_pos h1]; exact Or.inl hty
    · rw [if_neg h1]
      refine hx.map (fun s y hs hy hy0 hyx => ?_)
      have hspl : s ≠ pl := fun e2 => by subst e2; rw [he] at hy; cases hy; exact h1 hyx
      refine ⟨_, _, ?_, fwd s y hy hspl, hy0, rfl⟩
      subst hr
      by_cases h3 : s < pl <;> by_cases h4 : q < pl
      · rw [if_pos h3, if_pos h4]; exact hs
      · rw [if_pos h3, if_neg h4]; omega
      · omega
      · rw [if_neg h3, if_neg h4]; omega
  refine ⟨fun p q x y hp hq h1 h2 => ?_, fun p x hx => ?_⟩
  · obtain ⟨u, u0, u1, rfl, u3, u4⟩ := acc p x hp
    obtain ⟨v, v0, v1, rfl, v3, v4⟩ := acc q y hq
    have := h.1 u v u0 v0 u1 v1 h1 h2
    subst this
    rw [u4, v4]
  · obtain ⟨q, y, hy, rfl, hq, hr⟩ := acc p x hx
    obtain ⟨g1, g2, g3, g4⟩ := h.2 q y hy
    have h100 : (if (-100 : Int32) = -1 - e.2.1 then ty else -100) = -100 := if_neg (fun e2 => nm_100 hn e2.symm)
    refine ⟨g1, g2, g3, ?_⟩
    rcases g4 with ⟨a, c, d⟩ | ⟨a, c, d⟩ | ⟨a, c, j, hj, d⟩
    · refine Or.inl ⟨a, ?_, ?_⟩
      · show (if y.2.2.2.1 = -1 - e.2.1 then ty else y.2.2.2.1) = -100
        rw [c]; exact h100
      · show (if y.2.2.1 = -1 - e.2.1 then ty else y.2.2.1) = -100 ∨ tOK m _ p (if y.2.2.1 = -1 - e.2.1 then ty else y.2.2.1)
        rcases d with d | d
        · rw [d]; exact Or.inl h100
        · exact Or.inr (tm d hq hr)
    · refine Or.inr (Or.inl ⟨a, tm c hq hr, ?_⟩)
      show (if y.2.2.2.1 = -1 - e.2.1 then ty else y.2.2.2.1) = -100 ∨ tOK m _ p (if y.2.2.2.1 = -1 - e.2.1 then ty else y.2.2.2.1)
      rcases d with d | d
      · rw [d]; exact Or.inl h100
      · exact Or.inr (tm d hq hr)
    · refine Or.inr (Or.inr ⟨a, ?_, j, hj, ?_⟩)
      · show (if y.2.2.2.1 = -1 - e.2.1 then ty else y.2.2.2.1) = -100
        rw [c]; exact h100
      · show (if y.2.2.1 = -1 - e.2.1 then ty else y.2.2.1) = nI j
        rw [d]; exact if_neg (nI_nneg (by omega) hn)
end With
