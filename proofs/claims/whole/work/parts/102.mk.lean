/-! MAKING A STRUCT BY A SIGNATURE: what both make -/
abbrev MkS := List TyD × List (List En)
def mkX (X : Option (List En)) (e : En) : Option En := match X with
  | none => some (e.1, e.2.1, -1, -100, 0, -1)
  | some X => match plc X e.1 e.2.1 with
    | none => none
    | some p => X[p]?
def mkU (X : Option (List En)) (x : En) : Option Nat := match X with
  | none => none
  | some _ => some (iN x.2.2.1)
def mkT (vw : Bool) (L : List En) (x e : En) (T : List TyD) : Nat × List TyD :=
  if e.2.2.1 = -100 then (if vw = true then (iN x.2.2.1, T) else (T.length, T ++ [none]))
  else if e.2.2.2.1 = -100 then (iN (tyO L e.2.2.1), T)
  else (arN T (tyO L e.2.2.1) (tyO L e.2.2.2.1), arT T (tyO L e.2.2.1) (tyO L e.2.2.2.1))
def mkN (rec : Option Nat → Nat → MkS → MkS) (vw : Bool) (n0 : Nat) (X : Option (List En)) (x e : En) (L : List En) (st : MkS) : Nat × MkS :=
  if e.1 = 2 then (n0 + (rec (mkU X x) (iN e.2.2.1) st).2.length - 1, rec (mkU X x) (iN e.2.2.1) st) else ((mkT vw L x e st.1).1, (mkT vw L x e st.1).2, st.2)
def mkL (rec : Option Nat → Nat → MkS → MkS) (vw : Bool) (n0 : Nat) (X : Option (List En)) : List En → List En → MkS → List En × MkS
  | [], L, st => (L, st)
  | e :: Y, L, st => match mkX X e with
    | none => (L, st)
    | some x => mkL rec vw n0 X Y (L ++ [(e.1, e.2.1, nI (mkN rec vw n0 X x e L st).1, -100, x.2.2.2.2.1, -1)]) (mkN rec vw n0 X x e L st).2
def mk (vw : Bool) (n0 : Nat) (R : Nat → Option RowD) : Nat → Option Nat → Nat → MkS → MkS
  | 0, _, _, st => st
  | k + 1, s, u, st => ((mkL (mk vw n0 R k) vw n0 (s.map (stR R)) (sgL R u) [] st).2.1, (mkL (mk vw n0 R k) vw n0 (s.map (stR R)) (sgL R u) [] st).2.2 ++ [(mkL (mk vw n0 R k) vw n0 (s.map (stR R)) (sgL R u) [] st).1])
def gdS (n0 m : Nat) (st : MkS) : Prop := TyW st.1 ∧ m ≤ st.1.length ∧ st.1.length ≤ 390 ∧ ∀ (j : Nat) (L : List En), st.2[j]? = some L → WfS st.1.length (n0 + j) L
def gdU (vw : Bool) (R : Nat → Option RowD) (n0 g : Nat) (s : Option Nat) (u : Nat) : Prop := u < g ∧ (vw = true → s ≠ none) ∧ ∀ s', s = some s' → s' < n0 ∧ ∃ k fit, u < k ∧ mf fit (stR R) R k s' u = 0
def gdW (st st' : MkS) (w p : Nat) : Prop := st.1 <+: st'.1 ∧ st'.1.length ≤ st.1.length + w ∧ ∃ E, st'.2 = st.2 ++ E ∧ E.length = p
def gdL (Y L : List En) (n0 q : Nat) (st : MkS) : Prop := L.length = q ∧ (∀ (r : Nat) (e y : En), L[r]? = some e → Y[r]? = some y → e.1 = y.1 ∧ e.2.1 = y.2.1) ∧ WfS st.1.length (n0 + st.2.length) L
/-- what is fixed while structs are made -/
def gdR (R : Nat → Option RowD) (n0 g m : Nat) : Prop := g ≤ 20 ∧ n0 ≤ 95 ∧ (∀ s, s < n0 → WfS m n0 (stR R s)) ∧ ∀ i, i < g → WfG m i (sgL R i) ∧ wOf R i = sumW R (sgL R i) ∧ pOf R i = sumP R (sgL R i) ∧ sumW R (sgL R i) ≤ 60
/-- what is known of a spec when its turn has come -/
def gdE (vw : Bool) (R : Nat → Option RowD) (n0 g m u : Nat) (X : Option (List En)) (x e : En) (L : List En) (T : List TyD) : Prop :=
  mkX X e = some x ∧ isNm e.2.1 ∧ plc L e.1 e.2.1 = none ∧ (e.1 ≠ 1 → x.2.2.2.2.1 = 0) ∧ ((e.1 = 2 ∧ ∃ j, j < u ∧ e.2.2.1 = nI j ∧ gdU vw R n0 g (mkU X x) j ∧ ∀ X2, X = some X2 → ∃ i, i < n0 ∧ x.2.2.1 = nI i) ∨ (e.1 = 0 ∧ e.2.2.1 = -100 ∧ e.2.2.2.1 = -100 ∧ (vw = true → ∃ i, i < m ∧ x.2.2.1 = nI i)) ∨ ((e.1 = 0 ∨ e.1 = 1) ∧ e.2.2.1 ≠ -100 ∧ (∃ j, j < T.length ∧ tyO L e.2.2.1 = nI j ∧ mnt L e.2.2.1 = nI j) ∧ (e.2.2.2.1 = -100 ∨ (e.1 = 1 ∧ e.2.2.2.1 ≠ -100 ∧ ∃ j, j < T.length ∧ tyO L e.2.2.2.1 = nI j ∧ mnt L e.2.2.2.1 = nI j))))
theorem arT_pre {T : List TyD} {x y : Int32} : T <+: arT T x y := by
  unfold arT
  cases fArr T x y with
  | some i => exact List.prefix_refl T
  | none => exact List.prefix_append T _
theorem arT_le1 {T : List TyD} {x y : Int32} : (arT T x y).length ≤ T.length + 1 := by
  unfold arT
  cases fArr T x y with
  | some i => exact Nat.le_succ _
  | none => show (T ++ [some (x, y)]).length ≤ _; simp
theorem arN_lt2 {T : List TyD} {x y : Int32} : arN T x y < (arT T x y).length := by
  unfold arN arT
  cases h : fArr T x y with
  | some i => exact (List.findIdx?_eq_some_iff_getElem.mp h).1
  | none => show T.length < (T ++ [some (x, y)]).length; simp
theorem mfL_0 {rec : Nat → Nat → Int32} {fit : En → En → Bool} {X : List En} : ∀ Y : List En, (∀ e, e ∈ Y → (e.1 = 0 ∨ e.1 = 1 ∨ e.1 = 2) ∧ isNm e.2.1) → (∀ (p : Nat) (kd nm : Int32), plc X kd nm = some p → ∃ m, X[p]? = some m) → mfL rec fit X Y = 0 → ∀ e, e ∈ Y → ∃ p m, plc X e.1 e.2.1 = some p ∧ X[p]? = some m ∧ (e.1 = 2 → rec (iN m.2.2.1) (iN e.2.2.1) = 0) := by
  intro Y
  induction Y with
  | nil => intro _ _ _ e he; cases he
  | cons y Y ih =>
    intro hk hX h0 e he
    have hy := hk y (List.mem_cons_self ..)
    unfold mfL at h0
    cases hp : plc X y.1 y.2.1 with
    | none => rw [hp] at h0; exact absurd h0 (mis_pos hy.1 hy.2 (Or.inl rfl)).2
    | some p =>
      obtain ⟨m, hm⟩ := hX p _ _ hp
      rw [hp] at h0
      have h1 : (match X[p]? with
        | none => 0
        | some m => if (if y.1 = 2 then decide (rec (iN m.2.2.1) (iN y.2.2.1) = 0) else fit m y) = true then mfL rec fit X Y else 10 * (2 * y.1 + 2) + y.2.1) = (0 : Int32) := h0
      rw [hm] at h1
      have h2 : (if (if y.1 = 2 then decide (rec (iN m.2.2.1) (iN y.2.2.1) = 0) else fit m y) = true then mfL rec fit X Y else 10 * (2 * y.1 + 2) + y.2.1) = 0 := h1
      by_cases hc : (if y.1 = 2 then decide (rec (iN m.2.2.1) (iN y.2.2.1) = 0) else fit m y) = true
      · rw [if_pos hc] at h2
        rcases List.mem_cons.mp he with rfl | h3
        · refine ⟨p, m, hp, hm, fun h => ?_⟩
          rw [if_pos h] at hc
          exact of_decide_eq_true hc
        · exact ih (fun e he => hk e (List.mem_cons_of_mem _ he)) hX h2 e h3
      · rw [if_neg hc] at h2
        exact absurd h2 (mis_pos hy.1 hy.2 (Or.inr rfl)).2
theorem sumW_drop {R : Nat → Option RowD} {Y : List En} {q : Nat} (h : q < Y.length) : sumW R (Y.drop q) = wt R Y[q] + sumW R (Y.drop (q + 1)) ∧ sumP R (Y.drop q) = pt R Y[q] + sumP R (Y.drop (q + 1)) := by
  rw [List.drop_eq_getElem_cons h]
  unfold sumW sumP
  simp only [List.map_cons, List.sum_cons, and_self]
section Mk
variable {vw : Bool} {R : Nat → Option RowD} {n0 g m : Nat}
/-- what is known of a spec -/
theorem mk_E (hR : gdR R n0 g m) {s : Option Nat} {u : Nat} (hu : gdU vw R n0 g s u) {st : MkS} (hst : gdS n0 m st) {L : List En} {q : Nat} (hL : gdL (sgL R u) L n0 q st) (hq : q < (sgL R u).length) : ∃ x, gdE vw R n0 g m u (s.map (stR R)) x (sgL R u)[q] L st.1 := by
  obtain ⟨h20, h95, hS, hG⟩ := hR
  obtain ⟨hY, -, -, -⟩ := hG u hu.1
  obtain ⟨hw, hm, h390, hD⟩ := hst
  obtain ⟨l1, l2, l3⟩ := hL
  have hg := List.getElem?_eq_getElem hq
  generalize (sgL R u)[q] = e at *
  have hE := hY.2 q e hg
  have hkd : ∀ y, y ∈ sgL R u → (y.1 = 0 ∨ y.1 = 1 ∨ y.1 = 2) ∧ isNm y.2.1 := fun y hy => by
    obtain ⟨p, hp⟩ := List.mem_iff_getElem?.mp hy
    exact (hY.2 p y hp).kind
  have hno : plc L e.1 e.2.1 = none := by
    cases hp : plc L e.1 e.2.1 with
    | none => rfl
    | some p =>
      obtain ⟨x, x1, x2, x3⟩ := plc_some hp
      have hpl := (List.getElem?_eq_some_iff.mp x1).1
      obtain ⟨y, hy⟩ : ∃ y, (sgL R u)[p]? = some y := ⟨_, List.getElem?_eq_getElem (by omega)⟩
      obtain ⟨y1, y2⟩ := l2 p x y x1 hy
      have := hY.1 p q y e hy hg (by rw [← y1, x2]) (by rw [← y2, x3])
      omega
  have ht : tells L (sgL R u) q := fun r y hr hy h0 => by
    obtain ⟨x, hx⟩ : ∃ x, L[r]? = some x := ⟨_, List.getElem?_eq_getElem (by omega)⟩
    obtain ⟨y1, y2⟩ := l2 r x y hx hy
    intro hp
    exact plc_none hp x (List.mem_of_getElem? hx) ⟨by rw [y1, h0], y2⟩
  have told : ∀ x, tOK m (sgL R u) q x → x ≠ -100 ∧ ∃ j, j < st.1.length ∧ tyO L x = nI j ∧ mnt L x = nI j := fun x hx => by
    obtain ⟨j, j1, j2, j3, j4, j5⟩ := told_ok l3 (by omega) (by omega) hY ht hx
    exact ⟨j4, j, by rcases j5 with h | h <;> omega, j2, j3⟩
  have rest : ∀ x : En, (e.1 = 0 → e.2.2.1 = -100 → vw = true → ∃ i, i < m ∧ x.2.2.1 = nI i) → (e.1 = 2 → ∀ j, e.2.2.1 = nI j → j < u → gdU vw R n0 g (mkU (s.map (stR R)) x) j ∧ ∀ X2, s.map (stR R) = some X2 → ∃ i, i < n0 ∧ x.2.2.1 = nI i) → ((e.1 = 2 ∧ ∃ j, j < u ∧ e.2.2.1 = nI j ∧ gdU vw R n0 g (mkU (s.map (stR R)) x) j ∧ ∀ X2, s.map (stR R) = some X2 → ∃ i, i < n0 ∧ x.2.2.1 = nI i) ∨ (e.1 = 0 ∧ e.2.2.1 = -100 ∧ e.2.2.2.1 = -100 ∧ (vw = true → ∃ i, i < m ∧ x.2.2.1 = nI i)) ∨ ((e.1 = 0 ∨ e.1 = 1) ∧ e.2.2.1 ≠ -100 ∧ (∃ j, j < st.1.length ∧ tyO L e.2.2.1 = nI j ∧ mnt L e.2.2.1 = nI j) ∧ (e.2.2.2.1 = -100 ∨ (e.1 = 1 ∧ e.2.2.2.1 ≠ -100 ∧ ∃ j, j < st.1.length ∧ tyO L e.2.2.2.1 = nI j ∧ mnt L e.2.2.2.1 = nI j)))) := by
    intro x hx0 hx2
    rcases hE.2.2.2 with ⟨k0, k1, k2 | k2⟩ | ⟨k1, k2, k3⟩ | ⟨k2, k3, j, k4, k5⟩
    · exact Or.inr (Or.inl ⟨k0, k2, k1, hx0 k0 k2⟩)
    · exact Or.inr (Or.inr ⟨Or.inl k0, (told _ k2).1, (told _ k2).2, Or.inl k1⟩)
    · exact Or.inr (Or.inr ⟨Or.inr k1, (told _ k2).1, (told _ k2).2, k3.imp id (fun h => ⟨k1, (told _ h).1, (told _ h).2⟩)⟩)
    · exact Or.inl ⟨k2, j, k4, k5, hx2 k2 j k5 k4⟩
  cases s with
  | none =>
    refine ⟨(e.1, e.2.1, -1, -100, 0, -1), rfl, hE.1, hno, fun _ => rfl, rest _ (fun _ _ h => absurd rfl (hu.2.1 h)) (fun _ j _ hj => ⟨⟨by have := hu.1; omega, hu.2.1, fun s' h => by cases h⟩, fun X2 h => by cases h⟩)⟩
  | some s =>
    obtain ⟨hs, k, fit, hk, h0⟩ := hu.2.2 s rfl
    have hX := hS s hs
    cases k with
    | zero => omega
    | succ k =>
      obtain ⟨p, x, hp, hx, hr⟩ := mfL_0 (sgL R u) hkd (fun p kd nm h => let ⟨y, a, _⟩ := plc_some h; ⟨y, a⟩) h0 e (List.mem_of_getElem? hg)
      obtain ⟨y, y1, y2, y3⟩ := plc_some hp
      rw [hx] at y1
      cases y1
      have hxs := hX.2 p x hx
      refine ⟨x, ?_, hE.1, hno, fun h => hxs.2.2.2.2.2.1 (by rw [y2]; exact h), rest x (fun h1 _ _ => hxs.2.2.2.1 (by rw [y2, h1]; exact i02)) (fun h2 j hj hju => ?_)⟩
      · show (match plc (stR R s) e.1 e.2.1 with
          | none => none
          | some p => (stR R s)[p]?) = some x
        rw [hp]
        exact hx
      · obtain ⟨i, i1, i2⟩ := hxs.2.2.1 (by rw [y2, h2])
        have hr2 := hr h2
        refine ⟨⟨by have := hu.1; omega, (fun _ h => nomatch h), fun s' h => ?_⟩, fun X2 _ => ⟨i, i1, i2⟩⟩
        have h9 : some (iN x.2.2.1) = some s' := h
        cases h9
        have := hu.1
        rw [hj, iN_nI (by omega)] at hr2
        refine ⟨by rw [i2, iN_nI (by omega)]; exact i1, k, fit, by omega, hr2⟩
/-- a spec's turn -/
theorem mk_step (hR : gdR R n0 g m) {rec : Option Nat → Nat → MkS → MkS} {u : Nat} (hu : u < g) (hrec : ∀ s' j st, j < u → gdU vw R n0 g s' j → gdS n0 m st → st.1.length + wOf R j ≤ 390 → n0 + st.2.length + pOf R j + 1 < 2 ^ 30 → gdS n0 m (rec s' j st) ∧ gdW st (rec s' j st) (wOf R j) (pOf R j + 1)) {X : Option (List En)} {st : MkS} (hst : gdS n0 m st) {L : List En} {q : Nat} (hL : gdL (sgL R u) L n0 q st) {x e : En} (hq : (sgL R u)[q]? = some e) (hE : gdE vw R n0 g m u X x e L st.1) (h390 : st.1.length + wt R e ≤ 390) (h95 : n0 + st.2.length + pt R e < 2 ^ 30) : gdS n0 m (mkN rec vw n0 X x e L st).2 ∧ gdW st (mkN rec vw n0 X x e L st).2 (wt R e) (pt R e) ∧ gdL (sgL R u) (L ++ [(e.1, e.2.1, nI (mkN rec vw n0 X x e L st).1, -100, x.2.2.2.2.1, -1)]) n0 (q + 1) (mkN rec vw n0 X x e L st).2 ∧ (mkN rec vw n0 X x e L st).1 < 2 ^ 30 := by
  obtain ⟨h20, h90, hS, hG⟩ := hR
  obtain ⟨hw, hm, h391, hD⟩ := hst
  obtain ⟨l1, l2, l3⟩ := hL
  obtain ⟨e1, e2, e3, e4, e5⟩ := hE
  have fin : ∀ (c : Nat) (st' : MkS), gdS n0 m st' → gdW st st' (wt R e) (pt R e) → (e.1 = 0 ∨ e.1 = 1 ∨ e.1 = 2) → (e.1 = 2 → c < n0 + st'.2.length) → (e.1 ≠ 2 → c < st'.1.length) → gdL (sgL R u) (L ++ [(e.1, e.2.1, nI c, -100, x.2.2.2.2.1, -1)]) n0 (q + 1) st' := by
    intro c st' g1 g2 hk hc hc2
    obtain ⟨w1, w2, E, w3, w4⟩ := g2
    refine ⟨by simp [l1], fun r y z hy hz => ?_, (l3.mono w1.length_le (by rw [w3, List.length_append]; omega)).add ⟨hk, e2, fun h => ⟨c, hc h, rfl⟩, fun h => ⟨c, hc2 h, rfl⟩, rfl, e4, rfl⟩ e3⟩
    rcases app_get hy with ⟨r1, r2⟩ | ⟨r1, r2⟩
    · exact l2 r y z r2 hz
    · rw [r1, l1, hq] at hz
      cases hz
      rw [r2]
      exact ⟨rfl, rfl⟩
  have wt0 : e.1 ≠ 2 → wt R e = 1 ∧ pt R e = 0 := fun h => ⟨if_neg h, if_neg h⟩
  have same : ∀ T' : List TyD, st.1 <+: T' → TyW T' → T'.length ≤ st.1.length + 1 → e.1 ≠ 2 → gdS n0 m (T', st.2) ∧ gdW st (T', st.2) (wt R e) (pt R e) := by
    intro T' p1 p2 p3 h2
    have := p1.length_le
    obtain ⟨w1, w2⟩ := wt0 h2
    exact ⟨⟨p2, by show m ≤ T'.length; omega, by show T'.length ≤ 390; omega, fun j L hj => (hD j L hj).mono this (Nat.le_refl _)⟩, p1, by show T'.length ≤ _; omega, [], (List.append_nil _).symm, by rw [w2]; rfl⟩
  rcases e5 with ⟨k2, j, j1, j2, j3, -⟩ | ⟨k0, k1, k2, k3⟩ | ⟨k0, k1, ⟨j, j1, j2, -⟩, k3⟩
  · have hj31 : j < 2 ^ 31 := by omega
    have ew : wt R e = 1 + wOf R j := by unfold wt; rw [if_pos k2, j2, iN_nI hj31]
    have ep : pt R e = 1 + pOf R j := by unfold pt; rw [if_pos k2, j2, iN_nI hj31]
    obtain ⟨r1, r2⟩ := hrec (mkU X x) j st j1 j3 ⟨hw, hm, h391, hD⟩ (by omega) (by omega)
    have emk : mkN rec vw n0 X x e L st = (n0 + (rec (mkU X x) j st).2.length - 1, rec (mkU X x) j st) := by unfold mkN; rw [if_pos k2, j2, iN_nI hj31]
    rw [emk]
    have r3 : gdW st (rec (mkU X x) j st) (wt R e) (pt R e) := by
      obtain ⟨w1, w2, E, w3, w4⟩ := r2
      exact ⟨w1, by omega, E, w3, by omega⟩
    obtain ⟨-, -, E, w3, w4⟩ := r2
    have w5 : (rec (mkU X x) j st).2.length = st.2.length + (pOf R j + 1) := by rw [w3, List.length_append, w4]
    refine ⟨r1, r3, fin _ _ r1 r3 (Or.inr (Or.inr k2)) (fun _ => ?_) (fun h => absurd k2 h), ?_⟩
    · show n0 + (rec (mkU X x) j st).2.length - 1 < n0 + (rec (mkU X x) j st).2.length; omega
    · show n0 + (rec (mkU X x) j st).2.length - 1 < 2 ^ 30; omega
  · have n2 : e.1 ≠ 2 := by rw [k0]; exact i02
    have emk : mkN rec vw n0 X x e L st = ((mkT vw L x e st.1).1, (mkT vw L x e st.1).2, st.2) := if_neg n2
    rw [emk]
    unfold mkT
    rw [if_pos k1]
    by_cases hv : vw = true
    · rw [if_pos hv]
      obtain ⟨i, i1, i2⟩ := k3 hv
      obtain ⟨s1, s2⟩ := same st.1 (List.prefix_refl _) hw (by omega) n2
      have hi : iN x.2.2.1 = i := by rw [i2, iN_nI (by omega)]
      refine ⟨s1, s2, fin _ _ s1 s2 (Or.inl k0) (fun h => absurd h n2) (fun _ => ?_), ?_⟩
      · show iN x.2.2.1 < st.1.length; omega
      · show iN x.2.2.1 < 2 ^ 30; omega
    · rw [if_neg hv]
      obtain ⟨s1, s2⟩ := same (st.1 ++ [none]) (List.prefix_append _ _) hw.addNone (by simp) n2
      refine ⟨s1, s2, fin _ _ s1 s2 (Or.inl k0) (fun h => absurd h n2) (fun _ => ?_), ?_⟩
      · show st.1.length < (st.1 ++ [none]).length; simp
      · show st.1.length < 2 ^ 30; omega
  · have n2 : e.1 ≠ 2 := by rcases k0 with h | h <;> rw [h] <;> decide
    have emk : mkN rec vw n0 X x e L st = ((mkT vw L x e st.1).1, (mkT vw L x e st.1).2, st.2) := if_neg n2
    have hkd : e.1 = 0 ∨ e.1 = 1 ∨ e.1 = 2 := k0.imp id Or.inl
    rw [emk]
    unfold mkT
    rw [if_neg k1]
    rcases k3 with k3 | ⟨k3, k4, l, l4, l5, -⟩
    · rw [if_pos k3, j2, iN_nI (by omega)]
      obtain ⟨s1, s2⟩ := same st.1 (List.prefix_refl _) hw (by omega) n2
      exact ⟨s1, s2, fin _ _ s1 s2 hkd (fun h => absurd h n2) (fun _ => j1), by show j < 2 ^ 30; omega⟩
    · rw [if_neg k4, j2, l5]
      obtain ⟨s1, s2⟩ := same (arT st.1 (nI j) (nI l)) arT_pre (hw.ar j1 l4) arT_le1 n2
      have h9 := arN_lt2 (T := st.1) (x := nI j) (y := nI l)
      have h8 := arT_le1 (T := st.1) (x := nI j) (y := nI l)
      exact ⟨s1, s2, fin _ _ s1 s2 hkd (fun h => absurd h n2) (fun _ => h9), by show arN st.1 (nI j) (nI l) < 2 ^ 30; omega⟩
theorem gdW.tr {a c d : MkS} {w p w2 p2 : Nat} (h : gdW a c w p) (h2 : gdW c d w2 p2) : gdW a d (w + w2) (p + p2) := by
  obtain ⟨a1, a2, E, a3, a4⟩ := h
  obtain ⟨b1, b2, E2, b3, b4⟩ := h2
  exact ⟨a1.trans b1, by omega, E ++ E2, by rw [b3, a3, List.append_assoc], by rw [List.length_append]; omega⟩
theorem mkL_ok (hR : gdR R n0 g m) {rec : Option Nat → Nat → MkS → MkS} {s : Option Nat} {u : Nat} (hu : gdU vw R n0 g s u) (hrec : ∀ s' j st, j < u → gdU vw R n0 g s' j → gdS n0 m st → st.1.length + wOf R j ≤ 390 → n0 + st.2.length + pOf R j + 1 < 2 ^ 30 → gdS n0 m (rec s' j st) ∧ gdW st (rec s' j st) (wOf R j) (pOf R j + 1)) : ∀ c q L st, q + c = (sgL R u).length → gdS n0 m st → gdL (sgL R u) L n0 q st → st.1.length + sumW R ((sgL R u).drop q) ≤ 390 → n0 + st.2.length + sumP R ((sgL R u).drop q) < 2 ^ 30 → gdS n0 m (mkL rec vw n0 (s.map (stR R)) ((sgL R u).drop q) L st).2 ∧ gdW st (mkL rec vw n0 (s.map (stR R)) ((sgL R u).drop q) L st).2 (sumW R ((sgL R u).drop q)) (sumP R ((sgL R u).drop q)) ∧ gdL (sgL R u) (mkL rec vw n0 (s.map (stR R)) ((sgL R u).drop q) L st).1 n0 (sgL R u).length (mkL rec vw n0 (s.map (stR R)) ((sgL R u).drop q) L st).2 := by
  intro c
  induction c with
  | zero =>
    intro q L st hq hst hL h1 h2
    rw [List.drop_eq_nil_of_le (by omega)]
    have hqe : q = (sgL R u).length := by omega
    subst hqe
    exact ⟨hst, ⟨List.prefix_refl _, Nat.le_add_right _ _, [], (List.append_nil _).symm, rfl⟩, hL⟩
  | succ c ih =>
    intro q L st hq hst hL h1 h2
    have hql : q < (sgL R u).length := by omega
    obtain ⟨x, hE⟩ := mk_E hR hu hst hL hql
    obtain ⟨d1, d2⟩ := sumW_drop (R := R) hql
    rw [d1] at h1
    rw [d2] at h2
    obtain ⟨s1, s2, s3, -⟩ := mk_step hR hu.1 hrec hst hL (List.getElem?_eq_getElem hql) hE (by omega) (by omega)
    have s4 := s2.2.1
    have s5 : (mkN rec vw n0 (s.map (stR R)) x (sgL R u)[q] L st).2.2.length = st.2.length + pt R (sgL R u)[q] := by
      obtain ⟨-, -, E, a3, a4⟩ := s2
      rw [a3, List.length_append, a4]
    obtain ⟨t1, t2, t3⟩ := ih (q + 1) _ _ (by omega) s1 s3 (by omega) (by omega)
    rw [d1, d2, List.drop_eq_getElem_cons hql]
    have em : mkL rec vw n0 (s.map (stR R)) ((sgL R u)[q] :: (sgL R u).drop (q + 1)) L st = mkL rec vw n0 (s.map (stR R)) ((sgL R u).drop (q + 1)) (L ++ [((sgL R u)[q].1, (sgL R u)[q].2.1, nI (mkN rec vw n0 (s.map (stR R)) x (sgL R u)[q] L st).1, -100, x.2.2.2.2.1, -1)]) (mkN rec vw n0 (s.map (stR R)) x (sgL R u)[q] L st).2 := by
      show (match mkX (s.map (stR R)) (sgL R u)[q] with
        | none => (L, st)
        | some x => mkL rec vw n0 (s.map (stR R)) ((sgL R u).drop (q + 1)) (L ++ [((sgL R u)[q].1, (sgL R u)[q].2.1, nI (mkN rec vw n0 (s.map (stR R)) x (sgL R u)[q] L st).1, -100, x.2.2.2.2.1, -1)]) (mkN rec vw n0 (s.map (stR R)) x (sgL R u)[q] L st).2) = _
      rw [hE.1]
    rw [em]
    exact ⟨t1, s2.tr t2, t3⟩
theorem mk_ok (hR : gdR R n0 g m) : ∀ k s u st, u < k → gdU vw R n0 g s u → gdS n0 m st → st.1.length + wOf R u ≤ 390 → n0 + st.2.length + pOf R u + 1 < 2 ^ 30 → gdS n0 m (mk vw n0 R k s u st) ∧ gdW st (mk vw n0 R k s u st) (wOf R u) (pOf R u + 1) := by
  intro k
  induction k with
  | zero => intro s u st h; omega
  | succ k ih =>
    intro s u st hk hu hst h1 h2
    obtain ⟨-, ew, ep, -⟩ := hR.2.2.2 u hu.1
    obtain ⟨r1, r2, r3⟩ := mkL_ok hR hu (rec := mk vw n0 R k) (fun s' j st hj => ih s' j st (by omega)) (sgL R u).length 0 [] st (by omega) hst ⟨rfl, fun r e y h => by simp at h, WfS.nil⟩ (by rw [List.drop_zero]; omega) (by rw [List.drop_zero]; omega)
    rw [List.drop_zero] at r1 r2 r3
    show gdS n0 m ((mkL (mk vw n0 R k) vw n0 (s.map (stR R)) (sgL R u) [] st).2.1, (mkL (mk vw n0 R k) vw n0 (s.map (stR R)) (sgL R u) [] st).2.2 ++ [(mkL (mk vw n0 R k) vw n0 (s.map (stR R)) (sgL R u) [] st).1]) ∧ gdW st ((mkL (mk vw n0 R k) vw n0 (s.map (stR R)) (sgL R u) [] st).2.1, (mkL (mk vw n0 R k) vw n0 (s.map (stR R)) (sgL R u) [] st).2.2 ++ [(mkL (mk vw n0 R k) vw n0 (s.map (stR R)) (sgL R u) [] st).1]) (wOf R u) (pOf R u + 1)
    generalize mkL (mk vw n0 R k) vw n0 (s.map (stR R)) (sgL R u) [] st = r at *
    obtain ⟨g1, g2, g3, g4⟩ := r1
    obtain ⟨w1, w2, E, w3, w4⟩ := r2
    refine ⟨⟨g1, g2, g3, fun j L hj => ?_⟩, w1, by rw [ew]; exact w2, E ++ [r.1], by show r.2.2 ++ [r.1] = _; rw [w3, List.append_assoc], by rw [List.length_append, w4, ep]; rfl⟩
    have hj2 : (r.2.2 ++ [r.1])[j]? = some L := hj
    by_cases h9 : j < r.2.2.length
    · rw [List.getElem?_append_left h9] at hj2
      exact g4 j L hj2
    · have hl2 := (List.getElem?_eq_some_iff.mp hj2).1
      have h8 : j = r.2.2.length := by simp at hl2; omega
      subst h8
      rw [List.getElem?_append_right (Nat.le_refl _), Nat.sub_self] at hj2
      cases hj2
      exact r3.2.2
end Mk
