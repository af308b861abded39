/-! THE CLASS'S HEAP AND THE ABSTRACT STATE -/
def ptr (b : Nat) (P : Nat → Nat → Option Nat) (k : Nat) : Option Nat :=
  if k < 30 then P (b + 4) k
  else if k = 100 then some (b + 7)
  else if 200 ≤ k ∧ k < 220 then P (b + 6) (k - 200)
  else if k = 220 then some (b + 9)
  else if 300 ≤ k ∧ k < 308 then (P (b + 13) (k - 300)).map (· + 1)
  else if k = 308 then some (b + 11)
  else if 400 ≤ k ∧ k < 408 then P (b + 13) (k - 400)
  else if 500 ≤ k ∧ k < 510 then P (b + 14) (k - 500)
  else if 600 ≤ k ∧ k < 608 then P (b + 15) (k - 600)
  else none
def pkd (k : Nat) : Nat := if k < 400 then 2 else if k < 500 then 0 else if k < 600 then 1 else 5
def ShF (o b : Nat) (K : Nat → Option (Nat × Nat)) (P : Nat → Nat → Option Nat) : Prop :=
  (K o = some (6, 0) ∧ K b = some (4, 0) ∧ K (b + 1) = some (8, 200) ∧ K (b + 2) = some (8, 200) ∧ K (b + 3) = some (3, 0) ∧ K (b + 4) = some (12, 30) ∧ K (b + 5) = some (3, 0) ∧ K (b + 6) = some (12, 20) ∧ K (b + 13) = some (10, 8) ∧ K (b + 14) = some (11, 10) ∧ K (b + 15) = some (13, 8)) ∧
  P o 0 = some b ∧ P o 1 = some (b + 3) ∧ P o 2 = some (b + 5) ∧ P o 3 = some (b + 7) ∧ P o 4 = some (b + 9) ∧ P o 5 = some (b + 11) ∧ P o 6 = some (b + 13) ∧ P o 8 = some (b + 14) ∧ P o 10 = some (b + 15) ∧ P b 0 = some (b + 1) ∧ P b 1 = some (b + 2) ∧ P (b + 3) 0 = some (b + 4) ∧ P (b + 5) 0 = some (b + 6)
def ShD (b : Nat) (K : Nat → Option (Nat × Nat)) (P : Nat → Nat → Option Nat) : Prop :=
  (∀ k a, ptr b P k = some a → K a = some (pkd k, 0)) ∧ (∀ j k a, ptr b P j = some a → ptr b P k = some a → j = k) ∧
  (∀ a, K a = some (2, 0) → P a 0 = some (a + 1) ∧ K (a + 1) = some (8, 180)) ∧
  (∀ a, K a = some (0, 0) → P a 3 = some (a + 1) ∧ K (a + 1) = some (2, 0) ∧ P a 4 = some (a + 3) ∧ K (a + 3) = some (8, 30)) ∧
  (∀ a, K a = some (5, 0) → P a 5 = some (a + 1) ∧ K (a + 1) = some (8, 8) ∧ P a 6 = some (a + 2) ∧ K (a + 2) = some (8, 8))
def tdF (x : TyD) : Int32 := match x with
  | none => -1
  | some y => y.1
def tdT (x : TyD) : Int32 := match x with
  | none => -1
  | some y => y.2
def cTy (b : Nat) (I : Nat → Nat → Int32) (T : List TyD) : Prop := I b 2 = nI T.length ∧ T.length ≤ 200 ∧ ∀ (t : Nat) (x : TyD), T[t]? = some x → I (b + 1) t = tdF x ∧ I (b + 2) t = tdT x
def cCn (o b : Nat) (I : Nat → Nat → Int32) (n g : Nat) : Prop := I (b + 3) 1 = nI n ∧ n ≤ 30 ∧ I (b + 5) 1 = nI g ∧ g ≤ 20
def cRw (b : Nat) (I : Nat → Nat → Int32) (P : Nat → Nat → Option Nat) (R : Nat → Option RowD) : Prop := ∀ k d, R k = some d → k < 400 ∧ ∃ a, ptr b P k = some a ∧ RowIs I a d
def FuIs (I : Nat → Nat → Int32) (a : Nat) (x : FuD) : Prop := I a 0 = x.1 ∧ I a 1 = x.2.1 ∧ I a 2 = x.2.2.1 ∧ ∀ s, s < 30 → I (a + 3) s = x.2.2.2 s
def cFu (o b : Nat) (I : Nat → Nat → Int32) (P : Nat → Nat → Option Nat) (F : List FuD) : Prop := I o 7 = nI F.length ∧ F.length ≤ 8 ∧ (∀ (f : Nat) (x : FuD), F[f]? = some x → ∃ a, ptr b P (400 + f) = some a ∧ FuIs I a x) ∧ ∀ f, F.length ≤ f → f < 8 → ptr b P (400 + f) = none
def PkIs (I : Nat → Nat → Int32) (a : Nat) (x : Int32 × Int32) : Prop := I a 0 = x.1 ∧ I a 1 = x.2
def cPk (o b : Nat) (I : Nat → Nat → Int32) (P : Nat → Nat → Option Nat) (Q : List (Int32 × Int32)) : Prop := I o 9 = nI Q.length ∧ Q.length ≤ 10 ∧ (∀ (f : Nat) (x : Int32 × Int32), Q[f]? = some x → ∃ a, ptr b P (500 + f) = some a ∧ PkIs I a x) ∧ ∀ f, Q.length ≤ f → f < 10 → ptr b P (500 + f) = none
def bI (x : Option Nat) : Int32 := match x with
  | none => -1
  | some c => nI c
def UnIs (I : Nat → Nat → Int32) (a : Nat) (x : UnD) : Prop := I a 0 = x.1 ∧ I a 1 = x.2.1 ∧ I a 2 = x.2.2.1 ∧ I a 3 = nI x.2.2.2.1 ∧ I a 4 = bI x.2.2.2.2.1 ∧ ∀ k, k < 8 → I (a + 1) k = x.2.2.2.2.2.1 k ∧ I (a + 2) k = x.2.2.2.2.2.2 k
def cUn (o b : Nat) (I : Nat → Nat → Int32) (P : Nat → Nat → Option Nat) (U : List UnD) : Prop := I o 11 = nI U.length ∧ U.length ≤ 8 ∧ (∀ (f : Nat) (x : UnD), U[f]? = some x → ∃ a, ptr b P (600 + f) = some a ∧ UnIs I a x) ∧ ∀ f, U.length ≤ f → f < 8 → ptr b P (600 + f) = none
def CR (o b : Nat) (K : Nat → Option (Nat × Nat)) (I : Nat → Nat → Int32) (P : Nat → Nat → Option Nat) (N : Nat) (T : List TyD) (n g : Nat) (R : Nat → Option RowD) (F : List FuD) (Q : List (Int32 × Int32)) (U : List UnD) : Prop :=
  (∀ q, K q ≠ none → q < N) ∧ ShF o b K P ∧ ShD b K P ∧ cTy b I T ∧ cCn o b I n g ∧ cRw b I P R ∧ cFu o b I P F ∧ cPk o b I P Q ∧ cUn o b I P U
section CRs
variable {o b : Nat} {K : Nat → Option (Nat × Nat)} {I J : Nat → Nat → Int32} {P : Nat → Nat → Option Nat} {N : Nat} {T : List TyD} {n g : Nat} {R : Nat → Option RowD} {F : List FuD} {Q : List (Int32 × Int32)} {U : List UnD} {k a : Nat} {d : RowD}
theorem CR.fr (h : CR o b K I P N T n g R F Q U) : ∀ q, K q ≠ none → q < N := h.1
theorem CR.sf (h : CR o b K I P N T n g R F Q U) : ShF o b K P := h.2.1
theorem CR.sd (h : CR o b K I P N T n g R F Q U) : ShD b K P := h.2.2.1
theorem CR.ty (h : CR o b K I P N T n g R F Q U) : cTy b I T := h.2.2.2.1
theorem CR.cn (h : CR o b K I P N T n g R F Q U) : cCn o b I n g := h.2.2.2.2.1
theorem CR.rw (h : CR o b K I P N T n g R F Q U) : cRw b I P R := h.2.2.2.2.2.1
theorem CR.fu (h : CR o b K I P N T n g R F Q U) : cFu o b I P F := h.2.2.2.2.2.2.1
theorem CR.pk (h : CR o b K I P N T n g R F Q U) : cPk o b I P Q := h.2.2.2.2.2.2.2.1
theorem CR.un (h : CR o b K I P N T n g R F Q U) : cUn o b I P U := h.2.2.2.2.2.2.2.2
theorem pkd2 (h : k < 400) : pkd k = 2 := if_pos h
theorem pkd0 (h : ¬ k < 400) (h2 : k < 500) : pkd k = 0 := by unfold pkd; rw [if_neg h, if_pos h2]
theorem pkd1 (h : ¬ k < 500) (h2 : k < 600) : pkd k = 1 := by unfold pkd; rw [if_neg (by omega), if_neg h, if_pos h2]
theorem pkd5 (h : ¬ k < 600) : pkd k = 5 := by unfold pkd; rw [if_neg (by omega), if_neg (by omega), if_neg h]
theorem CR.rowOK (h : CR o b K I P N T n g R F Q U) (hk : k < 400) (ha : ptr b P k = some a) : RowOK K P a := by
  have h1 := h.sd.1 k a ha
  rw [pkd2 hk] at h1
  exact ⟨h1, h.sd.2.2.1 a h1⟩
theorem CR.row (h : CR o b K I P N T n g R F Q U) (hk : R k = some d) : ∃ a, k < 400 ∧ ptr b P k = some a ∧ RowOK K P a ∧ RowIs I a d := by
  obtain ⟨h1, a, h2, h3⟩ := h.rw k d hk
  exact ⟨a, h1, h2, h.rowOK h1 h2, h3⟩
/-- what the rest of the state is, when only ints of some cells are changed -/
theorem CR.frame (h : CR o b K I P N T n g R F Q U) {T2 : List TyD} {n2 g2 : Nat} {R2 : Nat → Option RowD} {F2 : List FuD} {Q2 : List (Int32 × Int32)} {U2 : List UnD} (h1 : cTy b J T2) (h2 : cCn o b J n2 g2) (h3 : cRw b J P R2) (h4 : cFu o b J P F2) (h5 : cPk o b J P Q2) (h6 : cUn o b J P U2) : CR o b K J P N T2 n2 g2 R2 F2 Q2 U2 := ⟨h.1, h.2.1, h.2.2.1, h1, h2, h3, h4, h5, h6⟩
theorem cTy.congr (h : cTy b I T) (h0 : J b = I b) (h1 : J (b + 1) = I (b + 1)) (h2 : J (b + 2) = I (b + 2)) : cTy b J T := ⟨by rw [h0]; exact h.1, h.2.1, fun t x hx => by rw [h1, h2]; exact h.2.2 t x hx⟩
theorem cCn.congr (h : cCn o b I n g) (h0 : J (b + 3) = I (b + 3)) (h1 : J (b + 5) = I (b + 5)) : cCn o b J n g := ⟨by rw [h0]; exact h.1, h.2.1, by rw [h1]; exact h.2.2.1, h.2.2.2⟩
theorem FuIs.congr {x : FuD} (h : FuIs I a x) (h0 : J a = I a) (h1 : J (a + 3) = I (a + 3)) : FuIs J a x := ⟨by rw [h0]; exact h.1, by rw [h0]; exact h.2.1, by rw [h0]; exact h.2.2.1, fun s hs => by rw [h1]; exact h.2.2.2 s hs⟩
theorem PkIs.congr {x : Int32 × Int32} (h : PkIs I a x) (h0 : J a = I a) : PkIs J a x := ⟨by rw [h0]; exact h.1, by rw [h0]; exact h.2⟩
theorem UnIs.congr {x : UnD} (h : UnIs I a x) (h0 : J a = I a) (h1 : J (a + 1) = I (a + 1)) (h2 : J (a + 2) = I (a + 2)) : UnIs J a x := ⟨by rw [h0]; exact h.1, by rw [h0]; exact h.2.1, by rw [h0]; exact h.2.2.1, by rw [h0]; exact h.2.2.2.1, by rw [h0]; exact h.2.2.2.2.1, fun k hk => by rw [h1, h2]; exact h.2.2.2.2.2 k hk⟩
/-- the kinds of the cells that hold a part of the state -/
theorem cFu.congr (hs : ShD b K P) (h : cFu o b I P F) (h0 : J o 7 = I o 7) (hf : ∀ q, K q = some (0, 0) → J q = I q) (hr : ∀ q, K q = some (8, 30) → J q = I q) : cFu o b J P F := by
  refine ⟨by rw [h0]; exact h.1, h.2.1, fun f x hx => ?_, h.2.2.2⟩
  obtain ⟨a, h1, h2⟩ := h.2.2.1 f x hx
  have hl := (List.getElem?_eq_some_iff.mp hx).1
  have h8 := h.2.1
  have h3 := hs.1 _ _ h1
  rw [pkd0 (by omega) (by omega)] at h3
  obtain ⟨-, -, -, h4⟩ := hs.2.2.2.1 a h3
  exact ⟨a, h1, h2.congr (hf a h3) (hr _ h4)⟩
theorem cPk.congr (hs : ShD b K P) (h : cPk o b I P Q) (h0 : J o 9 = I o 9) (hf : ∀ q, K q = some (1, 0) → J q = I q) : cPk o b J P Q := by
  refine ⟨by rw [h0]; exact h.1, h.2.1, fun f x hx => ?_, h.2.2.2⟩
  obtain ⟨a, h1, h2⟩ := h.2.2.1 f x hx
  have hl := (List.getElem?_eq_some_iff.mp hx).1
  have h8 := h.2.1
  have h3 := hs.1 _ _ h1
  rw [pkd1 (by omega) (by omega)] at h3
  exact ⟨a, h1, h2.congr (hf a h3)⟩
theorem cUn.congr (hs : ShD b K P) (h : cUn o b I P U) (h0 : J o 11 = I o 11) (hf : ∀ q, K q = some (5, 0) → J q = I q) (hr : ∀ q, K q = some (8, 8) → J q = I q) : cUn o b J P U := by
  refine ⟨by rw [h0]; exact h.1, h.2.1, fun f x hx => ?_, h.2.2.2⟩
  obtain ⟨a, h1, h2⟩ := h.2.2.1 f x hx
  have h3 := hs.1 _ _ h1
  rw [pkd5 (by omega)] at h3
  obtain ⟨-, h4, -, h5⟩ := hs.2.2.2.2 a h3
  exact ⟨a, h1, h2.congr (hf a h3) (hr _ h4) (hr _ h5)⟩
theorem cRw.congr (hs : ShD b K P) (h : cRw b I P R) (hf : ∀ q, K q = some (2, 0) → J q = I q) (hr : ∀ q, K q = some (8, 180) → J q = I q) : cRw b J P R := by
  intro k d hk
  obtain ⟨h1, a, h2, h3⟩ := h k d hk
  have h4 := hs.1 _ _ h2
  rw [pkd2 h1] at h4
  exact ⟨h1, a, h2, h3.congr (hf a h4) (hr _ (hs.2.2.1 a h4).2)⟩
/-- an operation on a row -/
theorem CR.upRow (h : CR o b K I P N T n g R F Q U) (hk : k < 400) (ha : ptr b P k = some a) (ho : RowO I J a) (hd : RowIs J a d) : CR o b K J P N T n g (aup R k (some d)) F Q U := by
  have hok := h.rowOK hk ha
  have hq : ∀ q x, K q = some x → x ≠ (2, 0) → x ≠ (8, 180) → J q = I q := fun q x hx h1 h2 => ho q (fun e => by subst e; rw [hok.1] at hx; cases hx; exact h1 rfl) (fun e => by subst e; rw [hok.2.2] at hx; cases hx; exact h2 rfl)
  obtain ⟨⟨s1, s2, s3, s4, s5, s6, s7, s8, s9, s10, s11⟩, -⟩ := h.sf
  have jo := hq _ _ s1 (by decide) (by decide)
  refine h.frame (h.ty.congr (hq _ _ s2 (by decide) (by decide)) (hq _ _ s3 (by decide) (by decide)) (hq _ _ s4 (by decide) (by decide))) (h.cn.congr (hq _ _ s5 (by decide) (by decide)) (hq _ _ s7 (by decide) (by decide))) ?_ (cFu.congr h.sd h.fu (by rw [jo]) (fun q hx => hq q _ hx (by decide) (by decide)) (fun q hx => hq q _ hx (by decide) (by decide))) (cPk.congr h.sd h.pk (by rw [jo]) (fun q hx => hq q _ hx (by decide) (by decide))) (cUn.congr h.sd h.un (by rw [jo]) (fun q hx => hq q _ hx (by decide) (by decide)) (fun q hx => hq q _ hx (by decide) (by decide)))
  intro j e hj
  by_cases hjk : j = k
  · subst hjk
    rw [aup_s] at hj
    cases hj
    exact ⟨hk, a, ha, hd⟩
  · rw [aup_n hjk] at hj
    obtain ⟨h1, a2, h2, h3⟩ := h.rw j e hj
    have hok2 := h.rowOK h1 h2
    have hne : a ≠ a2 := fun e => hjk (h.sd.2.1 j k a (by rw [h2, e]) ha)
    obtain ⟨j1, j2⟩ := ho.row hok hok2 hne
    exact ⟨h1, a2, h2, h3.congr j1 j2⟩
/-- rows are forgotten -/
theorem CR.sub (h : CR o b K I P N T n g R F Q U) {R2 : Nat → Option RowD} (hr : ∀ k d, R2 k = some d → R k = some d) : CR o b K I P N T n g R2 F Q U := h.frame h.ty h.cn (fun k d hk => h.rw k d (hr k d hk)) h.fu h.pk h.un
/-- the types' table is changed -/
theorem CR.upTy (h : CR o b K I P N T n g R F Q U) {T2 : List TyD} (ho : ∀ q, q ≠ b → q ≠ b + 1 → q ≠ b + 2 → J q = I q) (ht : cTy b J T2) : CR o b K J P N T2 n g R F Q U := by
  obtain ⟨⟨s1, s2, s3, s4, s5, s6, s7, s8, s9, s10, s11⟩, -⟩ := h.sf
  have hq : ∀ q x, K q = some x → x ≠ (4, 0) → x ≠ (8, 200) → J q = I q := fun q x hx h1 h2 => ho q (fun e => by subst e; rw [s2] at hx; cases hx; exact h1 rfl) (fun e => by subst e; rw [s3] at hx; cases hx; exact h2 rfl) (fun e => by subst e; rw [s4] at hx; cases hx; exact h2 rfl)
  have jo := hq _ _ s1 (by decide) (by decide)
  exact h.frame ht (h.cn.congr (hq _ _ s5 (by decide) (by decide)) (hq _ _ s7 (by decide) (by decide))) (cRw.congr h.sd h.rw (fun q hx => hq q _ hx (by decide) (by decide)) (fun q hx => hq q _ hx (by decide) (by decide))) (cFu.congr h.sd h.fu (by rw [jo]) (fun q hx => hq q _ hx (by decide) (by decide)) (fun q hx => hq q _ hx (by decide) (by decide))) (cPk.congr h.sd h.pk (by rw [jo]) (fun q hx => hq q _ hx (by decide) (by decide))) (cUn.congr h.sd h.un (by rw [jo]) (fun q hx => hq q _ hx (by decide) (by decide)) (fun q hx => hq q _ hx (by decide) (by decide)))
/-- a shelf's count is changed -/
theorem CR.upCn (h : CR o b K I P N T n g R F Q U) {n2 g2 : Nat} (ho : ∀ q, q ≠ b + 3 → q ≠ b + 5 → J q = I q) (hc : cCn o b J n2 g2) : CR o b K J P N T n2 g2 R F Q U := by
  obtain ⟨⟨s1, s2, s3, s4, s5, s6, s7, s8, s9, s10, s11⟩, -⟩ := h.sf
  have hq : ∀ q x, K q = some x → x ≠ (3, 0) → J q = I q := fun q x hx h1 => ho q (fun e => by subst e; rw [s5] at hx; cases hx; exact h1 rfl) (fun e => by subst e; rw [s7] at hx; cases hx; exact h1 rfl)
  have jo := hq _ _ s1 (by decide)
  exact h.frame (h.ty.congr (hq _ _ s2 (by decide)) (hq _ _ s3 (by decide)) (hq _ _ s4 (by decide))) hc (cRw.congr h.sd h.rw (fun q hx => hq q _ hx (by decide)) (fun q hx => hq q _ hx (by decide))) (cFu.congr h.sd h.fu (by rw [jo]) (fun q hx => hq q _ hx (by decide)) (fun q hx => hq q _ hx (by decide))) (cPk.congr h.sd h.pk (by rw [jo]) (fun q hx => hq q _ hx (by decide))) (cUn.congr h.sd h.un (by rw [jo]) (fun q hx => hq q _ hx (by decide)) (fun q hx => hq q _ hx (by decide)))
theorem CR.upN (h : CR o b K I P N T n g R F Q U) {n2 : Nat} (hn : n2 ≤ 30) : CR o b K (cup I (b + 3) 1 (nI n2)) P N T n2 g R F Q U := h.upCn (fun q h1 _ => cup_q h1) ⟨cup_s, hn, by rw [cup_q (by omega)]; exact h.cn.2.2.1, h.cn.2.2.2⟩
theorem CR.upG (h : CR o b K I P N T n g R F Q U) {g2 : Nat} (hn : g2 ≤ 20) : CR o b K (cup I (b + 5) 1 (nI g2)) P N T n g2 R F Q U := h.upCn (fun q _ h1 => cup_q h1) ⟨by rw [cup_q (by omega)]; exact h.cn.1, h.cn.2.1, cup_s, hn⟩
end CRs
