/-! THE REFERENCE'S STATE AND THE ABSTRACT ONE -/
def tdK (t : Nat) (x : TyD) : Int32 := match x with
  | none => if t < 2 then 0 else 1
  | some _ => 2
def rTp (f : Nat → Int32) (M : Nat → Nat → Int32) (T : List TyD) : Prop := f 0 = nI T.length ∧ T.length ≤ 390 ∧ ∀ (t : Nat) (x : TyD), T[t]? = some x → M 1 t = tdK t x ∧ ∀ y z, x = some (y, z) → M 2 t = y ∧ M 3 t = z
def rCn (f : Nat → Int32) (M : Nat → Nat → Int32) (n g : Nat) : Prop := f 4 = nI n ∧ n ≤ 95 ∧ f 10 = nI g ∧ g ≤ 20 ∧ ∀ j, g ≤ j → j < 20 → M 11 j = 0 ∧ M 12 j = 0
def rRw (M : Nat → Nat → Int32) (R : Nat → Option RowD) : Prop := ∀ k d, R k = some d → (k ≤ 100 → rIt M k d.1) ∧ (200 ≤ k → k ≤ 220 → rSp M (k - 200) d.1 ∧ M 12 (k - 200) = nI d.2.1) ∧ (300 ≤ k → k ≤ 308 → rBo M (k - 300) d.1)
def rFu (f : Nat → Int32) (M : Nat → Nat → Int32) (F : List FuD) : Prop := f 17 = nI F.length ∧ F.length ≤ 8 ∧ (∀ (i : Nat) (x : FuD), F[i]? = some x → M 25 i = x.1 ∧ M 26 i = x.2.1 ∧ M 27 i = x.2.2.1 ∧ ∀ s, s < 30 → M 28 (30 * i + s) = x.2.2.2 s) ∧ ∀ i s, F.length ≤ i → i < 8 → s < 30 → M 28 (30 * i + s) = -1
def rPk (f : Nat → Int32) (M : Nat → Nat → Int32) (Q : List (Int32 × Int32)) : Prop := f 29 = nI Q.length ∧ Q.length ≤ 10 ∧ ∀ (i : Nat) (x : Int32 × Int32), Q[i]? = some x → M 30 i = x.1 ∧ M 31 i = x.2
def uBit (x : Int32) (k : Nat) : Prop := (x >>> (nI k &&& 31)) &&& 1 = 1
def rBt (M : Nat → Nat → Int32) (u : Nat) (x : UnD) : Prop := match x.2.2.2.2.1 with
  | none => M 37 u = 0
  | some c => M 37 u = 1 ∧ M 38 u = nI c ∧ ∀ k, k < u → uBit x.1 k → M 39 (8 * u + k) = x.2.2.2.2.2.1 k ∧ M 40 (8 * u + k) = x.2.2.2.2.2.2 k
def rUn (f : Nat → Int32) (M : Nat → Nat → Int32) (U : List UnD) : Prop := f 32 = nI U.length ∧ U.length ≤ 8 ∧ (∀ (u : Nat) (x : UnD), U[u]? = some x → M 33 u = x.2.2.1 ∧ M 34 u = x.1 ∧ M 35 u = x.2.1 ∧ M 36 u = nI x.2.2.2.1 ∧ rBt M u x) ∧ ∀ u, U.length ≤ u → u < 8 → M 36 u = 0 ∧ M 37 u = 0
def RR (f : Nat → Int32) (M : Nat → Nat → Int32) (T : List TyD) (n g : Nat) (R : Nat → Option RowD) (F : List FuD) (Q : List (Int32 × Int32)) (U : List UnD) : Prop := rTp f M T ∧ rCn f M n g ∧ rRw M R ∧ rFu f M F ∧ rPk f M Q ∧ rUn f M U ∧ f 41 = 0
section RRs
variable {f h : Nat → Int32} {M W : Nat → Nat → Int32} {T : List TyD} {n g : Nat} {R : Nat → Option RowD} {F : List FuD} {Q : List (Int32 × Int32)} {U : List UnD} {k : Nat} {d : RowD}
theorem RR.ty (h : RR f M T n g R F Q U) : rTp f M T := h.1
theorem RR.cn (h : RR f M T n g R F Q U) : rCn f M n g := h.2.1
theorem RR.rw (h : RR f M T n g R F Q U) : rRw M R := h.2.2.1
theorem RR.fu (h : RR f M T n g R F Q U) : rFu f M F := h.2.2.2.1
theorem RR.pk (h : RR f M T n g R F Q U) : rPk f M Q := h.2.2.2.2.1
theorem RR.un (h : RR f M T n g R F Q U) : rUn f M U := h.2.2.2.2.2.1
theorem RR.dp (h : RR f M T n g R F Q U) : f 41 = 0 := h.2.2.2.2.2.2
theorem rTp.congr (x : rTp f M T) (h0 : h 0 = f 0) (h1 : W 1 = M 1) (h2 : W 2 = M 2) (h3 : W 3 = M 3) : rTp h W T := ⟨h0.trans x.1, x.2.1, fun t y hy => by rw [h1, h2, h3]; exact x.2.2 t y hy⟩
theorem rCn.congr (x : rCn f M n g) (h0 : h 4 = f 4) (h1 : h 10 = f 10) (h2 : W 11 = M 11) (h3 : W 12 = M 12) : rCn h W n g := ⟨h0.trans x.1, x.2.1, h1.trans x.2.2.1, x.2.2.2.1, fun j hj hj2 => by rw [h2, h3]; exact x.2.2.2.2 j hj hj2⟩
theorem rRw.congr (x : rRw M R) (h0 : ∀ j, (5 ≤ j ∧ j ≤ 9) ∨ (11 ≤ j ∧ j ≤ 16) ∨ (18 ≤ j ∧ j ≤ 24) → W j = M j) : rRw W R := fun k d hk => by
  obtain ⟨a, b, c⟩ := x k d hk
  refine ⟨fun h1 => (a h1).congr (fun j h2 h3 => h0 j (by omega)), fun h1 h2 => ⟨(b h1 h2).1.congr (fun j h2 h3 => h0 j (by omega)), by rw [h0 12 (by omega)]; exact (b h1 h2).2⟩, fun h1 h2 => (c h1 h2).congr (fun j h2 h3 => h0 j (by omega))⟩
theorem rFu.congr (x : rFu f M F) (h0 : h 17 = f 17) (h1 : ∀ j, 25 ≤ j → j ≤ 28 → W j = M j) : rFu h W F := ⟨h0.trans x.1, x.2.1, fun i y hy => by rw [h1 25 (by omega) (by omega), h1 26 (by omega) (by omega), h1 27 (by omega) (by omega), h1 28 (by omega) (by omega)]; exact x.2.2.1 i y hy, fun i s h2 h3 h4 => by rw [h1 28 (by omega) (by omega)]; exact x.2.2.2 i s h2 h3 h4⟩
theorem rPk.congr (x : rPk f M Q) (h0 : h 29 = f 29) (h1 : W 30 = M 30) (h2 : W 31 = M 31) : rPk h W Q := ⟨h0.trans x.1, x.2.1, fun i y hy => by rw [h1, h2]; exact x.2.2 i y hy⟩
theorem rBt.congr {u : Nat} {y : UnD} (x : rBt M u y) (h1 : ∀ j, 37 ≤ j → j ≤ 40 → W j = M j) : rBt W u y := by
  unfold rBt at *
  rw [h1 37 (by omega) (by omega), h1 38 (by omega) (by omega), h1 39 (by omega) (by omega), h1 40 (by omega) (by omega)]
  exact x
theorem rUn.congr (x : rUn f M U) (h0 : h 32 = f 32) (h1 : ∀ j, 33 ≤ j → j ≤ 40 → W j = M j) : rUn h W U := ⟨h0.trans x.1, x.2.1, fun i y hy => by
  obtain ⟨a, b, c, d, e⟩ := x.2.2.1 i y hy
  rw [h1 33 (by omega) (by omega), h1 34 (by omega) (by omega), h1 35 (by omega) (by omega), h1 36 (by omega) (by omega)]
  exact ⟨a, b, c, d, e.congr (fun j h2 h3 => h1 j (by omega) h3)⟩, fun i h2 h3 => by rw [h1 36 (by omega) (by omega), h1 37 (by omega) (by omega)]; exact x.2.2.2 i h2 h3⟩
/-- what is told of the last throw is no part of the state -/
theorem RR.thr (x : RR f M T n g R F Q U) (v : Int32) : RR (upd f 54 v) M T n g R F Q U := by
  have hne : ∀ j, j ≠ 54 → upd f 54 v j = f j := fun j hj => if_neg hj
  exact ⟨x.ty.congr (hne _ (by omega)) rfl rfl rfl, x.cn.congr (hne _ (by omega)) (hne _ (by omega)) rfl rfl, x.rw, x.fu.congr (hne _ (by omega)) (fun _ _ _ => rfl), x.pk.congr (hne _ (by omega)) rfl rfl, x.un.congr (hne _ (by omega)) (fun _ _ _ => rfl), (hne _ (by omega)).trans x.dp⟩
/-- the tables that are laid anew at each call -/
theorem RR.tmp (x : RR f M T n g R F Q U) (hW : ∀ j, j ≤ 40 → W j = M j) : RR f W T n g R F Q U :=
  ⟨x.ty.congr rfl (hW _ (by omega)) (hW _ (by omega)) (hW _ (by omega)), x.cn.congr rfl rfl (hW _ (by omega)) (hW _ (by omega)), x.rw.congr (fun j hj => hW j (by omega)), x.fu.congr rfl (fun j _ h2 => hW j (by omega)), x.pk.congr rfl (hW _ (by omega)) (hW _ (by omega)), x.un.congr rfl (fun j _ h2 => hW j h2), x.dp⟩
theorem RR.sub (x : RR f M T n g R F Q U) {R2 : Nat → Option RowD} (hr : ∀ k d, R2 k = some d → R k = some d) : RR f M T n g R2 F Q U := ⟨x.ty, x.cn, fun k d hk => x.rw k d (hr k d hk), x.fu, x.pk, x.un, x.dp⟩
theorem RR.upIt (x : RR f M T n g R F Q U) (hk : k ≤ 100) (hF : itF M W k) (hd : rIt W k d.1) : RR f W T n g (aup R k (some d)) F Q U := by
  have h0 : ∀ j, j < 5 ∨ 9 < j → W j = M j := hF.1
  refine ⟨x.ty.congr rfl (h0 _ (by omega)) (h0 _ (by omega)) (h0 _ (by omega)), x.cn.congr rfl rfl (h0 _ (by omega)) (h0 _ (by omega)), ?_, x.fu.congr rfl (fun j _ h2 => h0 j (by omega)), x.pk.congr rfl (h0 _ (by omega)) (h0 _ (by omega)), x.un.congr rfl (fun j _ h2 => h0 j (by omega)), x.dp⟩
  intro l e hl
  by_cases hlk : l = k
  · subst hlk
    rw [aup_s] at hl
    cases hl
    exact ⟨fun _ => hd, fun h1 => by omega, fun h1 => by omega⟩
  · rw [aup_n hlk] at hl
    obtain ⟨a, b, c⟩ := x.rw l e hl
    refine ⟨fun h1 => hF.other hlk (a h1), fun h1 h2 => ⟨(b h1 h2).1.congr (fun j _ _ => h0 j (by omega)), by rw [h0 12 (by omega)]; exact (b h1 h2).2⟩, fun h1 h2 => (c h1 h2).congr (fun j _ _ => h0 j (by omega))⟩
theorem RR.upSp (x : RR f M T n g R F Q U) (hk : k ≤ 20) (hkg : g ≤ k → k = 20) (hF : spF M W k) (hd : rSp W k d.1) (hw : W 12 k = nI d.2.1) : RR f W T n g (aup R (200 + k) (some d)) F Q U := by
  have h0 : ∀ j, j < 11 ∨ 16 < j → W j = M j := hF.1
  refine ⟨x.ty.congr rfl (h0 _ (by omega)) (h0 _ (by omega)) (h0 _ (by omega)), ⟨x.cn.1, x.cn.2.1, x.cn.2.2.1, x.cn.2.2.2.1, fun j h1 h2 => by rw [hF.2.1 11 j (by omega) (by omega) (by omega), hF.2.1 12 j (by omega) (by omega) (by omega)]; exact x.cn.2.2.2.2 j h1 h2⟩, ?_, x.fu.congr rfl (fun j _ h2 => h0 j (by omega)), x.pk.congr rfl (h0 _ (by omega)) (h0 _ (by omega)), x.un.congr rfl (fun j _ h2 => h0 j (by omega)), x.dp⟩
  intro l e hl
  by_cases hlk : l = 200 + k
  · subst hlk
    rw [aup_s] at hl
    cases hl
    exact ⟨fun h1 => by omega, fun h1 h2 => by rw [Nat.add_sub_cancel_left]; exact ⟨hd, hw⟩, fun h1 => by omega⟩
  · rw [aup_n hlk] at hl
    obtain ⟨a, b, c⟩ := x.rw l e hl
    refine ⟨fun h1 => (a h1).congr (fun j _ _ => h0 j (by omega)), fun h1 h2 => ⟨hF.other (by omega) (b h1 h2).1, by rw [hF.2.1 12 _ (by omega) (by omega) (by omega)]; exact (b h1 h2).2⟩, fun h1 h2 => (c h1 h2).congr (fun j _ _ => h0 j (by omega))⟩
theorem RR.upBo (x : RR f M T n g R F Q U) (hk : k ≤ 8) (hF : boF M W k) (hd : rBo W k d.1) : RR f W T n g (aup R (300 + k) (some d)) F Q U := by
  have h0 : ∀ j, j < 18 ∨ 24 < j → W j = M j := hF.1
  refine ⟨x.ty.congr rfl (h0 _ (by omega)) (h0 _ (by omega)) (h0 _ (by omega)), x.cn.congr rfl rfl (h0 _ (by omega)) (h0 _ (by omega)), ?_, x.fu.congr rfl (fun j _ h2 => h0 j (by omega)), x.pk.congr rfl (h0 _ (by omega)) (h0 _ (by omega)), x.un.congr rfl (fun j _ h2 => h0 j (by omega)), x.dp⟩
  intro l e hl
  by_cases hlk : l = 300 + k
  · subst hlk
    rw [aup_s] at hl
    cases hl
    exact ⟨fun h1 => by omega, fun h1 h2 => by omega, fun h1 h2 => by rw [Nat.add_sub_cancel_left]; exact hd⟩
  · rw [aup_n hlk] at hl
    obtain ⟨a, b, c⟩ := x.rw l e hl
    refine ⟨fun h1 => (a h1).congr (fun j _ _ => h0 j (by omega)), fun h1 h2 => ⟨(b h1 h2).1.congr (fun j _ _ => h0 j (by omega)), by rw [h0 12 (by omega)]; exact (b h1 h2).2⟩, fun h1 h2 => hF.other (by omega) (c h1 h2)⟩
end RRs
/-! small answers of the reference -/
section RSm
variable {f : Nat → Int32} {M : Nat → Nat → Int32} {T : List TyD} {n g : Nat} {R : Nat → Option RowD} {F : List FuD} {Q : List (Int32 × Int32)} {U : List UnD} {S : rS}
theorem isIn_t {v a c : Int32} (h1 : ¬ v < a) (h2 : ¬ c < v) : fX7_isIn v a c S = some (1, S) := by
  unfold fX7_isIn
  rw [if_neg h1, if_neg h2]
  exact rbo_1
theorem isIn_f {v a c : Int32} (h : v < a ∨ c < v) : fX7_isIn v a c S = some (0, S) := by
  unfold fX7_isIn
  by_cases h1 : v < a
  · rw [if_pos h1]; exact rbo_0
  · rw [if_neg h1, if_pos (h.resolve_left h1)]; exact rbo_0
theorem lt_cnt {n : Nat} (hn : n < 2 ^ 30) {v : Int32} : (v < 0 ∨ nI n - 1 < v) ↔ (v < 0 ∨ nI n ≤ v) := by
  have h1 : (nI n - 1).toInt = (n : Int) - 1 := pk_sub_toInt (b := 1) hn (by decide)
  have h2 := nI_toInt (n := n) (by omega)
  rw [Int32.lt_iff_toInt_lt, Int32.lt_iff_toInt_lt, Int32.le_iff_toInt_le, h1, h2]
  omega
theorem isType_t (h : RR f M T n g R F Q U) {t : Nat} (ht : t < T.length) : fX7_isType (nI t) (f, M) = some (1, f, M) := by
  have h3 := h.ty.2.1
  unfold fX7_isType
  have hn : ¬ (nI t < 0 ∨ nI T.length - 1 < nI t) := fun hh => ((lt_cnt (by omega)).mp hh).elim (nI_pos (by omega)) (nI_ge ht (by omega))
  show Option.bind (fX7_isIn (nI t) 0 (f 0 - 1) (f, M)) _ = _
  rw [h.ty.1, isIn_t (fun hh => hn (Or.inl hh)) (fun hh => hn (Or.inr hh)), Option.bind_some]
  exact rbo_1
theorem isType_f (h : RR f M T n g R F Q U) {x : Int32} (hx : x < 0 ∨ nI T.length ≤ x) : fX7_isType x (f, M) = some (0, f, M) := by
  have h3 := h.ty.2.1
  unfold fX7_isType
  show Option.bind (fX7_isIn x 0 (f 0 - 1) (f, M)) _ = _
  rw [h.ty.1, isIn_f ((lt_cnt (by omega)).mpr hx), Option.bind_some]
  exact rbo_0
theorem isStr_t (h : RR f M T n g R F Q U) {t : Nat} (ht : t < n) : fX7_isStructure (nI t) (f, M) = some (1, f, M) := by
  have h3 := h.cn.2.1
  unfold fX7_isStructure
  have hn : ¬ (nI t < 0 ∨ nI n - 1 < nI t) := fun hh => ((lt_cnt (by omega)).mp hh).elim (nI_pos (by omega)) (nI_ge ht (by omega))
  show Option.bind (fX7_isIn (nI t) 0 (f 4 - 1) (f, M)) _ = _
  rw [h.cn.1, isIn_t (fun hh => hn (Or.inl hh)) (fun hh => hn (Or.inr hh)), Option.bind_some]
  exact rbo_1
theorem isStr_f (h : RR f M T n g R F Q U) {x : Int32} (hx : x < 0 ∨ nI n ≤ x) : fX7_isStructure x (f, M) = some (0, f, M) := by
  have h3 := h.cn.2.1
  unfold fX7_isStructure
  show Option.bind (fX7_isIn x 0 (f 4 - 1) (f, M)) _ = _
  rw [h.cn.1, isIn_f ((lt_cnt (by omega)).mpr hx), Option.bind_some]
  exact rbo_0
theorem isSig_t (h : RR f M T n g R F Q U) {t : Nat} (ht : t < g) : fX7_isSignature (nI t) (f, M) = some (1, f, M) := by
  have h3 := h.cn.2.2.2.1
  unfold fX7_isSignature
  have hn : ¬ (nI t < 0 ∨ nI g - 1 < nI t) := fun hh => ((lt_cnt (by omega)).mp hh).elim (nI_pos (by omega)) (nI_ge ht (by omega))
  show Option.bind (fX7_isIn (nI t) 0 (f 10 - 1) (f, M)) _ = _
  rw [h.cn.2.2.1, isIn_t (fun hh => hn (Or.inl hh)) (fun hh => hn (Or.inr hh)), Option.bind_some]
  exact rbo_1
theorem isSig_f (h : RR f M T n g R F Q U) {x : Int32} (hx : x < 0 ∨ nI g ≤ x) : fX7_isSignature x (f, M) = some (0, f, M) := by
  have h3 := h.cn.2.2.2.1
  unfold fX7_isSignature
  show Option.bind (fX7_isIn x 0 (f 10 - 1) (f, M)) _ = _
  rw [h.cn.2.2.1, isIn_f ((lt_cnt (by omega)).mpr hx), Option.bind_some]
  exact rbo_0
/-- a name -/
def isNm (x : Int32) : Prop := ∃ i, i < 10 ∧ x = nI i
theorem isNm_em (x : Int32) : isNm x ∨ (x < 0 ∨ nI 10 ≤ x) := by
  rcases pk_ix x (n := 10) (by omega) with h | h | ⟨j, hj, rfl⟩
  · exact Or.inr (Or.inl h)
  · exact Or.inr (Or.inr h)
  · exact Or.inl ⟨j, hj, rfl⟩
theorem isName_t {x : Int32} (h : isNm x) : fX7_isName x S = some (1, S) := by
  obtain ⟨i, hi, rfl⟩ := h
  unfold fX7_isName
  rw [isIn_t (nI_pos (by omega)) (by rw [show (9 : Int32) = nI 9 from rfl]; exact nI_nlt (by omega) (by omega)), Option.bind_some]
  exact rbo_1
theorem isName_f {x : Int32} (h : x < 0 ∨ nI 10 ≤ x) : fX7_isName x S = some (0, S) := by
  unfold fX7_isName
  rw [isIn_f (by have := (lt_cnt (n := 10) (v := x) (by omega)).mpr h; exact this), Option.bind_some]
  exact rbo_0
def isNum (x : Int32) : Prop := ¬ x < -10000 ∧ ¬ 10000 < x
theorem isNumber_t {x : Int32} (h : isNum x) : fX7_isNumber x S = some (1, S) := by
  unfold fX7_isNumber
  rw [isIn_t h.1 h.2, Option.bind_some]
  exact rbo_1
theorem isNumber_f {x : Int32} (h : ¬ isNum x) : fX7_isNumber x S = some (0, S) := by
  unfold fX7_isNumber
  rw [isIn_f (by by_cases h1 : x < -10000; exact Or.inl h1; exact Or.inr (Classical.byContradiction (fun h2 => h ⟨h1, h2⟩))), Option.bind_some]
  exact rbo_0
theorem fails_0 : fX7_fails 0 (f, M) = some (0, upd f 54 0, M) := by
  unfold fX7_fails
  show (if (0 : Int32) ≤ 0 then _ else _) = _
  rw [if_pos (by decide)]
  exact rbo_0
theorem fails_1 {v : Int32} (h : ¬ v ≤ 0) : fX7_fails v (f, M) = some (1, upd f 54 v, M) := by
  unfold fX7_fails
  show (if v ≤ 0 then _ else _) = _
  rw [if_neg h]
  exact rbo_1
end RSm
