/-! WHAT HOLDS OF THE ABSTRACT STATE -/
def sE (m n : Nat) (e : En) : Prop := (e.1 = 0 ∨ e.1 = 1 ∨ e.1 = 2) ∧ isNm e.2.1 ∧ (e.1 = 2 → ∃ i, i < n ∧ e.2.2.1 = nI i) ∧ (e.1 ≠ 2 → ∃ i, i < m ∧ e.2.2.1 = nI i) ∧ e.2.2.2.1 = -100 ∧ (e.1 ≠ 1 → e.2.2.2.2.1 = 0) ∧ e.2.2.2.2.2 = -1
def WfS (m n : Nat) (L : List En) : Prop := Uq L ∧ ∀ (p : Nat) (e : En), L[p]? = some e → sE m n e
/-- what is told: a type, or the name of a type ahead of it -/
def tOK (m : Nat) (L : List En) (p : Nat) (x : Int32) : Prop := (∃ i, i < m ∧ x = nI i) ∨ ∃ q e, q < p ∧ L[q]? = some e ∧ e.1 = 0 ∧ x = -1 - e.2.1
def gE (m i : Nat) (L : List En) (p : Nat) (e : En) : Prop := isNm e.2.1 ∧ e.2.2.2.2.1 = 0 ∧ e.2.2.2.2.2 = -1 ∧ ((e.1 = 0 ∧ e.2.2.2.1 = -100 ∧ (e.2.2.1 = -100 ∨ tOK m L p e.2.2.1)) ∨ (e.1 = 1 ∧ tOK m L p e.2.2.1 ∧ (e.2.2.2.1 = -100 ∨ tOK m L p e.2.2.2.1)) ∨ (e.1 = 2 ∧ e.2.2.2.1 = -100 ∧ ∃ j, j < i ∧ e.2.2.1 = nI j))
def WfG (m i : Nat) (L : List En) : Prop := Uq L ∧ ∀ (p : Nat) (e : En), L[p]? = some e → gE m i L p e
def bE (m : Nat) (L : List En) (p : Nat) (e : En) : Prop := isNm e.2.1 ∧ (e.2.2.2.2.2 = -1 ∨ isNm e.2.2.2.2.2) ∧ ((e.1 = 0 ∧ e.2.2.1 = -100 ∧ e.2.2.2.1 = -100 ∧ e.2.2.2.2.1 = 0) ∨ (e.1 = 1 ∧ tOK m L p e.2.2.1 ∧ (e.2.2.2.1 = -100 ∨ tOK m L p e.2.2.2.1)))
def WfB (m : Nat) (L : List En) : Prop := Uq L ∧ ∀ (p : Nat) (e : En), L[p]? = some e → bE m L p e
def iN (x : Int32) : Nat := x.toNatClampNeg
def wOf (R : Nat → Option RowD) (j : Nat) : Nat := match R (200 + j) with
  | some d => d.2.1
  | none => 0
def pOf (R : Nat → Option RowD) (j : Nat) : Nat := match R (200 + j) with
  | some d => d.2.2
  | none => 0
def wt (R : Nat → Option RowD) (e : En) : Nat := if e.1 = 2 then 1 + wOf R (iN e.2.2.1) else 1
def pt (R : Nat → Option RowD) (e : En) : Nat := if e.1 = 2 then 1 + pOf R (iN e.2.2.1) else 0
def sumW (R : Nat → Option RowD) (L : List En) : Nat := (L.map (wt R)).sum
def sumP (R : Nat → Option RowD) (L : List En) : Nat := (L.map (pt R)).sum
def wSig (R : Nat → Option RowD) (m i k : Nat) : Prop := ∃ L, R k = some (L, sumW R L, sumP R L) ∧ sumW R L ≤ 60 ∧ WfG m i L
def wFun (R : Nat → Option RowD) (n g : Nat) (i : Nat) (x : FuD) : Prop := (∃ a, a < g ∧ x.1 = nI a ∧ ∃ LA wa pa LB wb pb, R (200 + a) = some (LA, wa, pa) ∧ R (300 + i) = some (LB, wb, pb) ∧ ∀ (p : Nat) (e : En), LB[p]? = some e → e.2.2.2.2.2 ≠ -1 → plc LA e.1 e.2.2.2.2.2 ≠ none) ∧ (x.2.1 = -1 ∨ ∃ c, c < g ∧ x.2.1 = nI c) ∧ (x.2.2.1 = 0 ∨ x.2.2.1 = 1) ∧ ∀ s, s < 30 → x.2.2.2 s = -1 ∨ ∃ v, v < n ∧ x.2.2.2 s = nI v
def wUni (t g u : Nat) (x : UnD) : Prop := (∃ s, s < 2 ^ u ∧ x.1 = nI s) ∧ (x.2.1 = 0 ∨ x.2.1 = 1) ∧ (∃ c, c < g ∧ x.2.2.1 = nI c) ∧ x.2.2.2.1 ≤ t ∧ ∀ c, x.2.2.2.2.1 = some c → c ≤ t ∧ ∀ k, k < u → uBit x.1 k → ∃ h, h < g ∧ x.2.2.2.2.2.1 k = nI h
def WF (t : Nat) (T : List TyD) (n g : Nat) (R : Nat → Option RowD) (F : List FuD) (Q : List (Int32 × Int32)) (U : List UnD) : Prop :=
  (TyW T ∧ T.length ≤ 200 ∧ n ≤ 30 ∧ g ≤ 20) ∧ (∀ k, k < n ∨ k = 100 → ∃ L w p, R k = some (L, w, p) ∧ WfS T.length n L) ∧ ((∀ i, i < g → wSig R T.length i (200 + i)) ∧ wSig R T.length g 220) ∧ (∀ i, i < F.length ∨ i = 8 → ∃ L w p, R (300 + i) = some (L, w, p) ∧ WfB T.length L) ∧ (∀ (i : Nat) (x : FuD), F[i]? = some x → wFun R n g i x) ∧ (∀ (i : Nat) (x : Int32 × Int32), Q[i]? = some x → ∃ s c, s < n ∧ c < g ∧ x = (nI s, nI c)) ∧ ∀ (u : Nat) (x : UnD), U[u]? = some x → wUni t g u x
/-! rows hold at most thirty -/
theorem len_nodup : ∀ (n : Nat) (l : List Nat), l.Nodup → (∀ x, x ∈ l → x < n) → l.length ≤ n := by
  intro n
  induction n with
  | zero =>
    intro l _ h
    cases l with
    | nil => exact Nat.le_refl _
    | cons a t => exact absurd (h a List.mem_cons_self) (Nat.not_lt_zero _)
  | succ n ih =>
    intro l hn h
    have h1 := ih (l.erase n) (hn.erase n) (fun x hx => by
      have hx2 := (List.Nodup.mem_erase_iff hn).mp hx
      have := h x hx2.2
      have := hx2.1
      omega)
    by_cases hm : n ∈ l
    · rw [List.length_erase_of_mem hm] at h1; omega
    · rw [List.erase_of_not_mem hm] at h1; omega
def cdE (e : En) : Nat := iN e.1 * 10 + iN e.2.1
theorem kd_num {x : Int32} (h : x = 0 ∨ x = 1 ∨ x = 2) : iN x < 3 ∧ x = nI (iN x) := by
  rcases h with rfl | rfl | rfl <;> decide
theorem nm_num {x : Int32} (h : isNm x) : iN x < 10 ∧ x = nI (iN x) := by
  obtain ⟨i, hi, rfl⟩ := h
  unfold iN
  rw [nI_clamp (by omega)]
  exact ⟨hi, rfl⟩
theorem Uq_len {L : List En} (hu : Uq L) (hk : ∀ (p : Nat) (e : En), L[p]? = some e → (e.1 = 0 ∨ e.1 = 1 ∨ e.1 = 2) ∧ isNm e.2.1) : L.length ≤ 30 := by
  have hb : ∀ (p : Nat) (e : En), L[p]? = some e → cdE e < 30 := fun p e he => by
    have h1 := kd_num (hk p e he).1
    have h2 := nm_num (hk p e he).2
    unfold cdE
    omega
  have hnd : (L.map cdE).Nodup := by
    unfold List.Nodup
    rw [List.pairwise_iff_getElem]
    intro i j hi hj hij heq
    have hi2 : i < L.length := by simpa using hi
    have hj2 : j < L.length := by simpa using hj
    have e1 := List.getElem?_eq_getElem hi2
    have e2 := List.getElem?_eq_getElem hj2
    have k1 := kd_num (hk _ _ e1).1
    have k2 := kd_num (hk _ _ e2).1
    have n1 := nm_num (hk _ _ e1).2
    have n2 := nm_num (hk _ _ e2).2
    rw [List.getElem_map, List.getElem_map] at heq
    unfold cdE at heq
    have a1 : iN L[i].1 = iN L[j].1 := by omega
    have a2 : iN L[i].2.1 = iN L[j].2.1 := by omega
    have := hu i j _ _ e1 e2 (by rw [k1.2, k2.2, a1]) (by rw [n1.2, n2.2, a2])
    omega
  have := len_nodup 30 (L.map cdE) hnd (fun x hx => by
    obtain ⟨e, he, rfl⟩ := List.mem_map.mp hx
    obtain ⟨p, hp⟩ := List.mem_iff_getElem?.mp he
    exact hb p e hp)
  rw [List.length_map] at this
  exact this
theorem Uq_len2 {L : List En} (hu : Uq L) (hk : ∀ (p : Nat) (e : En), L[p]? = some e → (e.1 = 0 ∨ e.1 = 1) ∧ isNm e.2.1) : L.length ≤ 20 := by
  have hb : ∀ (p : Nat) (e : En), L[p]? = some e → cdE e < 20 := fun p e he => by
    have h0 : iN e.1 < 2 := by rcases (hk p e he).1 with h | h <;> rw [h] <;> decide
    have h2 := nm_num (hk p e he).2
    unfold cdE
    omega
  have hnd : (L.map cdE).Nodup := by
    unfold List.Nodup
    rw [List.pairwise_iff_getElem]
    intro i j hi hj hij heq
    have hi2 : i < L.length := by simpa using hi
    have hj2 : j < L.length := by simpa using hj
    have e1 := List.getElem?_eq_getElem hi2
    have e2 := List.getElem?_eq_getElem hj2
    have k1 := kd_num ((hk _ _ e1).1.imp_right Or.inl)
    have k2 := kd_num ((hk _ _ e2).1.imp_right Or.inl)
    have n1 := nm_num (hk _ _ e1).2
    have n2 := nm_num (hk _ _ e2).2
    rw [List.getElem_map, List.getElem_map] at heq
    unfold cdE at heq
    have a1 : iN L[i].1 = iN L[j].1 := by omega
    have a2 : iN L[i].2.1 = iN L[j].2.1 := by omega
    have := hu i j _ _ e1 e2 (by rw [k1.2, k2.2, a1]) (by rw [n1.2, n2.2, a2])
    omega
  have := len_nodup 20 (L.map cdE) hnd (fun x hx => by
    obtain ⟨e, he, rfl⟩ := List.mem_map.mp hx
    obtain ⟨p, hp⟩ := List.mem_iff_getElem?.mp he
    exact hb p e hp)
  rw [List.length_map] at this
  exact this
/-! what grows -/
theorem sE.mono {m n m2 n2 : Nat} {e : En} (h : sE m n e) (hm : m ≤ m2) (hn : n ≤ n2) : sE m2 n2 e := ⟨h.1, h.2.1, fun h2 => let ⟨i, a, b⟩ := h.2.2.1 h2; ⟨i, by omega, b⟩, fun h2 => let ⟨i, a, b⟩ := h.2.2.2.1 h2; ⟨i, by omega, b⟩, h.2.2.2.2⟩
theorem WfS.mono {m n m2 n2 : Nat} {L : List En} (h : WfS m n L) (hm : m ≤ m2) (hn : n ≤ n2) : WfS m2 n2 L := ⟨h.1, fun p e he => (h.2 p e he).mono hm hn⟩
theorem tOK.mono {m m2 : Nat} {L L2 : List En} {p : Nat} {x : Int32} (h : tOK m L p x) (hm : m ≤ m2) (hL : ∀ q, q < p → L2[q]? = L[q]?) : tOK m2 L2 p x := h.elim (fun ⟨i, a, b⟩ => Or.inl ⟨i, by omega, b⟩) (fun ⟨q, e, a, b, c⟩ => Or.inr ⟨q, e, a, by rw [hL q a]; exact b, c⟩)
theorem gE.mono {m m2 i i2 : Nat} {L L2 : List En} {p : Nat} {e : En} (h : gE m i L p e) (hm : m ≤ m2) (hi : i ≤ i2) (hL : ∀ q, q < p → L2[q]? = L[q]?) : gE m2 i2 L2 p e := by
  obtain ⟨h1, h2, h3, h4⟩ := h
  refine ⟨h1, h2, h3, ?_⟩
  rcases h4 with ⟨a, b, c⟩ | ⟨a, b, c⟩ | ⟨a, b, j, c, d⟩
  · exact Or.inl ⟨a, b, c.imp_right (fun q => q.mono hm hL)⟩
  · exact Or.inr (Or.inl ⟨a, b.mono hm hL, c.imp_right (fun q => q.mono hm hL)⟩)
  · exact Or.inr (Or.inr ⟨a, b, j, by omega, d⟩)
theorem WfG.mono {m m2 i i2 : Nat} {L : List En} (h : WfG m i L) (hm : m ≤ m2) (hi : i ≤ i2) : WfG m2 i2 L := ⟨h.1, fun p e he => (h.2 p e he).mono hm hi (fun _ _ => rfl)⟩
theorem bE.mono {m m2 : Nat} {L L2 : List En} {p : Nat} {e : En} (h : bE m L p e) (hm : m ≤ m2) (hL : ∀ q, q < p → L2[q]? = L[q]?) : bE m2 L2 p e := by
  obtain ⟨h1, h2, h3⟩ := h
  refine ⟨h1, h2, ?_⟩
  rcases h3 with h3 | ⟨a, b, c⟩
  · exact Or.inl h3
  · exact Or.inr ⟨a, b.mono hm hL, c.imp_right (fun q => q.mono hm hL)⟩
theorem WfB.mono {m m2 : Nat} {L : List En} (h : WfB m L) (hm : m ≤ m2) : WfB m2 L := ⟨h.1, fun p e he => (h.2 p e he).mono hm (fun _ _ => rfl)⟩
theorem gE.kind {m i : Nat} {L : List En} {p : Nat} {e : En} (h : gE m i L p e) : (e.1 = 0 ∨ e.1 = 1 ∨ e.1 = 2) ∧ isNm e.2.1 := ⟨h.2.2.2.imp And.left (fun q => q.imp And.left And.left), h.1⟩
theorem bE.kind {m : Nat} {L : List En} {p : Nat} {e : En} (h : bE m L p e) : (e.1 = 0 ∨ e.1 = 1) ∧ isNm e.2.1 := ⟨h.2.2.imp And.left And.left, h.1⟩
theorem WfS.len {m n : Nat} {L : List En} (h : WfS m n L) : L.length ≤ 30 := Uq_len h.1 (fun p e he => ⟨(h.2 p e he).1, (h.2 p e he).2.1⟩)
theorem WfG.len {m i : Nat} {L : List En} (h : WfG m i L) : L.length ≤ 30 := Uq_len h.1 (fun p e he => (h.2 p e he).kind)
theorem WfB.len {m : Nat} {L : List En} (h : WfB m L) : L.length ≤ 20 := Uq_len2 h.1 (fun p e he => (h.2 p e he).kind)
theorem WfS.nil {m n : Nat} : WfS m n [] := ⟨Uq_nil, fun p e he => by simp at he⟩
theorem WfG.nil {m i : Nat} : WfG m i [] := ⟨Uq_nil, fun p e he => by simp at he⟩
theorem WfB.nil {m : Nat} : WfB m [] := ⟨Uq_nil, fun p e he => by simp at he⟩
theorem WfS.add {m n : Nat} {L : List En} {e : En} (h : WfS m n L) (he : sE m n e) (hp : plc L e.1 e.2.1 = none) : WfS m n (L ++ [e]) := ⟨Uq_add h.1 hp, fun p x hx => (app_get hx).elim (fun q => h.2 p x q.2) (fun q => by rw [q.2]; exact he)⟩
theorem app_lt {L : List En} {x : En} {q p : Nat} (hp : p ≤ L.length) (h : q < p) : (L ++ [x])[q]? = L[q]? := List.getElem?_append_left (by omega)
theorem WfG.add {m i : Nat} {L : List En} {e : En} (h : WfG m i L) (he : gE m i L L.length e) (hp : plc L e.1 e.2.1 = none) : WfG m i (L ++ [e]) := ⟨Uq_add h.1 hp, fun p x hx => (app_get hx).elim (fun q => (h.2 p x q.2).mono (Nat.le_refl _) (Nat.le_refl _) (fun r hr => app_lt (by omega) hr)) (fun q => by rw [q.2, q.1]; exact he.mono (Nat.le_refl _) (Nat.le_refl _) (fun r hr => app_lt (by omega) hr))⟩
theorem WfB.add {m : Nat} {L : List En} {e : En} (h : WfB m L) (he : bE m L L.length e) (hp : plc L e.1 e.2.1 = none) : WfB m (L ++ [e]) := ⟨Uq_add h.1 hp, fun p x hx => (app_get hx).elim (fun q => (h.2 p x q.2).mono (Nat.le_refl _) (fun r hr => app_lt (by omega) hr)) (fun q => by rw [q.2, q.1]; exact he.mono (Nat.le_refl _) (fun r hr => app_lt (by omega) hr))⟩
theorem WfS.erase {m n i : Nat} {L : List En} (h : WfS m n L) : WfS m n (L.eraseIdx i) := ⟨Uq_erase h.1, fun p e he => by rw [eraseIdx_get] at he; split at he; exact h.2 _ _ he; exact h.2 _ _ he⟩
theorem WfS.hid {m n : Nat} {L : List En} {e : En} (h : WfS m n L) (he : sE m n e) : WfS m n (hide L e) := by
  unfold hide
  cases hp : plc L e.1 e.2.1 with
  | none => exact h.add he hp
  | some i => exact h.erase.add he (plc_erase h.1 hp)
/-! weights -/
theorem sumW_congr {R R2 : Nat → Option RowD} {m i : Nat} {L : List En} (h : WfG m i L) (hi : i ≤ 20) (hR : ∀ j, j < i → R2 (200 + j) = R (200 + j)) : sumW R2 L = sumW R L ∧ sumP R2 L = sumP R L := by
  have key : ∀ e, e ∈ L → wt R2 e = wt R e ∧ pt R2 e = pt R e := by
    intro e he
    obtain ⟨p, hp⟩ := List.mem_iff_getElem?.mp he
    unfold wt pt
    by_cases h2 : e.1 = 2
    · rw [if_pos h2, if_pos h2, if_pos h2, if_pos h2]
      rcases (h.2 p e hp).2.2.2 with ⟨a, -⟩ | ⟨a, -⟩ | ⟨-, -, j, c, d⟩
      · rw [a] at h2; exact absurd h2 (by decide)
      · rw [a] at h2; exact absurd h2 (by decide)
      · have : iN e.2.2.1 = j := by unfold iN; rw [d, nI_clamp (by omega)]
        unfold wOf pOf
        rw [this, hR j c]
        exact ⟨rfl, rfl⟩
    · rw [if_neg h2, if_neg h2, if_neg h2, if_neg h2]
      exact ⟨rfl, rfl⟩
  unfold sumW sumP
  rw [List.map_congr_left (fun e he => (key e he).1), List.map_congr_left (fun e he => (key e he).2)]
  exact ⟨rfl, rfl⟩
theorem wSig.congr {R R2 : Nat → Option RowD} {m m2 i k : Nat} (h : wSig R m i k) (hm : m ≤ m2) (hi : i ≤ 20) (hR : ∀ j, j < i → R2 (200 + j) = R (200 + j)) (hk : R2 k = R k) : wSig R2 m2 i k := by
  obtain ⟨L, h1, h2, h3⟩ := h
  obtain ⟨e1, e2⟩ := sumW_congr h3 hi hR
  exact ⟨L, by rw [hk, e1, e2]; exact h1, by rw [e1]; exact h2, h3.mono hm (Nat.le_refl _)⟩
