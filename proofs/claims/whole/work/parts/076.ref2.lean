/-! THE REFERENCE'S ROWS -/
def mup (M : Nat → Nat → Int32) (k i : Nat) (v : Int32) : Nat → Nat → Int32 := rup M k (upd (M k) i v)
theorem mup_s {M : Nat → Nat → Int32} {k i : Nat} {v : Int32} : mup M k i v k i = v := by unfold mup rup upd; rw [if_pos rfl, if_pos rfl]
theorem mup_i {M : Nat → Nat → Int32} {k i j : Nat} {v : Int32} (h : j ≠ i) : mup M k i v k j = M k j := by unfold mup rup upd; rw [if_pos rfl, if_neg h]
theorem mup_k {M : Nat → Nat → Int32} {k i j : Nat} {v : Int32} (h : j ≠ k) : mup M k i v j = M j := by unfold mup rup; rw [if_neg h]
theorem r_rd {f : Nat → Int32} {M : Nat → Nat → Int32} {k i : Nat} (len : Nat) (hl : rLen k = len) (hi : i < len) (h9 : len < 2 ^ 31) : rd (f, M) k (nI i) = some (M k i) := by
  unfold rd
  rw [hl, if_neg (nI_in hi h9), nI_clamp (by omega)]
theorem r_wr {f : Nat → Int32} {M : Nat → Nat → Int32} {k i : Nat} {v : Int32} (len : Nat) (hl : rLen k = len) (hi : i < len) (h9 : len < 2 ^ 31) : rwr (f, M) k (nI i) v = some (f, mup M k i v) := by
  unfold rwr
  rw [hl, if_neg (nI_in hi h9), nI_clamp (by omega)]
  rfl
theorem rbo_1 {S : rS} : rbo 1 S = some (1, S) := if_pos rfl
theorem rbo_0 {S : rS} : rbo 0 S = some (0, S) := if_pos rfl
theorem plc_take {L : List En} {kd nm : Int32} (hu : Uq L) {p : Nat} (hp : p < L.length) : plc (L.take (p + 1)) kd nm = if hit kd nm L[p] = true then some p else plc (L.take p) kd nm := by
  have hu2 : Uq (L.take (p + 1)) := by
    intro q r e f hq hr h1 h2
    rw [List.getElem?_take] at hq hr
    split at hq
    · split at hr
      · exact hu q r e f hq hr h1 h2
      · cases hr
    · cases hq
  by_cases hh : hit kd nm L[p] = true
  · rw [if_pos hh]
    exact plc_of hu2 (e := L[p]) (by rw [List.getElem?_take, if_pos (by omega)]; exact List.getElem?_eq_getElem hp) (hit_t hh).1 (hit_t hh).2
  · rw [if_neg hh]
    cases hx : plc (L.take p) kd nm with
    | some q =>
      obtain ⟨e, h1, h2, h3⟩ := plc_some hx
      rw [List.getElem?_take] at h1
      split at h1
      · exact plc_of hu2 (e := e) (by rw [List.getElem?_take, if_pos (by omega)]; exact h1) h2 h3
      · cases h1
    | none =>
      refine plc_of_none (fun e he => ?_)
      obtain ⟨q, hq⟩ := List.mem_iff_getElem?.mp he
      rw [List.getElem?_take] at hq
      split at hq
      · by_cases hqp : q = p
        · subst hqp
          rw [List.getElem?_eq_getElem hp] at hq
          cases hq
          exact fun h => hh (decide_eq_true h)
        · exact plc_none hx e (List.mem_of_getElem? (i := q) (by rw [List.getElem?_take, if_pos (by omega)]; exact hq))
      · cases hq
def rIt (M : Nat → Nat → Int32) (k : Nat) (L : List En) : Prop := M 5 k = nI L.length ∧ L.length ≤ 60 ∧ ∀ (p : Nat) (e : En), L[p]? = some e → M 6 (60 * k + p) = e.1 ∧ M 7 (60 * k + p) = e.2.1 ∧ M 8 (60 * k + p) = e.2.2.1 ∧ M 9 (60 * k + p) = e.2.2.2.2.1
def rSp (M : Nat → Nat → Int32) (k : Nat) (L : List En) : Prop := M 11 k = nI L.length ∧ L.length ≤ 60 ∧ ∀ (p : Nat) (e : En), L[p]? = some e → M 13 (60 * k + p) = e.1 ∧ M 14 (60 * k + p) = e.2.1 ∧ M 15 (60 * k + p) = e.2.2.1 ∧ M 16 (60 * k + p) = e.2.2.2.1
def rBo (M : Nat → Nat → Int32) (k : Nat) (L : List En) : Prop := M 18 k = nI L.length ∧ L.length ≤ 20 ∧ ∀ (p : Nat) (e : En), L[p]? = some e → M 19 (20 * k + p) = e.1 ∧ M 20 (20 * k + p) = e.2.1 ∧ (e.1 ≠ 0 → M 21 (20 * k + p) = e.2.2.1) ∧ M 22 (20 * k + p) = e.2.2.2.1 ∧ M 23 (20 * k + p) = e.2.2.2.2.2 ∧ M 24 (20 * k + p) = e.2.2.2.2.1
section RFind
variable {f : Nat → Int32} {M : Nat → Nat → Int32} {k : Nat} {L : List En}
theorem fi_it_loop (h : rIt M k L) (hk : k ≤ 100) (hu : Uq L) (kd nm : Int32) : ∀ m fu p, p + m = L.length → m < fu → fX7_findsItem_b9 fu (nI k) kd nm (plI (60 * k) (plc (L.take p) kd nm)) (nI (60 * k + p)) (f, M) = some (plI (60 * k) (plc L kd nm), f, M) := by
  obtain ⟨h1, h2, h3⟩ := h
  have hst : (60 : Int32) * nI k + nI L.length = nI (60 * k + L.length) := by rw [show (60 : Int32) = nI 60 from rfl, pk_mul, nI_add]
  intro m
  induction m with
  | zero =>
    intro fu p hp hf
    cases fu with
    | zero => omega
    | succ fu =>
      show fX7_findsItem_b9_body _ (nI k) kd nm _ _ (f, M) = _
      unfold fX7_findsItem_b9_body
      rw [r_rd 101 rfl (by omega) (by omega), Option.bind_some, h1, hst, if_pos (nI_le (by omega) (by omega)), List.take_of_length_le (by omega)]
  | succ m ih =>
    intro fu p hp hf
    cases fu with
    | zero => omega
    | succ fu =>
      have hpl : p < L.length := by omega
      obtain ⟨e1, e2, -⟩ := h3 p _ (List.getElem?_eq_getElem hpl)
      have hn := ih fu (p + 1) (by omega) (by omega)
      rw [plc_take hu hpl] at hn
      show fX7_findsItem_b9_body _ (nI k) kd nm _ _ (f, M) = _
      unfold fX7_findsItem_b9_body
      rw [r_rd 101 rfl (by omega) (by omega), Option.bind_some, h1, hst, if_neg (nI_ge (by omega) (by omega)), r_rd 6060 rfl (by omega) (by omega), Option.bind_some, e1]
      by_cases c1 : L[p].1 = kd
      · rw [if_pos c1, r_rd 6060 rfl (by omega) (by omega), Option.bind_some, e2]
        by_cases c2 : L[p].2.1 = nm
        · rw [if_pos (show hit kd nm L[p] = true from decide_eq_true ⟨c1, c2⟩)] at hn
          rw [if_pos c2]
          unfold fX7_findsItem_b54
          rw [nI_1]
          exact hn
        · rw [if_neg (fun hh => c2 (hit_t hh).2)] at hn
          rw [if_neg c2]
          unfold fX7_findsItem_b52 fX7_findsItem_b54
          rw [nI_1]
          exact hn
      · rw [if_neg (fun hh => c1 (hit_t hh).1)] at hn
        rw [if_neg c1]
        unfold fX7_findsItem_b52 fX7_findsItem_b54
        rw [nI_1]
        exact hn
theorem fi_it (h : rIt M k L) (hk : k ≤ 100) (hu : Uq L) (kd nm : Int32) : fX7_findsItem (nI k) kd nm (f, M) = some (plI (60 * k) (plc L kd nm), f, M) := by
  have h2 := h.2.1
  have := fi_it_loop (f := f) h hk hu kd nm L.length rFuel 0 (by omega) (by show L.length < 100000; omega)
  rw [List.take_zero] at this
  unfold fX7_findsItem
  show fX7_findsItem_b9 rFuel (nI k) kd nm (-1) (60 * nI k) (f, M) = _
  rw [show (60 : Int32) = nI 60 from rfl, pk_mul]
  exact this
theorem fi_sp_loop (h : rSp M k L) (hk : k ≤ 20) (hu : Uq L) (kd nm : Int32) : ∀ m fu p, p + m = L.length → m < fu → fX7_findsSpec_b9 fu (nI k) kd nm (plI (60 * k) (plc (L.take p) kd nm)) (nI (60 * k + p)) (f, M) = some (plI (60 * k) (plc L kd nm), f, M) := by
  obtain ⟨h1, h2, h3⟩ := h
  have hst : (60 : Int32) * nI k + nI L.length = nI (60 * k + L.length) := by rw [show (60 : Int32) = nI 60 from rfl, pk_mul, nI_add]
  intro m
  induction m with
  | zero =>
    intro fu p hp hf
    cases fu with
    | zero => omega
    | succ fu =>
      show fX7_findsSpec_b9_body _ (nI k) kd nm _ _ (f, M) = _
      unfold fX7_findsSpec_b9_body
      rw [r_rd 21 rfl (by omega) (by omega), Option.bind_some, h1, hst, if_pos (nI_le (by omega) (by omega)), List.take_of_length_le (by omega)]
  | succ m ih =>
    intro fu p hp hf
    cases fu with
    | zero => omega
    | succ fu =>
      have hpl : p < L.length := by omega
      obtain ⟨e1, e2, -⟩ := h3 p _ (List.getElem?_eq_getElem hpl)
      have hn := ih fu (p + 1) (by omega) (by omega)
      rw [plc_take hu hpl] at hn
      show fX7_findsSpec_b9_body _ (nI k) kd nm _ _ (f, M) = _
      unfold fX7_findsSpec_b9_body
      rw [r_rd 21 rfl (by omega) (by omega), Option.bind_some, h1, hst, if_neg (nI_ge (by omega) (by omega)), r_rd 1260 rfl (by omega) (by omega), Option.bind_some, e1]
      by_cases c1 : L[p].1 = kd
      · rw [if_pos c1, r_rd 1260 rfl (by omega) (by omega), Option.bind_some, e2]
        by_cases c2 : L[p].2.1 = nm
        · rw [if_pos (show hit kd nm L[p] = true from decide_eq_true ⟨c1, c2⟩)] at hn
          rw [if_pos c2]
          unfold fX7_findsSpec_b54
          rw [nI_1]
          exact hn
        · rw [if_neg (fun hh => c2 (hit_t hh).2)] at hn
          rw [if_neg c2]
          unfold fX7_findsSpec_b52 fX7_findsSpec_b54
          rw [nI_1]
          exact hn
      · rw [if_neg (fun hh => c1 (hit_t hh).1)] at hn
        rw [if_neg c1]
        unfold fX7_findsSpec_b52 fX7_findsSpec_b54
        rw [nI_1]
        exact hn
theorem fi_sp (h : rSp M k L) (hk : k ≤ 20) (hu : Uq L) (kd nm : Int32) : fX7_findsSpec (nI k) kd nm (f, M) = some (plI (60 * k) (plc L kd nm), f, M) := by
  have h2 := h.2.1
  have := fi_sp_loop (f := f) h hk hu kd nm L.length rFuel 0 (by omega) (by show L.length < 100000; omega)
  rw [List.take_zero] at this
  unfold fX7_findsSpec
  show fX7_findsSpec_b9 rFuel (nI k) kd nm (-1) (60 * nI k) (f, M) = _
  rw [show (60 : Int32) = nI 60 from rfl, pk_mul]
  exact this
theorem fi_bo_loop (h : rBo M k L) (hk : k ≤ 8) (hu : Uq L) (kd nm : Int32) : ∀ m fu p, p + m = L.length → m < fu → fX7_findsBody_b9 fu (nI k) kd nm (plI (20 * k) (plc (L.take p) kd nm)) (nI (20 * k + p)) (f, M) = some (plI (20 * k) (plc L kd nm), f, M) := by
  obtain ⟨h1, h2, h3⟩ := h
  have hst : (20 : Int32) * nI k + nI L.length = nI (20 * k + L.length) := by rw [show (20 : Int32) = nI 20 from rfl, pk_mul, nI_add]
  intro m
  induction m with
  | zero =>
    intro fu p hp hf
    cases fu with
    | zero => omega
    | succ fu =>
      show fX7_findsBody_b9_body _ (nI k) kd nm _ _ (f, M) = _
      unfold fX7_findsBody_b9_body
      rw [r_rd 9 rfl (by omega) (by omega), Option.bind_some, h1, hst, if_pos (nI_le (by omega) (by omega)), List.take_of_length_le (by omega)]
  | succ m ih =>
    intro fu p hp hf
    cases fu with
    | zero => omega
    | succ fu =>
      have hpl : p < L.length := by omega
      obtain ⟨e1, e2, -⟩ := h3 p _ (List.getElem?_eq_getElem hpl)
      have hn := ih fu (p + 1) (by omega) (by omega)
      rw [plc_take hu hpl] at hn
      show fX7_findsBody_b9_body _ (nI k) kd nm _ _ (f, M) = _
      unfold fX7_findsBody_b9_body
      rw [r_rd 9 rfl (by omega) (by omega), Option.bind_some, h1, hst, if_neg (nI_ge (by omega) (by omega)), r_rd 180 rfl (by omega) (by omega), Option.bind_some, e1]
      by_cases c1 : L[p].1 = kd
      · rw [if_pos c1, r_rd 180 rfl (by omega) (by omega), Option.bind_some, e2]
        by_cases c2 : L[p].2.1 = nm
        · rw [if_pos (show hit kd nm L[p] = true from decide_eq_true ⟨c1, c2⟩)] at hn
          rw [if_pos c2]
          unfold fX7_findsBody_b54
          rw [nI_1]
          exact hn
        · rw [if_neg (fun hh => c2 (hit_t hh).2)] at hn
          rw [if_neg c2]
          unfold fX7_findsBody_b52 fX7_findsBody_b54
          rw [nI_1]
          exact hn
      · rw [if_neg (fun hh => c1 (hit_t hh).1)] at hn
        rw [if_neg c1]
        unfold fX7_findsBody_b52 fX7_findsBody_b54
        rw [nI_1]
        exact hn
theorem fi_bo (h : rBo M k L) (hk : k ≤ 8) (hu : Uq L) (kd nm : Int32) : fX7_findsBody (nI k) kd nm (f, M) = some (plI (20 * k) (plc L kd nm), f, M) := by
  have h2 := h.2.1
  have := fi_bo_loop (f := f) h hk hu kd nm L.length rFuel 0 (by omega) (by show L.length < 100000; omega)
  rw [List.take_zero] at this
  unfold fX7_findsBody
  show fX7_findsBody_b9 rFuel (nI k) kd nm (-1) (20 * nI k) (f, M) = _
  rw [show (20 : Int32) = nI 20 from rfl, pk_mul]
  exact this
end RFind
/-- what a write of a row leaves alone -/
def itF (M W : Nat → Nat → Int32) (k : Nat) : Prop := (∀ j, j < 5 ∨ 9 < j → W j = M j) ∧ (∀ i, i ≠ k → W 5 i = M 5 i) ∧ ∀ j i, 6 ≤ j → j ≤ 9 → i < 60 * k ∨ 60 * k + 60 ≤ i → W j i = M j i
def spF (M W : Nat → Nat → Int32) (k : Nat) : Prop := (∀ j, j < 11 ∨ 16 < j → W j = M j) ∧ (∀ j i, 11 ≤ j → j ≤ 12 → i ≠ k → W j i = M j i) ∧ ∀ j i, 13 ≤ j → j ≤ 16 → i < 60 * k ∨ 60 * k + 60 ≤ i → W j i = M j i
def boF (M W : Nat → Nat → Int32) (k : Nat) : Prop := (∀ j, j < 18 ∨ 24 < j → W j = M j) ∧ (∀ i, i ≠ k → W 18 i = M 18 i) ∧ ∀ j i, 19 ≤ j → j ≤ 24 → i < 20 * k ∨ 20 * k + 20 ≤ i → W j i = M j i
theorem itF.rf {M : Nat → Nat → Int32} {k : Nat} : itF M M k := ⟨fun _ _ => rfl, fun _ _ => rfl, fun _ _ _ _ _ => rfl⟩
theorem spF.rf {M : Nat → Nat → Int32} {k : Nat} : spF M M k := ⟨fun _ _ => rfl, fun _ _ _ _ _ => rfl, fun _ _ _ _ _ => rfl⟩
theorem boF.rf {M : Nat → Nat → Int32} {k : Nat} : boF M M k := ⟨fun _ _ => rfl, fun _ _ => rfl, fun _ _ _ _ _ => rfl⟩
theorem itF.tr {M W V : Nat → Nat → Int32} {k : Nat} (h : itF M W k) (h2 : itF W V k) : itF M V k := ⟨fun j hj => (h2.1 j hj).trans (h.1 j hj), fun i hi => (h2.2.1 i hi).trans (h.2.1 i hi), fun j i h1 h3 h4 => (h2.2.2 j i h1 h3 h4).trans (h.2.2 j i h1 h3 h4)⟩
theorem spF.tr {M W V : Nat → Nat → Int32} {k : Nat} (h : spF M W k) (h2 : spF W V k) : spF M V k := ⟨fun j hj => (h2.1 j hj).trans (h.1 j hj), fun j i h1 h3 hi => (h2.2.1 j i h1 h3 hi).trans (h.2.1 j i h1 h3 hi), fun j i h1 h3 h4 => (h2.2.2 j i h1 h3 h4).trans (h.2.2 j i h1 h3 h4)⟩
theorem boF.tr {M W V : Nat → Nat → Int32} {k : Nat} (h : boF M W k) (h2 : boF W V k) : boF M V k := ⟨fun j hj => (h2.1 j hj).trans (h.1 j hj), fun i hi => (h2.2.1 i hi).trans (h.2.1 i hi), fun j i h1 h3 h4 => (h2.2.2 j i h1 h3 h4).trans (h.2.2 j i h1 h3 h4)⟩
theorem itF.other {M W : Nat → Nat → Int32} {k l : Nat} {L : List En} (h : itF M W k) (hl : l ≠ k) (hr : rIt M l L) : rIt W l L := by
  obtain ⟨h1, h2, h3⟩ := hr
  refine ⟨by rw [h.2.1 l hl]; exact h1, h2, fun p e he => ?_⟩
  have hp := (List.getElem?_eq_some_iff.mp he).1
  rw [h.2.2 6 _ (by omega) (by omega) (by omega), h.2.2 7 _ (by omega) (by omega) (by omega), h.2.2 8 _ (by omega) (by omega) (by omega), h.2.2 9 _ (by omega) (by omega) (by omega)]
  exact h3 p e he
theorem spF.other {M W : Nat → Nat → Int32} {k l : Nat} {L : List En} (h : spF M W k) (hl : l ≠ k) (hr : rSp M l L) : rSp W l L := by
  obtain ⟨h1, h2, h3⟩ := hr
  refine ⟨by rw [h.2.1 11 l (by omega) (by omega) hl]; exact h1, h2, fun p e he => ?_⟩
  have hp := (List.getElem?_eq_some_iff.mp he).1
  rw [h.2.2 13 _ (by omega) (by omega) (by omega), h.2.2 14 _ (by omega) (by omega) (by omega), h.2.2 15 _ (by omega) (by omega) (by omega), h.2.2 16 _ (by omega) (by omega) (by omega)]
  exact h3 p e he
theorem boF.other {M W : Nat → Nat → Int32} {k l : Nat} {L : List En} (h : boF M W k) (hl : l ≠ k) (hr : rBo M l L) : rBo W l L := by
  obtain ⟨h1, h2, h3⟩ := hr
  refine ⟨by rw [h.2.1 l hl]; exact h1, h2, fun p e he => ?_⟩
  have hp := (List.getElem?_eq_some_iff.mp he).1
  rw [h.2.2 19 _ (by omega) (by omega) (by omega), h.2.2 20 _ (by omega) (by omega) (by omega), h.2.2 21 _ (by omega) (by omega) (by omega), h.2.2 22 _ (by omega) (by omega) (by omega), h.2.2 23 _ (by omega) (by omega) (by omega), h.2.2 24 _ (by omega) (by omega) (by omega)]
  exact h3 p e he
theorem rIt.congr {M W : Nat → Nat → Int32} {k : Nat} {L : List En} (hr : rIt M k L) (h : ∀ j, 5 ≤ j → j ≤ 9 → W j = M j) : rIt W k L := by
  obtain ⟨h1, h2, h3⟩ := hr
  refine ⟨by rw [h 5 (by omega) (by omega)]; exact h1, h2, fun p e he => ?_⟩
  rw [h 6 (by omega) (by omega), h 7 (by omega) (by omega), h 8 (by omega) (by omega), h 9 (by omega) (by omega)]
  exact h3 p e he
theorem rSp.congr {M W : Nat → Nat → Int32} {k : Nat} {L : List En} (hr : rSp M k L) (h : ∀ j, 11 ≤ j → j ≤ 16 → W j = M j) : rSp W k L := by
  obtain ⟨h1, h2, h3⟩ := hr
  refine ⟨by rw [h 11 (by omega) (by omega)]; exact h1, h2, fun p e he => ?_⟩
  rw [h 13 (by omega) (by omega), h 14 (by omega) (by omega), h 15 (by omega) (by omega), h 16 (by omega) (by omega)]
  exact h3 p e he
theorem rBo.congr {M W : Nat → Nat → Int32} {k : Nat} {L : List En} (hr : rBo M k L) (h : ∀ j, 18 ≤ j → j ≤ 24 → W j = M j) : rBo W k L := by
  obtain ⟨h1, h2, h3⟩ := hr
  refine ⟨by rw [h 18 (by omega) (by omega)]; exact h1, h2, fun p e he => ?_⟩
  rw [h 19 (by omega) (by omega), h 20 (by omega) (by omega), h 21 (by omega) (by omega), h 22 (by omega) (by omega), h 23 (by omega) (by omega), h 24 (by omega) (by omega)]
  exact h3 p e he
theorem app_get {L : List En} {x e : En} {p : Nat} (h : (L ++ [x])[p]? = some e) : (p < L.length ∧ L[p]? = some e) ∨ (p = L.length ∧ e = x) := by
  by_cases hl : p < L.length
  · rw [List.getElem?_append_left hl] at h; exact Or.inl ⟨hl, h⟩
  · rw [List.getElem?_append_right (by omega)] at h
    have := (List.getElem?_eq_some_iff.mp h).1
    have h0 : p = L.length := by simp at this; omega
    subst h0
    simp at h
    exact Or.inr ⟨rfl, h.symm⟩
section RPut
variable {f : Nat → Int32} {M : Nat → Nat → Int32} {k : Nat} {L : List En}
theorem puts_r (h : rIt M k L) (hk : k ≤ 100) (hl : L.length < 60) (a b c d x y : Int32) : ∃ W, fX7_puts (nI k) a b c d (f, M) = some (f, W) ∧ rIt W k (L ++ [(a, b, c, x, d, y)]) ∧ itF M W k := by
  obtain ⟨h1, h2, h3⟩ := h
  refine ⟨mup (mup (mup (mup (mup M 6 (60 * k + L.length) a) 7 (60 * k + L.length) b) 8 (60 * k + L.length) c) 9 (60 * k + L.length) d) 5 k (nI (L.length + 1)), ?_, ?_, ?_⟩
  · unfold fX7_puts
    rw [r_rd 101 rfl (by omega) (by omega), Option.bind_some, h1]
    show Option.bind (rwr (f, M) 6 (60 * nI k + nI L.length) a) _ = _
    rw [show (60 : Int32) = nI 60 from rfl, pk_mul, nI_add, r_wr 6060 rfl (by omega) (by omega), Option.bind_some, r_wr 6060 rfl (by omega) (by omega), Option.bind_some, r_wr 6060 rfl (by omega) (by omega), Option.bind_some, r_wr 6060 rfl (by omega) (by omega), Option.bind_some, r_rd 101 rfl (by omega) (by omega), Option.bind_some, mup_k (by omega), mup_k (by omega), mup_k (by omega), mup_k (by omega), h1, nI_1, r_wr 101 rfl (by omega) (by omega), Option.bind_some]
  · refine ⟨by rw [mup_s, List.length_append]; rfl, by simp; omega, fun p e he => ?_⟩
    rw [mup_k (show 6 ≠ 5 by omega), mup_k (show 7 ≠ 5 by omega), mup_k (show 8 ≠ 5 by omega), mup_k (show 9 ≠ 5 by omega)]
    rw [mup_k (show 6 ≠ 9 by omega), mup_k (show 6 ≠ 8 by omega), mup_k (show 6 ≠ 7 by omega), mup_k (show 7 ≠ 9 by omega), mup_k (show 7 ≠ 8 by omega), mup_k (show 8 ≠ 9 by omega)]
    rcases app_get he with ⟨hp, he2⟩ | ⟨hp, rfl⟩
    · rw [mup_i (by omega), mup_i (by omega), mup_i (by omega), mup_i (by omega), mup_k (show 9 ≠ 8 by omega), mup_k (show 9 ≠ 7 by omega), mup_k (show 9 ≠ 6 by omega), mup_k (show 8 ≠ 7 by omega), mup_k (show 8 ≠ 6 by omega), mup_k (show 7 ≠ 6 by omega)]
      exact h3 p e he2
    · rw [hp, mup_s, mup_s, mup_s, mup_s]
      exact ⟨rfl, rfl, rfl, rfl⟩
  · refine ⟨fun j hj => by rw [mup_k (by omega), mup_k (by omega), mup_k (by omega), mup_k (by omega), mup_k (by omega)], fun i hi => by rw [mup_i hi, mup_k (by omega), mup_k (by omega), mup_k (by omega), mup_k (by omega)], fun j i hj1 hj2 hi => ?_⟩
    rcases (show j = 6 ∨ j = 7 ∨ j = 8 ∨ j = 9 by omega) with rfl | rfl | rfl | rfl
    · rw [mup_k (by omega), mup_k (by omega), mup_k (by omega), mup_k (by omega), mup_i (by omega)]
    · rw [mup_k (by omega), mup_k (by omega), mup_k (by omega), mup_i (by omega), mup_k (by omega)]
    · rw [mup_k (by omega), mup_k (by omega), mup_i (by omega), mup_k (by omega), mup_k (by omega)]
    · rw [mup_k (by omega), mup_i (by omega), mup_k (by omega), mup_k (by omega), mup_k (by omega)]
theorem specifies_r (h : rSp M k L) (hk : k ≤ 20) (hl : L.length < 60) {w : Nat} (hw : M 12 k = nI w) (a b c d x y : Int32) (more : Nat) : ∃ W, fX7_specifies (nI k) a b c d (nI more) (f, M) = some (f, W) ∧ rSp W k (L ++ [(a, b, c, d, x, y)]) ∧ W 12 k = nI (w + more) ∧ spF M W k := by
  obtain ⟨h1, h2, h3⟩ := h
  refine ⟨mup (mup (mup (mup (mup (mup M 13 (60 * k + L.length) a) 14 (60 * k + L.length) b) 15 (60 * k + L.length) c) 16 (60 * k + L.length) d) 11 k (nI (L.length + 1))) 12 k (nI (w + more)), ?_, ?_, mup_s, ?_⟩
  · unfold fX7_specifies
    rw [r_rd 21 rfl (by omega) (by omega), Option.bind_some, h1]
    show Option.bind (rwr (f, M) 13 (60 * nI k + nI L.length) a) _ = _
    rw [show (60 : Int32) = nI 60 from rfl, pk_mul, nI_add, r_wr 1260 rfl (by omega) (by omega), Option.bind_some, r_wr 1260 rfl (by omega) (by omega), Option.bind_some, r_wr 1260 rfl (by omega) (by omega), Option.bind_some, r_wr 1260 rfl (by omega) (by omega), Option.bind_some, r_rd 21 rfl (by omega) (by omega), Option.bind_some, mup_k (by omega), mup_k (by omega), mup_k (by omega), mup_k (by omega), h1, nI_1, r_wr 21 rfl (by omega) (by omega), Option.bind_some, r_rd 21 rfl (by omega) (by omega), Option.bind_some, mup_k (by omega), mup_k (by omega), mup_k (by omega), mup_k (by omega), mup_k (by omega), hw, nI_add, r_wr 21 rfl (by omega) (by omega), Option.bind_some]
  · refine ⟨by rw [mup_k (by omega), mup_s, List.length_append]; rfl, by simp; omega, fun p e he => ?_⟩
    rw [mup_k (show 13 ≠ 12 by omega), mup_k (show 13 ≠ 11 by omega), mup_k (show 13 ≠ 16 by omega), mup_k (show 13 ≠ 15 by omega), mup_k (show 13 ≠ 14 by omega), mup_k (show 14 ≠ 12 by omega), mup_k (show 14 ≠ 11 by omega), mup_k (show 14 ≠ 16 by omega), mup_k (show 14 ≠ 15 by omega), mup_k (show 15 ≠ 12 by omega), mup_k (show 15 ≠ 11 by omega), mup_k (show 15 ≠ 16 by omega), mup_k (show 16 ≠ 12 by omega), mup_k (show 16 ≠ 11 by omega)]
    rcases app_get he with ⟨hp, he2⟩ | ⟨hp, rfl⟩
    · rw [mup_i (by omega), mup_i (by omega), mup_i (by omega), mup_i (by omega), mup_k (show 16 ≠ 15 by omega), mup_k (show 16 ≠ 14 by omega), mup_k (show 16 ≠ 13 by omega), mup_k (show 15 ≠ 14 by omega), mup_k (show 15 ≠ 13 by omega), mup_k (show 14 ≠ 13 by omega)]
      exact h3 p e he2
    · rw [hp, mup_s, mup_s, mup_s, mup_s]
      exact ⟨rfl, rfl, rfl, rfl⟩
  · refine ⟨fun j hj => by rw [mup_k (by omega), mup_k (by omega), mup_k (by omega), mup_k (by omega), mup_k (by omega), mup_k (by omega)], fun j i hj1 hj2 hi => ?_, fun j i hj1 hj2 hi => ?_⟩
    · rcases (show j = 11 ∨ j = 12 by omega) with rfl | rfl
      · rw [mup_k (by omega), mup_i hi, mup_k (by omega), mup_k (by omega), mup_k (by omega), mup_k (by omega)]
      · rw [mup_i hi, mup_k (by omega), mup_k (by omega), mup_k (by omega), mup_k (by omega), mup_k (by omega)]
    · rcases (show j = 13 ∨ j = 14 ∨ j = 15 ∨ j = 16 by omega) with rfl | rfl | rfl | rfl
      · rw [mup_k (by omega), mup_k (by omega), mup_k (by omega), mup_k (by omega), mup_k (by omega), mup_i (by omega)]
      · rw [mup_k (by omega), mup_k (by omega), mup_k (by omega), mup_k (by omega), mup_i (by omega), mup_k (by omega)]
      · rw [mup_k (by omega), mup_k (by omega), mup_k (by omega), mup_i (by omega), mup_k (by omega), mup_k (by omega)]
      · rw [mup_k (by omega), mup_k (by omega), mup_i (by omega), mup_k (by omega), mup_k (by omega), mup_k (by omega)]
/-! adds: what has the name is taken out, the new one comes behind all -/
def hide (L : List En) (e : En) : List En := (match plc L e.1 e.2.1 with
  | some i => L.eraseIdx i
  | none => L) ++ [e]
def Ts (M : Nat → Nat → Int32) (L : List En) (i t : Nat) : Prop := ∀ (p : Nat) (e : En), (if p < i ∨ t ≤ p then L[p]? else L[p + 1]?) = some e → M 6 (6000 + p) = e.1 ∧ M 7 (6000 + p) = e.2.1 ∧ M 8 (6000 + p) = e.2.2.1 ∧ M 9 (6000 + p) = e.2.2.2.2.1
theorem adds_loop {m i : Nat} (hm : L.length = m + 1) (h60 : m + 1 ≤ 60) (a b c d z : Int32) : ∀ n fu p M, p + n = m → n < fu → i ≤ p → Ts M L i p → M 5 100 = nI m → ∃ W, fX7_adds_b31 fu a b c d z (nI (6000 + p)) (f, M) = fX7_adds_b117 a b c d z (f, W) ∧ Ts W L i m ∧ itF M W 100 ∧ W 5 100 = nI m := by
  intro n
  induction n with
  | zero =>
    intro fu p M hp hf hi hT h1
    cases fu with
    | zero => omega
    | succ fu =>
      refine ⟨M, ?_, ?_, itF.rf, h1⟩
      · show fX7_adds_b31_body _ a b c d z (nI (6000 + p)) (f, M) = _
        unfold fX7_adds_b31_body
        rw [show (100 : Int32) = nI 100 from rfl, r_rd 101 rfl (by omega) (by omega), Option.bind_some, h1, show (6000 : Int32) = nI 6000 from rfl, nI_add, if_pos (nI_le (by omega) (by omega))]
      · rw [show m = p by omega]; exact hT
  | succ n ih =>
    intro fu p M hp hf hi hT h1
    cases fu with
    | zero => omega
    | succ fu =>
      have hg : L[p + 1]? = some (L[p + 1]'(by omega)) := List.getElem?_eq_getElem (by omega)
      obtain ⟨v1, v2, v3, v4⟩ := hT (p + 1) _ (by rw [if_pos (Or.inr (by omega))]; exact hg)
      rw [show 6000 + (p + 1) = 6000 + p + 1 by omega] at v1 v2 v3 v4
      obtain ⟨W, d1, d2, d3, d4⟩ := ih fu (p + 1) (mup (mup (mup (mup M 6 (6000 + p) (L[p + 1]'(by omega)).1) 7 (6000 + p) (L[p + 1]'(by omega)).2.1) 8 (6000 + p) (L[p + 1]'(by omega)).2.2.1) 9 (6000 + p) (L[p + 1]'(by omega)).2.2.2.2.1) (by omega) (by omega) (by omega) (by
        intro q e he
        rw [mup_k (show 6 ≠ 9 by omega), mup_k (show 6 ≠ 8 by omega), mup_k (show 6 ≠ 7 by omega), mup_k (show 7 ≠ 9 by omega), mup_k (show 7 ≠ 8 by omega), mup_k (show 8 ≠ 9 by omega)]
        by_cases hq : q = p
        · subst hq
          rw [if_neg (by omega), hg] at he
          cases he
          rw [mup_s, mup_s, mup_s, mup_s]
          exact ⟨rfl, rfl, rfl, rfl⟩
        · rw [mup_i (by omega), mup_i (by omega), mup_i (by omega), mup_i (by omega), mup_k (show 9 ≠ 8 by omega), mup_k (show 9 ≠ 7 by omega), mup_k (show 9 ≠ 6 by omega), mup_k (show 8 ≠ 7 by omega), mup_k (show 8 ≠ 6 by omega), mup_k (show 7 ≠ 6 by omega)]
          refine hT q e ?_
          rw [← he]
          by_cases h5 : q < i ∨ p ≤ q
          · rw [if_pos h5, if_pos (by omega)]
          · rw [if_neg h5, if_neg (by omega)]) (by rw [mup_k (by omega), mup_k (by omega), mup_k (by omega), mup_k (by omega)]; exact h1)
      refine ⟨W, ?_, d2, itF.tr ⟨fun j hj => by rw [mup_k (by omega), mup_k (by omega), mup_k (by omega), mup_k (by omega)], fun i hi => by rw [mup_k (by omega), mup_k (by omega), mup_k (by omega), mup_k (by omega)], fun j i2 hj1 hj2 hi2 => ?_⟩ d3, d4⟩
      · show fX7_adds_b31_body _ a b c d z (nI (6000 + p)) (f, M) = _
        unfold fX7_adds_b31_body
        rw [show (100 : Int32) = nI 100 from rfl, r_rd 101 rfl (by omega) (by omega), Option.bind_some, h1, show (6000 : Int32) = nI 6000 from rfl, nI_add, if_neg (nI_ge (by omega) (by omega)), nI_1, r_rd 6060 rfl (by omega) (by omega), Option.bind_some, v1, r_wr 6060 rfl (by omega) (by omega), Option.bind_some, r_rd 6060 rfl (by omega) (by omega), Option.bind_some, mup_k (by omega), v2, r_wr 6060 rfl (by omega) (by omega), Option.bind_some, r_rd 6060 rfl (by omega) (by omega), Option.bind_some, mup_k (by omega), mup_k (by omega), v3, r_wr 6060 rfl (by omega) (by omega), Option.bind_some, r_rd 6060 rfl (by omega) (by omega), Option.bind_some, mup_k (by omega), mup_k (by omega), mup_k (by omega), v4, r_wr 6060 rfl (by omega) (by omega), Option.bind_some]
        exact d1
      · rcases (show j = 6 ∨ j = 7 ∨ j = 8 ∨ j = 9 by omega) with rfl | rfl | rfl | rfl
        · rw [mup_k (by omega), mup_k (by omega), mup_k (by omega), mup_i (by omega)]
        · rw [mup_k (by omega), mup_k (by omega), mup_i (by omega), mup_k (by omega)]
        · rw [mup_k (by omega), mup_i (by omega), mup_k (by omega), mup_k (by omega)]
        · rw [mup_i (by omega), mup_k (by omega), mup_k (by omega), mup_k (by omega)]
def hidden (L : List En) (kd nm : Int32) : Int32 := match plc L kd nm with
  | some _ => 1
  | none => 0
theorem adds_r (h : rIt M 100 L) (hu : Uq L) (hl : L.length < 60) (kd nm x num : Int32) : ∃ W, fX7_adds kd nm x num (f, M) = some (hidden L kd nm, f, W) ∧ rIt W 100 (hide L (kd, nm, x, -100, num, -1)) ∧ itF M W 100 := by
  have hfi := fi_it (f := f) h (Nat.le_refl 100) hu kd nm
  unfold fX7_adds
  rw [show (100 : Int32) = nI 100 from rfl, hfi, Option.bind_some]
  unfold hidden hide
  cases hp : plc L kd nm with
  | none =>
    obtain ⟨W, e1, e2, e3⟩ := puts_r (f := f) h (Nat.le_refl 100) hl kd nm x num (-100) (-1)
    refine ⟨W, ?_, e2, e3⟩
    show (if plI (60 * 100) none = -1 then fX7_adds_b117 kd nm x num (plI (60 * 100) none) (f, M) else _) = _
    rw [if_pos plI_none]
    unfold fX7_adds_b117
    rw [show (100 : Int32) = nI 100 from rfl, e1, Option.bind_some, if_pos plI_none]
    exact rbo_0
  | some i =>
    have hi := plc_lt hp
    obtain ⟨m, hm⟩ : ∃ m, L.length = m + 1 := ⟨L.length - 1, by omega⟩
    have e60 : plI (60 * 100) (some i) = nI (6000 + i) := rfl
    obtain ⟨W, d1, d2, d3, d4⟩ := adds_loop (f := f) (i := i) hm (by omega) kd nm x num (nI (6000 + i)) (m - i) rFuel i (mup M 5 100 (nI m)) (by omega) (by show m - i < 100000; omega) (Nat.le_refl _) (by
      intro p e he
      rw [mup_k (by omega), mup_k (by omega), mup_k (by omega), mup_k (by omega)]
      refine h.2.2 p e ?_
      rw [if_pos (by omega)] at he
      exact he) mup_s
    have hlen : (L.eraseIdx i).length = m := by rw [List.length_eraseIdx_of_lt hi]; omega
    have hW : rIt W 100 (L.eraseIdx i) := by
      refine ⟨by rw [d4, hlen], by omega, fun p e he => ?_⟩
      have hpm := (List.getElem?_eq_some_iff.mp he).1
      rw [eraseIdx_get] at he
      refine d2 p e ?_
      rw [← he]
      by_cases h : p < i
      · rw [if_pos h, if_pos (Or.inl h)]
      · rw [if_neg h, if_neg (by omega)]
    obtain ⟨V, e1, e2, e3⟩ := puts_r (f := f) hW (Nat.le_refl 100) (by omega) kd nm x num (-100) (-1)
    refine ⟨V, ?_, e2, itF.tr (itF.tr ⟨fun j hj => mup_k (by omega), fun i hi => mup_i hi, fun j i hj1 hj2 hi => by rw [mup_k (by omega)]⟩ d3) e3⟩
    show (if plI (60 * 100) (some i) = -1 then _ else Option.bind (rd (f, M) 5 (nI 100)) _) = _
    rw [e60, if_neg (nI_nm1 (by omega)), r_rd 101 rfl (by omega) (by omega), Option.bind_some, h.1, hm, nI_pred, r_wr 101 rfl (by omega) (by omega), Option.bind_some]
    show fX7_adds_b31 rFuel kd nm x num (nI (6000 + i)) (nI (6000 + i)) (f, _) = _
    rw [d1]
    unfold fX7_adds_b117
    rw [show (100 : Int32) = nI 100 from rfl, e1, Option.bind_some, if_neg (nI_nm1 (by omega))]
    exact rbo_1
end RPut
