/-! THE ABSTRACT STATE that class and reference have in common. A row of entries (kind, name, told, to, number, from); rows by their roles: k < 100 struct k, 100 its draft, 200 + g sig g, 220 its draft, 300 + f the body of functor f, 308 its draft. -/
abbrev En : Type := Int32 × Int32 × Int32 × Int32 × Int32 × Int32
def en (e : En) (q : Nat) : Int32 := match q with
  | 0 => e.1
  | 1 => e.2.1
  | 2 => e.2.2.1
  | 3 => e.2.2.2.1
  | 4 => e.2.2.2.2.1
  | _ => e.2.2.2.2.2
/-- entries, how many specs with those of the parts, how many parts -/
abbrev RowD : Type := List En × Nat × Nat
abbrev TyD : Type := Option (Int32 × Int32)
/-- argument, result, whether pure, results by structures -/
abbrev FuD : Type := Int32 × Int32 × Int32 × (Nat → Int32)
/-- uses, inlined, face, changes, changes when built, noted faces, noted changes -/
abbrev UnD : Type := Int32 × Int32 × Int32 × Nat × Option Nat × (Nat → Int32) × (Nat → Int32)
/-- types, structures, signatures, rows, functors, packs, units -/
abbrev aS : Type := List TyD × Nat × Nat × (Nat → Option RowD) × List FuD × List (Int32 × Int32) × List UnD
def aup {α : Type} (R : Nat → α) (k : Nat) (d : α) : Nat → α := fun j => if j = k then d else R j
theorem aup_s {α : Type} {R : Nat → α} {k : Nat} {d : α} : aup R k d k = d := if_pos rfl
theorem aup_n {α : Type} {R : Nat → α} {k j : Nat} {d : α} (h : j ≠ k) : aup R k d j = R j := if_neg h
theorem aup_aup {α : Type} {R : Nat → α} {k : Nat} {d e : α} : aup (aup R k d) k e = aup R k e := by
  funext j
  by_cases h : j = k
  · subst h; rw [aup_s, aup_s]
  · rw [aup_n h, aup_n h, aup_n h]
theorem aup_id {α : Type} {R : Nat → α} {k : Nat} {d : α} (h : R k = d) : aup R k d = R := by
  funext j
  by_cases h2 : j = k
  · subst h2; rw [aup_s, h]
  · rw [aup_n h2]
theorem aup_comm {α : Type} {R : Nat → α} {k l : Nat} {d e : α} (h : k ≠ l) : aup (aup R k d) l e = aup (aup R l e) k d := by
  funext j
  by_cases h1 : j = k
  · subst h1; rw [aup_n h, aup_s, aup_s]
  · by_cases h2 : j = l
    · subst h2; rw [aup_s, aup_n h1, aup_s]
    · rw [aup_n h2, aup_n h1, aup_n h1, aup_n h2]
def hit (kd nm : Int32) (e : En) : Bool := decide (e.1 = kd ∧ e.2.1 = nm)
theorem hit_t {kd nm : Int32} {e : En} (h : hit kd nm e = true) : e.1 = kd ∧ e.2.1 = nm := of_decide_eq_true h
theorem hit_f {kd nm : Int32} {e : En} (h : hit kd nm e = false) : ¬ (e.1 = kd ∧ e.2.1 = nm) := of_decide_eq_false h
/-- the place of an entry -/
def plc (L : List En) (kd nm : Int32) : Option Nat := L.findIdx? (hit kd nm)
def plI (b : Nat) (x : Option Nat) : Int32 := match x with
  | some p => nI (b + p)
  | none => -1
theorem plc_some {L : List En} {kd nm : Int32} {p : Nat} (h : plc L kd nm = some p) : ∃ e, L[p]? = some e ∧ e.1 = kd ∧ e.2.1 = nm := by
  unfold plc at h
  obtain ⟨hl, h1, -⟩ := List.findIdx?_eq_some_iff_getElem.mp h
  have := hit_t h1
  exact ⟨L[p], List.getElem?_eq_getElem hl, this.1, this.2⟩
theorem plc_lt {L : List En} {kd nm : Int32} {p : Nat} (h : plc L kd nm = some p) : p < L.length := by
  obtain ⟨e, h1, -⟩ := plc_some h
  exact (List.getElem?_eq_some_iff.mp h1).1
theorem plc_none {L : List En} {kd nm : Int32} (h : plc L kd nm = none) : ∀ e, e ∈ L → ¬ (e.1 = kd ∧ e.2.1 = nm) := fun e he => hit_f (List.findIdx?_eq_none_iff.mp h e he)
theorem plc_of_none {L : List En} {kd nm : Int32} (h : ∀ e, e ∈ L → ¬ (e.1 = kd ∧ e.2.1 = nm)) : plc L kd nm = none := List.findIdx?_eq_none_iff.mpr (fun e he => decide_eq_false (h e he))
/-- no two entries of a kind have one name -/
def Uq (L : List En) : Prop := ∀ (p q : Nat) (e f : En), L[p]? = some e → L[q]? = some f → e.1 = f.1 → e.2.1 = f.2.1 → p = q
theorem plc_of {L : List En} {kd nm : Int32} {p : Nat} {e : En} (hu : Uq L) (h : L[p]? = some e) (h1 : e.1 = kd) (h2 : e.2.1 = nm) : plc L kd nm = some p := by
  cases hp : plc L kd nm with
  | none => exact absurd ⟨h1, h2⟩ (plc_none hp e (List.mem_of_getElem? h))
  | some q =>
    obtain ⟨f, h3, h4, h5⟩ := plc_some hp
    rw [hu p q e f h h3 (h1.trans h4.symm) (h2.trans h5.symm)]
theorem plI_none {b : Nat} : plI b none = -1 := rfl
theorem plI_some {b p : Nat} : plI b (some p) = nI (b + p) := rfl
theorem nI_nm1 {n : Nat} (h : n < 2 ^ 31) : nI n ≠ -1 := by
  intro e
  have h1 := nI_toInt h
  rw [e] at h1
  have h2 : ((-1 : Int32)).toInt = -1 := by decide
  omega
theorem plI_m1 {b : Nat} {x : Option Nat} (hb : ∀ p, x = some p → b + p < 2 ^ 31) : plI b x = -1 ↔ x = none := by
  cases x with
  | none => exact ⟨fun _ => rfl, fun _ => rfl⟩
  | some p => exact ⟨fun h => absurd h (nI_nm1 (hb p rfl)), fun h => by cases h⟩
theorem Uq_add {L : List En} {e : En} (hu : Uq L) (h : plc L e.1 e.2.1 = none) : Uq (L ++ [e]) := by
  intro p q a b hp hq h1 h2
  have key : ∀ r x, (L ++ [e])[r]? = some x → (r < L.length ∧ L[r]? = some x) ∨ (r = L.length ∧ x = e) := by
    intro r x hr
    by_cases hl : r < L.length
    · rw [List.getElem?_append_left hl] at hr; exact Or.inl ⟨hl, hr⟩
    · rw [List.getElem?_append_right (by omega)] at hr
      have := (List.getElem?_eq_some_iff.mp hr).1
      have h0 : r = L.length := by simp at this; omega
      subst h0
      simp at hr
      exact Or.inr ⟨rfl, hr.symm⟩
  rcases key p a hp with ⟨hp1, hp2⟩ | ⟨hp1, rfl⟩ <;> rcases key q b hq with ⟨hq1, hq2⟩ | ⟨hq1, rfl⟩
  · exact hu p q a b hp2 hq2 h1 h2
  · exact absurd ⟨h1, h2⟩ (plc_none h a (List.mem_of_getElem? hp2))
  · exact absurd ⟨h1.symm, h2.symm⟩ (plc_none h b (List.mem_of_getElem? hq2))
  · omega
theorem Uq_nil : Uq [] := fun p q e f h => by simp at h
theorem eraseIdx_get {α : Type} {L : List α} {i j : Nat} : (L.eraseIdx i)[j]? = if j < i then L[j]? else L[j + 1]? := List.getElem?_eraseIdx
theorem Uq_erase {L : List En} {i : Nat} (hu : Uq L) : Uq (L.eraseIdx i) := by
  intro p q e f hp hq h1 h2
  rw [eraseIdx_get] at hp hq
  split at hp <;> split at hq <;> have := hu _ _ _ _ hp hq h1 h2 <;> omega
theorem plc_erase {L : List En} {kd nm : Int32} {i : Nat} (hu : Uq L) (h : plc L kd nm = some i) : plc (L.eraseIdx i) kd nm = none := by
  refine plc_of_none (fun e he h2 => ?_)
  obtain ⟨p, hp⟩ := List.mem_iff_getElem?.mp he
  obtain ⟨f, h3, h4, h5⟩ := plc_some h
  rw [eraseIdx_get] at hp
  split at hp
  · have := hu _ _ _ _ hp h3 (h2.1.trans h4.symm) (h2.2.trans h5.symm); omega
  · have := hu _ _ _ _ hp h3 (h2.1.trans h4.symm) (h2.2.trans h5.symm); omega
