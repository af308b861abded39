/-! THE REFERENCE AS TWO TABLES OF NUMBERS: its one object's int fields (S.1) and its arrays (S.2), by the fields' numbers.
rAW: the machine's walk of a method of it, over that state; r is what the method has to answer and leave. -/
abbrev rS : Type := (Nat → Int32) × (Nat → Nat → Int32)
abbrev rG : Type := va_G × ClassId × ClassId × Nat × (Nat → Nat)
def rInt (k : Nat) : Bool := [0, 4, 10, 17, 29, 32, 41, 54].contains k
def rZ (k : Nat) : Bool := [27, 35, 37, 53].contains k
def rLenL : List Nat := [0, 400, 400, 400, 0, 101, 6060, 6060, 6060, 6060, 0, 21, 21, 1260, 1260, 1260, 1260, 0, 9, 180, 180, 180, 180, 180, 180, 8, 8, 8, 240, 0, 10, 10, 0, 8, 8, 8, 8, 8, 8, 64, 64, 0, 22, 22, 22, 22, 220, 22, 1320, 1320, 1320, 1320, 2000, 400, 0]
def rLen (k : Nat) : Nat := rLenL.getD k 0
def rTy (G : rG) (k : Nat) : ClassId := if rZ k then G.2.2.1 else G.2.1
def rObj (G : rG) (F : Nat → Int32) : List Value := (List.range 55).map (fun k => if rInt k then .int (F k) else .ref (G.2.2.2.2 k))
def rH (G : rG) (S : rS) (H : Heap) : Prop := va_at G.1 vwCl (G.2.2.2.1, .inr (7, rObj G S.1)) H ∧ ∀ k, k < 55 → rInt k = false → va_at G.1 vwCl (G.2.2.2.2 k, .inl (rTy G k, rLen k, .inl (S.2 k))) H
def rAp (G : rG) : Prop := (∀ j k, j < 55 → k < 55 → rInt j = false → rInt k = false → G.2.2.2.2 j = G.2.2.2.2 k → j = k) ∧ ∀ k, k < 55 → rInt k = false → G.2.2.2.2 k ≠ G.2.2.2.1
def rA (G : rG) : Nat → Prop := fun q => q = G.2.2.2.1 ∨ ∃ k, k < 55 ∧ rInt k = false ∧ q = G.2.2.2.2 k
def rgT : List Cond := lw_tbl.filter goodWord
def rRm (d : Nat) : Room := { frames := d, cells := 0, slots := 0, locals := 60 * d }
abbrev rTys (G : rG) : List (ClassId × FieldType) := [(G.2.1, .int), (G.2.2.1, .boolean)]
abbrev rX : Type := Program × Launch × Env × Room × State × MethodId × Array Value × List Frame × Method × Code
def rQc (G : rG) (r : Option Value × rS) : Array Value → State → Outcome → State → Prop := fun _ st oc t => oc = .returned r.1 ∧ rH G r.2 t.heap ∧ va_F (rA G) st t
def rLo (ls : Array Slot) (nL : Nat) (lo : List (Option Value)) : Prop := ls.size = nL ∧ lv_wf ls ∧ (∀ (i : Nat) (v : Value), lo[i]? = some (some v) → ls[i]? = some (.val v)) ∧ ∀ (i : Nat) (v : Value), lo[i]? = some (some v) → v.category = 1
def rAW (G : rG) (X : rX) (nL : Nat) (r : Option Value × rS) (pc : Nat) (lo : List (Option Value)) (st : List Value) (S : rS) : Prop :=
  ∀ (H : Heap) (locs : List Loc) (ls : Array Slot), rH G S H → va_S (rA G) X.2.2.2.2.1.heap H locs → rLo ls nL lo →
    W X.1 X.2.1 X.2.2.1 X.2.2.2.1 X.2.2.2.2.1 X.2.2.2.2.2.1 X.2.2.2.2.2.2.1 X.2.2.2.2.2.2.2.1 X.2.2.2.2.2.2.2.2.1 X.2.2.2.2.2.2.2.2.2 H locs 0 0 (MQ X.2.2.2.2.2.2.2.1 (rQc G r) X.2.2.2.2.2.2.1 X.2.2.2.2.1 0 0 (rA G)) (F0 X.2.2.2.2.2.1 pc ls st)
def rC (G : rG) (X : rX) (nL : Nat) (cc : ByteArray) (ret : Option FieldType) (d : Nat) : Prop :=
  X.1.tables.exec = Jvm.exec ∧ X.2.2.2.2.2.2.2.2.2.code = cc ∧ X.2.2.2.2.2.2.2.2.2.maxLocals = nL ∧ X.2.2.2.2.1.vm.findClass RX7 = some X.2.2.2.2.2.1.cls ∧ (∀ w ∈ rgT, w.before X.2.2.2.2.2.2.1 X.2.2.2.2.1 = true) ∧ va_K G.1 vwCl (rTys G) X.2.2.2.2.1 ∧ rAp G ∧ X.2.2.2.2.2.2.2.2.1.locks = false ∧ X.2.2.2.2.2.2.2.2.1.sig.returnType = ret ∧ X.2.2.2.1 = rRm d
def rM (l : Launch) (G : rG) (d : Nat) (y : MethodName) (cc : ByteArray) (nL : Nat) (ret : Option FieldType) (av : List Value) (S : rS) (r : Option Value × rS) : Prop :=
  Met l y (.code y cc nL ret :: rgT) (rRm d) (va_Pc av (fun U => rH G S U.heap ∧ va_K G.1 vwCl (rTys G) U ∧ rAp G)) (rQc G r) 0 0 (rA G)
/-! the words -/
theorem rgT_of (i : Nat) {w : Cond} (h : lw_tbl[i]? = some w) (hg : goodWord w = true) : w ∈ rgT := List.mem_filter.mpr ⟨List.mem_of_getElem? h, hg⟩
theorem rgT_in : GoodIn rgT rgT := fun w h => ⟨h, good_of_word (List.mem_filter.mp h).2⟩
theorem rgT_cons {w : Cond} (h : w ∈ rgT) : GoodIn rgT (w :: rgT) := fun x hx => (List.mem_cons.mp hx).elim (fun e => by rw [e]; exact rgT_in _ h) (rgT_in x)
/-! locals -/
theorem rLo_size {ls : Array Slot} {nL : Nat} {lo : List (Option Value)} (h : rLo ls nL lo) : ls.size = nL := h.1
theorem rLo_at {ls : Array Slot} {nL : Nat} {lo : List (Option Value)} (h : rLo ls nL lo) {i : Nat} {v : Value} (hi : lo[i]? = some (some v)) : ls[i]? = some (.val v) := h.2.2.1 i v hi
theorem rLo_store {ls : Array Slot} {nL : Nat} {lo : List (Option Value)} {i : Nat} {v : Value} (h : rLo ls nL lo) (hi : i < nL) (hc : v.category = 1) : ∃ ls', storeLocals ls i v = some ls' ∧ rLo ls' nL (lo.set i (some v)) := by
  obtain ⟨h1, h2, h3, h4⟩ := h
  obtain ⟨ls', e, q1, q2, q3⟩ := lv_store1 (l := []) (v := v) ⟨h1, h2, fun q hq => by cases hq⟩ hi hc
  refine ⟨ls', e, q1, q2, fun j w hj => ?_, fun j w hj => ?_⟩
  · by_cases hji : j = i
    · subst hji
      have hl : j < lo.length := by
        have := (List.getElem?_eq_some_iff.mp hj).1
        simpa using this
      rw [List.getElem?_set_self hl] at hj
      cases hj
      exact q3 (j, v) List.mem_cons_self
    · rw [List.getElem?_set_ne (Ne.symm hji)] at hj
      have hw := h4 j w hj
      obtain ⟨ls2, e2, p1, p2, p3⟩ := lv_store1 (l := [(j, w)]) (v := v) ⟨h1, h2, fun q hq => by
        rw [List.mem_singleton] at hq
        subst hq
        exact h3 j w hj⟩ hi hc
      have : ls2 = ls' := Option.some.inj (e2.symm.trans e)
      subst this
      refine p3 (j, w) (List.mem_cons_of_mem _ ?_)
      simp [hji, hw]
  · by_cases hji : j = i
    · subst hji
      have hl : j < lo.length := by
        have := (List.getElem?_eq_some_iff.mp hj).1
        simpa using this
      rw [List.getElem?_set_self hl] at hj
      cases hj
      exact hc
    · rw [List.getElem?_set_ne (Ne.symm hji)] at hj
      exact h4 j w hj
theorem rLo_args (vs : List Value) (hc : ∀ v ∈ vs, v.category = 1) : ∀ (n i : Nat) (v : Value), vs[i]? = some v → (n + i, v) ∈ lv_args n vs := by
  induction vs with
  | nil => intro n i v h; simp at h
  | cons a t ih =>
    intro n i v h
    have ha : ¬ a.category = 2 := by have := hc a List.mem_cons_self; omega
    simp only [lv_args, if_neg ha]
    cases i with
    | zero => simp at h; subst h; exact List.mem_cons_self
    | succ i =>
      have h' : t[i]? = some v := by simpa using h
      have := ih (fun v hv => hc v (List.mem_cons_of_mem _ hv)) (n + 1) i v h'
      rw [show n + 1 + i = n + (i + 1) by omega] at this
      exact List.mem_cons_of_mem _ this
theorem rLo_entry (vs : List Value) {n : Nat} (hc : ∀ v ∈ vs, v.category = 1) (h : (lg_sl vs).length ≤ n) : rLo ((lg_sl vs ++ List.replicate (n - (lg_sl vs).length) Slot.unset).toArray) n (vs.map some ++ List.replicate (n - vs.length) none) := by
  obtain ⟨h1, h2, h3⟩ := lv_entry vs h
  have key : ∀ (i : Nat) (v : Value), (vs.map some ++ List.replicate (n - vs.length) none)[i]? = some (some v) → vs[i]? = some v := by
    intro i v hi
    by_cases hl : i < (vs.map some).length
    · rw [List.getElem?_append_left hl] at hi
      rw [List.getElem?_map] at hi
      cases hv : vs[i]? with
      | none => rw [hv] at hi; cases hi
      | some w => rw [hv] at hi; simpa using hi
    · rw [List.getElem?_append_right (by omega)] at hi
      have := List.mem_of_getElem? hi
      have := List.eq_of_mem_replicate this
      cases this
  refine ⟨h1, h2, fun i v hi => ?_, fun i v hi => hc v (List.mem_of_getElem? (key i v hi))⟩
  have := rLo_args vs hc 0 i v (key i v hi)
  rw [Nat.zero_add] at this
  exact h3 (i, v) this
def rMask (lo : List (Option Value)) (bs : List Bool) : List (Option Value) := List.zipWith (fun v b => if b then v else none) lo bs
theorem rLo_mask {ls : Array Slot} {nL : Nat} {lo : List (Option Value)} (bs : List Bool) (h : rLo ls nL lo) : rLo ls nL (rMask lo bs) := by
  have key : ∀ (i : Nat) (v : Value), (rMask lo bs)[i]? = some (some v) → lo[i]? = some (some v) := by
    intro i v hi
    unfold rMask at hi
    rw [List.getElem?_zipWith] at hi
    cases h1 : lo[i]? with
    | none => rw [h1] at hi; simp at hi
    | some w =>
      cases h2 : bs[i]? with
      | none => rw [h1, h2] at hi; simp at hi
      | some b =>
        rw [h1, h2] at hi
        cases b with
        | true => simpa using hi
        | false => simp at hi
  exact ⟨h.1, h.2.1, fun i v hi => h.2.2.1 i v (key i v hi), fun i v hi => h.2.2.2 i v (key i v hi)⟩
/-! reads and writes of the state -/
def rd (S : rS) (k : Nat) (i : Int32) : Option Int32 := if i < 0 ∨ rLen k ≤ i.toNatClampNeg then none else some (S.2 k i.toNatClampNeg)
def rup (M : Nat → Nat → Int32) (k : Nat) (f : Nat → Int32) : Nat → Nat → Int32 := fun j => if j = k then f else M j
def rwr (S : rS) (k : Nat) (i v : Int32) : Option rS := if i < 0 ∨ rLen k ≤ i.toNatClampNeg then none else some (S.1, rup S.2 k (upd (S.2 k) i.toNatClampNeg v))
def rwz (S : rS) (k : Nat) (i v : Int32) : Option rS := if i < 0 ∨ rLen k ≤ i.toNatClampNeg then none else some (S.1, rup S.2 k (upd (S.2 k) i.toNatClampNeg (vp_nar .boolean v)))
def rpf (S : rS) (k : Nat) (v : Int32) : rS := (upd S.1 k v, S.2)
def rbo (v : Int32) (S : rS) : Option (Int32 × rS) := if narrow .boolean (.int v) = .int v then some (v, S) else none
noncomputable def rFuel : Nat := 100000
theorem rob {α β : Type} {x : Option α} {f : α → Option β} {r : β} (h : x.bind f = some r) : ∃ a, x = some a ∧ f a = some r := Option.bind_eq_some_iff.mp h
theorem rP1 {D : va_G} {cl : List vw_C} {q : Nat × va_E} {H : Heap} (h : va_at D cl q H) : va_P D cl [q] H := by
  intro k x hx
  have hz : k < 1 := (List.getElem?_eq_some_iff.mp hx).1
  rw [show k = 0 by omega] at hx
  cases hx
  exact h
theorem rD1 {A : Nat → Prop} {q : Nat × va_E} (h : A q.1) : va_D A [q] := by
  refine ⟨fun i j x y hi hj _ => ?_, fun k x hx => ?_⟩
  · have h1 : i < 1 := (List.getElem?_eq_some_iff.mp hi).1
    have h2 : j < 1 := (List.getElem?_eq_some_iff.mp hj).1
    omega
  · have hz : k < 1 := (List.getElem?_eq_some_iff.mp hx).1
    rw [show k = 0 by omega] at hx
    cases hx
    exact h
theorem rObj_len (G : rG) (F : Nat → Int32) : (rObj G F).length = 55 := by simp [rObj]
theorem rObj_int (G : rG) (F : Nat → Int32) {k : Nat} (hk : k < 55) (hi : rInt k = true) : (rObj G F)[k]? = some (.int (F k)) := by
  simp [rObj, hk, hi]
theorem rObj_ref (G : rG) (F : Nat → Int32) {k : Nat} (hk : k < 55) (hi : rInt k = false) : (rObj G F)[k]? = some (.ref (G.2.2.2.2 k)) := by
  simp [rObj, hk, hi]
theorem rObj_set (G : rG) (F : Nat → Int32) {k : Nat} (v : Int32) (hk : k < 55) (hi : rInt k = true) : (rObj G F).set k (.int v) = rObj G (upd F k v) := by
  apply List.ext_getElem?
  intro j
  by_cases hj : j = k
  · subst hj
    rw [List.getElem?_set_self (by rw [rObj_len]; exact hk), rObj_int G _ hk hi]
    simp [upd]
  · rw [List.getElem?_set_ne (Ne.symm hj)]
    simp only [rObj, List.getElem?_map]
    by_cases hl : j < 55
    · rw [List.getElem?_range hl]
      simp [upd, hj]
    · rw [List.getElem?_eq_none (by simp; omega)]
      rfl
