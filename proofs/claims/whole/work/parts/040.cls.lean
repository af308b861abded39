/-! THE CLASS: a heap of typed cells. s.1: kind and length by address (0..7 the objects of vwCl, 8 an int array, 9 a boolean array, 10..13 arrays of Functor, Pack, Row, Unit); s.2.1 the ints, s.2.2.1 the references in a cell, by place; s.2.2.2 the next address. -/
abbrev cS : Type := (Nat → Option (Nat × Nat)) × (Nat → Nat → Int32) × (Nat → Nat → Option Nat) × Nat
abbrev cG : Type := va_G × (Nat → ClassId)
def cFlds : Nat → List Bool := fun k => match k with
  | 0 => [false, false, false, true, true]
  | 1 => [false, false]
  | 2 => [true, false, false, false]
  | 3 => [true, false]
  | 4 => [true, true, false]
  | 5 => [false, false, false, false, false, true, true]
  | 6 => [true, true, true, true, true, true, true, false, true, false, true, false]
  | _ => [false, true, true, true, false, true, true, true, true, true, false, true, true, true, true, true, true, false, true, true, true, true, true, true, true, true, true, true, true, false, true, true, false, true, true, true, true, true, true, true, true, false, true, true, true, true, true, true, true, true, true, true, true, true, false]
def cObj (ci : Nat) (f : Nat → Int32) (g : Nat → Option Nat) : List Value := (List.range (cFlds ci).length).map (fun j => if (cFlds ci).getD j false then va_rf (g j) else .int (f j))
def cCell (G : cG) (ci n : Nat) (f : Nat → Int32) (g : Nat → Option Nat) : va_E := if ci < 8 then .inr (ci, cObj ci f g) else if ci = 8 then .inl (G.2 8, n, .inl f) else if ci = 9 then .inl (G.2 9, n, .inl f) else .inl (G.2 ci, n, .inr (.inr (.inr (.inr g))))
def cH (G : cG) (z : cS) (H : Heap) : Prop := H.size = z.2.2.2 ∧ ∀ q ci n, z.1 q = some (ci, n) → va_at G.1 vwCl (q, cCell G ci n (z.2.1 q) (z.2.2.1 q)) H
abbrev cTys (G : cG) : List (ClassId × FieldType) := [(G.2 8, .int), (G.2 10, .object RX0), (G.2 11, .object RX1), (G.2 12, .object RX2), (G.2 13, .object RX5), (G.2 9, .boolean)]
/-- the cells that a method may change: those of its start, and new ones -/
def cA (z0 : cS) : Nat → Prop := fun q => z0.1 q ≠ none ∨ z0.2.2.2 ≤ q
def cDom (z0 z : cS) : Prop := ∀ q, z.1 q ≠ none → cA z0 q
/-- words that stay true while links are resolved, by laws of their own -/
def cNest : Cond → Bool
  | .fieldLinkNest .. | .methodLinkNest .. | .castable .. | .declares .. => true
  | .arrayOver (.object _) => true
  | _ => false
def cNl : List Cond := lw_tbl.filter cNest
def cNw (U : State) : Prop := ∀ w ∈ cNl, va_Nw w U
def cSt (U : State) : Prop := ∀ (k : Nat) (tx : String), Cond.stringRef RX6 k tx ∈ lw_tbl → ∃ a, vk_R RX6 k tx a U
def cZ (A : Nat → Prop) (U : State) (H : Heap) : Prop := vx_Zq Bundle.tN "UNASSIGNED_STACK" Bundle.steD A U H ∧ vx_Zq Bundle.tN "SUPPRESSED_SENTINEL" Bundle.listD A U H
def cRm (d a b : Nat) : Room := { frames := d, cells := a, slots := b, locals := 60 * d }
def cEx : Nat → String := fun k => match k with
  | 0 => "java/lang/IndexOutOfBoundsException"
  | 1 => "java/lang/IllegalArgumentException"
  | _ => "java/lang/IllegalStateException"
/-- an end: what is answered or thrown, the heap, the cells and slots that were made -/
abbrev cR : Type := (Option Value ⊕ Nat) × cS × Nat × Nat
def cQc (G : cG) (z0 : cS) (r : cR) : Array Value → State → Outcome → State → Prop := fun _ st oc t => ∃ v, r.1 = .inl v ∧ oc = .returned v ∧ cH G r.2.1 t.heap ∧ va_F (cA z0) st t ∧ cDom z0 r.2.1
def cXC (G : cG) (z0 : cS) (r : cR) : String → State → State → Prop := fun E st t => ∃ e, r.1 = .inr e ∧ E = cEx e ∧ (∃ nx, cH G (r.2.1.1, r.2.1.2.1, r.2.1.2.2.1, nx) t.heap) ∧ va_F (cA z0) st t ∧ cDom z0 r.2.1
def cQ (t : Bool) (G : cG) (z0 : cS) (r : cR) (below : List Frame) (args : Array Value) (s : State) : State → Prop :=
  if t then vx_MQ below (cQc G z0 r) (cXC G z0 r) args s r.2.2.1 r.2.2.2 (cA z0) else MQ below (cQc G z0 r) args s r.2.2.1 r.2.2.2 (cA z0)
def cAW (t : Bool) (G : cG) (X : rX) (z0 : cS) (r : cR) (nL : Nat) (pc : Nat) (lo : List (Option Value)) (st : List Value) (z : cS) (k n : Nat) : Prop :=
  ∀ (H : Heap) (locs : List Loc) (ls : Array Slot), cH G z H → cDom z0 z → va_S (cA z0) X.2.2.2.2.1.heap H locs → rLo ls nL lo →
    W X.1 X.2.1 X.2.2.1 X.2.2.2.1 X.2.2.2.2.1 X.2.2.2.2.2.1 X.2.2.2.2.2.2.1 X.2.2.2.2.2.2.2.1 X.2.2.2.2.2.2.2.2.1 X.2.2.2.2.2.2.2.2.2 H locs k n (cQ t G z0 r X.2.2.2.2.2.2.2.1 X.2.2.2.2.2.2.1 X.2.2.2.2.1) (F0 X.2.2.2.2.2.1 pc ls st)
/-- what holds in a method's frame -/
def cC (G : cG) (X : rX) (z0 : cS) (own : String) (nL : Nat) (cc : ByteArray) (ret : Option FieldType) (d a b : Nat) : Prop :=
  X.1.tables.exec = Jvm.exec ∧ X.2.2.2.2.2.2.2.2.2.code = cc ∧ X.2.2.2.2.2.2.2.2.2.maxLocals = nL ∧ X.2.2.2.2.1.vm.findClass own = some X.2.2.2.2.2.1.cls ∧ (∀ w ∈ rgT, w.before X.2.2.2.2.2.2.1 X.2.2.2.2.1 = true) ∧ va_K G.1 vwCl (cTys G) X.2.2.2.2.1 ∧ X.2.2.2.2.2.2.2.2.1.locks = false ∧ X.2.2.2.2.2.2.2.2.1.sig.returnType = ret ∧ X.2.2.2.1 = cRm d a b ∧
  cNw X.2.2.2.2.1 ∧ cSt X.2.2.2.2.1 ∧ cZ (cA z0) X.2.2.2.2.1 X.2.2.2.2.1.heap ∧ X.2.2.2.2.1.heap.size = z0.2.2.2 ∧ X.2.1.stackTraces = false ∧ ∀ x ∈ X.2.2.2.2.2.2.2.2.2.exceptionTable.toList, False
def cPre (G : cG) (z : cS) : State → Prop := fun U => cH G z U.heap ∧ va_K G.1 vwCl (cTys G) U ∧ cNw U ∧ cSt U ∧ cZ (cA z) U U.heap
def cM (l : Launch) (G : cG) (d : Nat) (y : MethodName) (cc : ByteArray) (nL : Nat) (ret : Option FieldType) (av : List Value) (z : cS) (r : cR) : Prop :=
  Met l y (.code y cc nL ret :: rgT) (cRm d r.2.2.1 r.2.2.2) (va_Pc av (cPre G z)) (cQc G z r) r.2.2.1 r.2.2.2 (cA z)
def cMx (l : Launch) (G : cG) (d : Nat) (y : MethodName) (cc : ByteArray) (nL : Nat) (ret : Option FieldType) (av : List Value) (z : cS) (r : cR) : Prop :=
  vx_Met l y (.code y cc nL ret :: rgT) (cRm d r.2.2.1 r.2.2.2) (va_Pc av (cPre G z)) (cQc G z r) (cXC G z r) r.2.2.1 r.2.2.2 (cA z)
/-! moving along -/
theorem cNw.warm {s U : State} (hW : s.WarmedH U.vm) (h : cNw s) : cNw U := by
  intro w hw
  have h1 := h w hw
  have h2 := (List.mem_filter.mp hw).2
  cases w <;> first | exact va_Nw.warmF hW h1 | exact va_Nw.warmM hW h1 | exact va_Nw.warmC hW h1 | exact va_Nw.warmD hW h1 | (rename_i ty; cases ty <;> first | exact va_AO.moved hW.alike h1 | (cases h2)) | (cases h2)
theorem cNw.same {u U : State} (hv : u.vm = U.vm) (h : cNw u) : cNw U := by
  intro w hw
  have h1 := h w hw
  have h2 := (List.mem_filter.mp hw).2
  cases w <;> first | exact va_Nw.same rfl hv h1 | (rename_i ty; cases ty <;> first | exact va_AO.moved (u := u) (U := U) (by rw [hv]; exact Vm.Alike.refl _) h1 | (cases h2)) | (cases h2)
theorem cSt.warm {s U : State} (hW : s.WarmedH U.vm) (h : cSt s) : cSt U := fun k tx hw => let ⟨a, ha⟩ := h k tx hw; ⟨a, vk_R.warm hW ha⟩
theorem cSt.same {u U : State} (hv : U.vm = u.vm) (h : cSt u) : cSt U := fun k tx hw => let ⟨a, ha⟩ := h k tx hw; ⟨a, vk_R.same hv ha⟩
theorem cZ.moved {A : Nat → Prop} {u U : State} {H : Heap} (hvm : u.vm.Alike U.vm) (h : cZ A u H) : cZ A U H := ⟨vx_Zq.moved hvm h.1, vx_Zq.moved hvm h.2⟩
theorem cZ.kept {A : Nat → Prop} {U : State} {H H1 : Heap} (h : cZ A U H) (hq : ∀ a : Nat, a < H.size → ¬ A a → H1[a]? = H[a]?) : cZ A U H1 := ⟨vx_Zq.kept h.1 hq, vx_Zq.kept h.2 hq⟩
theorem cZ.narrow {A B : Nat → Prop} {U : State} {H : Heap} (h : cZ A U H) (hAB : ∀ q, B q → A q) : cZ B U H := ⟨vx_Zq.narrow h.1 hAB, vx_Zq.narrow h.2 hAB⟩
theorem cPre_blind {G : cG} {z : cS} {av : List Value} : FrameBlind (va_Pc av (cPre G z)) := fun a U g mk h => ⟨h.1, h.2.1, va_K.moved (u := U) (U := U.calling g mk a) (Vm.Alike.refl U.vm) h.2.2.1, cNw.same (u := U) rfl h.2.2.2.1, cSt.same (u := U) rfl h.2.2.2.2.1, cZ.moved (u := U) (U := U.calling g mk a) (Vm.Alike.refl U.vm) h.2.2.2.2.2⟩
theorem cA_lt {z0 z : cS} (hd : cDom z0 z) (hn : z0.2.2.2 ≤ z.2.2.2) : ∀ q, cA z q → cA z0 q := fun q h => h.elim (hd q) (fun h => Or.inr (Nat.le_trans hn h))
section CC
variable {t : Bool} {G : cG} {X : rX} {z0 z : cS} {own : String} {nL d a b : Nat} {cc : ByteArray} {ret : Option FieldType}
theorem cC_x (C : cC G X z0 own nL cc ret d a b) : X.1.tables.exec = Jvm.exec := C.1
theorem cC_b (C : cC G X z0 own nL cc ret d a b) : X.2.2.2.2.2.2.2.2.2.code = cc := C.2.1
theorem cC_ml (C : cC G X z0 own nL cc ret d a b) : X.2.2.2.2.2.2.2.2.2.maxLocals = nL := C.2.2.1
theorem cC_own (C : cC G X z0 own nL cc ret d a b) : X.2.2.2.2.1.vm.findClass own = some X.2.2.2.2.2.1.cls := C.2.2.2.1
theorem cC_hts (C : cC G X z0 own nL cc ret d a b) : ∀ w ∈ rgT, w.before X.2.2.2.2.2.2.1 X.2.2.2.2.1 = true := C.2.2.2.2.1
theorem cC_K (C : cC G X z0 own nL cc ret d a b) : va_K G.1 vwCl (cTys G) X.2.2.2.2.1 := C.2.2.2.2.2.1
theorem cC_lk (C : cC G X z0 own nL cc ret d a b) : X.2.2.2.2.2.2.2.2.1.locks = false := C.2.2.2.2.2.2.1
theorem cC_rt (C : cC G X z0 own nL cc ret d a b) : X.2.2.2.2.2.2.2.2.1.sig.returnType = ret := C.2.2.2.2.2.2.2.1
theorem cC_R (C : cC G X z0 own nL cc ret d a b) : X.2.2.2.1 = cRm d a b := C.2.2.2.2.2.2.2.2.1
theorem cC_Nw (C : cC G X z0 own nL cc ret d a b) : cNw X.2.2.2.2.1 := C.2.2.2.2.2.2.2.2.2.1
theorem cC_St (C : cC G X z0 own nL cc ret d a b) : cSt X.2.2.2.2.1 := C.2.2.2.2.2.2.2.2.2.2.1
theorem cC_Z (C : cC G X z0 own nL cc ret d a b) : cZ (cA z0) X.2.2.2.2.1 X.2.2.2.2.1.heap := C.2.2.2.2.2.2.2.2.2.2.2.1
theorem cC_sz (C : cC G X z0 own nL cc ret d a b) : X.2.2.2.2.1.heap.size = z0.2.2.2 := C.2.2.2.2.2.2.2.2.2.2.2.2.1
theorem cC_tr (C : cC G X z0 own nL cc ret d a b) : X.2.1.stackTraces = false := C.2.2.2.2.2.2.2.2.2.2.2.2.2.1
theorem cC_et (C : cC G X z0 own nL cc ret d a b) : ∀ x ∈ X.2.2.2.2.2.2.2.2.2.exceptionTable.toList, False := C.2.2.2.2.2.2.2.2.2.2.2.2.2.2
theorem cC_le (C : cC G X z0 own nL cc ret d a b) {H : Heap} {locs : List Loc} (h1 : cH G z H) (h2 : va_S (cA z0) X.2.2.2.2.1.heap H locs) : z0.2.2.2 ≤ z.2.2.2 := by
  rw [← cC_sz C, ← h1.1]
  exact h2.1
/-- what a callee may ask for, in the caller's frame at the heap H -/
theorem cC_pre (C : cC G X z0 own nL cc ret d a b) {H : Heap} {locs : List Loc} (h1 : cH G z H) (hd : cDom z0 z) (h2 : va_S (cA z0) X.2.2.2.2.1.heap H locs) : ∀ U : State, U.heap = H → X.2.2.2.2.1.WarmedH U.vm → cPre G z U := by
  intro U hU hW
  refine ⟨by rw [hU]; exact h1, va_K.moved hW.alike (cC_K C), (cC_Nw C).warm hW, (cC_St C).warm hW, ?_⟩
  rw [hU]
  exact ((cZ.moved hW.alike (cC_Z C)).kept h2.2.1).narrow (cA_lt hd (cC_le C h1 h2))
end CC
