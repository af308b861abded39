/-! THE CLAIM OUT OF ONE WALK OF THE LAW'S BODY. Your part is whole_start (and what it stands on); all else here is the same for every law, but numbers. -/
def R_law : String := "ModuleLoftLaw"
def lw_P (b : Addr) (xs : List Int32) (args : Array Value) (s : State) : Prop := args = #[.ref b] ∧ s.IntsAt b xs ∧ xs.length ≤ 3072 ∧ (Jvm.Cond.and given_1 narrow_1).before args s = true
def lw_Q (_ : Array Value) (s : State) (o : Outcome) (t : State) : Prop := o = .returned (some (.int 1)) ∧ Framed s o t [] 601024 7293034
def lw_Z (below : List Frame) (a : Array Value) (s : State) : State → Prop := fun t => ∃ o, t.status = .running ∧ Ended t below o ∧ lw_Q a s o t
/-- the law's own end, with 1 on the stack, nothing written that was there before, its room as the claim has it -/
theorem lw_ret {p : Program} {l : Launch} {e : Env} {s : State} {m : MethodId} {below : List Frame} {meth : Method} {c : Code} {b : Nat} (hx : p.tables.exec = Jvm.exec) (hb : c.code = code) (hr : meth.sig.returnType = ret) (hlocks : meth.locks = false) {pc : Nat} {H : Heap} {ls : Array Slot} (hdg : decode code pc = .ok (.ireturn, 1)) : W p l e room_1 s m #[Value.ref b] below meth c H [] 601024 7293034 (lw_Z below #[Value.ref b] s) (F0 m pc ls [.int 1]) := by
  intro T hT X
  obtain ⟨fs, hret, hrun, hended, hW, hframe⟩ := X.leave (v := some (.int 1)) (hlocks := hlocks) (fun h => by rw [hr] at h; cases h)
  have hmeth' : T.vm.method? m = some meth := X.method'
  refine ⟨T.setFrames fs, ?_, .returned (some (.int 1)), hrun, hended, rfl, ⟨_, rfl⟩, hW, hframe⟩
  jvm_step X.here [X.here.top, hx, hb, hdg, hmeth', hr, ret, narrow_b1]
  (try refine ⟨rfl, ?_⟩); (try refine ⟨rfl, ?_⟩)
  first | (intro acts; rw [hret _ acts rfl rfl rfl]) | rw [hret _ _ rfl rfl rfl]
  exact Steps.refl _
/-- what holds at the law's entry: the machine, the code, the tables' words (any of lw_tbl by 'hts w (by decide +kernel)'), the script of L ints xs at the cell b, what the Statement gives of the start (any of its parts by flat_of_before) -/
def lw_At (p : Program) (s : State) (m : MethodId) (meth : Method) (c : Code) (b L : Nat) (xs : Nat → Int32) : Prop :=
  p.tables.exec = Jvm.exec ∧ c.code = code ∧ meth.sig.returnType = ret ∧ c.maxLocals = 7 ∧ s.vm.findClass R_law = some m.cls ∧ (∀ w ∈ lw_tbl, w.before #[Value.ref b] s = true) ∧ va_X b L xs s s.heap ∧ b < s.heap.size ∧ meth.locks = false ∧ (Jvm.Cond.and given_1 narrow_1).before #[Value.ref b] s = true
/-! the law comes to its end: out of what is asked of Inv -/
set_option maxRecDepth 100000 in
set_option maxHeartbeats 4000000 in
theorem whole_of (Inv : Nat → Nat → cS → rS → Prop) (hSt : simStart Inv) (hO : ∀ o t z S, Inv o t z S → ∃ n, z.1 o = some (6, n)) (hA : ∀ o t, t < 512 → simAll o (Inv o t) (Inv o (t + 1))) (hW : ∀ o t z S, Inv o t z S → Inv o (t + 1) z S) {p : Program} {e : Env} {s : State} {m : MethodId} {below : List Frame} {meth : Method} {c : Code} (l : Launch) (hflags : l.flags = flags0) {b L : Nat} {xs : Nat → Int32} (hL : L ≤ 3072) (C0 : lw_At p s m meth c b L xs) : W p l e room_1 s m #[Value.ref b] below meth c s.heap [] 0 0 (lw_Z below #[Value.ref b] s) (entryFrame m ([Value.ref b] : List Value).toArray 7) := by
  obtain ⟨h1, h2, h3, h4, h5, h6, h7, h8, h9, h10⟩ := C0
  obtain ⟨G, cL, hK, hKL, hKr⟩ := st_G h6
  have hcat : ∀ v ∈ ([Value.ref b] : List Value), v.category = 1 := fun v hv => by
    rw [List.mem_singleton.mp hv]; rfl
  have hl := rLo_entry [Value.ref b] (n := 7) hcat (Nat.le_of_ble_eq_true rfl)
  have htr : l.stackTraces = false := by
    unfold Launch.stackTraces
    rw [hflags]
    decide
  have C : eC G (p, l, e, room_1, s, m, #[Value.ref b], below, meth, c) := ⟨⟨h1, h2, h4⟩, h5, fun w hw => h6 w (List.mem_filter.mp hw).1, hK, rfl, st_Nw h6, st_St h6 hK, st_Z h6 h10, htr⟩
  rw [lg_entry_eq]
  refine law_entry (X := (p, l, e, room_1, s, m, #[Value.ref b], below, meth, c)) (Q := lw_Z below #[Value.ref b] s) C hKL hKr (st_Nc h10) h7 h8 hL hSt hO hA hW (fun g Gr lo z S f kc ks hkc hks => ?_) s.heap [] _ ⟨⟨rfl, fun q ci n hq => (by cases hq)⟩, fun q hq => absurd rfl hq⟩ va_S.rf hl
  refine ga_iconst C.1 dL_law_2284 (v := 1) (by decide) ?_
  intro H locs ls q1 q2 q3
  refine va_forget (fun q hq => q2.2.2 q hq) ?_
  exact W.widen hkc hks (lw_ret h1 h2 h3 h9 dL_law_2285)
