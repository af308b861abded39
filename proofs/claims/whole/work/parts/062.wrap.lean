/-! THE LAW'S WRAPPERS: a call of the class, caught; the answer goes into the law's long array. Their world: the class's heap (its next address is the heap's size) and that array. -/
def cwn (z : cS) (n : Nat) : cS := (z.1, z.2.1, z.2.2.1, n)
abbrev wG : Type := cG × Nat × ClassId
abbrev wS : Type := cS × (Nat → Int64)
def wA (z0 : cS) (sz qo : Nat) : Nat → Prop := fun q => z0.1 q ≠ none ∨ q = qo ∨ sz ≤ q
def wR (g : wG) (z0 : cS) (sz : Nat) (w : wS) (H : Heap) : Prop := cH g.1 (cwn w.1 H.size) H ∧ va_at g.1.1 vwCl (g.2.1, .inl (g.2.2, 1, .inr (.inl w.2))) H ∧ w.1.1 g.2.1 = none ∧ ∀ q, w.1.1 q ≠ none → wA z0 sz g.2.1 q
abbrev wTys (g : wG) : List (ClassId × FieldType) := [(g.2.2, .long)]
def cNc (U : State) : Prop := ∀ i j, i < 3 → j < 3 → i ≠ j → va_Nc (cEx i) (cEx j) U
def wPre (g : wG) (z : cS) (f : Nat → Int64) (sz : Nat) : State → Prop := fun U => U.heap.size = sz ∧ wR g z sz (z, f) U.heap ∧ va_K g.1.1 vwCl (cTys g.1) U ∧ va_K g.1.1 vwCl (wTys g) U ∧ cNw U ∧ cSt U ∧ cNc U ∧ cZ (wA z sz g.2.1) U U.heap
def wQc (g : wG) (z : cS) (sz : Nat) (F : Int32 → wS → Prop) : Array Value → State → Outcome → State → Prop := fun _ st oc t => ∃ k w', oc = .returned (some (.int k)) ∧ F k w' ∧ wR g z sz w' t.heap ∧ va_F (wA z sz g.2.1) st t
def wM (l : Launch) (g : wG) (d : Nat) (y : MethodName) (cc : ByteArray) (nL : Nat) (hh : List (Nat × Nat × Nat × Nat)) (av : List Value) (z : cS) (f : Nat → Int64) (sz ka kb : Nat) (F : Int32 → wS → Prop) : Prop :=
  Met l y (.codeWith y cc nL (some .int) hh :: rgT) (cRm d ka kb) (va_Pc av (wPre g z f sz)) (wQc g z sz F) ka kb (wA z sz g.2.1)
/-- what the class's function answers from z, wherever the next cell lies: at most ka cells, kb slots are made -/
def cSpec {α : Type} (fn : cS → Option ((α ⊕ Nat) × cS × Nat × Nat)) (z : cS) (ka kb : Nat) (F : α ⊕ Nat → cS → Prop) : Prop :=
  ∀ nx, (∀ q, z.1 q ≠ none → q < nx) → ∃ o z' a b, fn (cwn z nx) = some (o, z', a, b) ∧ a ≤ ka ∧ b ≤ kb ∧ F o z'
def wC (g : wG) (X : rX) (z0 : cS) (sz : Nat) (nL : Nat) (cc : ByteArray) (d a b : Nat) (hh : List (Nat × Nat × Nat × Nat)) : Prop :=
  gC X nL cc ∧ X.2.2.2.2.1.vm.findClass RL = some X.2.2.2.2.2.1.cls ∧ (∀ w ∈ rgT, w.before X.2.2.2.2.2.2.1 X.2.2.2.2.1 = true) ∧ va_K g.1.1 vwCl (cTys g.1) X.2.2.2.2.1 ∧ va_K g.1.1 vwCl (wTys g) X.2.2.2.2.1 ∧ X.2.2.2.2.2.2.2.2.1.locks = false ∧ X.2.2.2.2.2.2.2.2.1.sig.returnType = some .int ∧ X.2.2.2.1 = cRm d a b ∧
  cNw X.2.2.2.2.1 ∧ cSt X.2.2.2.2.1 ∧ cNc X.2.2.2.2.1 ∧ cZ (wA z0 sz g.2.1) X.2.2.2.2.1 X.2.2.2.2.1.heap ∧ X.2.2.2.2.1.heap.size = sz ∧ X.2.1.stackTraces = false ∧ X.2.2.2.2.2.2.2.2.2.exceptionTable.toList = tableOf hh
abbrev wQ (g : wG) (z0 : cS) (sz a b : Nat) (F : Int32 → wS → Prop) (X : rX) : State → Prop := MQ X.2.2.2.2.2.2.2.1 (wQc g z0 sz F) X.2.2.2.2.2.2.1 X.2.2.2.2.1 a b (wA z0 sz g.2.1)
theorem cwn_1 (z : cS) (n : Nat) : (cwn z n).1 = z.1 := rfl
theorem cH_cwn {G : cG} {z : cS} {n : Nat} {H : Heap} (h : cH G (cwn z n) H) : cH G (cwn z H.size) H := ⟨rfl, h.2⟩
section WRules
variable {g : wG} {X : rX} {z0 : cS} {sz nL d a b : Nat} {cc : ByteArray} {hh : List (Nat × Nat × Nat × Nat)} {F : Int32 → wS → Prop} {pc : Nat} {lo : List (Option Value)} {st : List Value} {w : wS} {kc ks : Nat}
theorem wa_last (C : wC g X z0 sz nL cc d a b hh) {v : Int64} (hdg : decode cc pc = .ok (.lastore, 1)) (kk : gAW X (wR g z0 sz) (wA z0 sz g.2.1) (wQ g z0 sz a b F X) nL (pc + 1) lo st (w.1, vp_updL w.2 0 v) kc ks) : gAW X (wR g z0 sz) (wA z0 sz g.2.1) (wQ g z0 sz a b F X) nL pc lo (.long v :: .int 0 :: .ref g.2.1 :: st) w kc ks := by
  intro H locs ls h1 h2 h3
  obtain ⟨hH, ho, hn, hdm⟩ := h1
  obtain ⟨C0, -, -, -, hK, -⟩ := C
  have hin : vp_in (0 : Int32) 1 := by unfold vp_in; decide
  refine W.last C0.1 C0.2.1 ho ((hK.2 0 _ rfl).1 1 (fun j => .long (w.2 j))) (fun q => by cases q) (by show ¬ ((0 : Int32) < 0 ∨ (arrV _ _ _).slots.size ≤ _); rw [arrV_size]; exact hin) rfl rfl hdg fun H1 e zz oq => ?_
  refine kk H1 _ ls ⟨?_, ?_, hn, hdm⟩ (h2.put zz oq (Or.inr (Or.inl rfl))) h3
  · refine ⟨rfl, fun q ci n hq => ?_⟩
    have hq' : w.1.1 q = some (ci, n) := hq
    exact (hH.2 q ci n hq).kept (oq q (fun h => by rw [h, hn] at hq'; cases hq'))
  · show H1[g.2.1]? = some (vp_cell _ _)
    rw [e, vp_cell_l, vp_cell_l, arrV_store]
    congr 2
    funext j
    by_cases hj : j = (0 : Int32).toNatClampNeg
    · subst hj
      simp [updV, vp_updL]
    · have hj0 : j ≠ 0 := hj
      simp [updV, vp_updL, hj0]
theorem wa_iret (C : wC g X z0 sz nL cc d a b hh) {k : Int32} (hdg : decode cc pc = .ok (.ireturn, 1)) (hF : F k w) (hk : kc ≤ a) (hs : ks ≤ b) : gAW X (wR g z0 sz) (wA z0 sz g.2.1) (wQ g z0 sz a b F X) nL pc lo [.int k] w kc ks := by
  intro H locs ls h1 h2 h3
  obtain ⟨C0, -, -, -, -, hlk, hrt, -, -, -, -, -, -⟩ := C
  exact W.widen hk hs (W.iret C0.1 C0.2.1 hrt (fun t ht _ => ⟨k, w, rfl, hF, by rw [ht]; exact h1, h2.F ht⟩) h2.2.2 hdg hlk)
/-- the call: its answer goes on, what it throws goes on as vx_W -/
theorem wa_call (C : wC g X z0 sz nL cc d a b hh) {index q nL' d' : Nat} {α : Type} {fn : cS → Option ((α ⊕ Nat) × cS × Nat × Nat)} {y : MethodName} {cc' : ByteArray} {ret' : Option FieldType} {As : List Value} {ka kb n0 : Nat} {P : α ⊕ Nat → cS → Prop} {to : α ⊕ Nat → Option Value ⊕ Nat} {stk : List Value} (hdg : decode cc pc = .ok (.invokevirtual index, 3)) (hto : ∀ o e, to o = .inr e → o = .inr e)
    (hM : ∀ (z : cS) (o : α ⊕ Nat) (z' : cS) (k n : Nat), fn z = some (o, z', k, n) → cMx X.2.1 g.1 d' y cc' nL' ret' (.ref q :: As) z (to o, z', k, n)) (hsp : cSpec fn w.1 ka kb P) (hq : w.1.1 q = some (6, n0)) (hs : As.reverse ++ .ref q :: st = stk)
    (w1 : Cond.methodLink RL index y ∈ rgT) (w2 : Cond.instanceMethod y ∈ rgT) (w3 : Cond.selects RX6 y y ∈ rgT) (w4 : Cond.initialized y.cls ∈ rgT) (w5 : Cond.code y cc' nL' ret' ∈ rgT) (hh' : cHd y As.length) (hdd : d' + 1 ≤ d) (hnl : nL' ≤ 41) (hst : (st.map fun q => q.category).sum ≤ 8) (hk : kc + ka ≤ a) (hsl : ks + kb ≤ b)
    (kk : ∀ o z' v, P o z' → to o = .inl v → gAW X (wR g z0 sz) (wA z0 sz g.2.1) (wQ g z0 sz a b F X) nL (pc + 3) lo (v.toList ++ st) (z', w.2) (kc + ka) (ks + kb))
    (kx : ∀ e z' (H : Heap) (locs : List Loc) (ls : Array Slot) (q9 : Nat) (ce : Cell), P (.inr e) z' → wR g z0 sz (z', w.2) H → va_S (wA z0 sz g.2.1) X.2.2.2.2.1.heap H locs → rLo ls nL lo → H[q9]? = some ce → ce.vm = .none → X.2.2.2.2.1.vm.findClass (cEx e) = some ce.cls →
      vx_W X.1 X.2.1 X.2.2.1 X.2.2.2.1 X.2.2.2.2.1 X.2.2.2.2.2.1 X.2.2.2.2.2.2.1 X.2.2.2.2.2.2.2.1 X.2.2.2.2.2.2.2.2.1 X.2.2.2.2.2.2.2.2.2 H locs (kc + ka) (ks + kb) (wQ g z0 sz a b F X) (F0 X.2.2.2.2.2.1 pc ls st) q9) :
    gAW X (wR g z0 sz) (wA z0 sz g.2.1) (wQ g z0 sz a b F X) nL pc lo stk w kc ks := by
  intro H locs ls h1 h2 h3
  obtain ⟨hH, ho, hn, hdm⟩ := h1
  obtain ⟨C0, hown, hts, hK, hKw, hlk, hrt, hR, hNw, hSt, hNc, hZ, hsz, htr, het⟩ := C
  subst hs
  have hlt : ∀ p, w.1.1 p ≠ none → p < H.size := fun p hp => cH_lt hH hp
  obtain ⟨o, z', k, n, hfn, hka, hkb, hP⟩ := hsp H.size hlt
  have hM' := hM _ _ _ _ _ hfn
  have hle : sz ≤ H.size := by rw [← hsz]; exact h2.1
  have hAc : ∀ p, cA (cwn w.1 H.size) p → wA z0 sz g.2.1 p := fun p hp => hp.elim (fun h => hdm p h) (fun h => Or.inr (Or.inr (Nat.le_trans hle h)))
  have hpre : ∀ U : State, U.heap = H → X.2.2.2.2.1.WarmedH U.vm → cPre g.1 (cwn w.1 H.size) U := fun U hU hW => by
    refine ⟨by rw [hU]; exact hH, va_K.moved hW.alike hK, hNw.warm hW, hSt.warm hW, ?_⟩
    rw [hU]
    exact ((cZ.moved hW.alike hZ).kept h2.2.1).narrow hAc
  have hrecv : ∃ cellB : Cell, H[q]? = some cellB ∧ cellB.vm.isStatics = false ∧ X.2.2.2.2.1.vm.findClass RX6 = some cellB.cls :=
    va_recv (D := g.1.1) (cl := vwCl) (q0 := 0) (ci := 6) hK (rP1 (cH_obj hH (show (cwn w.1 H.size).1 q = some (6, n0) from hq) (by decide))) (show vwCl[6]? = some (RX6, TX6, 12) from rfl) rfl
  have hlen : ∀ sig, parseMethodDescriptor y.desc = some sig → As.length = sig.parameters.length := fun sig h => by
    have h2' := hh'.2.2
    rw [h] at h2'
    exact (Option.some.inj h2').symm
  have hqo : ∀ p, p = g.2.1 → ¬ cA (cwn w.1 H.size) p := fun p hp h => by
    subst hp
    rcases h with h | h
    · exact h hn
    · exact absurd (show H.size ≤ g.2.1 from h) (Nat.not_le.mpr ho.lt)
  have run := vx_runV (n := As.length) (As := As) (C := RX6) (ws := .code y cc' nL' ret' :: rgT) (rm := cRm d' k n) (Ts := rgT) (own := RL) (rest := st) (g := F0 X.2.2.2.2.2.1 pc ls (As.reverse ++ .ref q :: st)) (locs := locs) (cells := kc) (slots := ks) (p := X.1) (l := X.2.1) (e := X.2.2.1) (R := X.2.2.2.1) (s := X.2.2.2.2.1) (m := X.2.2.2.2.2.1) (args := X.2.2.2.2.2.2.1) (below := X.2.2.2.2.2.2.2.1) (meth := X.2.2.2.2.2.2.2.2.1) (c := X.2.2.2.2.2.2.2.2.2) (H := H) (b := q)
    ⟨C0.1, C0.2.1, C0.2.2, hown, hts⟩ hM' ⟨⟨rfl, rfl, by rw [hR]; exact hdd, by rw [hR]; show 8 + (nL' + 11) + 60 * d' ≤ 60 * d; omega, pay_in hts (rgT_cons w5), List.mem_cons_self, hts _ w5, hts _ w4, ⟨hh'.1, hh'.2.1⟩, hlen, hts _ w1⟩, hts _ w2, hts _ w3⟩ ⟨cPre_blind, hrecv, fun U hU hW => ⟨rfl, hpre U hU hW⟩⟩ rfl rfl h3.1 rfl (lv_room hst) hdg (by rw [hR]; exact ⟨by show kc + k ≤ a; omega, by show ks + n ≤ b; omega⟩)
  have keepo : ∀ (H' : Heap), (∀ p : Nat, p < H.size → ¬ cA (cwn w.1 H.size) p → H'[p]? = H[p]?) → va_at g.1.1 vwCl (g.2.1, .inl (g.2.2, 1, .inr (.inl w.2))) H' := fun H' hk' => ho.kept (hk' _ ho.lt (hqo _ rfl))
  have hn' : cDom (cwn w.1 H.size) z' → z'.1 g.2.1 = none := fun hD' => by
    cases hz : z'.1 g.2.1 with
    | none => rfl
    | some x => exact absurd (hD' g.2.1 (by rw [hz]; exact fun h => by cases h)) (hqo _ rfl)
  intro T hT Y
  rcases run T hT Y with ⟨v, st₀, t', T', L, e0, Y', hL, e1, e2, ⟨v', hv, hw, hH', hF, hD'⟩, go⟩ | ⟨q9, st₀, t', T', L, E, ce, e0, Y', hL, e1, e2, ⟨e9, hv, hE, ⟨nx, hH'⟩, hF, hD'⟩, hce, hcv, hcl, go⟩
  · cases hw
    obtain ⟨k1, k2, k3⟩ := vx_keep e0 e1 h2 (fun p _ h => hAc p h) (fun p h => hAc p h) hL hF
    rw [← e1] at hH'
    obtain ⟨t2, a1, b1⟩ := (W.widen (Nat.add_le_add_left hka kc) (Nat.add_le_add_left hkb ks) (kk o z' v hP hv T'.heap (locs ++ L) ls ⟨⟨rfl, hH'.2⟩, keepo _ k2, hn' hD', fun p hp => hAc p (hD' p hp)⟩ k3 h3)) T' rfl Y'
    exact ⟨t2, go t2 a1, b1⟩
  · obtain ⟨k1, k2, k3⟩ := vx_keep e0 e1 h2 (fun p _ h => hAc p h) (fun p h => hAc p h) hL hF
    rw [← e1] at hH' hce
    have ho9 := hto o e9 hv
    subst ho9
    subst hE
    obtain ⟨t2, a1, b1⟩ := (vx_widen (Nat.add_le_add_left hka kc) (Nat.add_le_add_left hkb ks) (kx e9 z' T'.heap (locs ++ L) ls q9 ce hP ⟨⟨rfl, hH'.2⟩, keepo _ k2, hn' hD', fun p hp => hAc p (hD' p hp)⟩ k3 h3 hce hcv hcl)) T' rfl Y'
    exact ⟨t2, go.trans a1, b1⟩
/-- caught: the i-th row of the table is that of the thrown class -/
theorem wa_catch (C : wC g X z0 sz nL cc d a b hh) {e : Nat} {he : e < 3} (pre suf : List (Nat × Nat × Nat × Nat)) (x : Nat × Nat × Nat × Nat) (hsplit : hh = pre ++ x :: suf) (hpre : ∀ p ∈ pre, ∃ i, i < 3 ∧ i ≠ e ∧ p.2.2.2 ≠ 0 ∧ Cond.classLink RL p.2.2.2 (cEx i) ∈ rgT) (hx : covers ⟨x.1, x.2.1, x.2.2.1, x.2.2.2⟩ pc = true) (h0 : x.2.2.2 ≠ 0) (hl : Cond.classLink RL x.2.2.2 (cEx e) ∈ rgT) (hc : Cond.castable (cEx e) (cEx e) ∈ cNl)
    {H : Heap} {locs : List Loc} {ls : Array Slot} {q9 : Nat} {ce : Cell} (h1 : wR g z0 sz w H) (h2 : va_S (wA z0 sz g.2.1) X.2.2.2.2.1.heap H locs) (h3 : rLo ls nL lo) (hce : H[q9]? = some ce) (hcv : ce.vm = .none) (hcl : X.2.2.2.2.1.vm.findClass (cEx e) = some ce.cls) (kk : gAW X (wR g z0 sz) (wA z0 sz g.2.1) (wQ g z0 sz a b F X) nL x.2.2.1 lo [.ref q9] w kc ks) :
    vx_W X.1 X.2.1 X.2.2.1 X.2.2.2.1 X.2.2.2.2.1 X.2.2.2.2.2.1 X.2.2.2.2.2.2.1 X.2.2.2.2.2.2.2.1 X.2.2.2.2.2.2.2.2.1 X.2.2.2.2.2.2.2.2.2 H locs kc ks (wQ g z0 sz a b F X) (F0 X.2.2.2.2.2.1 pc ls st) q9 := by
  obtain ⟨C0, hown, hts, hK, hKw, hlk, hrt, hR, hNw, hSt, hNc, hZ, hsz, htr, het⟩ := C
  refine vx_catch (E := cEx e) (own := RL) (name := cEx e) hown (tableOf pre) ⟨x.1, x.2.1, x.2.2.1, x.2.2.2⟩ (tableOf suf) (by rw [het, hsplit]; simp [tableOf]) (fun z hz => ?_) hx h0 (hts _ hl) (va_Nw.use rfl (hNw _ hc)) hce hcv hcl (kk H locs ls h1 h2 h3)
  obtain ⟨p, hp, rfl⟩ := List.mem_map.mp hz
  obtain ⟨i, hi, hie, hp0, hpl⟩ := hpre p hp
  exact Or.inr ⟨hp0, cEx i, hts _ hpl, hNc e i he hi (fun h => hie h.symm)⟩
/-- a wrapper from its entry -/
theorem wM_of {l : Launch} {y : MethodName} {av : List Value} {lo0 : List (Option Value)} {z : cS} {f : Nat → Int64} (hy : plainName y.cls = true) (hcls : y.cls = RL) (hcat : cs1 av) (hsz : av.length ≤ nL) (hlo : av.map some ++ List.replicate (nL - av.length) none = lo0) (hl : l.stackTraces = false) (h : ∀ X : rX, X.2.1 = l → wC g X z sz nL cc d a b hh → gAW X (wR g z sz) (wA z sz g.2.1) (wQ g z sz a b F X) nL 0 lo0 [] (z, f) 0 0) : wM l g d y cc nL hh av z f sz a b F := by
  refine va_MetW (cc := cc) (maxL := nL) (ret := some .int) (hh := hh) hy rfl ?_
  intro p e s m args below meth c s₁ B hml hv
  obtain ⟨rfl, hs, hH, hK, hKw, hNw, hSt, hNc, hZ⟩ := hv
  have hts := atoms_spec (ws := .codeWith y cc nL (some .int) hh :: rgT) B.pre
  have hown : s.vm.findClass RL = some m.cls := by rw [← hcls]; exact findClass_of_methodNamed B.named
  rw [lg_entry_eq]
  have hl' := rLo_entry av (n := nL) hcat (by rw [cs1_sl hcat]; exact hsz)
  rw [hlo] at hl'
  exact h (p, l, e, cRm d a b, s, m, av.toArray, below, meth, c) rfl ⟨⟨B.exec, B.bytes, hml⟩, hown, fun w hw => hts w (List.mem_cons_of_mem _ hw), hK, hKw, B.notSynchronized, B.returns, rfl, hNw, hSt, hNc, hZ, hs, hl, vx_table (x := y) B (hts _ List.mem_cons_self)⟩ s.heap [] _ hH va_S.rf hl'
end WRules
