/-! THE LAW'S BODY: its world is the class's heap, the model's state, and the long array; all of it lies behind the script. -/
abbrev lS : Type := cS × rS × (Nat → Int64)
def lR (g : wG) (Gr : rG) (b0 : Nat) (w : lS) (H : Heap) : Prop := cH g.1 (cwn w.1 H.size) H ∧ va_at g.1.1 vwCl (g.2.1, .inl (g.2.2, 1, .inr (.inl w.2.2))) H ∧ rH Gr w.2.1 H ∧ w.1.1 g.2.1 = none ∧ (∀ q, rA Gr q → w.1.1 q = none ∧ q ≠ g.2.1) ∧ (∀ q, w.1.1 q ≠ none → b0 ≤ q) ∧ b0 ≤ g.2.1 ∧ ∀ q, rA Gr q → b0 ≤ q
abbrev lA (b0 : Nat) : Nat → Prop := fun q => b0 ≤ q
def lC (g : wG) (Gr : rG) (X : rX) (b L : Nat) (xs : Nat → Int32) : Prop :=
  gC X 7 cL_law ∧ X.2.2.2.2.1.vm.findClass RL = some X.2.2.2.2.2.1.cls ∧ (∀ w ∈ rgT, w.before X.2.2.2.2.2.2.1 X.2.2.2.2.1 = true) ∧ va_K g.1.1 vwCl (cTys g.1) X.2.2.2.2.1 ∧ va_K g.1.1 vwCl (wTys g) X.2.2.2.2.1 ∧ va_K Gr.1 vwCl (rTys Gr) X.2.2.2.2.1 ∧ rAp Gr ∧ X.2.2.2.1 = room_1 ∧
  cNw X.2.2.2.2.1 ∧ cSt X.2.2.2.2.1 ∧ cNc X.2.2.2.2.1 ∧ cZ (lA X.2.2.2.2.1.heap.size) X.2.2.2.2.1 X.2.2.2.2.1.heap ∧ X.2.1.stackTraces = false ∧ va_X b L xs X.2.2.2.2.1 X.2.2.2.2.1.heap ∧ b < X.2.2.2.2.1.heap.size
theorem rA_lt {Gr : rG} {S : rS} {H : Heap} (h : rH Gr S H) {q : Nat} (hq : rA Gr q) : q < H.size := by
  rcases hq with rfl | ⟨k, hk, hi, rfl⟩
  · exact h.1.lt
  · exact (h.2 k hk hi).lt
theorem rH_kept {Gr : rG} {S : rS} {H H' : Heap} (h : rH Gr S H) (hk : ∀ q, rA Gr q → H'[q]? = H[q]?) : rH Gr S H' := ⟨h.1.kept (hk _ (rA_o Gr)), fun k h1 h2 => (h.2 k h1 h2).kept (hk _ (rA_a Gr h1 h2))⟩
section LRules
variable {g : wG} {Gr : rG} {X : rX} {b L : Nat} {xs : Nat → Int32} {Q : State → Prop} {pc : Nat} {lo : List (Option Value)} {st : List Value} {w : lS} {kc ks : Nat}
theorem la_sld (C : lC g Gr X b L xs) {i : Int32} (hdg : decode cL_law pc = .ok (.iaload, 1)) (hin : vp_in i L) (kk : gAW X (lR g Gr X.2.2.2.2.1.heap.size) (lA X.2.2.2.2.1.heap.size) Q 7 (pc + 1) lo (.int (xs i.toNatClampNeg) :: st) w kc ks) : gAW X (lR g Gr X.2.2.2.2.1.heap.size) (lA X.2.2.2.2.1.heap.size) Q 7 pc lo (.int i :: .ref b :: st) w kc ks := by
  intro H locs ls h1 h2 h3
  obtain ⟨C0, -, -, -, -, -, -, -, -, -, -, -, -, hX, hbl⟩ := C
  exact va_sld C0.1 C0.2.1 hX hbl (Nat.not_le.mpr hbl) h2 hin hdg (kk H locs ls h1 h2 h3)
theorem la_slen (C : lC g Gr X b L xs) (hdg : decode cL_law pc = .ok (.arraylength, 1)) (kk : gAW X (lR g Gr X.2.2.2.2.1.heap.size) (lA X.2.2.2.2.1.heap.size) Q 7 (pc + 1) lo (.int (nI L) :: st) w kc ks) : gAW X (lR g Gr X.2.2.2.2.1.heap.size) (lA X.2.2.2.2.1.heap.size) Q 7 pc lo (.ref b :: st) w kc ks := by
  intro H locs ls h1 h2 h3
  obtain ⟨C0, -, -, -, -, -, -, -, -, -, -, -, -, hX, hbl⟩ := C
  exact va_slen C0.1 C0.2.1 hX hbl (Nat.not_le.mpr hbl) h2 hdg (kk H locs ls h1 h2 h3)
theorem la_lald (C : lC g Gr X b L xs) (hdg : decode cL_law pc = .ok (.laload, 1)) (kk : gAW X (lR g Gr X.2.2.2.2.1.heap.size) (lA X.2.2.2.2.1.heap.size) Q 7 (pc + 1) lo (.long (w.2.2 0) :: st) w kc ks) : gAW X (lR g Gr X.2.2.2.2.1.heap.size) (lA X.2.2.2.2.1.heap.size) Q 7 pc lo (.int 0 :: .ref g.2.1 :: st) w kc ks := by
  intro H locs ls h1 h2 h3
  obtain ⟨C0, -, -, -, hK, -⟩ := C
  have hin : vp_in (0 : Int32) 1 := by unfold vp_in; decide
  exact va_lald (D := g.1.1) (cl := vwCl) (tys := wTys g) C0.1 C0.2.1 hK (rP1 h1.2.1) 0 0 rfl rfl hin hdg (kk H locs ls h1 h2 h3)
/-- a wrapper is called -/
theorem la_callW (C : lC g Gr X b L xs) {index nL' d' : Nat} {y : MethodName} {cc' : ByteArray} {hh : List (Nat × Nat × Nat × Nat)} {As : List Value} {ka kb : Nat} {F : Int32 → wS → Prop} {stk : List Value} (hdg : decode cL_law pc = .ok (.invokestatic index, 3)) (hM : ∀ sz, wM X.2.1 g d' y cc' nL' hh As w.1 w.2.2 sz ka kb F) (hs : As.reverse ++ st = stk)
    (w1 : Cond.methodLink RL index y ∈ rgT) (w2 : Cond.static y ∈ rgT) (w4 : Cond.initialized y.cls ∈ rgT) (w5 : Cond.codeWith y cc' nL' (some .int) hh ∈ rgT) (hh' : cHd y As.length) (hdd : d' ≤ 1000) (hnl : nL' ≤ 41) (hst : (st.map fun q => q.category).sum ≤ 8) (hk : kc + ka ≤ 601024) (hsl : ks + kb ≤ 7293034)
    (kk : ∀ k w', F k w' → gAW X (lR g Gr X.2.2.2.2.1.heap.size) (lA X.2.2.2.2.1.heap.size) Q 7 (pc + 3) lo (.int k :: st) (w'.1, w.2.1, w'.2) (kc + ka) (ks + kb)) : gAW X (lR g Gr X.2.2.2.2.1.heap.size) (lA X.2.2.2.2.1.heap.size) Q 7 pc lo stk w kc ks := by
  intro H locs ls h1 h2 h3
  obtain ⟨hH, ho, hr, hn, hrd, hb0, hb1, hb2⟩ := h1
  obtain ⟨C0, hown, hts, hK, hKw, hKr, hap, hR, hNw, hSt, hNc, hZ, htr, hX, hbl⟩ := C
  subst hs
  have hle : X.2.2.2.2.1.heap.size ≤ H.size := h2.1
  have hAw : ∀ q, wA w.1 H.size g.2.1 q → lA X.2.2.2.2.1.heap.size q := fun q h => by
    rcases h with h | rfl | h
    · exact hb0 q h
    · exact hb1
    · exact Nat.le_trans hle h
  have hwR : wR g w.1 H.size (w.1, w.2.2) H := ⟨hH, ho, hn, fun q h => Or.inl h⟩
  have hpre : PreS X.2.2.2.2.1 H (va_Pc As (wPre g w.1 w.2.2 H.size)) As := by
    refine ⟨fun a U gg mk h => ?_, fun U hU hW => ⟨rfl, by rw [hU], by rw [hU]; exact hwR, va_K.moved hW.alike hK, va_K.moved hW.alike hKw, hNw.warm hW, hSt.warm hW, fun i j hi hj hij => va_Nc.moved hW.alike (hNc i j hi hj hij), ?_⟩⟩
    · obtain ⟨q1, q2, q3, q4, q5, q6, q7, q8, q9⟩ := h
      exact ⟨q1, q2, q3, va_K.moved (u := U) (U := U.calling gg mk a) (Vm.Alike.refl U.vm) q4, va_K.moved (u := U) (U := U.calling gg mk a) (Vm.Alike.refl U.vm) q5, cNw.same (u := U) rfl q6, cSt.same (u := U) rfl q7, fun i j hi hj hij => va_Nc.moved (u := U) (U := U.calling gg mk a) (Vm.Alike.refl U.vm) (q8 i j hi hj hij), cZ.moved (u := U) (U := U.calling gg mk a) (Vm.Alike.refl U.vm) q9⟩
    · rw [hU]
      exact ((cZ.moved hW.alike hZ).kept h2.2.1).narrow hAw
  have hlen : ∀ sig, parseMethodDescriptor y.desc = some sig → As.length = sig.parameters.length := fun sig h => by
    have h2' := hh'.2.2
    rw [h] at h2'
    exact (Option.some.inj h2').symm
  have run := vx_runSW (n := As.length) (As := As) (hh := hh) (ws := .codeWith y cc' nL' (some .int) hh :: rgT) (rm := cRm d' ka kb) (Ts := rgT) (own := RL) (rest := st) (g := F0 X.2.2.2.2.2.1 pc ls (As.reverse ++ st)) (locs := locs) (cells := kc) (slots := ks) (p := X.1) (l := X.2.1) (e := X.2.2.1) (R := X.2.2.2.1) (s := X.2.2.2.2.1) (m := X.2.2.2.2.2.1) (args := X.2.2.2.2.2.2.1) (below := X.2.2.2.2.2.2.2.1) (meth := X.2.2.2.2.2.2.2.2.1) (c := X.2.2.2.2.2.2.2.2.2) (H := H)
    ⟨C0.1, C0.2.1, C0.2.2, hown, hts⟩ (hM H.size) ⟨⟨rfl, rfl, by rw [hR]; show d' + 1 ≤ 2048; omega, by rw [hR]; show 8 + (nL' + 11) + 60 * d' ≤ 84000; omega, pay_in hts (rgT_cons w5), List.mem_cons_self⟩, hts _ w5, hts _ w4, ⟨hh'.1, hh'.2.1⟩, hlen, hts _ w1, hts _ w2⟩ hpre rfl rfl h3.1 rfl (lv_room hst) hdg (by rw [hR]; exact ⟨hk, hsl⟩)
  intro T hT Y
  obtain ⟨v, st₀, t', T', L', e0, Y', hL, e1, e2, ⟨k, w', hv, hF, hwR', hFr⟩, go⟩ := run T hT Y
  cases hv
  obtain ⟨k1, k2, k3⟩ := vx_keep e0 e1 h2 (fun q _ h => hAw q h) (fun q h => hAw q h) hL hFr
  rw [← e1] at hwR'
  obtain ⟨a1, a2, a3, a4⟩ := hwR'
  have hrn : ∀ q, rA Gr q → ¬ wA w.1 H.size g.2.1 q := fun q hq h => by
    rcases h with h | h | h
    · exact h (hrd q hq).1
    · exact (hrd q hq).2 h
    · exact absurd (rA_lt hr hq) (Nat.not_lt.mpr h)
  have hr' : rH Gr w.2.1 T'.heap := rH_kept hr (fun q hq => k2 q (rA_lt hr hq) (hrn q hq))
  obtain ⟨t2, b1, b2⟩ := kk k w' hF T'.heap (locs ++ L') ls ⟨a1, a2, hr', a3, fun q hq => ⟨by
      cases hz : w'.1.1 q with
      | none => rfl
      | some x => exact absurd (a4 q (by rw [hz]; exact fun h => by cases h)) (hrn q hq), (hrd q hq).2⟩, fun q hq => hAw q (a4 q hq), hb1, hb2⟩ k3 h3 T' rfl Y'
  exact ⟨t2, go t2 b1, b2⟩
/-- a method of the model is called -/
theorem la_callR (C : lC g Gr X b L xs) {index nL' d' : Nat} {y : MethodName} {cc' : ByteArray} {ret' : Option FieldType} {As : List Value} {v : Int32} {S' : rS} {stk : List Value} (hdg : decode cL_law pc = .ok (.invokevirtual index, 3)) (hM : rM X.2.1 Gr d' y cc' nL' ret' (.ref Gr.2.2.2.1 :: As) w.2.1 (some (.int v), S')) (hs : As.reverse ++ .ref Gr.2.2.2.1 :: st = stk)
    (w1 : Cond.methodLink RL index y ∈ rgT) (w2 : Cond.instanceMethod y ∈ rgT) (w3 : Cond.selects RX7 y y ∈ rgT) (w4 : Cond.initialized y.cls ∈ rgT) (w5 : Cond.code y cc' nL' ret' ∈ rgT) (hh' : cHd y As.length) (hdd : d' ≤ 1000) (hnl : nL' ≤ 41) (hst : (st.map fun q => q.category).sum ≤ 8) (hk : kc ≤ 601024) (hsl : ks ≤ 7293034)
    (kk : gAW X (lR g Gr X.2.2.2.2.1.heap.size) (lA X.2.2.2.2.1.heap.size) Q 7 (pc + 3) lo (.int v :: st) (w.1, S', w.2.2) kc ks) : gAW X (lR g Gr X.2.2.2.2.1.heap.size) (lA X.2.2.2.2.1.heap.size) Q 7 pc lo stk w kc ks := by
  intro H locs ls h1 h2 h3
  obtain ⟨hH, ho, hr, hn, hrd, hb0, hb1, hb2⟩ := h1
  obtain ⟨C0, hown, hts, hK, hKw, hKr, hap, hR, hNw, hSt, hNc, hZ, htr, hX, hbl⟩ := C
  subst hs
  have hlen : ∀ sig, parseMethodDescriptor y.desc = some sig → As.length = sig.parameters.length := fun sig h => by
    have h2' := hh'.2.2
    rw [h] at h2'
    exact (Option.some.inj h2').symm
  have hrecv : ∃ cellB : Cell, H[Gr.2.2.2.1]? = some cellB ∧ cellB.vm.isStatics = false ∧ X.2.2.2.2.1.vm.findClass RX7 = some cellB.cls :=
    va_recv (D := Gr.1) (cl := vwCl) (q0 := 0) (ci := 7) hKr (rP1 hr.1) (show vwCl[7]? = some (RX7, TX7, 55) from rfl) rfl
  have run := va_runV (n := As.length) (As := As) (C := RX7) (ws := .code y cc' nL' ret' :: rgT) (rm := rRm d') (Ts := rgT) (own := RL) (rest := st) (g := F0 X.2.2.2.2.2.1 pc ls (As.reverse ++ .ref Gr.2.2.2.1 :: st)) (locs := locs) (cells := kc) (slots := ks) (p := X.1) (l := X.2.1) (e := X.2.2.1) (R := X.2.2.2.1) (s := X.2.2.2.2.1) (m := X.2.2.2.2.2.1) (args := X.2.2.2.2.2.2.1) (below := X.2.2.2.2.2.2.2.1) (meth := X.2.2.2.2.2.2.2.2.1) (c := X.2.2.2.2.2.2.2.2.2) (H := H) (b := Gr.2.2.2.1)
    ⟨C0.1, C0.2.1, C0.2.2, hown, hts⟩ hM ⟨⟨rfl, rfl, by rw [hR]; show d' + 1 ≤ 2048; omega, by rw [hR]; show 8 + (nL' + 11) + 60 * d' ≤ 84000; omega, pay_in hts (rgT_cons w5), List.mem_cons_self, hts _ w5, hts _ w4, ⟨hh'.1, hh'.2.1⟩, hlen, hts _ w1⟩, hts _ w2, hts _ w3⟩ ⟨rPc_blind, hrecv, fun U hU hW => ⟨rfl, by rw [hU]; exact hr, va_K.moved hW.alike hKr, hap⟩⟩ rfl rfl h3.1 rfl (lv_room hst) hdg (by rw [hR]; exact ⟨hk, hsl⟩)
  intro T hT Y
  obtain ⟨v', st₀, t', T', L', e0, Y', hL, e1, e2, ⟨hv, hr', hFr⟩, go⟩ := run T hT Y
  cases hv
  obtain ⟨k1, k2, k3⟩ := vx_keep e0 e1 h2 (fun q _ h => hb2 q h) (fun q h => hb2 q h) hL hFr
  rw [← e1] at hr'
  obtain ⟨t2, b1, b2⟩ := kk T'.heap (locs ++ L') ls ⟨⟨rfl, fun q ci n hq => (hH.2 q ci n hq).kept (k2 q (hH.2 q ci n hq).lt (fun h => by
      have h9 : w.1.1 q = some (ci, n) := hq
      rw [(hrd q h).1] at h9
      cases h9))⟩, ho.kept (k2 _ ho.lt (fun h => (hrd _ h).2 rfl)), hr', hn, hrd, hb0, hb1, hb2⟩ k3 h3 T' rfl Y'
  exact ⟨t2, go t2 b1, b2⟩
/-- a method of the class that makes nothing and throws nothing -/
def pSpec {α : Type} (fn : cS → Option (α × cS)) (z : cS) (F : α → cS → Prop) : Prop := ∀ nx, (∀ q, z.1 q ≠ none → q < nx) → ∃ v z', fn (cwn z nx) = some (v, z') ∧ F v z'
theorem la_callP (C : lC g Gr X b L xs) {index q nL' d' n0 : Nat} {fn : cS → Option (Int32 × cS)} {y : MethodName} {cc' : ByteArray} {ret' : Option FieldType} {As : List Value} {P : Int32 → cS → Prop} {stk : List Value} (hdg : decode cL_law pc = .ok (.invokevirtual index, 3))
    (hM : ∀ (z : cS) (v : Int32) (z' : cS), fn z = some (v, z') → cM X.2.1 g.1 d' y cc' nL' ret' (.ref q :: As) z (.inl (some (.int v)), z', 0, 0)) (hsp : pSpec fn w.1 P) (hq : w.1.1 q = some (6, n0)) (hs : As.reverse ++ .ref q :: st = stk)
    (w1 : Cond.methodLink RL index y ∈ rgT) (w2 : Cond.instanceMethod y ∈ rgT) (w3 : Cond.selects RX6 y y ∈ rgT) (w4 : Cond.initialized y.cls ∈ rgT) (w5 : Cond.code y cc' nL' ret' ∈ rgT) (hh' : cHd y As.length) (hdd : d' ≤ 1000) (hnl : nL' ≤ 41) (hst : (st.map fun q => q.category).sum ≤ 8) (hk : kc ≤ 601024) (hsl : ks ≤ 7293034)
    (kk : ∀ v z', P v z' → gAW X (lR g Gr X.2.2.2.2.1.heap.size) (lA X.2.2.2.2.1.heap.size) Q 7 (pc + 3) lo (.int v :: st) (z', w.2.1, w.2.2) kc ks) : gAW X (lR g Gr X.2.2.2.2.1.heap.size) (lA X.2.2.2.2.1.heap.size) Q 7 pc lo stk w kc ks := by
  intro H locs ls h1 h2 h3
  obtain ⟨hH, ho, hr, hn, hrd, hb0, hb1, hb2⟩ := h1
  obtain ⟨C0, hown, hts, hK, hKw, hKr, hap, hR, hNw, hSt, hNc, hZ, htr, hX, hbl⟩ := C
  subst hs
  have hlt : ∀ p, w.1.1 p ≠ none → p < H.size := fun p hp => cH_lt hH hp
  obtain ⟨v, z', hfn, hP⟩ := hsp H.size hlt
  have hM' := hM _ _ _ hfn
  have hle : X.2.2.2.2.1.heap.size ≤ H.size := h2.1
  have hAc : ∀ p, cA (cwn w.1 H.size) p → lA X.2.2.2.2.1.heap.size p := fun p hp => hp.elim (fun h => hb0 p h) (fun h => Nat.le_trans hle h)
  have hpre : ∀ U : State, U.heap = H → X.2.2.2.2.1.WarmedH U.vm → cPre g.1 (cwn w.1 H.size) U := fun U hU hW => by
    refine ⟨by rw [hU]; exact hH, va_K.moved hW.alike hK, hNw.warm hW, hSt.warm hW, ?_⟩
    rw [hU]
    exact ((cZ.moved hW.alike hZ).kept h2.2.1).narrow hAc
  have hrecv : ∃ cellB : Cell, H[q]? = some cellB ∧ cellB.vm.isStatics = false ∧ X.2.2.2.2.1.vm.findClass RX6 = some cellB.cls :=
    va_recv (D := g.1.1) (cl := vwCl) (q0 := 0) (ci := 6) hK (rP1 (cH_obj hH (show (cwn w.1 H.size).1 q = some (6, n0) from hq) (by decide))) (show vwCl[6]? = some (RX6, TX6, 12) from rfl) rfl
  have hlen : ∀ sig, parseMethodDescriptor y.desc = some sig → As.length = sig.parameters.length := fun sig h => by
    have h2' := hh'.2.2
    rw [h] at h2'
    exact (Option.some.inj h2').symm
  have hno : ∀ p, p < H.size → w.1.1 p = none → ¬ cA (cwn w.1 H.size) p := fun p hp hz h => by
    rcases h with h | h
    · exact h hz
    · exact absurd (show H.size ≤ p from h) (Nat.not_le.mpr hp)
  have run := va_runV (n := As.length) (As := As) (C := RX6) (ws := .code y cc' nL' ret' :: rgT) (rm := cRm d' 0 0) (Ts := rgT) (own := RL) (rest := st) (g := F0 X.2.2.2.2.2.1 pc ls (As.reverse ++ .ref q :: st)) (locs := locs) (cells := kc) (slots := ks) (p := X.1) (l := X.2.1) (e := X.2.2.1) (R := X.2.2.2.1) (s := X.2.2.2.2.1) (m := X.2.2.2.2.2.1) (args := X.2.2.2.2.2.2.1) (below := X.2.2.2.2.2.2.2.1) (meth := X.2.2.2.2.2.2.2.2.1) (c := X.2.2.2.2.2.2.2.2.2) (H := H) (b := q)
    ⟨C0.1, C0.2.1, C0.2.2, hown, hts⟩ hM' ⟨⟨rfl, rfl, by rw [hR]; show d' + 1 ≤ 2048; omega, by rw [hR]; show 8 + (nL' + 11) + 60 * d' ≤ 84000; omega, pay_in hts (rgT_cons w5), List.mem_cons_self, hts _ w5, hts _ w4, ⟨hh'.1, hh'.2.1⟩, hlen, hts _ w1⟩, hts _ w2, hts _ w3⟩ ⟨cPre_blind, hrecv, fun U hU hW => ⟨rfl, hpre U hU hW⟩⟩ rfl rfl h3.1 rfl (lv_room hst) hdg (by rw [hR]; exact ⟨hk, hsl⟩)
  intro T hT Y
  obtain ⟨v', st₀, t', T', L', e0, Y', hL, e1, e2, ⟨v2, hv, hw, hH', hFr, hD'⟩, go⟩ := run T hT Y
  cases hw
  cases hv
  obtain ⟨k1, k2, k3⟩ := vx_keep e0 e1 h2 (fun p _ h => hAc p h) (fun p h => hAc p h) hL hFr
  rw [← e1] at hH'
  have hzn : ∀ p, p < H.size → w.1.1 p = none → z'.1 p = none := fun p hp hz => by
    cases hz' : z'.1 p with
    | none => rfl
    | some x => exact absurd (hD' p (by rw [show ((Sum.inl (some (Value.int v)), z', 0, 0) : cR).2.1 = z' from rfl, hz']; exact fun h => by cases h)) (hno p hp hz)
  obtain ⟨t2, b1, b2⟩ := kk v z' hP T'.heap (locs ++ L') ls ⟨⟨rfl, hH'.2⟩, ho.kept (k2 _ ho.lt (hno _ ho.lt hn)), rH_kept hr (fun p hp => k2 p (rA_lt hr hp) (hno p (rA_lt hr hp) (hrd p hp).1)), hzn _ ho.lt hn, fun p hp => ⟨hzn p (rA_lt hr hp) (hrd p hp).1, (hrd p hp).2⟩, fun p hp => hAc p (hD' p hp), hb1, hb2⟩ k3 h3 T' rfl Y'
  exact ⟨t2, go t2 b1, b2⟩
end LRules
