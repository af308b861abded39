/-! the law's entry: objects are made before there is a world to speak of; one heap of typed cells for all of them -/
def eR (G : cG) (b0 : Nat) (z : cS) (H : Heap) : Prop := cH G (cwn z H.size) H ∧ ∀ q, z.1 q ≠ none → b0 ≤ q
def eC (G : cG) (X : rX) : Prop := gC X 7 cL_law ∧ X.2.2.2.2.1.vm.findClass RL = some X.2.2.2.2.2.1.cls ∧ (∀ w ∈ rgT, w.before X.2.2.2.2.2.2.1 X.2.2.2.2.1 = true) ∧ va_K G.1 vwCl (cTys G) X.2.2.2.2.1 ∧ X.2.2.2.1 = room_1 ∧ cNw X.2.2.2.2.1 ∧ cSt X.2.2.2.2.1 ∧ cZ (lA X.2.2.2.2.1.heap.size) X.2.2.2.2.1 X.2.2.2.2.1.heap ∧ X.2.1.stackTraces = false
section LEntry
variable {G : cG} {X : rX} {Q : State → Prop} {pc : Nat} {lo : List (Option Value)} {st : List Value} {z : cS} {kc ks : Nat}
theorem le_new (C : eC G X) {idx ci : Nat} {Cn : String} {T : u_T} {N : Nat} (hdg : decode cL_law pc = .ok (.new idx, 3)) (hc : vwCl[ci]? = some (Cn, T, N)) (hci : ci < 8) (ty : Nat → FieldType) (hty : ∀ k, k < N → parseFieldDescriptor (T k).2.2.1 = some (ty k)) (hin : ∀ w ∈ u_ws Cn T N, w ∈ rgT) (w1 : Cond.classLink RL idx Cn ∈ rgT) (w2 : Cond.instantiable Cn N ∈ rgT) (w3 : Cond.initialized Cn ∈ rgT)
    (hfs : ∀ j, j < N → defaultValue (ty j) = vp_V (cObj ci (fun _ => 0) (fun _ => none)) j) (hk : kc + 1 ≤ 601024) (hs : ks + N ≤ 7293034) (kk : ∀ q, (∀ p, z.1 p ≠ none → p < q) → X.2.2.2.2.1.heap.size ≤ q → gAW X (eR G X.2.2.2.2.1.heap.size) (lA X.2.2.2.2.1.heap.size) Q 7 (pc + 3) lo (.ref q :: st) (cnw (cwn z q) ci 0) (kc + 1) (ks + N)) : gAW X (eR G X.2.2.2.2.1.heap.size) (lA X.2.2.2.2.1.heap.size) Q 7 pc lo st z kc ks := by
  intro H locs ls h1 h2 h3
  obtain ⟨hH, hb0⟩ := h1
  obtain ⟨C0, hown, hts, hK, hR, -⟩ := C
  have hKn := hK.1 ci _ hc
  have hle : X.2.2.2.2.1.heap.size ≤ H.size := h2.1
  refine W.newcK C0.1 C0.2.1 hown (hts _ w1) (hts _ w2) (hts _ w3) rfl hdg (by rw [hR]; exact hk) (by rw [hR]; exact hs) hKn.2.1 rfl fun H1 kC hkC e1 z1 o1 => ?_
  have hnew : cH G (cnw (cwn z H.size) ci 0) H1 := cH_new hH z1 o1 (by
    unfold cCell
    rw [if_pos hci]
    exact ⟨_, hc, (u_born ty hts hin hKn hkC e1 hty).to hfs⟩)
  refine kk H.size (fun p hp => cH_lt hH hp) hle H1 locs ls ⟨⟨rfl, hnew.2⟩, fun q hq => ?_⟩ ⟨Nat.le_trans h2.1 (by omega), fun x q1 q2 => (o1 x (Nat.lt_of_lt_of_le q1 h2.1)).trans (h2.2.1 x q1 q2), h2.2.2⟩ h3
  have e : (cnw (cwn z H.size) ci 0).1 q = if q = H.size then some (ci, 0) else z.1 q := rfl
  rw [e] at hq
  by_cases hpq : q = H.size
  · rw [hpq]; exact hle
  · rw [if_neg hpq] at hq
    exact hb0 q hq
/-- what a constructor does from z, wherever the next cell lies -/
def aSpec (fn : cS → Option (Unit × cS × Nat × Nat)) (z : cS) (ka kb : Nat) (P : cS → Prop) : Prop := ∀ nx, (∀ q, z.1 q ≠ none → q < nx) → ∃ z' k n, fn (cwn z nx) = some ((), z', k, n) ∧ k ≤ ka ∧ n ≤ kb ∧ P z'
theorem le_init (C : eC G X) {index q nL' d' ka kb : Nat} {fn : cS → Option (Unit × cS × Nat × Nat)} {y : MethodName} {cc' : ByteArray} {P : cS → Prop} (hdg : decode cL_law pc = .ok (.invokespecial index, 3)) (hM : ∀ (z z' : cS) (k n : Nat), fn z = some ((), z', k, n) → cM X.2.1 G d' y cc' nL' none [.ref q] z (.inl none, z', k, n)) (hsp : aSpec fn z ka kb P)
    (w1 : Cond.methodLink RL index y ∈ rgT) (w2 : Cond.instanceMethod y ∈ rgT) (hin : y.name = "<init>") (w4 : Cond.initialized y.cls ∈ rgT) (w5 : Cond.code y cc' nL' none ∈ rgT) (hh : cHd y 0) (hdd : d' ≤ 1000) (hnl : nL' ≤ 41) (hst : (st.map fun q => q.category).sum ≤ 8) (hk : kc + ka ≤ 601024) (hsl : ks + kb ≤ 7293034)
    (kk : ∀ z', P z' → gAW X (eR G X.2.2.2.2.1.heap.size) (lA X.2.2.2.2.1.heap.size) Q 7 (pc + 3) lo st z' (kc + ka) (ks + kb)) : gAW X (eR G X.2.2.2.2.1.heap.size) (lA X.2.2.2.2.1.heap.size) Q 7 pc lo (.ref q :: st) z kc ks := by
  intro H locs ls h1 h2 h3
  obtain ⟨hH, hb0⟩ := h1
  obtain ⟨C0, hown, hts, hK, hR, hNw, hSt, hZ, htr⟩ := C
  have hlt : ∀ p, z.1 p ≠ none → p < H.size := fun p hp => cH_lt hH hp
  obtain ⟨z', k, n, hfn, hka, hkb, hP⟩ := hsp H.size hlt
  have hM' := hM _ _ _ _ hfn
  have hle : X.2.2.2.2.1.heap.size ≤ H.size := h2.1
  have hAc : ∀ p, cA (cwn z H.size) p → lA X.2.2.2.2.1.heap.size p := fun p hp => hp.elim (fun h => hb0 p h) (fun h => Nat.le_trans hle h)
  have hpre : ∀ U : State, U.heap = H → X.2.2.2.2.1.WarmedH U.vm → cPre G (cwn z H.size) U := fun U hU hW => by
    refine ⟨by rw [hU]; exact hH, va_K.moved hW.alike hK, hNw.warm hW, hSt.warm hW, ?_⟩
    rw [hU]
    exact ((cZ.moved hW.alike hZ).kept h2.2.1).narrow hAc
  have hlen : ∀ sig, parseMethodDescriptor y.desc = some sig → 0 = sig.parameters.length := fun sig h => by
    have h2' := hh.2.2
    rw [h] at h2'
    exact (Option.some.inj h2').symm
  have run := va_runI (n := 0) (As := []) (ws := .code y cc' nL' none :: rgT) (rm := cRm d' k n) (Ts := rgT) (own := RL) (rest := st) (b := q) (g := F0 X.2.2.2.2.2.1 pc ls (.ref q :: st)) (locs := locs) (cells := kc) (slots := ks) (p := X.1) (l := X.2.1) (e := X.2.2.1) (R := X.2.2.2.1) (s := X.2.2.2.2.1) (m := X.2.2.2.2.2.1) (args := X.2.2.2.2.2.2.1) (below := X.2.2.2.2.2.2.2.1) (meth := X.2.2.2.2.2.2.2.2.1) (c := X.2.2.2.2.2.2.2.2.2) (H := H)
    ⟨C0.1, C0.2.1, C0.2.2, hown, hts⟩ hM' ⟨⟨rfl, rfl, by rw [hR]; show d' + 1 ≤ 2048; omega, by rw [hR]; show 8 + (nL' + 11) + 60 * d' ≤ 84000; omega, pay_in hts (rgT_cons w5), List.mem_cons_self, hts _ w5, hts _ w4, ⟨hh.1, hh.2.1⟩, hlen, hts _ w1⟩, hin, hts _ w2⟩ ⟨cPre_blind, fun U hU hW => ⟨rfl, hpre U hU hW⟩⟩ rfl rfl h3.1 rfl (lv_room hst) hdg (by rw [hR]; exact ⟨by show kc + k ≤ 601024; omega, by show ks + n ≤ 7293034; omega⟩)
  intro T hT Y
  obtain ⟨v', st₀, t', T', L', e0, Y', hL, e1, e2, ⟨v2, hv, hw, hH', hFr, hD'⟩, go⟩ := run T hT Y
  cases hw
  cases hv
  obtain ⟨k1, k2, k3⟩ := vx_keep e0 e1 h2 (fun p _ h => hAc p h) (fun p h => hAc p h) hL hFr
  rw [← e1] at hH'
  obtain ⟨t2, b1, b2⟩ := (W.widen (Nat.add_le_add_left hka kc) (Nat.add_le_add_left hkb ks) (kk z' hP T'.heap (locs ++ L') ls ⟨⟨rfl, hH'.2⟩, fun p hp => hAc p (hD' p hp)⟩ k3 h3)) T' rfl Y'
  exact ⟨t2, go t2 b1, b2⟩
end LEntry
