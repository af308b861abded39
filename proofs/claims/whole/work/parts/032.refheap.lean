section RHeap
variable {G : rG} {X : rX} {nL d : Nat} {cc : ByteArray} {ret : Option FieldType} {r : Option Value × rS} {pc : Nat} {lo : List (Option Value)} {st : List Value} {S : rS}
theorem rC_hts (C : rC G X nL cc ret d) : ∀ w ∈ rgT, w.before X.2.2.2.2.2.2.1 X.2.2.2.2.1 = true := C.2.2.2.2.1
theorem rC_K (C : rC G X nL cc ret d) : va_K G.1 vwCl (rTys G) X.2.2.2.2.1 := C.2.2.2.2.2.1
theorem rC_own (C : rC G X nL cc ret d) : X.2.2.2.2.1.vm.findClass RX7 = some X.2.2.2.2.2.1.cls := C.2.2.2.1
theorem rC_ap (C : rC G X nL cc ret d) : rAp G := C.2.2.2.2.2.2.1
theorem ra_getI (C : rC G X nL cc ret d) {k idx : Nat} (hdg : decode cc pc = .ok (.getfield idx, 3)) (hk : k < 55) (hi : rInt k = true) (hin : ∀ w ∈ u_ws RX7 TX7 55, w ∈ rgT) (hl : Cond.fieldLink RX7 idx "ModuleLoftModel" (TX7 k).2.1 (TX7 k).2.2.1 ∈ rgT) (hr : (TX7 k).1 = "ModuleLoftModel") (kk : rAW G X nL r (pc + 3) lo (.int (S.1 k) :: st) S) : rAW G X nL r pc lo (.ref G.2.2.2.1 :: st) S := fun H locs ls h1 h2 h3 =>
  va_get (D := G.1) (cl := vwCl) (tys := rTys G) (ws := [(G.2.2.2.1, .inr (7, rObj G S.1))]) (own := RX7) (ref := "ModuleLoftModel") (C := RX7) (T := TX7) (N := 55) (ci := 7) (Ts := rgT) C.1 C.2.1 (rC_hts C) hin (rC_own C) (rC_K C) (rP1 h1.1) 0 rfl rfl k hk (rC_hts C _ hl) (fun x q => by rw [hr] at q; exact q) (rObj_int G S.1 hk hi) hdg (kk H locs ls h1 h2 h3)
theorem ra_getR (C : rC G X nL cc ret d) {k idx : Nat} (hdg : decode cc pc = .ok (.getfield idx, 3)) (hk : k < 55) (hi : rInt k = false) (hin : ∀ w ∈ u_ws RX7 TX7 55, w ∈ rgT) (hl : Cond.fieldLink RX7 idx "ModuleLoftModel" (TX7 k).2.1 (TX7 k).2.2.1 ∈ rgT) (hr : (TX7 k).1 = "ModuleLoftModel") (kk : rAW G X nL r (pc + 3) lo (.ref (G.2.2.2.2 k) :: st) S) : rAW G X nL r pc lo (.ref G.2.2.2.1 :: st) S := fun H locs ls h1 h2 h3 =>
  va_get (D := G.1) (cl := vwCl) (tys := rTys G) (ws := [(G.2.2.2.1, .inr (7, rObj G S.1))]) (own := RX7) (ref := "ModuleLoftModel") (C := RX7) (T := TX7) (N := 55) (ci := 7) (Ts := rgT) C.1 C.2.1 (rC_hts C) hin (rC_own C) (rC_K C) (rP1 h1.1) 0 rfl rfl k hk (rC_hts C _ hl) (fun x q => by rw [hr] at q; exact q) (rObj_ref G S.1 hk hi) hdg (kk H locs ls h1 h2 h3)
theorem rA_o (G : rG) : rA G G.2.2.2.1 := Or.inl rfl
theorem rA_a (G : rG) {k : Nat} (hk : k < 55) (hi : rInt k = false) : rA G (G.2.2.2.2 k) := Or.inr ⟨k, hk, hi, rfl⟩
/-- a write to the object's own cell -/
theorem rH_setF {G : rG} {S : rS} {H H' : Heap} (h : rH G S H) (hap : rAp G) {k : Nat} {v : Int32} (hk : k < 55) (hi : rInt k = true) (h0 : va_at G.1 vwCl (G.2.2.2.1, .inr (7, (rObj G S.1).set k (.int v))) H') (ho : ∀ q : Nat, q ≠ G.2.2.2.1 → H'[q]? = H[q]?) : rH G (rpf S k v) H' := by
  rw [rObj_set G S.1 v hk hi] at h0
  exact ⟨h0, fun j hj hij => (h.2 j hj hij).kept (ho _ (hap.2 j hj hij))⟩
/-- a write to one of the arrays -/
theorem rH_setA {G : rG} {S : rS} {H H' : Heap} (h : rH G S H) (hap : rAp G) {k : Nat} {f : Nat → Int32} (hk : k < 55) (hi : rInt k = false) (h0 : va_at G.1 vwCl (G.2.2.2.2 k, .inl (rTy G k, rLen k, .inl f)) H') (ho : ∀ q : Nat, q ≠ G.2.2.2.2 k → H'[q]? = H[q]?) : rH G (S.1, rup S.2 k f) H' := by
  refine ⟨h.1.kept (ho _ (fun e => hap.2 k hk hi e.symm)), fun j hj hij => ?_⟩
  by_cases hjk : j = k
  · subst hjk
    show va_at _ _ (_, .inl (_, _, .inl (if j = j then f else S.2 j))) H'
    rw [if_pos rfl]
    exact h0
  · show va_at _ _ (_, .inl (_, _, .inl (if j = k then f else S.2 j))) H'
    rw [if_neg hjk]
    exact (h.2 j hj hij).kept (ho _ (fun e => hjk (hap.1 j k hj hk hij hi e)))
theorem rd_spec {S : rS} {k : Nat} {i x : Int32} (h : rd S k i = some x) : vp_in i (rLen k) ∧ x = S.2 k i.toNatClampNeg := by
  unfold rd at h
  split at h
  · cases h
  · rename_i hn
    exact ⟨hn, (Option.some.inj h).symm⟩
theorem rwr_spec {S S' : rS} {k : Nat} {i v : Int32} (h : rwr S k i v = some S') : vp_in i (rLen k) ∧ S' = (S.1, rup S.2 k (upd (S.2 k) i.toNatClampNeg v)) := by
  unfold rwr at h
  split at h
  · cases h
  · rename_i hn
    exact ⟨hn, (Option.some.inj h).symm⟩
theorem rwz_spec {S S' : rS} {k : Nat} {i v : Int32} (h : rwz S k i v = some S') : vp_in i (rLen k) ∧ S' = (S.1, rup S.2 k (upd (S.2 k) i.toNatClampNeg (vp_nar .boolean v))) := by
  unfold rwz at h
  split at h
  · cases h
  · rename_i hn
    exact ⟨hn, (Option.some.inj h).symm⟩
theorem ra_iald (C : rC G X nL cc ret d) {k : Nat} {i x : Int32} (hdg : decode cc pc = .ok (.iaload, 1)) (hx : rd S k i = some x) (hk : k < 55) (hi : rInt k = false) (hz : rZ k = false) (kk : rAW G X nL r (pc + 1) lo (.int x :: st) S) : rAW G X nL r pc lo (.int i :: .ref (G.2.2.2.2 k) :: st) S := by
  intro H locs ls h1 h2 h3
  obtain ⟨hin, rfl⟩ := rd_spec hx
  have h0 := h1.2 k hk hi
  rw [show rTy G k = G.2.1 by simp [rTy, hz]] at h0
  exact va_iald (D := G.1) (cl := vwCl) (tys := rTys G) C.1 C.2.1 (rC_K C) (rP1 h0) 0 0 rfl rfl hin hdg (kk H locs ls h1 h2 h3)
theorem ra_bald (C : rC G X nL cc ret d) {k : Nat} {i x : Int32} (hdg : decode cc pc = .ok (.baload, 1)) (hx : rd S k i = some x) (hk : k < 55) (hi : rInt k = false) (hz : rZ k = true) (kk : rAW G X nL r (pc + 1) lo (.int x :: st) S) : rAW G X nL r pc lo (.int i :: .ref (G.2.2.2.2 k) :: st) S := by
  intro H locs ls h1 h2 h3
  obtain ⟨hin, rfl⟩ := rd_spec hx
  have h0 := h1.2 k hk hi
  rw [show rTy G k = G.2.2.1 by simp [rTy, hz]] at h0
  exact va_zald (D := G.1) (cl := vwCl) (tys := rTys G) C.1 C.2.1 (rC_K C) (rP1 h0) 0 1 rfl rfl hin hdg (kk H locs ls h1 h2 h3)
theorem ra_iast (C : rC G X nL cc ret d) {k : Nat} {i v : Int32} {S' : rS} (hdg : decode cc pc = .ok (.iastore, 1)) (hx : rwr S k i v = some S') (hk : k < 55) (hi : rInt k = false) (hz : rZ k = false) (kk : rAW G X nL r (pc + 1) lo st S') : rAW G X nL r pc lo (.int v :: .int i :: .ref (G.2.2.2.2 k) :: st) S := by
  intro H locs ls h1 h2 h3
  obtain ⟨hin, rfl⟩ := rwr_spec hx
  have h0 := h1.2 k hk hi
  have h0' : va_at G.1 vwCl (G.2.2.2.2 k, .inl (G.2.1, rLen k, .inl (S.2 k))) H := by
    rw [show rTy G k = G.2.1 by simp [rTy, hz]] at h0
    exact h0
  have hK := rC_K C
  refine W.iast C.1 C.2.1 h0' ((hK.2 0 _ rfl).1 (rLen k) (fun j => .int (S.2 k j))) (fun q => by cases q) (by show ¬ (i < 0 ∨ (arrV _ _ _).slots.size ≤ _); rw [arrV_size]; exact hin) rfl rfl hdg fun H1 e z oq => ?_
  refine kk H1 _ ls (rH_setA h1 (rC_ap C) hk hi ?_ oq) (h2.put z oq (rA_a G hk hi)) h3
  rw [show rTy G k = G.2.1 by simp [rTy, hz]]
  show H1[G.2.2.2.2 k]? = some (vp_cell _ _)
  rw [e]
  rw [vp_cell_i, vp_cell_i, arrV_store]
  congr 2
  funext q
  by_cases hq : q = i.toNatClampNeg
  · subst hq
    simp [updV, upd]
  · simp [updV, upd, hq]
theorem ra_bast (C : rC G X nL cc ret d) {k : Nat} {i v : Int32} {S' : rS} (hdg : decode cc pc = .ok (.bastore, 1)) (hx : rwz S k i v = some S') (hk : k < 55) (hi : rInt k = false) (hz : rZ k = true) (kk : rAW G X nL r (pc + 1) lo st S') : rAW G X nL r pc lo (.int v :: .int i :: .ref (G.2.2.2.2 k) :: st) S := by
  intro H locs ls h1 h2 h3
  obtain ⟨hin, rfl⟩ := rwz_spec hx
  have h0 := h1.2 k hk hi
  have h0' : va_at G.1 vwCl (G.2.2.2.2 k, .inl (G.2.2.1, rLen k, .inl (S.2 k))) H := by
    rw [show rTy G k = G.2.2.1 by simp [rTy, hz]] at h0
    exact h0
  have hK := rC_K C
  refine W.zast C.1 C.2.1 h0' ((hK.2 1 _ rfl).1 (rLen k) (fun j => .int (S.2 k j))) (fun q => by cases q) (by show ¬ (i < 0 ∨ (arrV _ _ _).slots.size ≤ _); rw [arrV_size]; exact hin) rfl rfl hdg fun H1 e z oq => ?_
  refine kk H1 _ ls (rH_setA h1 (rC_ap C) hk hi ?_ oq) (h2.put z oq (rA_a G hk hi)) h3
  rw [show rTy G k = G.2.2.1 by simp [rTy, hz]]
  show H1[G.2.2.2.2 k]? = some (vp_cell _ _)
  rw [e]
  rw [vp_cell_i, vp_cell_i, arrV_store]
  congr 2
  funext q
  by_cases hq : q = i.toNatClampNeg
  · subst hq
    simp [updV, upd, vp_nar]
    try rfl
  · simp [updV, upd, hq]
theorem ra_putI (C : rC G X nL cc ret d) {k idx : Nat} {v : Int32} (hdg : decode cc pc = .ok (.putfield idx, 3)) (hk : k < 55) (hi : rInt k = true) (hin : ∀ w ∈ u_ws RX7 TX7 55, w ∈ rgT) (hl : Cond.fieldLink RX7 idx "ModuleLoftModel" (TX7 k).2.1 (TX7 k).2.2.1 ∈ rgT) (hr : (TX7 k).1 = "ModuleLoftModel") (hfin : (TX7 k).2.2.2 = false) (hd : parseFieldDescriptor (TX7 k).2.2.1 = some .int) (kk : rAW G X nL r (pc + 3) lo st (rpf S k v)) : rAW G X nL r pc lo (.int v :: .ref G.2.2.2.1 :: st) S := by
  intro H locs ls h1 h2 h3
  have hts := rC_hts C
  have hK := rC_K C
  have hap := va_apart (own := RX7) hts hin tyX7 tyX7_ok nmX7 hK (show vwCl[7]? = some (RX7, TX7, 55) from rfl)
  obtain ⟨rr, q0, cell, q1, q2, q3, q4⟩ := h1.1
  have hr' : rr = (RX7, TX7, 55) := (Option.some.inj q0).symm
  subst hr'
  obtain ⟨hS, hfc, kC, hkC, hkind⟩ := hK.1 7 _ (show vwCl[7]? = some (RX7, TX7, 55) from rfl)
  obtain ⟨cf, kf, fi, f, hi2, hsl⟩ := hS k hk
  have hlay := hts _ (hin _ (u_in_lay hk))
  unfold u_lay at hlay
  rw [if_neg (by rw [hfin]; decide)] at hlay
  have hst := (u_facts hfc hkC (u_lays hts hin hk) hi2).1
  have h6 := u_store hfc hkC hkind hlay hi2 hd (v := .int v) rfl rfl
  refine W.putK C.1 C.2.1 (f := f) ⟨rC_own C, hts _ hl, ⟨_, _, _, by rw [← hr]; exact hi2⟩, hst⟩ (by rw [q2]; exact h6) q1 q3 (by rw [hsl]; exact k2_hasslot (q4 k hk)) rfl rfl hdg fun H' e1 e2 e3 => ?_
  rw [hsl] at e1 ⊢
  refine kk H' _ ls (rH_setF h1 (rC_ap C) hk hi ⟨_, rfl, t_OB.to (V := updV (vp_V (rObj G S.1)) k (.int v)) ⟨_, e1, q2, q3, t_set q4 hap hk (.int v)⟩ (fun j _ => vp_updV_set (by rw [rObj_len]; exact hk) (.int v) j)⟩ e3) (h2.put e2 e3 (rA_o G)) h3
/-! the ends -/
theorem rQc_end {s : State} {H : Heap} {locs : List Loc} {v : Option Value} (a : Array Value) (h1 : rH G S H) (h2 : va_S (rA G) s.heap H locs) : ∀ t : State, t.heap = H → s.WarmedH t.vm → rQc G (v, S) a s (.returned v) t := fun t ht _ => ⟨rfl, by rw [ht]; exact h1, h2.F ht⟩
theorem ra_iret (C : rC G X nL cc (some .int) d) {v : Int32} (hdg : decode cc pc = .ok (.ireturn, 1)) : rAW G X nL (some (.int v), S) pc lo [.int v] S := fun H locs ls h1 h2 h3 =>
  W.iret C.1 C.2.1 C.2.2.2.2.2.2.2.2.1 (rQc_end _ h1 h2) h2.2.2 hdg C.2.2.2.2.2.2.2.1
theorem ra_zret (C : rC G X nL cc (some .boolean) d) {v : Int32} (hn : narrow .boolean (.int v) = .int v) (hdg : decode cc pc = .ok (.ireturn, 1)) : rAW G X nL (some (.int v), S) pc lo [.int v] S := fun H locs ls h1 h2 h3 =>
  W.zret C.1 C.2.1 C.2.2.2.2.2.2.2.2.1 hn (rQc_end _ h1 h2) h2.2.2 hdg C.2.2.2.2.2.2.2.1
theorem ra_vret (C : rC G X nL cc none d) (hdg : decode cc pc = .ok (.return_, 1)) : rAW G X nL (none, S) pc lo [] S := fun H locs ls h1 h2 h3 =>
  W.vret C.1 C.2.1 C.2.2.2.2.2.2.2.2.1 (rQc_end _ h1 h2) h2.2.2 hdg C.2.2.2.2.2.2.2.1
theorem rbo_spec {v : Int32} {S : rS} {r : Int32 × rS} (h : rbo v S = some r) : r = (v, S) ∧ narrow .boolean (.int v) = .int v := by
  unfold rbo at h
  split at h
  · rename_i hn
    exact ⟨(Option.some.inj h).symm, hn⟩
  · cases h
/-! a method from its entry -/
theorem rM_of {l : Launch} {y : MethodName} {av : List Value} {lo0 : List (Option Value)} (hy : plainName y.cls = true) (hcls : y.cls = RX7) (hsz : (lg_sl av).length ≤ nL) (hcat : ∀ v ∈ av, v.category = 1) (hlo : av.map some ++ List.replicate (nL - av.length) none = lo0) (h : ∀ X : rX, X.2.1 = l → rC G X nL cc ret d → rAW G X nL r 0 lo0 [] S) : rM l G d y cc nL ret av S r := by
  refine Met.ofW (cc := cc) (maxL := nL) (ret := ret) hy rfl ?_
  intro p e s m args below meth c s₁ B hml hv
  obtain ⟨rfl, hH, hK, hap⟩ := hv
  have hts := atoms_spec (ws := .code y cc nL ret :: rgT) B.pre
  have hown : s.vm.findClass RX7 = some m.cls := by rw [← hcls]; exact findClass_of_methodNamed B.named
  rw [lg_entry_eq]
  have hl := rLo_entry av hcat hsz
  rw [hlo] at hl
  exact h (p, l, e, rRm d, s, m, av.toArray, below, meth, c) rfl ⟨B.exec, B.bytes, hml, hown, fun w hw => hts w (List.mem_cons_of_mem _ hw), hK, hap, B.notSynchronized, B.returns, rfl⟩ s.heap [] _ hH va_S.rf hl
/-! calls -/
theorem ra_after {ls0 : Array Slot} {y : MethodName} {av : List Value} {v : Option Value} {S' : rS} {rest : List Value} {g : JFrame} {stk : List Value} (hg : g = F0 X.2.2.2.2.2.1 pc ls0 stk) (H : Heap) (locs : List Loc) (h2 : va_S (rA G) X.2.2.2.2.1.heap H locs) (h3 : rLo ls0 nL lo) (kk : rAW G X nL r (pc + 3) lo (v.toList ++ rest) S')
    (hrun : va_Run X.1 X.2.1 X.2.2.1 X.2.2.2.1 X.2.2.2.2.1 X.2.2.2.2.2.1 X.2.2.2.2.2.2.1 X.2.2.2.2.2.2.2.1 X.2.2.2.2.2.2.2.2.1 X.2.2.2.2.2.2.2.2.2 H locs 0 0 0 0 g rest (rQc G (v, S') av.toArray) (rA G)) :
    W X.1 X.2.1 X.2.2.1 X.2.2.2.1 X.2.2.2.2.1 X.2.2.2.2.2.1 X.2.2.2.2.2.2.1 X.2.2.2.2.2.2.2.1 X.2.2.2.2.2.2.2.2.1 X.2.2.2.2.2.2.2.2.2 H locs 0 0 (MQ X.2.2.2.2.2.2.2.1 (rQc G r) X.2.2.2.2.2.2.1 X.2.2.2.2.1 0 0 (rA G)) g := by
  subst hg
  intro T hT Y
  obtain ⟨w, st₀, t, T', L, e0, Y', hL, e1, e2, ⟨hw, hH', hF⟩, go⟩ := hrun T hT Y
  cases hw
  obtain ⟨k1, k2, k3⟩ := vx_keep e0 e1 h2 (fun q _ h => h) (fun q h => h) hL hF
  rw [← e1] at hH'
  obtain ⟨t2, a1, b1⟩ := kk T'.heap (locs ++ L) ls0 hH' k3 h3 T' rfl Y'
  exact ⟨t2, go t2 a1, b1⟩
theorem rPc_blind {av : List Value} : FrameBlind (va_Pc av (fun U => rH G S U.heap ∧ va_K G.1 vwCl (rTys G) U ∧ rAp G)) := fun a U g mk h => ⟨h.1, h.2.1, va_K.moved (u := U) (U := U.calling g mk a) (Vm.Alike.refl U.vm) h.2.2.1, h.2.2.2⟩
theorem ra_callV (C : rC G X nL cc ret d) {index nL' d' : Nat} {y : MethodName} {cc' : ByteArray} {ret' : Option FieldType} {As : List Value} {v : Option Value} {S' : rS} {stk : List Value} (hdg : decode cc pc = .ok (.invokevirtual index, 3)) (hM : rM X.2.1 G d' y cc' nL' ret' (.ref G.2.2.2.1 :: As) S (v, S')) (hs : As.reverse ++ .ref G.2.2.2.1 :: st = stk)
    (w1 : Cond.methodLink RX7 index y ∈ rgT) (w2 : Cond.instanceMethod y ∈ rgT) (w3 : Cond.selects RX7 y y ∈ rgT) (w4 : Cond.initialized y.cls ∈ rgT) (w5 : Cond.code y cc' nL' ret' ∈ rgT)
    (hd : y.cls ≠ "java/lang/invoke/MethodHandle" ∧ y.cls ≠ "java/lang/invoke/VarHandle" ∧ (parseMethodDescriptor y.desc).map (fun q => q.parameters.length) = some As.length) (hdd : d' + 1 ≤ d) (hnl : nL' ≤ 41) (hst : (st.map fun q => q.category).sum ≤ 8) (kk : rAW G X nL r (pc + 3) lo (v.toList ++ st) S') : rAW G X nL r pc lo stk S := by
  intro H locs ls h1 h2 h3
  have hts := rC_hts C
  have hK := rC_K C
  have hR : X.2.2.2.1 = rRm d := C.2.2.2.2.2.2.2.2.2
  subst hs
  refine ra_after (y := y) (av := .ref G.2.2.2.1 :: As) rfl H locs h2 h3 kk ?_
  refine va_runV (n := As.length) (As := As) (C := RX7) (ws := .code y cc' nL' ret' :: rgT) (rm := rRm d') (Ts := rgT) (own := RX7) ⟨C.1, C.2.1, C.2.2.1, rC_own C, hts⟩ hM ⟨⟨rfl, rfl, ?_, ?_, pay_in hts (rgT_cons w5), List.mem_cons_self, hts _ w5, hts _ w4, ⟨hd.1, hd.2.1⟩, fun sig h => ?_, hts _ w1⟩, hts _ w2, hts _ w3⟩ ⟨rPc_blind, ?_, fun U hU hW => ⟨rfl, by rw [hU]; exact h1, va_K.moved hW.alike hK, rC_ap C⟩⟩ rfl rfl h3.1 rfl ?_ hdg ?_
  · rw [hR]; exact hdd
  · rw [hR]; show 8 + (nL' + 11) + 60 * d' ≤ 60 * d; omega
  · have h2' := hd.2.2
    rw [h] at h2'
    exact (Option.some.inj h2').symm
  · exact va_recv (D := G.1) (cl := vwCl) (ws := [(G.2.2.2.1, .inr (7, rObj G S.1))]) (q0 := 0) (ci := 7) hK (rP1 h1.1) (show vwCl[7]? = some (RX7, TX7, 55) from rfl) rfl
  · exact lv_room hst
  · exact ⟨by omega, by omega⟩
theorem ra_callS (C : rC G X nL cc ret d) {index nL' d' : Nat} {y : MethodName} {cc' : ByteArray} {ret' : Option FieldType} {As : List Value} {v : Option Value} {S' : rS} {stk : List Value} (hdg : decode cc pc = .ok (.invokestatic index, 3)) (hM : rM X.2.1 G d' y cc' nL' ret' As S (v, S')) (hs : As.reverse ++ st = stk)
    (w1 : Cond.methodLink RX7 index y ∈ rgT) (w2 : Cond.static y ∈ rgT) (w4 : Cond.initialized y.cls ∈ rgT) (w5 : Cond.code y cc' nL' ret' ∈ rgT)
    (hd : y.cls ≠ "java/lang/invoke/MethodHandle" ∧ y.cls ≠ "java/lang/invoke/VarHandle" ∧ (parseMethodDescriptor y.desc).map (fun q => q.parameters.length) = some As.length) (hdd : d' + 1 ≤ d) (hnl : nL' ≤ 41) (hst : (st.map fun q => q.category).sum ≤ 8) (kk : rAW G X nL r (pc + 3) lo (v.toList ++ st) S') : rAW G X nL r pc lo stk S := by
  intro H locs ls h1 h2 h3
  have hts := rC_hts C
  have hK := rC_K C
  have hR : X.2.2.2.1 = rRm d := C.2.2.2.2.2.2.2.2.2
  subst hs
  refine ra_after (y := y) (av := As) rfl H locs h2 h3 kk ?_
  refine va_runS (n := As.length) (As := As) (ws := .code y cc' nL' ret' :: rgT) (rm := rRm d') (Ts := rgT) (own := RX7) ⟨C.1, C.2.1, C.2.2.1, rC_own C, hts⟩ hM ⟨⟨rfl, rfl, ?_, ?_, pay_in hts (rgT_cons w5), List.mem_cons_self, hts _ w5, hts _ w4, ⟨hd.1, hd.2.1⟩, fun sig h => ?_, hts _ w1⟩, hts _ w2⟩ ⟨rPc_blind, fun U hU hW => ⟨rfl, by rw [hU]; exact h1, va_K.moved hW.alike hK, rC_ap C⟩⟩ rfl rfl h3.1 rfl ?_ hdg ?_
  · rw [hR]; exact hdd
  · rw [hR]; show 8 + (nL' + 11) + 60 * d' ≤ 60 * d; omega
  · have h2' := hd.2.2
    rw [h] at h2'
    exact (Option.some.inj h2').symm
  · exact lv_room hst
  · exact ⟨by omega, by omega⟩
end RHeap
