section CAlloc
variable {t : Bool} {G : cG} {X : rX} {z0 z : cS} {own : String} {nL d a b : Nat} {cc : ByteArray} {ret : Option FieldType} {r : cR} {pc : Nat} {lo : List (Option Value)} {st : List Value} {kc ks : Nat}
theorem ca_iast (C : cC G X z0 own nL cc ret d a b) {q : Nat} {i v : Int32} {y : Option Nat} {z' : cS} (hdg : decode cc pc = .ok (.iastore, 1)) (hy : y = some q) (hx : cstI z q i v = some z') (kk : cAW t G X z0 r nL (pc + 1) lo st z' kc ks) : cAW t G X z0 r nL pc lo (.int v :: .int i :: va_rf y :: st) z kc ks := by
  subst hy
  intro H locs ls h1 hd h2 h3
  obtain ⟨n, hq, hin, rfl⟩ := cstI_spec hx
  have h0 := cH_int h1 hq
  have hK := cC_K C
  refine W.iast C.1 C.2.1 h0 ((hK.2 0 _ rfl).1 n (fun j => .int (z.2.1 q j))) (fun q => by cases q) (by show ¬ (i < 0 ∨ (arrV _ _ _).slots.size ≤ _); rw [arrV_size]; exact hin) rfl rfl hdg fun H1 e zz oq => ?_
  refine kk H1 _ ls (cH_chg (z' := (z.1, cup z.2.1 q i.toNatClampNeg v, z.2.2.1, z.2.2.2)) h1 hq rfl rfl zz oq (fun p hp => cup_ne hp) (fun p hp => rfl) ?_) (fun p hp => hd p hp) (h2.put zz oq (cA_in hd hq)) h3
  show va_at G.1 vwCl (q, .inl (G.2 8, n, .inl (cup z.2.1 q i.toNatClampNeg v q))) H1
  rw [cup_eq]
  show H1[q]? = some (vp_cell _ _)
  rw [e]
  rw [vp_cell_i, vp_cell_i, arrV_store]
  congr 2
  funext j
  by_cases hj : j = i.toNatClampNeg
  · subst hj
    simp [updV, upd]
  · simp [updV, upd, hj]
theorem ca_aast (C : cC G X z0 own nL cc ret d a b) {q k : Nat} {i : Int32} {v y : Option Nat} {z' : cS} (hdg : decode cc pc = .ok (.aastore, 1)) (hy : y = some q) (hx : cstR z q k i v = some z') (hk : cKok k) (kk : cAW t G X z0 r nL (pc + 1) lo st z' kc ks) : cAW t G X z0 r nL pc lo (va_rf v :: .int i :: va_rf y :: st) z kc ks := by
  subst hy
  intro H locs ls h1 hd h2 h3
  obtain ⟨w, m, n, rfl, hw, hq, hin, rfl⟩ := cstR_spec hx
  obtain ⟨Cn, T, N, f1, g2, g3, g4⟩ := cTi_ok G hk
  have hK := cC_K C
  have h0 := cH_ref h1 hq g3
  have hlt : i.toNatClampNeg < n := Nat.not_le.mp fun q => hin (Or.inr q)
  have h00 : ¬ i < 0 := fun q => hin (Or.inl q)
  obtain ⟨r', hr', cellV, e1, e2, e3, -⟩ := cH_obj h1 hw g4
  have hr2 : r' = (Cn, T, N) := Option.some.inj (hr'.symm.trans f1)
  subst hr2
  have hcls := (hK.1 (cEl k) _ f1).2
  obtain ⟨kA, comp, k1, k2, k3, -⟩ := (hK.2 (cTi k) _ g2).2
  have hcomp : comp = G.1.1 (cEl k) := Option.some.inj (k3.symm.trans hcls.1)
  subst hcomp
  obtain ⟨kC, hkC, -⟩ := hcls.2
  refine W.aast C.1 C.2.1 h0 (fun q h => by cases h) (fun h => by cases h) k1 k2 rfl hkC ⟨h00, by show _ < (arrV _ _ _).slots.size; rw [arrV_size]; exact hlt⟩ e1 (fun q h => by rw [e3] at h; cases h) (by rw [e2]; exact hkC) (by rw [e2]; exact va_assign hcls) rfl rfl hdg fun H1 e zz oq => ?_
  refine kk H1 _ ls (cH_chg (z' := (z.1, z.2.1, cuR z.2.2.1 q i.toNatClampNeg (some w), z.2.2.2)) h1 hq rfl rfl zz oq (fun p hp => rfl) (fun p hp => cuR_ne hp) ?_) (fun p hp => hd p hp) (h2.put zz oq (cA_in hd hq)) h3
  rw [cCell_ref G _ _ _ g3]
  show va_at G.1 vwCl (q, .inl (G.2 k, n, .inr (.inr (.inr (.inr (cuR z.2.2.1 q i.toNatClampNeg (some w) q)))))) H1
  rw [cuR_eq]
  show H1[q]? = some (vp_cell _ _)
  rw [e]
  rw [vp_cell_q, vp_cell_q, arrV_store]
  congr 2
  funext j
  by_cases hj : j = i.toNatClampNeg
  · subst hj
    simp [updV, va_up, va_rf]
  · simp [updV, va_up, hj]
theorem cA_new (C : cC G X z0 own nL cc ret d a b) : ∀ q, X.2.2.2.2.1.heap.size ≤ q → cA z0 q := fun q h => Or.inr (by rw [← cC_sz C]; exact h)
/-- a new object: its class's kind, one cell, as many slots as fields -/
theorem ca_new (C : cC G X z0 own nL cc ret d a b) {idx ci : Nat} {Cn : String} {T : u_T} {N : Nat} (hdg : decode cc pc = .ok (.new idx, 3)) (hc : vwCl[ci]? = some (Cn, T, N)) (hci : ci < 8) (ty : Nat → FieldType) (hty : ∀ k, k < N → parseFieldDescriptor (T k).2.2.1 = some (ty k)) (hin : ∀ w ∈ u_ws Cn T N, w ∈ rgT) (w1 : Cond.classLink own idx Cn ∈ rgT) (w2 : Cond.instantiable Cn N ∈ rgT) (w3 : Cond.initialized Cn ∈ rgT)
    (hfs : ∀ j, j < N → defaultValue (ty j) = vp_V (cObj ci (fun _ => 0) (fun _ => none)) j) (hk : kc + 1 ≤ a) (hs : ks + N ≤ b) (kk : cAW t G X z0 r nL (pc + 3) lo (va_rf (some z.2.2.2) :: st) (cnw z ci 0) (kc + 1) (ks + N)) : cAW t G X z0 r nL pc lo st z kc ks := by
  intro H locs ls h1 hd h2 h3
  have hts := cC_hts C
  have hR : X.2.2.2.1 = cRm d a b := cC_R C
  have hKn := (cC_K C).1 ci _ hc
  refine W.newcK C.1 C.2.1 (cC_own C) (hts _ w1) (hts _ w2) (hts _ w3) rfl hdg (by rw [hR]; exact hk) (by rw [hR]; exact hs) hKn.2.1 rfl fun H1 kC hkC e1 z1 o1 => ?_
  have hle := cC_le C h1 h2
  have k' := kk H1 locs ls (cH_new (ci := ci) (n := 0) h1 z1 o1 ?_) (cDom_new hd hle ci 0) ⟨Nat.le_trans h2.1 (by omega), fun x q1 q2 => (o1 x (Nat.lt_of_lt_of_le q1 h2.1)).trans (h2.2.1 x q1 q2), h2.2.2⟩ h3
  · rw [← h1.1] at k'
    exact k'
  · unfold cCell
    rw [if_pos hci]
    exact ⟨_, hc, (u_born ty hts hin hKn hkC e1 hty).to hfs⟩
theorem cna_spec {z z' : cS} {k : Nat} {n : Int32} (h : cna z k n = some z') : ¬ n < 0 ∧ n.toNatClampNeg ≤ 100000 ∧ z' = cnw z k n.toNatClampNeg := by
  unfold cna at h
  split at h
  · cases h
  · rename_i hn
    exact ⟨fun q => hn (Or.inl q), by omega, (Option.some.inj h).symm⟩
theorem ca_newaI (C : cC G X z0 own nL cc ret d a b) {n : Int32} {z' : cS} (hdg : decode cc pc = .ok (.newarray .int, 2)) (w1 : Cond.arrayClass .int ∈ rgT) (hx : cna z 8 n = some z') {N9 : Nat} (hN : n.toNatClampNeg = N9) (hk : kc + 1 ≤ a) (hs : ks + N9 ≤ b) (kk : cAW t G X z0 r nL (pc + 2) lo (va_rf (some z.2.2.2) :: st) z' (kc + 1) (ks + N9)) : cAW t G X z0 r nL pc lo (.int n :: st) z kc ks := by
  subst hN
  intro H locs ls h1 hd h2 h3
  obtain ⟨hn, hle0, rfl⟩ := cna_spec hx
  have hR : X.2.2.2.1 = cRm d a b := cC_R C
  refine va_newaK (atype := .int) (N := n.toNatClampNeg) C.1 C.2.1 (cC_hts C _ w1) rfl hdg rfl hn rfl (by show n.toNatClampNeg * 4 ≤ 536870912; omega) (by rw [hR]; exact hk) (by rw [hR]; exact hs) rfl fun H1 cA' e1 z1 o1 hAr hNm => ?_
  have hle := cC_le C h1 h2
  have hcA : cA' = G.2 8 := by
    have h9 := ((cC_K C).2 0 _ rfl).2
    exact Option.some.inj (hNm.symm.trans h9)
  have k' := kk H1 locs ls (cH_new (ci := 8) (n := n.toNatClampNeg) h1 z1 o1 ?_) (cDom_new hd hle 8 _) ⟨Nat.le_trans h2.1 (by omega), fun x q1 q2 => (o1 x (Nat.lt_of_lt_of_le q1 h2.1)).trans (h2.2.1 x q1 q2), h2.2.2⟩ h3
  · rw [← h1.1] at k'
    exact k'
  · show H1[H.size]? = some (vp_cell _ _)
    rw [e1, hcA, vp_cell_i]
    rfl
theorem ca_newaZ (C : cC G X z0 own nL cc ret d a b) {n : Int32} {z' : cS} (hdg : decode cc pc = .ok (.newarray .boolean, 2)) (w1 : Cond.arrayClass .boolean ∈ rgT) (hx : cna z 9 n = some z') {N9 : Nat} (hN : n.toNatClampNeg = N9) (hk : kc + 1 ≤ a) (hs : ks + N9 ≤ b) (kk : cAW t G X z0 r nL (pc + 2) lo (va_rf (some z.2.2.2) :: st) z' (kc + 1) (ks + N9)) : cAW t G X z0 r nL pc lo (.int n :: st) z kc ks := by
  subst hN
  intro H locs ls h1 hd h2 h3
  obtain ⟨hn, hle0, rfl⟩ := cna_spec hx
  have hR : X.2.2.2.1 = cRm d a b := cC_R C
  refine va_newaK (atype := .boolean) (N := n.toNatClampNeg) C.1 C.2.1 (cC_hts C _ w1) rfl hdg rfl hn rfl (by show n.toNatClampNeg * 1 ≤ 536870912; omega) (by rw [hR]; exact hk) (by rw [hR]; exact hs) rfl fun H1 cA' e1 z1 o1 hAr hNm => ?_
  have hle := cC_le C h1 h2
  have hcA : cA' = G.2 9 := by
    have h9 := ((cC_K C).2 5 _ rfl).2
    exact Option.some.inj (hNm.symm.trans h9)
  have k' := kk H1 locs ls (cH_new (ci := 9) (n := n.toNatClampNeg) h1 z1 o1 ?_) (cDom_new hd hle 9 _) ⟨Nat.le_trans h2.1 (by omega), fun x q1 q2 => (o1 x (Nat.lt_of_lt_of_le q1 h2.1)).trans (h2.2.1 x q1 q2), h2.2.2⟩ h3
  · rw [← h1.1] at k'
    exact k'
  · show H1[H.size]? = some (vp_cell _ _)
    rw [e1, hcA, vp_cell_i]
    rfl
theorem ca_newaR (C : cC G X z0 own nL cc ret d a b) {n : Int32} {k idx : Nat} {Cn : String} {T : u_T} {N : Nat} {z' : cS} (hdg : decode cc pc = .ok (.anewarray idx, 3)) (hkk : cKok k) (hc : vwCl[cEl k]? = some (Cn, T, N)) (w1 : Cond.classLink own idx Cn ∈ rgT) (w2 : Cond.arrayOver (.object Cn) ∈ cNl) (hx : cna z k n = some z') {N9 : Nat} (hN : n.toNatClampNeg = N9) (hk : kc + 1 ≤ a) (hs : ks + N9 ≤ b) (kk : cAW t G X z0 r nL (pc + 3) lo (va_rf (some z.2.2.2) :: st) z' (kc + 1) (ks + N9)) : cAW t G X z0 r nL pc lo (.int n :: st) z kc ks := by
  subst hN
  intro H locs ls h1 hd h2 h3
  obtain ⟨hn, hle0, rfl⟩ := cna_spec hx
  have hR : X.2.2.2.1 = cRm d a b := cC_R C
  have hts := cC_hts C
  obtain ⟨Cn', T', N', f1, g2, g3, g4⟩ := cTi_ok G hkk
  have hcn : Cn' = Cn := by rw [hc] at f1; cases f1; rfl
  subst hcn
  refine W.anew C.1 C.2.1 (cC_own C) (hts _ w1) (va_AO.use (cC_Nw C _ w2)) rfl hdg rfl hn (by omega) (by rw [hR]; exact hk) (by rw [hR]; exact hs) fun cA' kA comp f1 f2 f3 f4 => ?_
  generalize hH1 : H.push ({ cls := cA', slots := Array.replicate n.toNatClampNeg .null, vm := .none } : Cell) = H1
  have z1 : H1.size = H.size + 1 := by rw [← hH1, Array.size_push]
  have e1 : H1[H.size]? = some (arrV cA' n.toNatClampNeg (fun _ => .null)) := by rw [← hH1, Array.getElem?_push_size, ← arrV_new]
  have o1 : ∀ q : Nat, q < H.size → H1[q]? = H[q]? := fun q hq => by rw [← hH1, Array.getElem?_push, if_neg (Nat.ne_of_lt hq)]
  have hle := cC_le C h1 h2
  have hcA : cA' = G.2 k := by
    obtain ⟨kA', comp', -, -, -, h9⟩ := ((cC_K C).2 (cTi k) _ g2).2
    exact Option.some.inj (f1.symm.trans h9)
  have k' := kk H1 locs ls (cH_new (ci := k) (n := n.toNatClampNeg) h1 z1 o1 ?_) (cDom_new hd hle k _) ⟨Nat.le_trans h2.1 (by omega), fun x q1 q2 => (o1 x (Nat.lt_of_lt_of_le q1 h2.1)).trans (h2.2.1 x q1 q2), h2.2.2⟩ h3
  · rw [← h1.1] at k'
    exact k'
  · rw [cCell_ref G _ _ _ g3]
    show H1[H.size]? = some (vp_cell _ _)
    rw [e1, hcA, vp_cell_q]
    rfl
theorem ca_objInit (C : cC G X z0 own nL cc ret d a b) {idx : Nat} {y : Option Nat} {q : Nat} (hdg : decode cc pc = .ok (.invokespecial idx, 3)) (hy : y = some q) (w1 : Cond.methodLink own idx objectInit ∈ rgT) (w2 : Cond.instanceMethod objectInit ∈ rgT) (w3 : Cond.code objectInit ⟨#[0xb1]⟩ 1 none ∈ rgT) (hd1 : 1 ≤ d) (hst : (st.map fun q => q.category).sum ≤ 8) (kk : cAW t G X z0 r nL (pc + 3) lo st z kc ks) : cAW t G X z0 r nL pc lo (va_rf y :: st) z kc ks := by
  subst hy
  intro H locs ls h1 hd h2 h3
  have hts := cC_hts C
  have hR : X.2.2.2.1 = cRm d a b := cC_R C
  exact W.objInit C.1 C.2.1 (cC_own C) (hts _ w1) (hts _ w2) (hts _ w3) rfl (by rw [cC_ml C]; exact h3.1) rfl hdg (by rw [hR]; exact hd1) (by rw [hR]; show 2 * 0 + (st.map fun v => v.category).sum + 12 ≤ 60 * d; omega) (kk H locs ls h1 hd h2 h3)
/-! ends -/
theorem cQ_of {k n : Nat} {g : JFrame} {H : Heap} {locs : List Loc} (hk : k ≤ r.2.2.1) (hn : n ≤ r.2.2.2) (w : W X.1 X.2.1 X.2.2.1 X.2.2.2.1 X.2.2.2.2.1 X.2.2.2.2.2.1 X.2.2.2.2.2.2.1 X.2.2.2.2.2.2.2.1 X.2.2.2.2.2.2.2.2.1 X.2.2.2.2.2.2.2.2.2 H locs r.2.2.1 r.2.2.2 (MQ X.2.2.2.2.2.2.2.1 (cQc G z0 r) X.2.2.2.2.2.2.1 X.2.2.2.2.1 r.2.2.1 r.2.2.2 (cA z0)) g) :
    W X.1 X.2.1 X.2.2.1 X.2.2.2.1 X.2.2.2.2.1 X.2.2.2.2.2.1 X.2.2.2.2.2.2.1 X.2.2.2.2.2.2.2.1 X.2.2.2.2.2.2.2.2.1 X.2.2.2.2.2.2.2.2.2 H locs k n (cQ t G z0 r X.2.2.2.2.2.2.2.1 X.2.2.2.2.2.2.1 X.2.2.2.2.1) g := by
  unfold cQ
  cases t with
  | false => exact W.widen hk hn w
  | true => exact W.widen hk hn (vx_ret w)
theorem cQc_end (C : cC G X z0 own nL cc ret d a b) {H : Heap} {locs : List Loc} {v : Option Value} {k n : Nat} (av : Array Value) (h1 : cH G z H) (hd : cDom z0 z) (h2 : va_S (cA z0) X.2.2.2.2.1.heap H locs) : ∀ t : State, t.heap = H → X.2.2.2.2.1.WarmedH t.vm → cQc G z0 (.inl v, z, k, n) av X.2.2.2.2.1 (.returned v) t := fun t ht _ => ⟨v, rfl, rfl, by rw [ht]; exact h1, h2.F ht, hd⟩
theorem ca_iret (C : cC G X z0 own nL cc (some .int) d a b) {v : Int32} (hdg : decode cc pc = .ok (.ireturn, 1)) (hk : kc ≤ a) (hs : ks ≤ b) : cAW t G X z0 (.inl (some (.int v)), z, a, b) nL pc lo [.int v] z kc ks := fun H locs ls h1 hd h2 h3 =>
  cQ_of hk hs (W.iret C.1 C.2.1 (cC_rt C) (cQc_end C _ h1 hd h2) h2.2.2 hdg (cC_lk C))
theorem ca_zret (C : cC G X z0 own nL cc (some .boolean) d a b) {v : Int32} (hn : narrow .boolean (.int v) = .int v) (hdg : decode cc pc = .ok (.ireturn, 1)) (hk : kc ≤ a) (hs : ks ≤ b) : cAW t G X z0 (.inl (some (.int v)), z, a, b) nL pc lo [.int v] z kc ks := fun H locs ls h1 hd h2 h3 =>
  cQ_of hk hs (W.zret C.1 C.2.1 (cC_rt C) hn (cQc_end C _ h1 hd h2) h2.2.2 hdg (cC_lk C))
theorem ca_vret (C : cC G X z0 own nL cc none d a b) (hdg : decode cc pc = .ok (.return_, 1)) (hk : kc ≤ a) (hs : ks ≤ b) : cAW t G X z0 (.inl none, z, a, b) nL pc lo [] z kc ks := fun H locs ls h1 hd h2 h3 =>
  cQ_of hk hs (W.vret C.1 C.2.1 (cC_rt C) (cQc_end C _ h1 hd h2) h2.2.2 hdg (cC_lk C))
theorem ca_aret {Cn : String} (C : cC G X z0 own nL cc (some (.object Cn)) d a b) {v : Option Nat} (hdg : decode cc pc = .ok (.areturn, 1)) (hk : kc ≤ a) (hs : ks ≤ b) : cAW t G X z0 (.inl (some (va_rf v)), z, a, b) nL pc lo [va_rf v] z kc ks := fun H locs ls h1 hd h2 h3 =>
  cQ_of hk hs (W.aret C.1 C.2.1 (cC_rt C) (Or.inl ⟨_, rfl⟩) (va_rf_or v) (cQc_end C _ h1 hd h2) h2.2.2 hdg (cC_lk C))
/-! throws -/
theorem cXC_end (C : cC G X z0 own nL cc ret d a b) {H : Heap} {locs : List Loc} {e k n : Nat} (h1 : cH G z H) (hd : cDom z0 z) (h2 : va_S (cA z0) X.2.2.2.2.1.heap H locs) : ∀ t : State, X.2.2.2.2.1.vm.Alike t.vm → H.size ≤ t.heap.size → (∀ q : Nat, q < H.size → t.heap[q]? = H[q]?) → cXC G z0 (.inr e, z, k, n) (cEx e) X.2.2.2.2.1 t := by
  intro t _ hsz ho
  refine ⟨e, rfl, rfl, ⟨t.heap.size, rfl, fun q ci m hq => ?_⟩, ⟨Nat.le_trans h2.1 hsz, fun q q1 q2 => (ho q (Nat.lt_of_lt_of_le q1 h2.1)).trans (h2.2.1 q q1 q2)⟩, hd⟩
  have := h1.2 q ci m hq
  exact this.kept (ho q this.lt)
def cThr : List String := ["java/lang/RuntimeException", "java/lang/Exception"]
theorem cThr_hat (C : cC G X z0 own nL cc ret d a b) {L : List Cond} (hw : ∀ w ∈ L, w ∈ lw_tbl ∧ (goodWord w = true ∨ cNest w = true)) : ∀ w ∈ L, w.before X.2.2.2.2.2.2.1 X.2.2.2.2.1 = true := by
  intro w h
  obtain ⟨h1, h2 | h2⟩ := hw w h
  · exact cC_hts C _ (List.mem_filter.mpr ⟨h1, h2⟩)
  · have h3 := cC_Nw C w (List.mem_filter.mpr ⟨h1, h2⟩)
    cases w <;> first | exact va_Nw.use rfl h3 | (rename_i ty; cases ty <;> first | exact va_AO.use h3 | (cases h2)) | (cases h2)
theorem ca_throw (C : cC G X z0 RX6 nL cc ret d a b) {ik is ic e : Nat} {tx : String} (d0 : decode cc pc = .ok (.new ik, 3)) (d3 : decode cc (pc + 3) = .ok (.dup, 1)) (d4 : decode cc (pc + 4) = .ok (.ldc is, 2)) (d6 : decode cc (pc + 6) = .ok (.invokespecial ic, 3)) (d9 : decode cc (pc + 9) = .ok (.athrow, 1))
    (hf : Bundle.fit (cEx e) = true) (w1 : Cond.classLink RX6 ik (cEx e) ∈ rgT) (w2 : Cond.initialized (cEx e) ∈ rgT) (w3 : Cond.stringRef RX6 is tx ∈ lw_tbl) (hw : ∀ w ∈ vx_atS RX6 ic (cEx e) cThr, w ∈ lw_tbl ∧ (goodWord w = true ∨ cNest w = true)) (hg : ∀ w ∈ Cond.classLink RX6 ik (cEx e) :: Cond.initialized (cEx e) :: vx_atS RX6 ic (cEx e) cThr, vx_ot w = true)
    (hd6 : 6 ≤ d) (hst : (st.map fun q => q.category).sum ≤ 8) (hk : kc + 1 ≤ a) (hs : ks + 6 ≤ b) : cAW true G X z0 (.inr e, z, a, b) nL pc lo st z kc ks := by
  intro H locs ls h1 hd h2 h3
  have hts := cC_hts C
  have hR : X.2.2.2.1 = cRm d a b := cC_R C
  obtain ⟨sa, hsa⟩ := cC_St C is tx w3
  exact vx_throwS (names := cThr) C.1 C.2.1 (cC_tr C) (cC_own C) hf (by decide +kernel) (hts _ w1) (hts _ w2) hsa (cThr_hat C hw) hg (cC_Z C).1 (cC_Z C).2 h2 (by rw [cC_ml C]; exact h3.1) d0 d3 d4 d6 d9 (fun x hx => (cC_et C x hx).elim) (by rw [hR]; show 2 + 3 < d; omega) (by rw [hR]; show (st.map fun v => v.category).sum + (13 * (2 + 1) + 43) ≤ 60 * d; omega) (by rw [hR]; exact hk) (by rw [hR]; exact hs) (cC_lk C) (cXC_end C h1 hd h2) h2.2.2 hk hs
theorem ca_throwW (C : cC G X z0 RX6 nL cc ret d a b) {ik is ic e : Nat} {tx : String} (d0 : decode cc pc = .ok (.new ik, 3)) (d3 : decode cc (pc + 3) = .ok (.dup, 1)) (d4 : decode cc (pc + 4) = .ok (.ldc_w is, 3)) (d7 : decode cc (pc + 7) = .ok (.invokespecial ic, 3)) (d10 : decode cc (pc + 10) = .ok (.athrow, 1))
    (hf : Bundle.fit (cEx e) = true) (w1 : Cond.classLink RX6 ik (cEx e) ∈ rgT) (w2 : Cond.initialized (cEx e) ∈ rgT) (w3 : Cond.stringRef RX6 is tx ∈ lw_tbl) (hw : ∀ w ∈ vx_atS RX6 ic (cEx e) cThr, w ∈ lw_tbl ∧ (goodWord w = true ∨ cNest w = true)) (hg : ∀ w ∈ Cond.classLink RX6 ik (cEx e) :: Cond.initialized (cEx e) :: vx_atS RX6 ic (cEx e) cThr, vx_ot w = true)
    (hd6 : 6 ≤ d) (hst : (st.map fun q => q.category).sum ≤ 8) (hk : kc + 1 ≤ a) (hs : ks + 6 ≤ b) : cAW true G X z0 (.inr e, z, a, b) nL pc lo st z kc ks := by
  intro H locs ls h1 hd h2 h3
  have hts := cC_hts C
  have hR : X.2.2.2.1 = cRm d a b := cC_R C
  obtain ⟨sa, hsa⟩ := cC_St C is tx w3
  exact vx_throwSW (names := cThr) C.1 C.2.1 (cC_tr C) (cC_own C) hf (by decide +kernel) (hts _ w1) (hts _ w2) hsa (cThr_hat C hw) hg (cC_Z C).1 (cC_Z C).2 h2 (by rw [cC_ml C]; exact h3.1) d0 d3 d4 d7 d10 (fun x hx => (cC_et C x hx).elim) (by rw [hR]; show 2 + 3 < d; omega) (by rw [hR]; show (st.map fun v => v.category).sum + (13 * (2 + 1) + 43) ≤ 60 * d; omega) (by rw [hR]; exact hk) (by rw [hR]; exact hs) (cC_lk C) (cXC_end C h1 hd h2) h2.2.2 hk hs
end CAlloc
