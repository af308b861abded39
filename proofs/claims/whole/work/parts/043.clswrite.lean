section CWrite
variable {t : Bool} {G : cG} {X : rX} {z0 z : cS} {own : String} {nL d a b : Nat} {cc : ByteArray} {ret : Option FieldType} {r : cR} {pc : Nat} {lo : List (Option Value)} {st : List Value} {kc ks : Nat}
theorem cA_in {z0 z : cS} (hd : cDom z0 z) {q ci n : Nat} (hq : z.1 q = some (ci, n)) : cA z0 q := hd q (by rw [hq]; exact fun h => by cases h)
/-- a field that isn't final, own or a nest mate's -/
theorem ca_put (C : cC G X z0 own nL cc ret d a b) {idx q ci j : Nat} {v : Value} {z' : cS} (hdg : decode cc pc = .ok (.putfield idx, 3)) (hF : cFL own idx ci j) (hfin : ∀ (Cn : String) (T : u_T) (N : Nat), vwCl[ci]? = some (Cn, T, N) → (T j).2.2.2 = false) (hq : ∃ n, z.1 q = some (ci, n))
    (hty : ∀ (ty : FieldType), (∀ (Cn : String) (T : u_T) (N : Nat), vwCl[ci]? = some (Cn, T, N) → parseFieldDescriptor (T j).2.2.1 = some ty) → ((cFlds ci).getD j false = true → ((∃ n, ty = .object n) ∨ ∃ t, ty = .array t)) → ((cFlds ci).getD j false = false → ty = .int ∨ ty = .boolean) → narrow ty v = v ∧ fits ty v = true)
    (hk : z'.1 = z.1) (hx : z'.2.2.2 = z.2.2.2) (hI : ∀ p, p ≠ q → z'.2.1 p = z.2.1 p) (hP : ∀ p, p ≠ q → z'.2.2.1 p = z.2.2.1 p) (hset : (cObj ci (z.2.1 q) (z.2.2.1 q)).set j v = cObj ci (z'.2.1 q) (z'.2.2.1 q))
    (kk : cAW t G X z0 r nL (pc + 3) lo st z' kc ks) : cAW t G X z0 r nL pc lo (v :: .ref q :: st) z kc ks := by
  intro H locs ls h1 hd h2 h3
  obtain ⟨n, hq⟩ := hq
  obtain ⟨Cn, T, N, f1, f2, f3, f4, f5, ⟨ty0, g1, g2, g3, g4⟩, fl⟩ := hF
  have hts := cC_hts C
  have hK := cC_K C
  have hfn := hfin Cn T N f1
  obtain ⟨hn, hft⟩ := hty (ty0 j) (fun Cn' T' N' h' => by rw [f1] at h'; cases h'; exact g1 j f3) g3 g4
  have hap := va_apart (own := own) hts f2 ty0 g1 g2 hK f1
  have hat := cH_obj h1 hq f5
  obtain ⟨rr, q0, cell, q1, q2, q3, q4⟩ := hat
  have hr' : rr = (Cn, T, N) := Option.some.inj (q0.symm.trans f1)
  subst hr'
  obtain ⟨hS, hfc, kC, hkC, hkind⟩ := hK.1 ci _ f1
  obtain ⟨cf, kf, fi, f, hi2, hsl⟩ := hS j f3
  have hlay := hts _ (f2 _ (u_in_lay f3))
  unfold u_lay at hlay
  rw [if_neg (by rw [hfn]; decide)] at hlay
  have hst := (u_facts hfc hkC (u_lays hts f2 f3) hi2).1
  have h6 := u_store hfc hkC hkind hlay hi2 (g1 j f3) (v := v) hn hft
  have fin : ∀ H' : Heap, H'[q]? = some (cell.setSlot (G.1.2 ci j) v) → H'.size = H.size → (∀ p, p ≠ q → H'[p]? = H[p]?) → cH G z' H' := fun H' e1 e2 e3 => by
    refine cH_chg h1 hq hk hx e2 e3 hI hP ?_
    unfold cCell
    rw [if_pos f5, ← hset]
    exact ⟨_, f1, t_OB.to (V := updV (vp_V (cObj ci (z.2.1 q) (z.2.2.1 q))) j v) ⟨_, e1, q2, q3, t_set q4 hap f3 v⟩ (fun i _ => vp_updV_set (by rw [cObj_len, ← f4]; exact f3) v i)⟩
  have hd' : cDom z0 z' := fun p hp => hd p (by rw [← hk]; exact hp)
  rcases fl with fl | ⟨host, fl⟩
  · refine W.putK C.1 C.2.1 (f := f) ⟨cC_own C, hts _ fl, ⟨_, _, _, hi2⟩, hst⟩ (by rw [q2]; exact h6) q1 q3 (by rw [hsl]; exact k2_hasslot (q4 j f3)) rfl rfl hdg fun H' e1 e2 e3 => ?_
    rw [hsl] at e1 ⊢
    exact kk H' _ ls (fin H' e1 e2 e3) hd' (h2.put e2 e3 (cA_in hd hq)) h3
  · refine va_WputK C.1 C.2.1 (f := f) (cC_own C) (va_Nw.use rfl (cC_Nw C _ fl)) hi2 hst (by rw [q2]; exact h6) q1 q3 (by rw [hsl]; exact k2_hasslot (q4 j f3)) rfl rfl hdg fun H' e1 e2 e3 => ?_
    rw [hsl] at e1 ⊢
    exact kk H' _ ls (fin H' e1 e2 e3) hd' (h2.put e2 e3 (cA_in hd hq)) h3
/-- a final field, in its class's constructor -/
theorem ca_putF (C : cC G X z0 own nL cc ret d a b) (hin : X.2.2.2.2.2.2.2.2.1.name = "<init>") {idx q ci j : Nat} {v : Value} {z' : cS} (hdg : decode cc pc = .ok (.putfield idx, 3)) (hF : cFL own idx ci j) (hfin : ∀ (Cn : String) (T : u_T) (N : Nat), vwCl[ci]? = some (Cn, T, N) → (T j).2.2.2 = true ∧ (T j).1 = own ∧ Cond.fieldLink own idx (T j).1 (T j).2.1 (T j).2.2.1 ∈ rgT) (hq : ∃ n, z.1 q = some (ci, n))
    (hty : ∀ (ty : FieldType), (∀ (Cn : String) (T : u_T) (N : Nat), vwCl[ci]? = some (Cn, T, N) → parseFieldDescriptor (T j).2.2.1 = some ty) → ((cFlds ci).getD j false = true → ((∃ n, ty = .object n) ∨ ∃ t, ty = .array t)) → ((cFlds ci).getD j false = false → ty = .int ∨ ty = .boolean) → narrow ty v = v ∧ fits ty v = true)
    (hk : z'.1 = z.1) (hx : z'.2.2.2 = z.2.2.2) (hI : ∀ p, p ≠ q → z'.2.1 p = z.2.1 p) (hP : ∀ p, p ≠ q → z'.2.2.1 p = z.2.2.1 p) (hset : (cObj ci (z.2.1 q) (z.2.2.1 q)).set j v = cObj ci (z'.2.1 q) (z'.2.2.1 q))
    (kk : cAW t G X z0 r nL (pc + 3) lo st z' kc ks) : cAW t G X z0 r nL pc lo (v :: .ref q :: st) z kc ks := by
  intro H locs ls h1 hd h2 h3
  obtain ⟨n, hq⟩ := hq
  obtain ⟨Cn, T, N, f1, f2, f3, f4, f5, ⟨ty0, g1, g2, g3, g4⟩, -⟩ := hF
  have hts := cC_hts C
  have hK := cC_K C
  obtain ⟨hfn, hdecl, fl⟩ := hfin Cn T N f1
  obtain ⟨hn, hft⟩ := hty (ty0 j) (fun Cn' T' N' h' => by rw [f1] at h'; cases h'; exact g1 j f3) g3 g4
  have hap := va_apart (own := own) hts f2 ty0 g1 g2 hK f1
  have hat := cH_obj h1 hq f5
  obtain ⟨rr, q0, cell, q1, q2, q3, q4⟩ := hat
  have hr' : rr = (Cn, T, N) := Option.some.inj (q0.symm.trans f1)
  subst hr'
  obtain ⟨hS, hfc, kC, hkC, hkind⟩ := hK.1 ci _ f1
  obtain ⟨cf, kf, fi, f, hi2, hsl⟩ := hS j f3
  have hlay := hts _ (f2 _ (u_in_lay f3))
  unfold u_lay at hlay
  rw [if_pos hfn] at hlay
  have hst := (u_facts hfc hkC (u_lays hts f2 f3) hi2).1
  have hcf : X.2.2.2.2.2.1.cls = cf := by
    obtain ⟨_, _, c', _, _, _, -, -, hf', -, -, -, hown2, -⟩ := Cond.laysFinal_spec hlay
    have e1 : c' = cf := by have := hi2.symm.trans hf'; simp at this; exact this.1.symm
    rw [hdecl] at hown2
    rw [← e1]; exact Option.some.inj ((cC_own C).symm.trans hown2)
  have h6 := u_fits hfc hkC hkind (Or.inr hlay) hi2 (g1 j f3) (v := v) hn hft
  have fin : ∀ H' : Heap, H'[q]? = some (cell.setSlot (G.1.2 ci j) v) → H'.size = H.size → (∀ p, p ≠ q → H'[p]? = H[p]?) → cH G z' H' := fun H' e1 e2 e3 => by
    refine cH_chg h1 hq hk hx e2 e3 hI hP ?_
    unfold cCell
    rw [if_pos f5, ← hset]
    exact ⟨_, f1, t_OB.to (V := updV (vp_V (cObj ci (z.2.1 q) (z.2.2.1 q))) j v) ⟨_, e1, q2, q3, t_set q4 hap f3 v⟩ (fun i _ => vp_updV_set (by rw [cObj_len, ← f4]; exact f3) v i)⟩
  have hd' : cDom z0 z' := fun p hp => hd p (by rw [← hk]; exact hp)
  refine W.putFinK C.1 C.2.1 (cC_own C) (hts _ fl) hi2 hst hcf hin (by rw [q2]; exact h6) q1 q3 (by rw [hsl]; exact k2_hasslot (q4 j f3)) rfl rfl hdg fun H' e1 e2 e3 => ?_
  rw [hsl] at e1 ⊢
  exact kk H' _ ls (fin H' e1 e2 e3) hd' (h2.put e2 e3 (cA_in hd hq)) h3
theorem cty_Z {ci j : Nat} {v : Int32} (hb : (cFlds ci).getD j false = false) (hv : narrow .boolean (.int v) = .int v ∧ fits .boolean (.int v) = true) : ∀ (ty : FieldType), (∀ (Cn : String) (T : u_T) (N : Nat), vwCl[ci]? = some (Cn, T, N) → parseFieldDescriptor (T j).2.2.1 = some ty) → ((cFlds ci).getD j false = true → ((∃ n, ty = .object n) ∨ ∃ t, ty = .array t)) → ((cFlds ci).getD j false = false → ty = .int ∨ ty = .boolean) → narrow ty (.int v) = .int v ∧ fits ty (.int v) = true := by
  intro ty _ _ h
  rcases h hb with rfl | rfl
  · exact ⟨rfl, rfl⟩
  · exact hv
def cIsI (ci j : Nat) : Prop := ∃ (Cn : String) (T : u_T) (N : Nat), vwCl[ci]? = some (Cn, T, N) ∧ parseFieldDescriptor (T j).2.2.1 = some .int
theorem cty_I {ci j : Nat} {v : Int32} (hi : cIsI ci j) : ∀ (ty : FieldType), (∀ (Cn : String) (T : u_T) (N : Nat), vwCl[ci]? = some (Cn, T, N) → parseFieldDescriptor (T j).2.2.1 = some ty) → ((cFlds ci).getD j false = true → ((∃ n, ty = .object n) ∨ ∃ t, ty = .array t)) → ((cFlds ci).getD j false = false → ty = .int ∨ ty = .boolean) → narrow ty (.int v) = .int v ∧ fits ty (.int v) = true := by
  intro ty h1 _ _
  obtain ⟨Cn, T, N, f1, f2⟩ := hi
  have := h1 Cn T N f1
  rw [f2] at this
  cases this
  exact ⟨rfl, rfl⟩
theorem cty_R {ci j : Nat} {v : Option Nat} (hb : (cFlds ci).getD j false = true) : ∀ (ty : FieldType), (∀ (Cn : String) (T : u_T) (N : Nat), vwCl[ci]? = some (Cn, T, N) → parseFieldDescriptor (T j).2.2.1 = some ty) → ((cFlds ci).getD j false = true → ((∃ n, ty = .object n) ∨ ∃ t, ty = .array t)) → ((cFlds ci).getD j false = false → ty = .int ∨ ty = .boolean) → narrow ty (va_rf v) = va_rf v ∧ fits ty (va_rf v) = true := by
  intro ty _ h _
  rcases h hb with ⟨n, rfl⟩ | ⟨t, rfl⟩ <;> cases v <;> exact ⟨rfl, rfl⟩
theorem cup_ne {I : Nat → Nat → Int32} {q j p : Nat} {v : Int32} (h : p ≠ q) : cup I q j v p = I p := if_neg h
theorem cup_eq {I : Nat → Nat → Int32} {q j : Nat} {v : Int32} : cup I q j v q = upd (I q) j v := if_pos rfl
theorem cuR_ne {I : Nat → Nat → Option Nat} {q j p : Nat} {v : Option Nat} (h : p ≠ q) : cuR I q j v p = I p := if_neg h
theorem cuR_eq {I : Nat → Nat → Option Nat} {q j : Nat} {v : Option Nat} : cuR I q j v q = va_up (I q) j v := if_pos rfl
theorem cFL_len {own : String} {idx ci j : Nat} (h : cFL own idx ci j) : j < (cFlds ci).length := by
  obtain ⟨Cn, T, N, f1, f2, f3, f4, -⟩ := h
  rw [← f4]; exact f3
theorem ca_putI (C : cC G X z0 own nL cc ret d a b) {idx q ci j : Nat} {v : Int32} {y : Option Nat} {z' : cS} (hdg : decode cc pc = .ok (.putfield idx, 3)) (hF : cFL own idx ci j) (hfin : ∀ (Cn : String) (T : u_T) (N : Nat), vwCl[ci]? = some (Cn, T, N) → (T j).2.2.2 = false) (hb : (cFlds ci).getD j false = false) (hi : cIsI ci j) (hy : y = some q) (hx : cpI z q ci j v = some z') (kk : cAW t G X z0 r nL (pc + 3) lo st z' kc ks) : cAW t G X z0 r nL pc lo (.int v :: va_rf y :: st) z kc ks := by
  subst hy
  obtain ⟨hq, rfl⟩ := cpI_spec hx
  exact ca_put C (z' := (z.1, cup z.2.1 q j v, z.2.2.1, z.2.2.2)) hdg hF hfin hq (cty_I hi) rfl rfl (fun p hp => cup_ne hp) (fun p hp => rfl) ((cObj_setI ci _ _ v (cFL_len hF) hb).trans (by show _ = cObj ci (cup _ q j v q) _; rw [cup_eq])) kk
theorem ca_putZ (C : cC G X z0 own nL cc ret d a b) {idx q ci j : Nat} {v : Int32} {y : Option Nat} {z' : cS} (hdg : decode cc pc = .ok (.putfield idx, 3)) (hF : cFL own idx ci j) (hfin : ∀ (Cn : String) (T : u_T) (N : Nat), vwCl[ci]? = some (Cn, T, N) → (T j).2.2.2 = false) (hb : (cFlds ci).getD j false = false) (hy : y = some q) (hx : cpZ z q ci j v = some z') (kk : cAW t G X z0 r nL (pc + 3) lo st z' kc ks) : cAW t G X z0 r nL pc lo (.int v :: va_rf y :: st) z kc ks := by
  subst hy
  obtain ⟨hv, hx⟩ := cpZ_spec hx
  obtain ⟨hq, rfl⟩ := cpI_spec hx
  exact ca_put C (z' := (z.1, cup z.2.1 q j v, z.2.2.1, z.2.2.2)) hdg hF hfin hq (cty_Z hb hv) rfl rfl (fun p hp => cup_ne hp) (fun p hp => rfl) ((cObj_setI ci _ _ v (cFL_len hF) hb).trans (by show _ = cObj ci (cup _ q j v q) _; rw [cup_eq])) kk
theorem ca_putR (C : cC G X z0 own nL cc ret d a b) {idx q ci j : Nat} {v : Option Nat} {y : Option Nat} {z' : cS} (hdg : decode cc pc = .ok (.putfield idx, 3)) (hF : cFL own idx ci j) (hfin : ∀ (Cn : String) (T : u_T) (N : Nat), vwCl[ci]? = some (Cn, T, N) → (T j).2.2.2 = false) (hb : (cFlds ci).getD j false = true) (hy : y = some q) (hx : cpR z q ci j v = some z') (kk : cAW t G X z0 r nL (pc + 3) lo st z' kc ks) : cAW t G X z0 r nL pc lo (va_rf v :: va_rf y :: st) z kc ks := by
  subst hy
  obtain ⟨hq, rfl⟩ := cpR_spec hx
  exact ca_put C (z' := (z.1, z.2.1, cuR z.2.2.1 q j v, z.2.2.2)) hdg hF hfin hq (cty_R hb) rfl rfl (fun p hp => rfl) (fun p hp => cuR_ne hp) ((cObj_setR ci _ _ v (cFL_len hF) hb).trans (by show _ = cObj ci _ (cuR _ q j v q); rw [cuR_eq])) kk
theorem ca_putFI (C : cC G X z0 own nL cc ret d a b) (hin : X.2.2.2.2.2.2.2.2.1.name = "<init>") {idx q ci j : Nat} {v : Int32} {y : Option Nat} {z' : cS} (hdg : decode cc pc = .ok (.putfield idx, 3)) (hF : cFL own idx ci j) (hfin : ∀ (Cn : String) (T : u_T) (N : Nat), vwCl[ci]? = some (Cn, T, N) → (T j).2.2.2 = true ∧ (T j).1 = own ∧ Cond.fieldLink own idx (T j).1 (T j).2.1 (T j).2.2.1 ∈ rgT) (hb : (cFlds ci).getD j false = false) (hi : cIsI ci j) (hy : y = some q) (hx : cpI z q ci j v = some z') (kk : cAW t G X z0 r nL (pc + 3) lo st z' kc ks) : cAW t G X z0 r nL pc lo (.int v :: va_rf y :: st) z kc ks := by
  subst hy
  obtain ⟨hq, rfl⟩ := cpI_spec hx
  exact ca_putF C hin (z' := (z.1, cup z.2.1 q j v, z.2.2.1, z.2.2.2)) hdg hF hfin hq (cty_I hi) rfl rfl (fun p hp => cup_ne hp) (fun p hp => rfl) ((cObj_setI ci _ _ v (cFL_len hF) hb).trans (by show _ = cObj ci (cup _ q j v q) _; rw [cup_eq])) kk
theorem ca_putFZ (C : cC G X z0 own nL cc ret d a b) (hin : X.2.2.2.2.2.2.2.2.1.name = "<init>") {idx q ci j : Nat} {v : Int32} {y : Option Nat} {z' : cS} (hdg : decode cc pc = .ok (.putfield idx, 3)) (hF : cFL own idx ci j) (hfin : ∀ (Cn : String) (T : u_T) (N : Nat), vwCl[ci]? = some (Cn, T, N) → (T j).2.2.2 = true ∧ (T j).1 = own ∧ Cond.fieldLink own idx (T j).1 (T j).2.1 (T j).2.2.1 ∈ rgT) (hb : (cFlds ci).getD j false = false) (hy : y = some q) (hx : cpZ z q ci j v = some z') (kk : cAW t G X z0 r nL (pc + 3) lo st z' kc ks) : cAW t G X z0 r nL pc lo (.int v :: va_rf y :: st) z kc ks := by
  subst hy
  obtain ⟨hv, hx⟩ := cpZ_spec hx
  obtain ⟨hq, rfl⟩ := cpI_spec hx
  exact ca_putF C hin (z' := (z.1, cup z.2.1 q j v, z.2.2.1, z.2.2.2)) hdg hF hfin hq (cty_Z hb hv) rfl rfl (fun p hp => cup_ne hp) (fun p hp => rfl) ((cObj_setI ci _ _ v (cFL_len hF) hb).trans (by show _ = cObj ci (cup _ q j v q) _; rw [cup_eq])) kk
theorem ca_putFR (C : cC G X z0 own nL cc ret d a b) (hin : X.2.2.2.2.2.2.2.2.1.name = "<init>") {idx q ci j : Nat} {v : Option Nat} {y : Option Nat} {z' : cS} (hdg : decode cc pc = .ok (.putfield idx, 3)) (hF : cFL own idx ci j) (hfin : ∀ (Cn : String) (T : u_T) (N : Nat), vwCl[ci]? = some (Cn, T, N) → (T j).2.2.2 = true ∧ (T j).1 = own ∧ Cond.fieldLink own idx (T j).1 (T j).2.1 (T j).2.2.1 ∈ rgT) (hb : (cFlds ci).getD j false = true) (hy : y = some q) (hx : cpR z q ci j v = some z') (kk : cAW t G X z0 r nL (pc + 3) lo st z' kc ks) : cAW t G X z0 r nL pc lo (va_rf v :: va_rf y :: st) z kc ks := by
  subst hy
  obtain ⟨hq, rfl⟩ := cpR_spec hx
  exact ca_putF C hin (z' := (z.1, z.2.1, cuR z.2.2.1 q j v, z.2.2.2)) hdg hF hfin hq (cty_R hb) rfl rfl (fun p hp => rfl) (fun p hp => cuR_ne hp) ((cObj_setR ci _ _ v (cFL_len hF) hb).trans (by show _ = cObj ci _ (cuR _ q j v q); rw [cuR_eq])) kk
end CWrite
