def cs1 (st : List Value) : Prop := ∀ v ∈ st, v.category = 1
theorem cs1_nil : cs1 [] := fun v h => by cases h
theorem va_rf_cat (x : Option Nat) : (va_rf x).category = 1 := by cases x <;> rfl
theorem cs1_i {x : Int32} {st : List Value} (h : cs1 st) : cs1 (.int x :: st) := fun v hv => (List.mem_cons.mp hv).elim (fun e => by rw [e]; rfl) (h v)
theorem cs1_q {x : Nat} {st : List Value} (h : cs1 st) : cs1 (.ref x :: st) := fun v hv => (List.mem_cons.mp hv).elim (fun e => by rw [e]; rfl) (h v)
theorem cs1_r {x : Option Nat} {st : List Value} (h : cs1 st) : cs1 (va_rf x :: st) := fun v hv => (List.mem_cons.mp hv).elim (fun e => by rw [e]; exact va_rf_cat x) (h v)
theorem cs1_len {st : List Value} (h : cs1 st) : (st.map fun q => q.category).sum = st.length := by
  induction st with
  | nil => rfl
  | cons v st ih =>
    have h1 := h v List.mem_cons_self
    have h2 := ih (fun w hw => h w (List.mem_cons_of_mem _ hw))
    simp only [List.map_cons, List.sum_cons, List.length_cons, h1, h2]
    omega
theorem cs1_sum {st : List Value} (h : cs1 st) (hl : st.length ≤ 8) : (st.map fun q => q.category).sum ≤ 8 := by rw [cs1_len h]; exact hl
theorem cs1_sl {st : List Value} (h : cs1 st) : (lg_sl st).length = st.length := by
  induction st with
  | nil => rfl
  | cons v st ih =>
    have h1 := h v List.mem_cons_self
    have h2 := ih (fun w hw => h w (List.mem_cons_of_mem _ hw))
    unfold lg_sl at h2 ⊢
    rw [List.flatMap_cons, List.length_append, h2, if_neg (by omega)]
    simp only [List.length_cons, List.length_nil]
    omega
/-- a receiver: not null, of its class -/
def crc (z : cS) (y : Option Nat) (ci : Nat) : Option Nat := Option.bind y fun q => if (z.1 q).map Prod.fst = some ci then some q else none
theorem crc_spec {z : cS} {y : Option Nat} {ci q : Nat} (h : crc z y ci = some q) : y = some q ∧ ∃ n, z.1 q = some (ci, n) := by
  obtain ⟨p, rfl, h2⟩ := rob h
  split at h2
  · rename_i hn
    cases h2
    cases hq : z.1 q with
    | none => rw [hq] at hn; cases hn
    | some w => obtain ⟨c, n⟩ := w; rw [hq] at hn; cases hn; exact ⟨rfl, n, rfl⟩
  · cases h2
def cML (own : String) (idx : Nat) (y : MethodName) : Prop := Cond.methodLink own idx y ∈ rgT ∨ ∃ host, Cond.methodLinkNest own idx y host ∈ cNl
def cHd (y : MethodName) (n : Nat) : Prop := y.cls ≠ "java/lang/invoke/MethodHandle" ∧ y.cls ≠ "java/lang/invoke/VarHandle" ∧ (parseMethodDescriptor y.desc).map (fun q => q.parameters.length) = some n
section CInvoke
variable {t : Bool} {G : cG} {X : rX} {z0 z : cS} {own : String} {nL d a b : Nat} {cc : ByteArray} {ret : Option FieldType} {r : cR} {pc : Nat} {lo : List (Option Value)} {st : List Value} {kc ks : Nat}
theorem cC_Rf (C : cC G X z0 own nL cc ret d a b) {d' nL' k n : Nat} (hdd : d' + 1 ≤ d) (hnl : nL' ≤ 41) : (cRm d' k n).frames + 1 ≤ X.2.2.2.1.frames ∧ 8 + (nL' + 11) + (cRm d' k n).locals ≤ X.2.2.2.1.locals := by
  rw [cC_R C]
  refine ⟨hdd, ?_⟩
  show 8 + (nL' + 11) + 60 * d' ≤ 60 * d
  omega
theorem cC_fit (C : cC G X z0 own nL cc ret d a b) {k n : Nat} (hk : kc + k ≤ a) (hs : ks + n ≤ b) : kc + k ≤ X.2.2.2.1.cells ∧ ks + n ≤ X.2.2.2.1.slots := by
  rw [cC_R C]
  exact ⟨hk, hs⟩
theorem cC_recv (C : cC G X z0 own nL cc ret d a b) {H : Heap} (h1 : cH G z H) {q ci : Nat} {Cn : String} {T : u_T} {N : Nat} (hq : ∃ n, z.1 q = some (ci, n)) (hc : vwCl[ci]? = some (Cn, T, N)) (hci : ci < 8) : ∃ cellB : Cell, H[q]? = some cellB ∧ cellB.vm.isStatics = false ∧ X.2.2.2.2.1.vm.findClass Cn = some cellB.cls := by
  obtain ⟨n, hq⟩ := hq
  exact va_recv (D := G.1) (cl := vwCl) (q0 := 0) (ci := ci) (cC_K C) (rP1 (cH_obj h1 hq hci)) hc rfl
/-- behind a call that returned -/
theorem ca_after (C : cC G X z0 own nL cc ret d a b) {av : List Value} {v : Option Value} {z' : cS} {k n : Nat} {H : Heap} {locs : List Loc} {ls : Array Slot} {stk : List Value} (h1 : cH G z H) (hd : cDom z0 z) (h2 : va_S (cA z0) X.2.2.2.2.1.heap H locs) (h3 : rLo ls nL lo) (kk : cAW t G X z0 r nL (pc + 3) lo (v.toList ++ st) z' (kc + k) (ks + n))
    (hrun : va_Run X.1 X.2.1 X.2.2.1 X.2.2.2.1 X.2.2.2.2.1 X.2.2.2.2.2.1 X.2.2.2.2.2.2.1 X.2.2.2.2.2.2.2.1 X.2.2.2.2.2.2.2.2.1 X.2.2.2.2.2.2.2.2.2 H locs kc ks k n (F0 X.2.2.2.2.2.1 pc ls stk) st (cQc G z (.inl v, z', k, n) av.toArray) (cA z)) :
    W X.1 X.2.1 X.2.2.1 X.2.2.2.1 X.2.2.2.2.1 X.2.2.2.2.2.1 X.2.2.2.2.2.2.1 X.2.2.2.2.2.2.2.1 X.2.2.2.2.2.2.2.2.1 X.2.2.2.2.2.2.2.2.2 H locs kc ks (cQ t G z0 r X.2.2.2.2.2.2.2.1 X.2.2.2.2.2.2.1 X.2.2.2.2.1) (F0 X.2.2.2.2.2.1 pc ls stk) := by
  intro T hT Y
  obtain ⟨w, st₀, t', T', L, e0, Y', hL, e1, e2, ⟨v', hv, hw, hH', hF, hD'⟩, go⟩ := hrun T hT Y
  cases hv
  cases hw
  have hle := cC_le C h1 h2
  obtain ⟨k1, k2, k3⟩ := vx_keep e0 e1 h2 (fun q _ h => cA_lt hd hle q h) (fun q h => cA_lt hd hle q h) hL hF
  rw [← e1] at hH'
  obtain ⟨t2, a1, b1⟩ := kk T'.heap (locs ++ L) ls hH' (fun q hq => cA_lt hd hle q (hD' q hq)) k3 h3 T' rfl Y'
  exact ⟨t2, go t2 a1, b1⟩
theorem ca_callV (C : cC G X z0 own nL cc ret d a b) {index q ci nL' d' k n : Nat} {Cn : String} {T : u_T} {N : Nat} {y : MethodName} {cc' : ByteArray} {ret' : Option FieldType} {As : List Value} {v : Option Value} {y0 : Option Nat} {z' : cS} {stk : List Value} (hdg : decode cc pc = .ok (.invokevirtual index, 3)) (hM : cM X.2.1 G d' y cc' nL' ret' (.ref q :: As) z (.inl v, z', k, n)) (hy : y0 = some q ∧ ∃ n, z.1 q = some (ci, n)) (hc : vwCl[ci]? = some (Cn, T, N)) (hci : ci < 8) (hs : As.reverse ++ va_rf y0 :: st = stk)
    (w1 : cML own index y) (w2 : Cond.instanceMethod y ∈ rgT) (w3 : Cond.selects Cn y y ∈ rgT) (w4 : Cond.initialized y.cls ∈ rgT) (w5 : Cond.code y cc' nL' ret' ∈ rgT) (hh : cHd y As.length) (hdd : d' + 1 ≤ d) (hnl : nL' ≤ 41) (hst : (st.map fun q => q.category).sum ≤ 8) (hk : kc + k ≤ a) (hsl : ks + n ≤ b) (kk : cAW t G X z0 r nL (pc + 3) lo (v.toList ++ st) z' (kc + k) (ks + n)) : cAW t G X z0 r nL pc lo stk z kc ks := by
  intro H locs ls h1 hd h2 h3
  obtain ⟨rfl, hq⟩ := hy
  have hts := cC_hts C
  obtain ⟨hR1, hR2⟩ := cC_Rf C (k := k) (n := n) hdd hnl
  subst hs
  have hpre : PreV X.2.2.2.2.1 H Cn q (va_Pc (.ref q :: As) (cPre G z)) As := ⟨cPre_blind, cC_recv C h1 hq hc hci, fun U hU hW => ⟨rfl, cC_pre C h1 hd h2 U hU hW⟩⟩
  have hlen : ∀ sig, parseMethodDescriptor y.desc = some sig → As.length = sig.parameters.length := fun sig h => by
    have h2' := hh.2.2
    rw [h] at h2'
    exact (Option.some.inj h2').symm
  refine ca_after C (av := .ref q :: As) h1 hd h2 h3 kk ?_
  rcases w1 with w1 | ⟨host, w1⟩
  · exact va_runV (n := As.length) (As := As) (C := Cn) (ws := .code y cc' nL' ret' :: rgT) (rm := cRm d' k n) (Ts := rgT) (own := own) ⟨C.1, C.2.1, C.2.2.1, cC_own C, hts⟩ hM ⟨⟨rfl, rfl, hR1, hR2, pay_in hts (rgT_cons w5), List.mem_cons_self, hts _ w5, hts _ w4, ⟨hh.1, hh.2.1⟩, hlen, hts _ w1⟩, hts _ w2, hts _ w3⟩ hpre rfl rfl h3.1 rfl (lv_room hst) hdg (cC_fit C hk hsl)
  · exact va_runVN (n := As.length) (As := As) (C := Cn) (host := host) (ws := .code y cc' nL' ret' :: rgT) (rm := cRm d' k n) (Ts := rgT) (own := own) ⟨C.1, C.2.1, C.2.2.1, cC_own C, hts⟩ hM ⟨⟨⟨rfl, rfl, hR1, hR2, pay_in hts (rgT_cons w5), List.mem_cons_self⟩, hts _ w5, hts _ w4, ⟨hh.1, hh.2.1⟩, hlen, va_Nw.use rfl (cC_Nw C _ w1)⟩, hts _ w2, hts _ w3⟩ hpre rfl rfl h3.1 rfl (lv_room hst) hdg (cC_fit C hk hsl)
theorem ca_callS (C : cC G X z0 own nL cc ret d a b) {index nL' d' k n : Nat} {y : MethodName} {cc' : ByteArray} {ret' : Option FieldType} {As : List Value} {v : Option Value} {z' : cS} {stk : List Value} (hdg : decode cc pc = .ok (.invokestatic index, 3)) (hM : cM X.2.1 G d' y cc' nL' ret' As z (.inl v, z', k, n)) (hs : As.reverse ++ st = stk)
    (w1 : cML own index y) (w2 : Cond.static y ∈ rgT) (w4 : Cond.initialized y.cls ∈ rgT) (w5 : Cond.code y cc' nL' ret' ∈ rgT) (hh : cHd y As.length) (hdd : d' + 1 ≤ d) (hnl : nL' ≤ 41) (hst : (st.map fun q => q.category).sum ≤ 8) (hk : kc + k ≤ a) (hsl : ks + n ≤ b) (kk : cAW t G X z0 r nL (pc + 3) lo (v.toList ++ st) z' (kc + k) (ks + n)) : cAW t G X z0 r nL pc lo stk z kc ks := by
  intro H locs ls h1 hd h2 h3
  have hts := cC_hts C
  obtain ⟨hR1, hR2⟩ := cC_Rf C (k := k) (n := n) hdd hnl
  subst hs
  have hpre : PreS X.2.2.2.2.1 H (va_Pc As (cPre G z)) As := ⟨cPre_blind, fun U hU hW => ⟨rfl, cC_pre C h1 hd h2 U hU hW⟩⟩
  have hlen : ∀ sig, parseMethodDescriptor y.desc = some sig → As.length = sig.parameters.length := fun sig h => by
    have h2' := hh.2.2
    rw [h] at h2'
    exact (Option.some.inj h2').symm
  refine ca_after C (av := As) h1 hd h2 h3 kk ?_
  rcases w1 with w1 | ⟨host, w1⟩
  · exact va_runS (n := As.length) (As := As) (ws := .code y cc' nL' ret' :: rgT) (rm := cRm d' k n) (Ts := rgT) (own := own) ⟨C.1, C.2.1, C.2.2.1, cC_own C, hts⟩ hM ⟨⟨rfl, rfl, hR1, hR2, pay_in hts (rgT_cons w5), List.mem_cons_self, hts _ w5, hts _ w4, ⟨hh.1, hh.2.1⟩, hlen, hts _ w1⟩, hts _ w2⟩ hpre rfl rfl h3.1 rfl (lv_room hst) hdg (cC_fit C hk hsl)
  · exact va_runSN (n := As.length) (As := As) (host := host) (ws := .code y cc' nL' ret' :: rgT) (rm := cRm d' k n) (Ts := rgT) (own := own) ⟨C.1, C.2.1, C.2.2.1, cC_own C, hts⟩ hM ⟨⟨⟨rfl, rfl, hR1, hR2, pay_in hts (rgT_cons w5), List.mem_cons_self⟩, hts _ w5, hts _ w4, ⟨hh.1, hh.2.1⟩, hlen, va_Nw.use rfl (cC_Nw C _ w1)⟩, hts _ w2, trivial⟩ hpre rfl rfl h3.1 rfl (lv_room hst) hdg (cC_fit C hk hsl)
theorem ca_callI (C : cC G X z0 own nL cc ret d a b) {index q nL' d' k n : Nat} {y : MethodName} {cc' : ByteArray} {As : List Value} {y0 : Option Nat} {z' : cS} {stk : List Value} (hdg : decode cc pc = .ok (.invokespecial index, 3)) (hM : cM X.2.1 G d' y cc' nL' none (.ref q :: As) z (.inl none, z', k, n)) (hy : y0 = some q) (hs : As.reverse ++ va_rf y0 :: st = stk)
    (w1 : cML own index y) (w2 : Cond.instanceMethod y ∈ rgT) (hin : y.name = "<init>") (w4 : Cond.initialized y.cls ∈ rgT) (w5 : Cond.code y cc' nL' none ∈ rgT) (hh : cHd y As.length) (hdd : d' + 1 ≤ d) (hnl : nL' ≤ 41) (hst : (st.map fun q => q.category).sum ≤ 8) (hk : kc + k ≤ a) (hsl : ks + n ≤ b) (kk : cAW t G X z0 r nL (pc + 3) lo st z' (kc + k) (ks + n)) : cAW t G X z0 r nL pc lo stk z kc ks := by
  intro H locs ls h1 hd h2 h3
  subst hy
  have hts := cC_hts C
  obtain ⟨hR1, hR2⟩ := cC_Rf C (k := k) (n := n) hdd hnl
  subst hs
  have hpre : PreS X.2.2.2.2.1 H (va_Pc (.ref q :: As) (cPre G z)) (.ref q :: As) := ⟨cPre_blind, fun U hU hW => ⟨rfl, cC_pre C h1 hd h2 U hU hW⟩⟩
  have hlen : ∀ sig, parseMethodDescriptor y.desc = some sig → As.length = sig.parameters.length := fun sig h => by
    have h2' := hh.2.2
    rw [h] at h2'
    exact (Option.some.inj h2').symm
  refine ca_after C (av := .ref q :: As) (v := none) h1 hd h2 h3 kk ?_
  rcases w1 with w1 | ⟨host, w1⟩
  · exact va_runI (n := As.length) (As := As) (ws := .code y cc' nL' none :: rgT) (rm := cRm d' k n) (Ts := rgT) (own := own) ⟨C.1, C.2.1, C.2.2.1, cC_own C, hts⟩ hM ⟨⟨rfl, rfl, hR1, hR2, pay_in hts (rgT_cons w5), List.mem_cons_self, hts _ w5, hts _ w4, ⟨hh.1, hh.2.1⟩, hlen, hts _ w1⟩, hin, hts _ w2⟩ hpre rfl rfl h3.1 rfl (lv_room hst) hdg (cC_fit C hk hsl)
  · exact va_runIN (n := As.length) (As := As) (host := host) (ws := .code y cc' nL' none :: rgT) (rm := cRm d' k n) (Ts := rgT) (own := own) ⟨C.1, C.2.1, C.2.2.1, cC_own C, hts⟩ hM ⟨⟨⟨rfl, rfl, hR1, hR2, pay_in hts (rgT_cons w5), List.mem_cons_self⟩, hts _ w5, hts _ w4, ⟨hh.1, hh.2.1⟩, hlen, va_Nw.use rfl (cC_Nw C _ w1)⟩, hin, hts _ w2⟩ hpre rfl rfl h3.1 rfl (lv_room hst) hdg (cC_fit C hk hsl)
/-- behind a call that returned or threw -/
theorem ca_afterX (C : cC G X z0 own nL cc ret d a b) {av : List Value} {rr : cR} {H : Heap} {locs : List Loc} {ls : Array Slot} {stk : List Value} (h1 : cH G z H) (hd : cDom z0 z) (h2 : va_S (cA z0) X.2.2.2.2.1.heap H locs) (h3 : rLo ls nL lo) (kk : ∀ v, rr.1 = .inl v → cAW true G X z0 r nL (pc + 3) lo (v.toList ++ st) rr.2.1 (kc + rr.2.2.1) (ks + rr.2.2.2)) (kx : ∀ e, rr.1 = .inr e → r = (.inr e, rr.2.1, a, b) ∧ kc + rr.2.2.1 ≤ a ∧ ks + rr.2.2.2 ≤ b)
    (hrun : vx_Run X.1 X.2.1 X.2.2.1 X.2.2.2.1 X.2.2.2.2.1 X.2.2.2.2.2.1 X.2.2.2.2.2.2.1 X.2.2.2.2.2.2.2.1 X.2.2.2.2.2.2.2.2.1 X.2.2.2.2.2.2.2.2.2 H locs kc ks rr.2.2.1 rr.2.2.2 (F0 X.2.2.2.2.2.1 pc ls stk) st (cQc G z rr av.toArray) (cXC G z rr) (cA z)) :
    W X.1 X.2.1 X.2.2.1 X.2.2.2.1 X.2.2.2.2.1 X.2.2.2.2.2.1 X.2.2.2.2.2.2.1 X.2.2.2.2.2.2.2.1 X.2.2.2.2.2.2.2.2.1 X.2.2.2.2.2.2.2.2.2 H locs kc ks (cQ true G z0 r X.2.2.2.2.2.2.2.1 X.2.2.2.2.2.2.1 X.2.2.2.2.1) (F0 X.2.2.2.2.2.1 pc ls stk) := by
  intro T hT Y
  have hle := cC_le C h1 h2
  rcases hrun T hT Y with ⟨w, st₀, t', T', L, e0, Y', hL, e1, e2, ⟨v', hv, hw, hH', hF, hD'⟩, go⟩ | ⟨q, st₀, t', T', L, E, ce, e0, Y', hL, e1, e2, ⟨e9, hv, hE, ⟨nx, hH'⟩, hF, hD'⟩, hce, hcv, hcl, go⟩
  · cases hw
    obtain ⟨k1, k2, k3⟩ := vx_keep e0 e1 h2 (fun q _ h => cA_lt hd hle q h) (fun q h => cA_lt hd hle q h) hL hF
    rw [← e1] at hH'
    obtain ⟨t2, a1, b1⟩ := kk _ hv T'.heap (locs ++ L) ls hH' (fun q hq => cA_lt hd hle q (hD' q hq)) k3 h3 T' rfl Y'
    exact ⟨t2, go t2 a1, b1⟩
  · obtain ⟨rfl, hka, hsb⟩ := kx e9 hv
    obtain ⟨k1, k2, k3⟩ := vx_keep e0 e1 h2 (fun q _ h => cA_lt hd hle q h) (fun q h => cA_lt hd hle q h) hL hF
    rw [← e1] at hH' hce
    have out := vx_out (rest := st) (pc := pc) (ls := ls) (H := T'.heap) (locs := locs ++ L) (cells := kc + rr.2.2.1) (slots := ks + rr.2.2.2) (mc := a) (ms := b) (p := X.1) (l := X.2.1) (e := X.2.2.1) (R := X.2.2.2.1) (s := X.2.2.2.2.1) (m := X.2.2.2.2.2.1) (args := X.2.2.2.2.2.2.1) (below := X.2.2.2.2.2.2.2.1) (meth := X.2.2.2.2.2.2.2.2.1) (c := X.2.2.2.2.2.2.2.2.2) (Qc := cQc G z0 (.inr e9, rr.2.1, a, b)) (XC := cXC G z0 (.inr e9, rr.2.1, a, b)) (free := cA z0)
      (fun x hx => (cC_et C x hx).elim) (cC_lk C) hce hcv hcl
      (fun t2 ht2 _ => ⟨e9, rfl, hE, ⟨nx, by rw [ht2]; exact hH'⟩, k3.F ht2, fun q hq => cA_lt hd hle q (hD' q hq)⟩) k3.2.2 hka hsb
    obtain ⟨t2, a1, b1⟩ := out T' rfl Y'
    exact ⟨t2, go.trans a1, b1⟩
theorem ca_callX (C : cC G X z0 own nL cc ret d a b) {index q ci nL' d' : Nat} {rr : cR} {Cn : String} {T : u_T} {N : Nat} {y : MethodName} {cc' : ByteArray} {ret' : Option FieldType} {As : List Value} {y0 : Option Nat} {stk : List Value} (hdg : decode cc pc = .ok (.invokevirtual index, 3)) (hM : cMx X.2.1 G d' y cc' nL' ret' (.ref q :: As) z rr) (hy : y0 = some q ∧ ∃ n, z.1 q = some (ci, n)) (hc : vwCl[ci]? = some (Cn, T, N)) (hci : ci < 8) (hs : As.reverse ++ va_rf y0 :: st = stk)
    (w1 : Cond.methodLink own index y ∈ rgT) (w2 : Cond.instanceMethod y ∈ rgT) (w3 : Cond.selects Cn y y ∈ rgT) (w4 : Cond.initialized y.cls ∈ rgT) (w5 : Cond.code y cc' nL' ret' ∈ rgT) (hh : cHd y As.length) (hdd : d' + 1 ≤ d) (hnl : nL' ≤ 41) (hst : (st.map fun q => q.category).sum ≤ 8) (hk : kc + rr.2.2.1 ≤ a) (hsl : ks + rr.2.2.2 ≤ b) (kk : ∀ v, rr.1 = .inl v → cAW true G X z0 r nL (pc + 3) lo (v.toList ++ st) rr.2.1 (kc + rr.2.2.1) (ks + rr.2.2.2)) (kx : ∀ e, rr.1 = .inr e → r = (.inr e, rr.2.1, a, b)) : cAW true G X z0 r nL pc lo stk z kc ks := by
  intro H locs ls h1 hd h2 h3
  obtain ⟨rfl, hq⟩ := hy
  have hts := cC_hts C
  obtain ⟨hR1, hR2⟩ := cC_Rf C (k := rr.2.2.1) (n := rr.2.2.2) hdd hnl
  subst hs
  have hpre : PreV X.2.2.2.2.1 H Cn q (va_Pc (.ref q :: As) (cPre G z)) As := ⟨cPre_blind, cC_recv C h1 hq hc hci, fun U hU hW => ⟨rfl, cC_pre C h1 hd h2 U hU hW⟩⟩
  have hlen : ∀ sig, parseMethodDescriptor y.desc = some sig → As.length = sig.parameters.length := fun sig h => by
    have h2' := hh.2.2
    rw [h] at h2'
    exact (Option.some.inj h2').symm
  refine ca_afterX C (av := .ref q :: As) h1 hd h2 h3 kk (fun e he => ⟨kx e he, hk, hsl⟩) ?_
  exact vx_runV (n := As.length) (As := As) (C := Cn) (ws := .code y cc' nL' ret' :: rgT) (rm := cRm d' rr.2.2.1 rr.2.2.2) (Ts := rgT) (own := own) ⟨C.1, C.2.1, C.2.2.1, cC_own C, hts⟩ hM ⟨⟨rfl, rfl, hR1, hR2, pay_in hts (rgT_cons w5), List.mem_cons_self, hts _ w5, hts _ w4, ⟨hh.1, hh.2.1⟩, hlen, hts _ w1⟩, hts _ w2, hts _ w3⟩ hpre rfl rfl h3.1 rfl (lv_room hst) hdg (cC_fit C hk hsl)
theorem ca_callXS (C : cC G X z0 own nL cc ret d a b) {index nL' d' : Nat} {rr : cR} {y : MethodName} {cc' : ByteArray} {ret' : Option FieldType} {As : List Value} {stk : List Value} (hdg : decode cc pc = .ok (.invokestatic index, 3)) (hM : cMx X.2.1 G d' y cc' nL' ret' As z rr) (hs : As.reverse ++ st = stk)
    (w1 : Cond.methodLink own index y ∈ rgT) (w2 : Cond.static y ∈ rgT) (w4 : Cond.initialized y.cls ∈ rgT) (w5 : Cond.code y cc' nL' ret' ∈ rgT) (hh : cHd y As.length) (hdd : d' + 1 ≤ d) (hnl : nL' ≤ 41) (hst : (st.map fun q => q.category).sum ≤ 8) (hk : kc + rr.2.2.1 ≤ a) (hsl : ks + rr.2.2.2 ≤ b) (kk : ∀ v, rr.1 = .inl v → cAW true G X z0 r nL (pc + 3) lo (v.toList ++ st) rr.2.1 (kc + rr.2.2.1) (ks + rr.2.2.2)) (kx : ∀ e, rr.1 = .inr e → r = (.inr e, rr.2.1, a, b)) : cAW true G X z0 r nL pc lo stk z kc ks := by
  intro H locs ls h1 hd h2 h3
  have hts := cC_hts C
  obtain ⟨hR1, hR2⟩ := cC_Rf C (k := rr.2.2.1) (n := rr.2.2.2) hdd hnl
  subst hs
  have hpre : PreS X.2.2.2.2.1 H (va_Pc As (cPre G z)) As := ⟨cPre_blind, fun U hU hW => ⟨rfl, cC_pre C h1 hd h2 U hU hW⟩⟩
  have hlen : ∀ sig, parseMethodDescriptor y.desc = some sig → As.length = sig.parameters.length := fun sig h => by
    have h2' := hh.2.2
    rw [h] at h2'
    exact (Option.some.inj h2').symm
  refine ca_afterX C (av := As) h1 hd h2 h3 kk (fun e he => ⟨kx e he, hk, hsl⟩) ?_
  exact vx_runS (n := As.length) (As := As) (ws := .code y cc' nL' ret' :: rgT) (rm := cRm d' rr.2.2.1 rr.2.2.2) (Ts := rgT) (own := own) ⟨C.1, C.2.1, C.2.2.1, cC_own C, hts⟩ hM ⟨⟨rfl, rfl, hR1, hR2, pay_in hts (rgT_cons w5), List.mem_cons_self, hts _ w5, hts _ w4, ⟨hh.1, hh.2.1⟩, hlen, hts _ w1⟩, hts _ w2⟩ hpre rfl rfl h3.1 rfl (lv_room hst) hdg (cC_fit C hk hsl)
/-! Math.max, Math.min -/
theorem ca_mmax (C : cC G X z0 own nL cc ret d a b) {index : Nat} {x y : Int32} (hdg : decode cc pc = .ok (.invokestatic index, 3)) (w1 : Cond.methodLink own index Lib.Math.max.name ∈ rgT) (w2 : Cond.static Lib.Math.max.name ∈ rgT) (w3 : Cond.initialized "java/lang/Math" ∈ rgT) (w4 : Cond.code Lib.Math.max.name Lib.Math.max.code 2 (some .int) ∈ rgT) (hd1 : 1 ≤ d) (hst : (st.map fun q => q.category).sum ≤ 8) (hk : kc ≤ a) (hs : ks ≤ b) (kk : cAW t G X z0 r nL (pc + 3) lo (.int (if x < y then y else x) :: st) z kc ks) : cAW t G X z0 r nL pc lo (.int y :: .int x :: st) z kc ks := by
  intro H locs ls h1 hd h2 h3
  have hts := cC_hts C
  have hR : X.2.2.2.1 = cRm d a b := cC_R C
  exact va_mmax C.1 C.2.1 (by rw [cC_ml C]; exact h3.1.symm) (cC_own C) (hts _ w1) (hts _ w2) (hts _ w3) (hts _ w4) (by rw [hR]; exact hd1) (by rw [hR]; show (st.map fun v => v.category).sum + 13 ≤ 60 * d; omega) (by rw [hR]; exact hk) (by rw [hR]; exact hs) hdg (kk H locs ls h1 hd h2 h3)
theorem ca_mmin (C : cC G X z0 own nL cc ret d a b) {index : Nat} {x y : Int32} (hdg : decode cc pc = .ok (.invokestatic index, 3)) (w1 : Cond.methodLink own index Lib.Math.min.name ∈ rgT) (w2 : Cond.static Lib.Math.min.name ∈ rgT) (w3 : Cond.initialized "java/lang/Math" ∈ rgT) (w4 : Cond.code Lib.Math.min.name Lib.Math.min.code 2 (some .int) ∈ rgT) (hd1 : 1 ≤ d) (hst : (st.map fun q => q.category).sum ≤ 8) (hk : kc ≤ a) (hs : ks ≤ b) (kk : cAW t G X z0 r nL (pc + 3) lo (.int (if y < x then y else x) :: st) z kc ks) : cAW t G X z0 r nL pc lo (.int y :: .int x :: st) z kc ks := by
  intro H locs ls h1 hd h2 h3
  have hts := cC_hts C
  have hR : X.2.2.2.1 = cRm d a b := cC_R C
  exact va_mmin C.1 C.2.1 (by rw [cC_ml C]; exact h3.1.symm) (cC_own C) (hts _ w1) (hts _ w2) (hts _ w3) (hts _ w4) (by rw [hR]; exact hd1) (by rw [hR]; show (st.map fun v => v.category).sum + 13 ≤ 60 * d; omega) (by rw [hR]; exact hk) (by rw [hR]; exact hs) hdg (kk H locs ls h1 hd h2 h3)
/-! a method from its entry -/
theorem cB_et {p : Program} {l : Launch} {y : MethodName} {S : Spec} {e : Env} {s : State} {m : MethodId} {args : Array Value} {below : List Frame} {meth : Method} {c : Code} {s₁ : State} {ws' : List Cond} {rm : Room} (hS : S = headSpec (.code y cc nL ret :: ws') rm) (B : BodyLoose p l y S cc nL ret e s m args below meth c s₁) : ∀ x ∈ c.exceptionTable.toList, False := by
  subst hS
  obtain ⟨meth9, c9, h1, h2, -, -, -, -, h7, -⟩ := Cond.code_spec B.named (atoms_spec (ws := .code y cc nL ret :: ws') B.pre _ List.mem_cons_self)
  cases Option.some.inj (h1.symm.trans B.method)
  cases Option.some.inj (h2.symm.trans (Stand.of_body B).code)
  intro x hx
  rw [Array.isEmpty_iff.mp h7] at hx
  cases hx
theorem cM_of {l : Launch} {y : MethodName} {av : List Value} {lo0 : List (Option Value)} {o : Option Value} {z' : cS} (hy : plainName y.cls = true) (hcls : y.cls = own) (hcat : cs1 av) (hsz : av.length ≤ nL) (hlo : av.map some ++ List.replicate (nL - av.length) none = lo0) (hl : l.stackTraces = false) (h : ∀ X : rX, X.2.1 = l → X.2.2.2.2.2.2.2.2.1.name = y.name → cC G X z own nL cc ret d a b → cAW false G X z (.inl o, z', a, b) nL 0 lo0 [] z 0 0) : cM l G d y cc nL ret av z (.inl o, z', a, b) := by
  refine Met.ofW (cc := cc) (maxL := nL) (ret := ret) hy rfl ?_
  intro p e s m args below meth c s₁ B hml hv
  obtain ⟨rfl, hH, hK, hNw, hSt, hZ⟩ := hv
  have hts := atoms_spec (ws := .code y cc nL ret :: rgT) B.pre
  have hown : s.vm.findClass own = some m.cls := by rw [← hcls]; exact findClass_of_methodNamed B.named
  rw [lg_entry_eq]
  have hl' := rLo_entry av (n := nL) hcat (by rw [cs1_sl hcat]; exact hsz)
  rw [hlo] at hl'
  exact h (p, l, e, cRm d a b, s, m, av.toArray, below, meth, c) rfl (name_of_methodNamed B.named B.method).1 ⟨B.exec, B.bytes, hml, hown, fun w hw => hts w (List.mem_cons_of_mem _ hw), hK, B.notSynchronized, B.returns, rfl, hNw, hSt, hZ, hH.1, hl, cB_et rfl B⟩ s.heap [] _ hH (fun q hq => Or.inl hq) va_S.rf hl'
theorem cMx_of {l : Launch} {y : MethodName} {av : List Value} {lo0 : List (Option Value)} {o : Option Value ⊕ Nat} {z' : cS} (hy : plainName y.cls = true) (hcls : y.cls = own) (hcat : cs1 av) (hsz : av.length ≤ nL) (hlo : av.map some ++ List.replicate (nL - av.length) none = lo0) (hl : l.stackTraces = false) (h : ∀ X : rX, X.2.1 = l → cC G X z own nL cc ret d a b → cAW true G X z (o, z', a, b) nL 0 lo0 [] z 0 0) : cMx l G d y cc nL ret av z (o, z', a, b) := by
  refine vx_ofW (cc := cc) (maxL := nL) (ret := ret) hy rfl ?_
  intro p e s m args below meth c s₁ B hml ht hv
  obtain ⟨rfl, hH, hK, hNw, hSt, hZ⟩ := hv
  have hts := atoms_spec (ws := .code y cc nL ret :: rgT) B.pre
  have hown : s.vm.findClass own = some m.cls := by rw [← hcls]; exact findClass_of_methodNamed B.named
  rw [lg_entry_eq]
  have hl' := rLo_entry av (n := nL) hcat (by rw [cs1_sl hcat]; exact hsz)
  rw [hlo] at hl'
  exact h (p, l, e, cRm d a b, s, m, av.toArray, below, meth, c) rfl ⟨B.exec, B.bytes, hml, hown, fun w hw => hts w (List.mem_cons_of_mem _ hw), hK, B.notSynchronized, B.returns, rfl, hNw, hSt, hZ, hH.1, hl, ht⟩ s.heap [] _ hH (fun q hq => Or.inl hq) va_S.rf hl'
end CInvoke
