/-! what the class's instructions do to the heap -/
def cgI (z : cS) (q ci j : Nat) : Option Int32 := if (z.1 q).map Prod.fst = some ci then some (z.2.1 q j) else none
def cgR (z : cS) (q ci j : Nat) : Option (Option Nat) := if (z.1 q).map Prod.fst = some ci then some (z.2.2.1 q j) else none
def cup (I : Nat → Nat → Int32) (q j : Nat) (v : Int32) : Nat → Nat → Int32 := fun p => if p = q then upd (I q) j v else I p
def cuR (P : Nat → Nat → Option Nat) (q j : Nat) (v : Option Nat) : Nat → Nat → Option Nat := fun p => if p = q then va_up (P q) j v else P p
def cpI (z : cS) (q ci j : Nat) (v : Int32) : Option cS := if (z.1 q).map Prod.fst = some ci then some (z.1, cup z.2.1 q j v, z.2.2.1, z.2.2.2) else none
/-- into a boolean field: 0 or 1 alone -/
def cpZ (z : cS) (q ci j : Nat) (v : Int32) : Option cS := if narrow .boolean (.int v) = .int v ∧ fits .boolean (.int v) = true then cpI z q ci j v else none
def cpR (z : cS) (q ci j : Nat) (v : Option Nat) : Option cS := if (z.1 q).map Prod.fst = some ci then some (z.1, z.2.1, cuR z.2.2.1 q j v, z.2.2.2) else none
def cAl (z : cS) (q k : Nat) : Option Nat := match z.1 q with
  | some (c, n) => if c = k then some n else none
  | none => none
def cldI (z : cS) (q : Nat) (i : Int32) : Option Int32 := Option.bind (cAl z q 8) fun n => if i < 0 ∨ n ≤ i.toNatClampNeg then none else some (z.2.1 q i.toNatClampNeg)
def cstI (z : cS) (q : Nat) (i v : Int32) : Option cS := Option.bind (cAl z q 8) fun n => if i < 0 ∨ n ≤ i.toNatClampNeg then none else some (z.1, cup z.2.1 q i.toNatClampNeg v, z.2.2.1, z.2.2.2)
def cldR (z : cS) (q k : Nat) (i : Int32) : Option (Option Nat) := Option.bind (cAl z q k) fun n => if i < 0 ∨ n ≤ i.toNatClampNeg then none else some (z.2.2.1 q i.toNatClampNeg)
def cEl : Nat → Nat := fun k => match k with
  | 10 => 0
  | 11 => 1
  | 12 => 2
  | _ => 5
def cstR (z : cS) (q k : Nat) (i : Int32) (v : Option Nat) : Option cS := Option.bind v fun w => if (z.1 w).map Prod.fst = some (cEl k) then Option.bind (cAl z q k) fun n => if i < 0 ∨ n ≤ i.toNatClampNeg then none else some (z.1, z.2.1, cuR z.2.2.1 q i.toNatClampNeg (some w), z.2.2.2) else none
def clen (z : cS) (q k : Nat) : Option Int32 := (cAl z q k).map Int32.ofNat
def cnw (z : cS) (ci n : Nat) : cS := (fun q => if q = z.2.2.2 then some (ci, n) else z.1 q, fun q => if q = z.2.2.2 then fun _ => 0 else z.2.1 q, fun q => if q = z.2.2.2 then fun _ => none else z.2.2.1 q, z.2.2.2 + 1)
/-- a new array: its length isn't negative, and not too large -/
def cna (z : cS) (k : Nat) (n : Int32) : Option cS := if n < 0 ∨ 100000 < n.toNatClampNeg then none else some (cnw z k n.toNatClampNeg)
theorem cgI_spec {z : cS} {q ci j : Nat} {x : Int32} (h : cgI z q ci j = some x) : (∃ n, z.1 q = some (ci, n)) ∧ x = z.2.1 q j := by
  unfold cgI at h
  split at h
  · rename_i hn
    cases hq : z.1 q with
    | none => rw [hq] at hn; cases hn
    | some p => obtain ⟨c, n⟩ := p; rw [hq] at hn; cases hn; exact ⟨⟨n, rfl⟩, (Option.some.inj h).symm⟩
  · cases h
theorem cgR_spec {z : cS} {q ci j : Nat} {x : Option Nat} (h : cgR z q ci j = some x) : (∃ n, z.1 q = some (ci, n)) ∧ x = z.2.2.1 q j := by
  unfold cgR at h
  split at h
  · rename_i hn
    cases hq : z.1 q with
    | none => rw [hq] at hn; cases hn
    | some p => obtain ⟨c, n⟩ := p; rw [hq] at hn; cases hn; exact ⟨⟨n, rfl⟩, (Option.some.inj h).symm⟩
  · cases h
theorem cpI_spec {z z' : cS} {q ci j : Nat} {v : Int32} (h : cpI z q ci j v = some z') : (∃ n, z.1 q = some (ci, n)) ∧ z' = (z.1, cup z.2.1 q j v, z.2.2.1, z.2.2.2) := by
  unfold cpI at h
  split at h
  · rename_i hn
    cases hq : z.1 q with
    | none => rw [hq] at hn; cases hn
    | some p => obtain ⟨c, n⟩ := p; rw [hq] at hn; cases hn; exact ⟨⟨n, rfl⟩, (Option.some.inj h).symm⟩
  · cases h
theorem cpZ_spec {z z' : cS} {q ci j : Nat} {v : Int32} (h : cpZ z q ci j v = some z') : (narrow .boolean (.int v) = .int v ∧ fits .boolean (.int v) = true) ∧ cpI z q ci j v = some z' := by
  unfold cpZ at h
  split at h
  · rename_i hn
    exact ⟨hn, h⟩
  · cases h
theorem cpR_spec {z z' : cS} {q ci j : Nat} {v : Option Nat} (h : cpR z q ci j v = some z') : (∃ n, z.1 q = some (ci, n)) ∧ z' = (z.1, z.2.1, cuR z.2.2.1 q j v, z.2.2.2) := by
  unfold cpR at h
  split at h
  · rename_i hn
    cases hq : z.1 q with
    | none => rw [hq] at hn; cases hn
    | some p => obtain ⟨c, n⟩ := p; rw [hq] at hn; cases hn; exact ⟨⟨n, rfl⟩, (Option.some.inj h).symm⟩
  · cases h
theorem cAl_spec {z : cS} {q k n : Nat} (h : cAl z q k = some n) : z.1 q = some (k, n) := by
  unfold cAl at h
  split at h
  · rename_i c m hq
    split at h
    · rename_i hc; cases h; rw [hq, hc]
    · cases h
  · cases h
theorem cldI_spec {z : cS} {q : Nat} {i x : Int32} (h : cldI z q i = some x) : ∃ n, z.1 q = some (8, n) ∧ vp_in i n ∧ x = z.2.1 q i.toNatClampNeg := by
  obtain ⟨n, h1, h2⟩ := rob h
  split at h2
  · cases h2
  · rename_i hn; exact ⟨n, cAl_spec h1, hn, (Option.some.inj h2).symm⟩
theorem cstI_spec {z z' : cS} {q : Nat} {i v : Int32} (h : cstI z q i v = some z') : ∃ n, z.1 q = some (8, n) ∧ vp_in i n ∧ z' = (z.1, cup z.2.1 q i.toNatClampNeg v, z.2.2.1, z.2.2.2) := by
  obtain ⟨n, h1, h2⟩ := rob h
  split at h2
  · cases h2
  · rename_i hn; exact ⟨n, cAl_spec h1, hn, (Option.some.inj h2).symm⟩
theorem cldR_spec {z : cS} {q k : Nat} {i : Int32} {x : Option Nat} (h : cldR z q k i = some x) : ∃ n, z.1 q = some (k, n) ∧ vp_in i n ∧ x = z.2.2.1 q i.toNatClampNeg := by
  obtain ⟨n, h1, h2⟩ := rob h
  split at h2
  · cases h2
  · rename_i hn; exact ⟨n, cAl_spec h1, hn, (Option.some.inj h2).symm⟩
theorem cstR_spec {z z' : cS} {q k : Nat} {i : Int32} {v : Option Nat} (h : cstR z q k i v = some z') : ∃ w m n, v = some w ∧ z.1 w = some (cEl k, m) ∧ z.1 q = some (k, n) ∧ vp_in i n ∧ z' = (z.1, z.2.1, cuR z.2.2.1 q i.toNatClampNeg (some w), z.2.2.2) := by
  obtain ⟨w, rfl, h2⟩ := rob h
  split at h2
  · rename_i hw
    obtain ⟨n, h3, h4⟩ := rob h2
    split at h4
    · cases h4
    · rename_i hn
      cases hq : z.1 w with
      | none => rw [hq] at hw; cases hw
      | some p => obtain ⟨c, m⟩ := p; rw [hq] at hw; cases hw; exact ⟨w, m, n, rfl, hq, cAl_spec h3, hn, (Option.some.inj h4).symm⟩
  · cases h2
theorem clen_spec {z : cS} {q k : Nat} {x : Int32} (h : clen z q k = some x) : ∃ n, z.1 q = some (k, n) ∧ x = Int32.ofNat n := by
  unfold clen at h
  cases hq : cAl z q k with
  | none => rw [hq] at h; cases h
  | some n => rw [hq] at h; exact ⟨n, cAl_spec hq, (Option.some.inj h).symm⟩
/-! cells -/
theorem cObj_len (ci : Nat) (f : Nat → Int32) (g : Nat → Option Nat) : (cObj ci f g).length = (cFlds ci).length := by simp [cObj]
theorem cObj_at (ci : Nat) (f : Nat → Int32) (g : Nat → Option Nat) {j : Nat} (hj : j < (cFlds ci).length) : (cObj ci f g)[j]? = some (if (cFlds ci).getD j false then va_rf (g j) else .int (f j)) := by
  simp [cObj, hj]
theorem cObj_setI (ci : Nat) (f : Nat → Int32) (g : Nat → Option Nat) {j : Nat} (v : Int32) (hj : j < (cFlds ci).length) (hb : (cFlds ci).getD j false = false) : (cObj ci f g).set j (.int v) = cObj ci (upd f j v) g := by
  apply List.ext_getElem?
  intro i
  by_cases hi : i = j
  · subst hi
    rw [List.getElem?_set_self (by rw [cObj_len]; exact hj), cObj_at _ _ _ hj, hb]
    simp [upd]
  · rw [List.getElem?_set_ne (Ne.symm hi)]
    by_cases hl : i < (cFlds ci).length
    · rw [cObj_at _ _ _ hl, cObj_at _ _ _ hl]
      simp [upd, hi]
    · rw [List.getElem?_eq_none (by rw [cObj_len]; omega), List.getElem?_eq_none (by rw [cObj_len]; omega)]
theorem cObj_setR (ci : Nat) (f : Nat → Int32) (g : Nat → Option Nat) {j : Nat} (v : Option Nat) (hj : j < (cFlds ci).length) (hb : (cFlds ci).getD j false = true) : (cObj ci f g).set j (va_rf v) = cObj ci f (va_up g j v) := by
  apply List.ext_getElem?
  intro i
  by_cases hi : i = j
  · subst hi
    rw [List.getElem?_set_self (by rw [cObj_len]; exact hj), cObj_at _ _ _ hj, hb]
    simp [va_up]
  · rw [List.getElem?_set_ne (Ne.symm hi)]
    by_cases hl : i < (cFlds ci).length
    · rw [cObj_at _ _ _ hl, cObj_at _ _ _ hl]
      simp [va_up, hi]
    · rw [List.getElem?_eq_none (by rw [cObj_len]; omega), List.getElem?_eq_none (by rw [cObj_len]; omega)]
theorem cH_obj {G : cG} {z : cS} {H : Heap} (h : cH G z H) {q ci n : Nat} (hq : z.1 q = some (ci, n)) (hc : ci < 8) : va_at G.1 vwCl (q, .inr (ci, cObj ci (z.2.1 q) (z.2.2.1 q))) H := by
  have := h.2 q ci n hq
  unfold cCell at this
  rw [if_pos hc] at this
  exact this
theorem cH_int {G : cG} {z : cS} {H : Heap} (h : cH G z H) {q n : Nat} (hq : z.1 q = some (8, n)) : va_at G.1 vwCl (q, .inl (G.2 8, n, .inl (z.2.1 q))) H := h.2 q 8 n hq
theorem cCell_ref (G : cG) {k : Nat} (n : Nat) (f : Nat → Int32) (g : Nat → Option Nat) (hk : 9 < k) : cCell G k n f g = .inl (G.2 k, n, .inr (.inr (.inr (.inr g)))) := by
  unfold cCell
  rw [if_neg (by omega), if_neg (by omega), if_neg (by omega)]
theorem cH_ref {G : cG} {z : cS} {H : Heap} (h : cH G z H) {q k n : Nat} (hq : z.1 q = some (k, n)) (hk : 9 < k) : va_at G.1 vwCl (q, .inl (G.2 k, n, .inr (.inr (.inr (.inr (z.2.2.1 q)))))) H := by
  have := h.2 q k n hq
  rw [cCell_ref G _ _ _ hk] at this
  exact this
/-- one cell is changed -/
theorem cH_chg {G : cG} {z z' : cS} {H H' : Heap} (h : cH G z H) {q ci n : Nat} (hq : z.1 q = some (ci, n)) (hk : z'.1 = z.1) (hx : z'.2.2.2 = z.2.2.2) (hsz : H'.size = H.size) (ho : ∀ p : Nat, p ≠ q → H'[p]? = H[p]?) (hI : ∀ p, p ≠ q → z'.2.1 p = z.2.1 p) (hP : ∀ p, p ≠ q → z'.2.2.1 p = z.2.2.1 p) (h0 : va_at G.1 vwCl (q, cCell G ci n (z'.2.1 q) (z'.2.2.1 q)) H') : cH G z' H' := by
  refine ⟨by rw [hsz, hx]; exact h.1, fun p c m hp => ?_⟩
  rw [hk] at hp
  by_cases hpq : p = q
  · subst hpq
    rw [hq] at hp
    cases hp
    exact h0
  · rw [hI p hpq, hP p hpq]
    exact (h.2 p c m hp).kept (ho p hpq)
theorem cH_lt {G : cG} {z : cS} {H : Heap} (h : cH G z H) {q : Nat} (hq : z.1 q ≠ none) : q < z.2.2.2 := by
  cases hz : z.1 q with
  | none => exact absurd hz hq
  | some p => obtain ⟨c, n⟩ := p; rw [← h.1]; exact (h.2 q c n hz).lt
/-- one cell comes -/
theorem cH_new {G : cG} {z : cS} {H H' : Heap} (h : cH G z H) {ci n : Nat} (hsz : H'.size = H.size + 1) (ho : ∀ p : Nat, p < H.size → H'[p]? = H[p]?) (h0 : va_at G.1 vwCl (H.size, cCell G ci n (fun _ => 0) (fun _ => none)) H') : cH G (cnw z ci n) H' := by
  refine ⟨by rw [hsz, h.1]; rfl, fun p c m hp => ?_⟩
  have e : (cnw z ci n).1 p = if p = z.2.2.2 then some (ci, n) else z.1 p := rfl
  have eI : (cnw z ci n).2.1 p = if p = z.2.2.2 then fun _ => 0 else z.2.1 p := rfl
  have eP : (cnw z ci n).2.2.1 p = if p = z.2.2.2 then fun _ => none else z.2.2.1 p := rfl
  rw [e] at hp
  rw [eI, eP]
  by_cases hpq : p = z.2.2.2
  · rw [if_pos hpq] at hp ⊢
    rw [if_pos hpq]
    cases hp
    rw [hpq, ← h.1]
    exact h0
  · rw [if_neg hpq] at hp ⊢
    rw [if_neg hpq]
    have := h.2 p c m hp
    exact this.kept (ho p this.lt)
theorem cDom_new {z0 z : cS} (hd : cDom z0 z) (hn : z0.2.2.2 ≤ z.2.2.2) (ci n : Nat) : cDom z0 (cnw z ci n) := by
  intro q hq
  have e : (cnw z ci n).1 q = if q = z.2.2.2 then some (ci, n) else z.1 q := rfl
  rw [e] at hq
  by_cases hpq : q = z.2.2.2
  · exact Or.inr (by rw [hpq]; exact hn)
  · rw [if_neg hpq] at hq
    exact hd q hq
/-! where a field lies: own class, pool place, kind of the object, slot -/
def cFL (own : String) (idx ci j : Nat) : Prop := ∃ (Cn : String) (T : u_T) (N : Nat), vwCl[ci]? = some (Cn, T, N) ∧ (∀ w ∈ u_ws Cn T N, w ∈ rgT) ∧ j < N ∧ N = (cFlds ci).length ∧ ci < 8 ∧ (∃ ty0 : Nat → FieldType, (∀ k, k < N → parseFieldDescriptor (T k).2.2.1 = some (ty0 k)) ∧ (∀ a, a < N → ∀ b, b < N → a ≠ b → (T a).2.1 ≠ (T b).2.1) ∧ ((cFlds ci).getD j false = true → ((∃ n, ty0 j = .object n) ∨ ∃ t, ty0 j = .array t)) ∧ ((cFlds ci).getD j false = false → ty0 j = .int ∨ ty0 j = .boolean)) ∧
  (Cond.fieldLink own idx (T j).1 (T j).2.1 (T j).2.2.1 ∈ rgT ∨ ∃ host, Cond.fieldLinkNest own idx (T j).1 (T j).2.1 (T j).2.2.1 host ∈ cNl)
section CHeap
variable {t : Bool} {G : cG} {X : rX} {z0 z : cS} {own : String} {nL d a b : Nat} {cc : ByteArray} {ret : Option FieldType} {r : cR} {pc : Nat} {lo : List (Option Value)} {st : List Value} {kc ks : Nat}
theorem ca_get (C : cC G X z0 own nL cc ret d a b) {idx q ci j : Nat} {x : Value} (hdg : decode cc pc = .ok (.getfield idx, 3)) (hF : cFL own idx ci j) (hq : ∃ n, z.1 q = some (ci, n)) (hx : (cObj ci (z.2.1 q) (z.2.2.1 q))[j]? = some x) (kk : cAW t G X z0 r nL (pc + 3) lo (x :: st) z kc ks) : cAW t G X z0 r nL pc lo (.ref q :: st) z kc ks := by
  intro H locs ls h1 hd h2 h3
  obtain ⟨n, hq⟩ := hq
  obtain ⟨Cn, T, N, f1, f2, f3, f4, f5, -, fl⟩ := hF
  have hP := rP1 (cH_obj h1 hq f5)
  have k' := kk H locs ls h1 hd h2 h3
  rcases fl with fl | ⟨host, fl⟩
  · exact va_get (D := G.1) (cl := vwCl) (tys := cTys G) (own := own) (ref := (T j).1) (Ts := rgT) C.1 C.2.1 (cC_hts C) f2 (cC_own C) (cC_K C) hP 0 rfl f1 j f3 (cC_hts C _ fl) (fun x q => q) hx hdg k'
  · exact va_getN (D := G.1) (cl := vwCl) (tys := cTys G) (own := own) (ref := (T j).1) (host := host) (Ts := rgT) C.1 C.2.1 (cC_hts C) f2 (cC_own C) (cC_K C) hP 0 rfl f1 j f3 (va_Nw.use rfl (cC_Nw C _ fl)) (fun x q => q) hx hdg k'
theorem ca_getI (C : cC G X z0 own nL cc ret d a b) {idx q ci j : Nat} {x : Int32} {y : Option Nat} (hdg : decode cc pc = .ok (.getfield idx, 3)) (hF : cFL own idx ci j) (hb : (cFlds ci).getD j false = false) (hy : y = some q) (hx : cgI z q ci j = some x) (kk : cAW t G X z0 r nL (pc + 3) lo (.int x :: st) z kc ks) : cAW t G X z0 r nL pc lo (va_rf y :: st) z kc ks := by
  subst hy
  obtain ⟨hq, rfl⟩ := cgI_spec hx
  refine ca_get C hdg hF hq ?_ kk
  obtain ⟨Cn, T, N, f1, f2, f3, f4, f5, -, fl⟩ := hF
  rw [cObj_at _ _ _ (by rw [← f4]; exact f3), hb]
  rfl
theorem ca_getR (C : cC G X z0 own nL cc ret d a b) {idx q ci j : Nat} {x : Option Nat} {y : Option Nat} (hdg : decode cc pc = .ok (.getfield idx, 3)) (hF : cFL own idx ci j) (hb : (cFlds ci).getD j false = true) (hy : y = some q) (hx : cgR z q ci j = some x) (kk : cAW t G X z0 r nL (pc + 3) lo (va_rf x :: st) z kc ks) : cAW t G X z0 r nL pc lo (va_rf y :: st) z kc ks := by
  subst hy
  obtain ⟨hq, rfl⟩ := cgR_spec hx
  refine ca_get C hdg hF hq ?_ kk
  obtain ⟨Cn, T, N, f1, f2, f3, f4, f5, -, fl⟩ := hF
  rw [cObj_at _ _ _ (by rw [← f4]; exact f3), hb]
  rfl
theorem ca_iald (C : cC G X z0 own nL cc ret d a b) {q : Nat} {i x : Int32} {y : Option Nat} (hdg : decode cc pc = .ok (.iaload, 1)) (hy : y = some q) (hx : cldI z q i = some x) (kk : cAW t G X z0 r nL (pc + 1) lo (.int x :: st) z kc ks) : cAW t G X z0 r nL pc lo (.int i :: va_rf y :: st) z kc ks := by
  subst hy
  intro H locs ls h1 hd h2 h3
  obtain ⟨n, hq, hin, rfl⟩ := cldI_spec hx
  exact va_iald (D := G.1) (cl := vwCl) (tys := cTys G) C.1 C.2.1 (cC_K C) (rP1 (cH_int h1 hq)) 0 0 rfl rfl hin hdg (kk H locs ls h1 hd h2 h3)
def cTi : Nat → Nat := fun k => match k with
  | 8 => 0
  | 10 => 1
  | 11 => 2
  | 12 => 3
  | _ => 4
def cKok (k : Nat) : Prop := k = 10 ∨ k = 11 ∨ k = 12 ∨ k = 13
theorem cTi_ok (G : cG) {k : Nat} (hk : cKok k) : ∃ Cn T N, vwCl[cEl k]? = some (Cn, T, N) ∧ (cTys G)[cTi k]? = some (G.2 k, .object Cn) ∧ 9 < k ∧ cEl k < 8 := by
  rcases hk with rfl | rfl | rfl | rfl
  · exact ⟨RX0, TX0, 5, rfl, rfl, by decide, by decide⟩
  · exact ⟨RX1, TX1, 2, rfl, rfl, by decide, by decide⟩
  · exact ⟨RX2, TX2, 4, rfl, rfl, by decide, by decide⟩
  · exact ⟨RX5, TX5, 7, rfl, rfl, by decide, by decide⟩
theorem ca_aald (C : cC G X z0 own nL cc ret d a b) {q k : Nat} {i : Int32} {x y : Option Nat} (hdg : decode cc pc = .ok (.aaload, 1)) (hy : y = some q) (hx : cldR z q k i = some x) (hk : cKok k) (kk : cAW t G X z0 r nL (pc + 1) lo (va_rf x :: st) z kc ks) : cAW t G X z0 r nL pc lo (.int i :: va_rf y :: st) z kc ks := by
  subst hy
  intro H locs ls h1 hd h2 h3
  obtain ⟨n, hq, hin, rfl⟩ := cldR_spec hx
  obtain ⟨Cn, T, N, -, g2, g3, -⟩ := cTi_ok G hk
  exact va_aldq (D := G.1) (cl := vwCl) (tys := cTys G) C.1 C.2.1 (cC_K C) (rP1 (cH_ref h1 hq g3)) 0 (cTi k) rfl g2 hin hdg (kk H locs ls h1 hd h2 h3)
theorem ca_alenI (C : cC G X z0 own nL cc ret d a b) {q : Nat} {x : Int32} {y : Option Nat} (hdg : decode cc pc = .ok (.arraylength, 1)) (hy : y = some q) (hx : clen z q 8 = some x) (kk : cAW t G X z0 r nL (pc + 1) lo (.int x :: st) z kc ks) : cAW t G X z0 r nL pc lo (va_rf y :: st) z kc ks := by
  subst hy
  intro H locs ls h1 hd h2 h3
  obtain ⟨n, hq, rfl⟩ := clen_spec hx
  exact va_alen (D := G.1) (cl := vwCl) (tys := cTys G) C.1 C.2.1 (cC_K C) (rP1 (cH_int h1 hq)) 0 0 rfl rfl rfl hdg (kk H locs ls h1 hd h2 h3)
theorem ca_alenR (C : cC G X z0 own nL cc ret d a b) {q k : Nat} {x : Int32} {y : Option Nat} (hdg : decode cc pc = .ok (.arraylength, 1)) (hy : y = some q) (hx : clen z q k = some x) (hk : cKok k) (kk : cAW t G X z0 r nL (pc + 1) lo (.int x :: st) z kc ks) : cAW t G X z0 r nL pc lo (va_rf y :: st) z kc ks := by
  subst hy
  intro H locs ls h1 hd h2 h3
  obtain ⟨n, hq, rfl⟩ := clen_spec hx
  obtain ⟨Cn, T, N, -, g2, g3, -⟩ := cTi_ok G hk
  exact va_alen (D := G.1) (cl := vwCl) (tys := cTys G) C.1 C.2.1 (cC_K C) (rP1 (cH_ref h1 hq g3)) 0 (cTi k) rfl g2 rfl hdg (kk H locs ls h1 hd h2 h3)
end CHeap
