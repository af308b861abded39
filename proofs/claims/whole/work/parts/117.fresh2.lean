/-! FINER: a sig's row and a struct's that is made of none are matched alike -/
def rk (Y : List En) (p : Nat) : Nat := (Y.take p).countP (fun e => decide (e.1 = 0))
def Dom (Y : List En) (m : Nat) (x : Int32) : Prop := (∃ j, j < m ∧ x = nI j) ∨ ∃ (p : Nat) (e : En), Y[p]? = some e ∧ e.1 = 0 ∧ e.2.2.1 = -100 ∧ x = -1 - e.2.1
def sees (Y : List En) (m : Nat) (x : Int32) : Prop := (∃ j, j < m ∧ x = nI j) ∨ ∃ (p : Nat) (e : En), Y[p]? = some e ∧ e.1 = 0 ∧ x = -1 - e.2.1
def PsiD (Y : List En) (m : Nat) (z : Int32 ⊕ (Int32 × Int32)) : Prop := match z with
  | .inl x => Dom Y m x
  | .inr y => Dom Y m y.1 ∧ Dom Y m y.2
def Psi (L : List En) (z : Int32 ⊕ (Int32 × Int32)) : Int32 ⊕ (Int32 × Int32) := match z with
  | .inl x => .inl (tyO L x)
  | .inr y => .inr (tyO L y.1, tyO L y.2)
section FreshM
variable {m n g k u q i m2 k2 : Nat} {T0 T : List TyD} {R R2 : Nat → Option RowD} {Rel : Nat → Nat → Prop} {Y L Z : List En} {x y : Int32}
theorem ty10 (hu : Uq Y) (hk : ∀ (p : Nat) (e : En), Y[p]? = some e → isNm e.2.1) : Y.countP (fun e => decide (e.1 = 0)) ≤ 10 := by
  rw [List.countP_eq_length_filter]
  have hp : Y.Pairwise (fun a b => a.1 = 0 → b.1 = 0 → iN a.2.1 ≠ iN b.2.1) := by
    rw [List.pairwise_iff_getElem]
    intro i j hi hj hij h1 h2 heq
    have e1 := List.getElem?_eq_getElem hi
    have e2 := List.getElem?_eq_getElem hj
    have n1 := nm_num (hk _ _ e1)
    have n2 := nm_num (hk _ _ e2)
    have := hu i j _ _ e1 e2 (by rw [h1, h2]) (by rw [n1.2, n2.2, heq])
    omega
  have hf := hp.filter (fun e => decide (e.1 = 0))
  have hnd : ((Y.filter (fun e => decide (e.1 = 0))).map (fun e => iN e.2.1)).Nodup := by
    unfold List.Nodup
    rw [List.pairwise_map]
    refine hf.imp_of_mem (fun {a b} ha hb h => ?_)
    exact h (of_decide_eq_true (List.mem_filter.mp ha).2) (of_decide_eq_true (List.mem_filter.mp hb).2)
  have := len_nodup 10 _ hnd (fun x hx => by
    obtain ⟨e, he, rfl⟩ := List.mem_map.mp hx
    obtain ⟨p, hp⟩ := List.mem_iff_getElem?.mp (List.mem_filter.mp he).1
    exact (nm_num (hk _ _ hp)).1)
  rwa [List.length_map] at this
theorem rk_lt {p r : Nat} {e : En} (hr : r < p) (he : Y[r]? = some e) (h0 : e.1 = 0) : rk Y r + 1 ≤ rk Y p := by
  unfold rk
  obtain ⟨hl, h9⟩ := List.getElem?_eq_some_iff.mp he
  have h1 : (Y.take (r + 1)).countP (fun e => decide (e.1 = 0)) = (Y.take r).countP (fun e => decide (e.1 = 0)) + 1 := by
    rw [← List.take_append_getElem hl, List.countP_append, h9]
    simp [h0]
  have h2 : (Y.take p).take (r + 1) = Y.take (r + 1) := by rw [List.take_take, Nat.min_eq_left (by omega)]
  have h3 : ((Y.take p).take (r + 1)).countP (fun e => decide (e.1 = 0)) ≤ (Y.take p).countP (fun e => decide (e.1 = 0)) := List.Sublist.countP_le (List.take_sublist _ _)
  rw [h2, h1] at h3
  exact h3
theorem rk_9 (hY : WfG m i Y) {p : Nat} {e : En} (he : Y[p]? = some e) (h0 : e.1 = 0) : rk Y p < 11 := by
  have h1 : rk Y p + 1 ≤ rk Y (p + 1) := rk_lt (Nat.lt_succ_self p) he h0
  have h2 : rk Y (p + 1) ≤ Y.countP (fun e => decide (e.1 = 0)) := List.Sublist.countP_le (List.take_sublist _ _)
  have h3 := ty10 hY.1 (fun p e he => (hY.2 p e he).1)
  omega
theorem rsv (hY : WfG m i Y) (hm : m < 2 ^ 31) (hL : WfS m2 k2 L) (hm2 : m2 < 2 ^ 31) (hl : L.length = Y.length) (hC : Corr Y L m T Rel) : ∀ (p : Nat) (e : En), Y[p]? = some e → e.1 = 0 → ∀ k, rk Y p < k → Dom Y m (tyF k Y (-1 - e.2.1)) ∧ tyO L (tyF k Y (-1 - e.2.1)) = tyO L (-1 - e.2.1) := by
  intro p
  induction p using Nat.strongRecOn with
  | _ p ih =>
    intro e he h0 k hk
    cases k with
    | zero => omega
    | succ k =>
      have hn := (hY.2 p e he).1
      have hp : plc Y 0 e.2.1 = some p := plc_of hY.1 he h0 rfl
      have htf : tyF (k + 1) Y (-1 - e.2.1) = if e.2.2.1 = -100 then (-1 - e.2.1) else tyF k Y e.2.2.1 := by
        show (if 0 ≤ (-1 - e.2.1 : Int32) then (-1 - e.2.1 : Int32) else match plc Y 0 (-1 - (-1 - e.2.1)) with
          | none => -200
          | some p => match Y[p]? with
            | none => -200
            | some e' => if e'.2.2.1 = -100 then (-1 - e.2.1 : Int32) else tyF k Y e'.2.2.1) = _
        rw [if_neg (neg_ge.mp (nm_neg hn)), m1m1, hp]
        show (match Y[p]? with
            | none => (-200 : Int32)
            | some e' => if e'.2.2.1 = -100 then (-1 - e.2.1 : Int32) else tyF k Y e'.2.2.1) = _
        rw [he]
      rw [htf]
      by_cases h1 : e.2.2.1 = -100
      · rw [if_pos h1]
        exact ⟨Or.inr ⟨p, e, he, h0, h1, rfl⟩, rfl⟩
      · rw [if_neg h1]
        have hpl := (List.getElem?_eq_some_iff.mp he).1
        obtain ⟨l, hl9⟩ : ∃ l, L[p]? = some l := ⟨_, List.getElem?_eq_getElem (by omega)⟩
        obtain ⟨a1, a2, a3, a4, a5, -⟩ := hC.1 p l e hl9 he
        have hval : tyO L (-1 - e.2.1) = tyO L e.2.2.1 := by
          obtain ⟨y, i, y1, y2, y3, -, y4, y5, -⟩ := tyO_nm hL hm2 hn (plc_of hL.1 hl9 (a1.trans h0) a2)
          rw [hl9] at y1
          cases y1
          rw [y5, ← y4, a5 h0 h1]
        rw [hval]
        rcases (gE_told (hY.2 p e he) (Or.inl h0) (fun _ => h1)).1 with ⟨j, hj, hj2⟩ | ⟨r, e', hr, he', h0', hx⟩
        · rw [hj2, tyF_nn (nI_pos' (by omega))]
          exact ⟨Or.inl ⟨j, hj, rfl⟩, rfl⟩
        · rw [hx]
          exact ih r hr e' he' h0' k (by have := rk_lt hr he' h0'; omega)
theorem rsvO (hY : WfG m i Y) (hm : m < 2 ^ 31) (hL : WfS m2 k2 L) (hm2 : m2 < 2 ^ 31) (hl : L.length = Y.length) (hC : Corr Y L m T Rel) (hx : sees Y m x) : Dom Y m (tyO Y x) ∧ tyO L (tyO Y x) = tyO L x := by
  rcases hx with ⟨j, hj, rfl⟩ | ⟨p, e, he, h0, rfl⟩
  · rw [tyO_nI (X := Y) (by omega)]
    exact ⟨Or.inl ⟨j, hj, rfl⟩, rfl⟩
  · rw [show tyO Y (-1 - e.2.1) = tyF 11 Y (-1 - e.2.1) from if_neg (nm_100 (hY.2 p e he).1)]
    exact rsv hY hm hL hm2 hl hC p e he h0 11 (rk_9 hY he h0)
theorem dom_L (hY : WfG m i Y) (hm : m < 2 ^ 31) (hL : WfS m2 k2 L) (hm2 : m2 < 2 ^ 31) (hl : L.length = Y.length) (hC : Corr Y L m T Rel) (hT : T.length < 2 ^ 31) (hx : Dom Y m x) : (∃ j, j < m ∧ x = nI j ∧ tyO L x = nI j) ∨ ∃ (p : Nat) (e l : En) (j : Nat), Y[p]? = some e ∧ L[p]? = some l ∧ e.1 = 0 ∧ e.2.2.1 = -100 ∧ x = -1 - e.2.1 ∧ m ≤ j ∧ j < 2 ^ 31 ∧ l.2.2.1 = nI j ∧ T[j]? = some none ∧ tyO L x = nI j := by
  rcases hx with ⟨j, hj, rfl⟩ | ⟨p, e, he, h0, h1, rfl⟩
  · exact Or.inl ⟨j, hj, rfl, tyO_nI (by omega)⟩
  · have hpl := (List.getElem?_eq_some_iff.mp he).1
    obtain ⟨l, hl9⟩ : ∃ l, L[p]? = some l := ⟨_, List.getElem?_eq_getElem (by omega)⟩
    obtain ⟨a1, a2, a3, a4, a5, -⟩ := hC.1 p l e hl9 he
    obtain ⟨j, j1, j2, j3⟩ := a4 h0 h1
    obtain ⟨y, i', y1, y2, y3, y7, y4, y5, -⟩ := tyO_nm hL hm2 (hY.2 p e he).1 (plc_of hL.1 hl9 (a1.trans h0) a2)
    rw [hl9] at y1
    cases y1
    have hj := (List.getElem?_eq_some_iff.mp j3).1
    exact Or.inr ⟨p, e, l, j, he, hl9, h0, h1, rfl, j1, by omega, j2, j3, by rw [y5, ← y4, j2]⟩
theorem dom_inj (hY : WfG m i Y) (hm : m < 2 ^ 31) (hL : WfS m2 k2 L) (hm2 : m2 < 2 ^ 31) (hl : L.length = Y.length) (hC : Corr Y L m T Rel) (hT : T.length < 2 ^ 31) (hx : Dom Y m x) (hy : Dom Y m y) : tyO L x = tyO L y ↔ x = y := by
  refine ⟨fun h => ?_, fun h => by rw [h]⟩
  rcases dom_L hY hm hL hm2 hl hC hT hx with ⟨j, j1, j2, j3⟩ | ⟨p, e, l, j, p1, p2, p3, p4, p5, p6, p7, p8, p9, p10⟩ <;> rcases dom_L hY hm hL hm2 hl hC hT hy with ⟨r, r1, r2, r3⟩ | ⟨q, f, l', r, q1, q2, q3, q4, q5, q6, q7, q8, q9, q10⟩
  · rw [j2, r2, ← j3, ← r3, h]
  · rw [j3, q10] at h
    have := (nI_eq (by omega) q7).mp h
    omega
  · rw [p10, r3] at h
    have := (nI_eq p7 (by omega)).mp h
    omega
  · rw [p10, q10] at h
    have hpq := hC.2 p q l l' e f p2 q2 p1 q1 p3 q3 p4 q4 (by rw [p8, q8, h])
    subst hpq
    rw [p1] at q1
    cases q1
    rw [p5, q5]
theorem dom_100 (hY : WfG m i Y) (hm : m < 2 ^ 31) (hx : Dom Y m x) : x ≠ -100 := by
  rcases hx with ⟨j, hj, rfl⟩ | ⟨p, e, he, h0, h1, rfl⟩
  · exact nI_n100 (by omega)
  · exact nm_100 (hY.2 p e he).1
theorem psi_inj (hY : WfG m i Y) (hm : m < 2 ^ 31) (hL : WfS m2 k2 L) (hm2 : m2 < 2 ^ 31) (hl : L.length = Y.length) (hC : Corr Y L m T Rel) (hT : T.length < 2 ^ 31) {z w : Int32 ⊕ (Int32 × Int32)} (hz : PsiD Y m z) (hw : PsiD Y m w) : Psi L z = Psi L w ↔ z = w := by
  refine ⟨fun h => ?_, fun h => by rw [h]⟩
  cases z with
  | inl a =>
    cases w with
    | inl b => rw [(dom_inj hY hm hL hm2 hl hC hT hz hw).mp (Sum.inl.inj h)]
    | inr b => cases h
  | inr a =>
    cases w with
    | inl b => cases h
    | inr b =>
      obtain ⟨a1, a2⟩ := a
      obtain ⟨b1, b2⟩ := b
      have h9 := Sum.inr.inj h
      have h1 := congrArg Prod.fst h9
      have h2 := congrArg Prod.snd h9
      have h3 : a1 = b1 := (dom_inj hY hm hL hm2 hl hC hT hz.1 hw.1).mp h1
      have h4 : a2 = b2 := (dom_inj hY hm hL hm2 hl hC hT hz.2 hw.2).mp h2
      rw [h3, h4]
theorem nrm_fr (hw : TyW T0) (hm0 : m = T0.length) (hpre : T0 <+: T) (hY : WfG m i Y) (hm : m < 2 ^ 31) (hL : WfS m2 k2 L) (hm2 : m2 < 2 ^ 31) (hl : L.length = Y.length) (hC : Corr Y L m T Rel) (hT : T.length < 2 ^ 31) {t o : Int32} (ht : sees Y m t) (ho : o = -100 ∨ (o ≠ -100 ∧ sees Y m o)) : nrm T (tyO L t) (tyT L o) = Psi L (nrm T0 (tyO Y t) (tyT Y o)) ∧ PsiD Y m (nrm T0 (tyO Y t) (tyT Y o)) := by
  obtain ⟨d1, d2⟩ := rsvO hY hm hL hm2 hl hC ht
  rw [← d2]
  generalize tyO Y t = x at *
  unfold nrm tyT
  rcases ho with ho | ⟨ho, hos⟩
  · rw [if_pos ho, if_pos ho, if_pos rfl, if_pos rfl]
    rcases dom_L hY hm hL hm2 hl hC hT d1 with ⟨j, j1, j2, j3⟩ | ⟨p, e, l, j, p1, p2, p3, p4, p5, p6, p7, p8, p9, p10⟩
    · have hj : j < T0.length := by omega
      have hg := List.getElem?_eq_getElem hj
      rw [j3, j2, tyd_t hT (pre_get hpre hg), tyd_t (by omega) hg]
      generalize T0[j] = d at hg
      cases d with
      | none =>
        refine ⟨?_, Or.inl ⟨j, j1, rfl⟩⟩
        show Sum.inl (nI j) = Sum.inl (tyO L (nI j))
        rw [tyO_nI (by omega)]
      | some z =>
        obtain ⟨a, c⟩ := z
        obtain ⟨a', c', h1, h2, h3, h4⟩ := hw.2.2.2.1 j a c hg
        refine ⟨?_, Or.inl ⟨a', by omega, h3⟩, Or.inl ⟨c', by omega, h4⟩⟩
        show Sum.inr (a, c) = Sum.inr (tyO L a, tyO L c)
        rw [h3, h4, tyO_nI (by omega), tyO_nI (by omega)]
    · rw [p10, tyd_t hT p9, p5, tyd_f (Or.inl (nm_neg (hY.2 p e p1).1))]
      refine ⟨?_, Or.inr ⟨p, e, p1, p3, p4, rfl⟩⟩
      show Sum.inl (nI j) = Sum.inl (tyO L (-1 - e.2.1))
      rw [← p5, p10]
  · obtain ⟨c1, c2⟩ := rsvO hY hm hL hm2 hl hC hos
    rw [if_neg ho, if_neg ho, ← c2]
    generalize tyO Y o = c at *
    have hc : tyO L c ≠ -100 := by
      rcases dom_L hY hm hL hm2 hl hC hT c1 with ⟨j, j1, j2, j3⟩ | ⟨p, e, l, j, p1, p2, p3, p4, p5, p6, p7, p8, p9, p10⟩
      · rw [j3]; exact nI_n100 (by omega)
      · rw [p10]; exact nI_n100 p7
    rw [if_neg hc, if_neg (dom_100 hY hm c1)]
    exact ⟨rfl, d1, c1⟩
theorem sees_of (ht : tells Y Z q) {j : Nat} (hZ : WfG m j Z) (h : tOK m Z q x) : sees Y m x := by
  rcases h with ⟨j, hj, rfl⟩ | ⟨r, e, hr, he, h0, rfl⟩
  · exact Or.inl ⟨j, hj, rfl⟩
  · cases hp : plc Y 0 e.2.1 with
    | none => exact absurd hp (ht r e hr he h0)
    | some p =>
      obtain ⟨y, y1, y2, y3⟩ := plc_some hp
      exact Or.inr ⟨p, y, y1, y2, by rw [y3]⟩
theorem sees_own {p : Nat} (h : tOK m Y p x) : sees Y m x := by
  rcases h with ⟨j, hj, rfl⟩ | ⟨r, e, hr, he, h0, rfl⟩
  · exact Or.inl ⟨j, hj, rfl⟩
  · exact Or.inr ⟨r, e, he, h0, rfl⟩
theorem fit_fr (hw : TyW T0) (hm0 : m = T0.length) (hpre : T0 <+: T) (hY : WfG m i Y) (hm : m < 2 ^ 31) (hL : WfS m2 k2 L) (hm2 : m2 < 2 ^ 31) (hl : L.length = Y.length) (hC : Corr Y L m T Rel) (hT : T.length < 2 ^ 31) {j p : Nat} (hZ : WfG m j Z) (ht : tells Y Z q) {y l e : En} (he : Z[q]? = some e) (hy : Y[p]? = some y) (hll : L[p]? = some l) (h1 : y.1 = e.1) (h2 : y.2.1 = e.2.1) (h3 : e.1 ≠ 2) : fitC T0 Y y e = fitC T L l e := by
  have hE := hZ.2 q e he
  obtain ⟨a1, a2, a3, a4, a5, a6, a7⟩ := hC.1 p l y hll hy
  unfold fitC
  by_cases h0 : e.1 = 0
  · rw [if_pos h0, if_pos h0]
    by_cases h4 : e.2.2.1 = -100
    · rw [decide_eq_true (Or.inl h4), decide_eq_true (Or.inl h4)]
    · obtain ⟨t1, -⟩ := gE_told hE (Or.inl h0) (fun _ => h4)
      obtain ⟨d1, d2⟩ := rsvO hY hm hL hm2 hl hC (sees_of ht hZ t1)
      obtain ⟨c1, c2⟩ := rsvO hY hm hL hm2 hl hC (x := -1 - e.2.1) (Or.inr ⟨p, y, hy, h1.trans h0, by rw [h2]⟩)
      have := dom_inj hY hm hL hm2 hl hC hT c1 d1
      rw [d2, c2] at this
      exact decide_eq_decide.mpr ⟨fun h => h.imp id this.mpr, fun h => h.imp id this.mp⟩
  · rw [if_neg h0, if_neg h0]
    have he1 : e.1 = 1 := by
      rcases hE.kind.1 with h | h | h
      · exact absurd h h0
      · exact h
      · exact absurd h h3
    have hy1 : y.1 = 1 := h1.trans he1
    have ny : y.1 = 0 → y.2.2.1 ≠ -100 := fun h => by rw [hy1] at h; exact absurd h (by decide)
    obtain ⟨t1, t2⟩ := gE_told hE (Or.inr he1) (fun h => absurd h h0)
    obtain ⟨u1, u2⟩ := gE_told (hY.2 p y hy) (Or.inr hy1) ny
    have em : ∀ z : Int32, z = -100 ∨ z ≠ -100 := fun z => Classical.em _
    obtain ⟨n1, n2⟩ := nrm_fr hw hm0 hpre hY hm hL hm2 hl hC hT (sees_of ht hZ t1) ((em e.2.2.2.1).imp id (fun h => ⟨h, sees_of ht hZ (t2 h)⟩))
    have hown : nrm T (tyO L l.2.2.1) (tyT L l.2.2.2.1) = Psi L (nrm T0 (tyO Y y.2.2.1) (tyT Y y.2.2.2.1)) ∧ PsiD Y m (nrm T0 (tyO Y y.2.2.1) (tyT Y y.2.2.2.1)) := by
      obtain ⟨v1, v2⟩ := nrm_fr hw hm0 hpre hY hm hL hm2 hl hC hT (sees_own u1) ((em y.2.2.2.1).imp id (fun h => ⟨h, sees_own (u2 h)⟩))
      refine ⟨Eq.trans ?_ v1, v2⟩
      obtain ⟨w1, w2⟩ := a6 hy1
      have e100 : tyT L l.2.2.2.1 = -100 := by rw [a3]; exact if_pos rfl
      obtain ⟨j9, hj9, hj8⟩ : ∃ j, j < 2 ^ 31 ∧ l.2.2.1 = nI j := by
        obtain ⟨j, hj, hj2⟩ := (hL.2 p l hll).2.2.2.1 (by rw [a1, hy1]; exact i12)
        exact ⟨j, by omega, hj2⟩
      rw [e100]
      rcases em y.2.2.2.1 with h | h
      · have := w1 h
        rw [show tyT L y.2.2.2.1 = -100 from if_pos h, ← this, hj8, tyO_nI hj9]
      · obtain ⟨j, j1, j2⟩ := w2 h
        have hjl := (List.getElem?_eq_some_iff.mp j2).1
        obtain ⟨c1, c2⟩ := rsvO hY hm hL hm2 hl hC (sees_own (u2 h))
        have hc : tyO L y.2.2.2.1 ≠ -100 := by
          rw [← c2]
          rcases dom_L hY hm hL hm2 hl hC hT c1 with ⟨j, j1, j2, j3⟩ | ⟨p, e, l, j, p1, p2, p3, p4, p5, p6, p7, p8, p9, p10⟩
          · rw [j3]; exact nI_n100 (by omega)
          · rw [p10]; exact nI_n100 p7
        rw [show tyT L y.2.2.2.1 = tyO L y.2.2.2.1 from if_neg h, j1, tyO_nI (by omega)]
        unfold nrm
        rw [if_pos rfl, if_neg hc, tyd_t hT j2]
    have := psi_inj hY hm hL hm2 hl hC hT hown.2 n2
    rw [hown.1, n1]
    exact decide_eq_decide.mpr this.symm
theorem plc_same (hY : WfG m i Y) (hL : WfS m2 k2 L) (hl : L.length = Y.length) (hC : Corr Y L m T Rel) (kd nm : Int32) : plc L kd nm = plc Y kd nm := by
  cases hp : plc Y kd nm with
  | some p =>
    obtain ⟨y, y1, y2, y3⟩ := plc_some hp
    have hpl := plc_lt hp
    obtain ⟨l, hl9⟩ : ∃ l, L[p]? = some l := ⟨_, List.getElem?_eq_getElem (by omega)⟩
    obtain ⟨a1, a2, -⟩ := hC.1 p l y hl9 y1
    exact plc_of hL.1 hl9 (a1.trans y2) (a2.trans y3)
  | none =>
    refine plc_of_none (fun l hll hkn => ?_)
    obtain ⟨p, hp2⟩ := List.mem_iff_getElem?.mp hll
    have hpl := (List.getElem?_eq_some_iff.mp hp2).1
    obtain ⟨y, hy⟩ : ∃ y, Y[p]? = some y := ⟨_, List.getElem?_eq_getElem (by omega)⟩
    obtain ⟨a1, a2, -⟩ := hC.1 p l y hp2 hy
    exact plc_none hp y (List.mem_of_getElem? hy) ⟨a1.symm.trans hkn.1, a2.symm.trans hkn.2⟩
theorem mfL_fr (hw : TyW T0) (hm0 : m = T0.length) (hpre : T0 <+: T) (hY : WfG m i Y) (hm : m < 2 ^ 31) (hL : WfS m2 k2 L) (hm2 : m2 < 2 ^ 31) (hl : L.length = Y.length) (hC : Corr Y L m T Rel) (hT : T.length < 2 ^ 31) {j : Nat} (hZ : WfG m j Z) {rec rec2 : Nat → Nat → Int32} (hrec : ∀ v w e, e ∈ Z → e.1 = 2 → Rel v w → rec w (iN e.2.2.1) = rec2 v (iN e.2.2.1)) : ∀ c q, q + c = Z.length → tells Y Z q → mfL rec (fitC T0 Y) Y (Z.drop q) = mfL rec2 (fitC T L) L (Z.drop q) := by
  intro c
  induction c with
  | zero => intro q hq _; rw [List.drop_eq_nil_of_le (by omega)]; rfl
  | succ c ih =>
    intro q hq ht
    have hql : q < Z.length := by omega
    have hg := List.getElem?_eq_getElem hql
    rw [List.drop_eq_getElem_cons hql]
    unfold mfL
    rw [plc_same hY hL hl hC]
    cases hp : plc Y Z[q].1 Z[q].2.1 with
    | none => rfl
    | some p =>
      obtain ⟨y, hy, yk, yn⟩ := plc_some hp
      have hpl := plc_lt hp
      obtain ⟨l, hl9⟩ : ∃ l, L[p]? = some l := ⟨_, List.getElem?_eq_getElem (by omega)⟩
      show (match Y[p]? with
        | none => 0
        | some m => if (if Z[q].1 = 2 then decide (rec (iN m.2.2.1) (iN Z[q].2.2.1) = 0) else fitC T0 Y m Z[q]) = true then mfL rec (fitC T0 Y) Y (Z.drop (q + 1)) else 10 * (2 * Z[q].1 + 2) + Z[q].2.1) = (match L[p]? with
        | none => 0
        | some m => if (if Z[q].1 = 2 then decide (rec2 (iN m.2.2.1) (iN Z[q].2.2.1) = 0) else fitC T L m Z[q]) = true then mfL rec2 (fitC T L) L (Z.drop (q + 1)) else 10 * (2 * Z[q].1 + 2) + Z[q].2.1)
      rw [hy, hl9]
      have ht2 : tells Y Z (q + 1) := by
        intro r e hr he h0
        by_cases hrq : r = q
        · subst hrq
          rw [hg] at he
          cases he
          rw [h0] at hp
          rw [hp]
          exact fun h => by cases h
        · exact ht r e (by omega) he h0
      have hc : (if Z[q].1 = 2 then decide (rec (iN y.2.2.1) (iN Z[q].2.2.1) = 0) else fitC T0 Y y Z[q]) = (if Z[q].1 = 2 then decide (rec2 (iN l.2.2.1) (iN Z[q].2.2.1) = 0) else fitC T L l Z[q]) := by
        by_cases h2 : Z[q].1 = 2
        · obtain ⟨-, -, -, -, -, -, a7⟩ := hC.1 p l y hl9 hy
          rw [if_pos h2, if_pos h2, hrec _ _ Z[q] (List.mem_of_getElem? hg) h2 (a7 (yk.trans h2))]
        · rw [if_neg h2, if_neg h2]
          exact fit_fr hw hm0 hpre hY hm hL hm2 hl hC hT hZ ht hg hy hl9 yk yn h2
      show (if (if Z[q].1 = 2 then decide (rec (iN y.2.2.1) (iN Z[q].2.2.1) = 0) else fitC T0 Y y Z[q]) = true then mfL rec (fitC T0 Y) Y (Z.drop (q + 1)) else 10 * (2 * Z[q].1 + 2) + Z[q].2.1) = (if (if Z[q].1 = 2 then decide (rec2 (iN l.2.2.1) (iN Z[q].2.2.1) = 0) else fitC T L l Z[q]) = true then mfL rec2 (fitC T L) L (Z.drop (q + 1)) else 10 * (2 * Z[q].1 + 2) + Z[q].2.1)
      rw [hc, ih (q + 1) (by omega) ht2]
theorem mf_fr {n' : Nat} (hw : TyW T0) (hpre : T0 <+: T) (hT : T.length < 2 ^ 31) (hG : ∀ i, i < g → WfG T0.length i (sgL R i)) (hS : ∀ i, i < g → sgL R2 i = sgL R i) (h20 : g ≤ 20) (hRel : ∀ v j, Rel v j → j < g ∧ WfS T.length n' (stR R2 v) ∧ (stR R2 v).length = (sgL R j).length ∧ Corr (sgL R j) (stR R2 v) T0.length T Rel) : ∀ k v j u, Rel v j → u < g → mf (fitC T0) (sgL R) R k j u = mf (fitC T) (stR R2) R2 k v u := by
  have hpl := hpre.length_le
  intro k
  induction k with
  | zero => intro v j u _ _; rfl
  | succ k ih =>
    intro v j u hv hu
    obtain ⟨h1, h2, h3, h4⟩ := hRel v j hv
    show mfL (mf (fitC T0) (sgL R) R k) (fitC T0 (sgL R j)) (sgL R j) (sgL R u) = mfL (mf (fitC T) (stR R2) R2 k) (fitC T (stR R2 v)) (stR R2 v) (sgL R2 u)
    rw [hS u hu]
    have := mfL_fr hw rfl hpre (hG j h1) (by omega) h2 (by omega) h3 h4 hT (hG u hu) (rec := mf (fitC T0) (sgL R) R k) (rec2 := mf (fitC T) (stR R2) R2 k) (fun v w e he e2 hvw => by
      obtain ⟨q, hq⟩ := List.mem_iff_getElem?.mp he
      obtain ⟨j', hj, hj2⟩ := ((hG u hu).2 q e hq).part e2
      rw [hj2, iN_nI (by omega)]
      exact ih v w j' hvw (by omega)) (sgL R u).length 0 (by omega) (fun r e hr => by omega)
    rw [List.drop_zero] at this
    exact this
end FreshM
