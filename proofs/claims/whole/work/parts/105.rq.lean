/-! THE REFERENCE'S STATE WHILE STRUCTS ARE MADE (laid out of RR's theorems) -/
def RQ (D : Int32) (f : Nat → Int32) (M : Nat → Nat → Int32) (T : List TyD) (n g : Nat) (R : Nat → Option RowD) (F : List FuD) (Q : List (Int32 × Int32)) (U : List UnD) : Prop := rTp f M T ∧ rCn f M n g ∧ rRw M R ∧ rFu f M F ∧ rPk f M Q ∧ rUn f M U ∧ f 41 = D
section RQs
variable {D : Int32} {f h : Nat → Int32} {M W : Nat → Nat → Int32} {T : List TyD} {n g : Nat} {R : Nat → Option RowD} {F : List FuD} {Q : List (Int32 × Int32)} {U : List UnD} {k : Nat} {d : RowD}
theorem RQ.ty (h : RQ D f M T n g R F Q U) : rTp f M T := h.1
theorem RQ.cn (h : RQ D f M T n g R F Q U) : rCn f M n g := h.2.1
theorem RQ.rw (h : RQ D f M T n g R F Q U) : rRw M R := h.2.2.1
theorem RQ.fu (h : RQ D f M T n g R F Q U) : rFu f M F := h.2.2.2.1
theorem RQ.pk (h : RQ D f M T n g R F Q U) : rPk f M Q := h.2.2.2.2.1
theorem RQ.un (h : RQ D f M T n g R F Q U) : rUn f M U := h.2.2.2.2.2.1
theorem RQ.dp (h : RQ D f M T n g R F Q U) : f 41 = D := h.2.2.2.2.2.2
theorem RQ.tmp (x : RQ D f M T n g R F Q U) (hW : ∀ j, j ≤ 40 → W j = M j) : RQ D f W T n g R F Q U :=
  ⟨x.ty.congr rfl (hW _ (by omega)) (hW _ (by omega)) (hW _ (by omega)), x.cn.congr rfl rfl (hW _ (by omega)) (hW _ (by omega)), x.rw.congr (fun j hj => hW j (by omega)), x.fu.congr rfl (fun j _ h2 => hW j (by omega)), x.pk.congr rfl (hW _ (by omega)) (hW _ (by omega)), x.un.congr rfl (fun j _ h2 => hW j h2), x.dp⟩
theorem RQ.sub (x : RQ D f M T n g R F Q U) {R2 : Nat → Option RowD} (hr : ∀ k d, R2 k = some d → R k = some d) : RQ D f M T n g R2 F Q U := ⟨x.ty, x.cn, fun k d hk => x.rw k d (hr k d hk), x.fu, x.pk, x.un, x.dp⟩
theorem RQ.upIt (x : RQ D f M T n g R F Q U) (hk : k ≤ 100) (hF : itF M W k) (hd : rIt W k d.1) : RQ D f W T n g (aup R k (some d)) F Q U := by
  have h0 : ∀ j, j < 5 ∨ 9 < j → W j = M j := hF.1
  refine ⟨x.ty.congr rfl (h0 _ (by omega)) (h0 _ (by omega)) (h0 _ (by omega)), x.cn.congr rfl rfl (h0 _ (by omega)) (h0 _ (by omega)), ?_, x.fu.congr rfl (fun j _ h2 => h0 j (by omega)), x.pk.congr rfl (h0 _ (by omega)) (h0 _ (by omega)), x.un.congr rfl (fun j _ h2 => h0 j (by omega)), x.dp⟩
  intro l e hl
  by_cases hlk : l = k
  · subst hlk
    rw [aup_s] at hl
    cases hl
    exact ⟨fun _ => hd, fun h1 => by omega, fun h1 => by omega⟩
  · rw [aup_n hlk] at hl
    obtain ⟨a, b, c⟩ := x.rw l e hl
    refine ⟨fun h1 => hF.other hlk (a h1), fun h1 h2 => ⟨(b h1 h2).1.congr (fun j _ _ => h0 j (by omega)), by rw [h0 12 (by omega)]; exact (b h1 h2).2⟩, fun h1 h2 => (c h1 h2).congr (fun j _ _ => h0 j (by omega))⟩
theorem RQ.upN (x : RQ D f M T n g R F Q U) {n2 : Nat} (hn : n2 ≤ 95) : RQ D (upd f 4 (nI n2)) M T n2 g R F Q U :=
  ⟨x.ty.congr (upd_n (by omega)) rfl rfl rfl, ⟨upd_s, hn, (upd_n (by omega)).trans x.cn.2.2.1, x.cn.2.2.2⟩, x.rw, x.fu.congr (upd_n (by omega)) (fun _ _ _ => rfl), x.pk.congr (upd_n (by omega)) rfl rfl, x.un.congr (upd_n (by omega)) (fun _ _ _ => rfl), (upd_n (by omega)).trans x.dp⟩
theorem findsArrow_loopQ (h : RQ D f M T n g R F Q U) (hw : TyW T) (x y : Int32) : ∀ m fu p, p + m = T.length → m < fu → fX7_findsArrow_b5 fu x y (match (T.take p).findIdx? (fun e => decide (e = some (x, y))) with
    | some i => nI i
    | none => -1) (nI p) (f, M) = some (match T.findIdx? (fun e => decide (e = some (x, y))) with
    | some i => nI i
    | none => -1, f, M) := by
  obtain ⟨h1, h2, h3⟩ := h.ty
  intro m
  induction m with
  | zero =>
    intro fu p hp hf
    cases fu with
    | zero => omega
    | succ fu =>
      show fX7_findsArrow_b5_body _ x y _ (nI p) (f, M) = _
      unfold fX7_findsArrow_b5_body
      show (if f 0 ≤ nI p then _ else _) = _
      rw [h1, if_pos (nI_le (by omega) (by omega)), List.take_of_length_le (by omega)]
  | succ m ih =>
    intro fu p hp hf
    cases fu with
    | zero => omega
    | succ fu =>
      have hpl : p < T.length := by omega
      have hg := List.getElem?_eq_getElem hpl
      obtain ⟨e1, e2⟩ := h3 p _ hg
      have hn := ih fu (p + 1) (by omega) (by omega)
      have step : (T.take (p + 1)).findIdx? (fun e => decide (e = some (x, y))) = if T[p] = some (x, y) then some p else (T.take p).findIdx? (fun e => decide (e = some (x, y))) := by
        rw [← List.take_append_getElem hpl, List.findIdx?_append]
        by_cases c : T[p] = some (x, y)
        · rw [if_pos c]
          have : (T.take p).findIdx? (fun e => decide (e = some (x, y))) = none := by
            rw [List.findIdx?_eq_none_iff]
            intro e he
            refine decide_eq_false (fun hee => ?_)
            obtain ⟨q, hq⟩ := List.mem_iff_getElem?.mp he
            rw [List.getElem?_take] at hq
            split at hq
            · rw [hee] at hq
              have := hw.2.2.2.2 q p (x, y) hq (by rw [hg, c])
              omega
            · cases hq
          rw [this]
          simp [c]
          omega
        · rw [if_neg c]
          cases (T.take p).findIdx? (fun e => decide (e = some (x, y))) with
          | some i => rfl
          | none => simp [c]
      rw [step] at hn
      show fX7_findsArrow_b5_body _ x y _ (nI p) (f, M) = _
      unfold fX7_findsArrow_b5_body
      show (if f 0 ≤ nI p then _ else _) = _
      rw [h1, if_neg (nI_ge hpl (by omega)), r_rd 400 rfl (by omega) (by omega), Option.bind_some, e1]
      cases hx : T[p] with
      | none =>
        rw [hx, if_neg (fun e => by cases e)] at hn
        rw [if_neg (tdK_ne p)]
        unfold fX7_findsArrow_b52 fX7_findsArrow_b53
        rw [nI_1]
        exact hn
      | some q =>
        obtain ⟨a, c⟩ := q
        obtain ⟨e3, e4⟩ := e2 a c hx
        rw [hx] at hn
        rw [if_pos (show tdK p (some (a, c)) = 2 from rfl), r_rd 400 rfl (by omega) (by omega), Option.bind_some, e3]
        by_cases c1 : a = x
        · rw [if_pos c1, r_rd 400 rfl (by omega) (by omega), Option.bind_some, e4]
          by_cases c2 : c = y
          · rw [if_pos (by rw [c1, c2])] at hn
            rw [if_pos c2]
            unfold fX7_findsArrow_b53
            rw [nI_1]
            exact hn
          · rw [if_neg (fun e => c2 (by cases e; rfl))] at hn
            rw [if_neg c2]
            unfold fX7_findsArrow_b52 fX7_findsArrow_b53
            rw [nI_1]
            exact hn
        · rw [if_neg (fun e => c1 (by cases e; rfl))] at hn
          rw [if_neg c1]
          unfold fX7_findsArrow_b52 fX7_findsArrow_b53
          rw [nI_1]
          exact hn
theorem findsArrow_rQ (h : RQ D f M T n g R F Q U) (hw : TyW T) (x y : Int32) : fX7_findsArrow x y (f, M) = some (match fArr T x y with
    | some i => nI i
    | none => -1, f, M) := by
  have h2 := h.ty.2.1
  have := findsArrow_loopQ h hw x y T.length rFuel 0 (by omega) (by show T.length < 100000; omega)
  rw [List.take_zero] at this
  exact this
theorem makesType_rQ (h : RQ D f M T n g R F Q U) (hl : T.length < 390) (h2 : 2 ≤ T.length) (x : TyD) (a : Int32) (hk : a = tdK T.length x) (y z : Int32) (hyz : ∀ p q, x = some (p, q) → p = y ∧ q = z) : ∃ W, fX7_makesType a y z (f, M) = some (nI T.length, upd f 0 (nI (T.length + 1)), W) ∧ RQ D (upd f 0 (nI (T.length + 1))) W (T ++ [x]) n g R F Q U ∧ ∀ j, 3 < j → W j = M j := by
  obtain ⟨h1, h3, h4⟩ := h.ty
  refine ⟨mup (mup (mup M 1 T.length a) 2 T.length y) 3 T.length z, ?_, ?_, fun j hj => by rw [mup_k (by omega), mup_k (by omega), mup_k (by omega)]⟩
  · unfold fX7_makesType
    show Option.bind (rwr (f, M) 1 (f 0) a) _ = _
    rw [h1, r_wr 400 rfl (by omega) (by omega), Option.bind_some]
    show Option.bind (rwr (f, _) 2 (f 0) y) _ = _
    rw [h1, r_wr 400 rfl (by omega) (by omega), Option.bind_some]
    show Option.bind (rwr (f, _) 3 (f 0) z) _ = _
    rw [h1, r_wr 400 rfl (by omega) (by omega), Option.bind_some]
    show some (upd f 0 (f 0 + 1) 0 - 1, upd f 0 (f 0 + 1), _) = _
    rw [upd_s, h1, nI_1, nI_pred]
  · have hW : ∀ j, 3 < j → mup (mup (mup M 1 T.length a) 2 T.length y) 3 T.length z j = M j := fun j hj => by rw [mup_k (by omega), mup_k (by omega), mup_k (by omega)]
    refine ⟨⟨by rw [upd_s, List.length_append]; rfl, by simp; omega, fun t e he => ?_⟩, h.cn.congr (upd_n (by omega)) (upd_n (by omega)) (hW _ (by omega)) (hW _ (by omega)), h.rw.congr (fun j hj => hW j (by omega)), h.fu.congr (upd_n (by omega)) (fun j _ _ => hW j (by omega)), h.pk.congr (upd_n (by omega)) (hW _ (by omega)) (hW _ (by omega)), h.un.congr (upd_n (by omega)) (fun j _ _ => hW j (by omega)), (upd_n (by omega)).trans h.dp⟩
    rw [mup_k (show 1 ≠ 3 by omega), mup_k (show 1 ≠ 2 by omega), mup_k (show 2 ≠ 3 by omega)]
    by_cases ht : t < T.length
    · rw [List.getElem?_append_left ht] at he
      rw [mup_i (by omega), mup_i (by omega), mup_i (by omega), mup_k (show 2 ≠ 1 by omega), mup_k (show 3 ≠ 2 by omega), mup_k (show 3 ≠ 1 by omega)]
      exact h4 t e he
    · have hl2 := (List.getElem?_eq_some_iff.mp he).1
      have ht2 : t = T.length := by simp at hl2; omega
      subst ht2
      rw [List.getElem?_append_right (Nat.le_refl _), Nat.sub_self] at he
      cases he
      rw [mup_s, mup_s, mup_s]
      exact ⟨hk, fun p q hpq => ⟨(hyz p q hpq).1.symm, (hyz p q hpq).2.symm⟩⟩
theorem arrowOf_rrQ (h : RQ D f M T n g R F Q U) (hw : TyW T) (hl : T.length < 390) (x y : Int32) : ∃ f2 W, fX7_arrowOf x y (f, M) = some (nI (arN T x y), f2, W) ∧ RQ D f2 W (arT T x y) n g R F Q U ∧ (∀ j, j ≠ 0 → f2 j = f j) ∧ ∀ j, 3 < j → W j = M j := by
  unfold fX7_arrowOf
  rw [findsArrow_rQ h hw, Option.bind_some]
  unfold arN arT
  cases hf : fArr T x y with
  | some i =>
    have hil : i < T.length := by
      unfold fArr at hf
      exact (List.findIdx?_eq_some_iff_getElem.mp hf).1
    refine ⟨f, M, ?_, h, fun _ _ => rfl, fun _ _ => rfl⟩
    show (if nI i = -1 then _ else fX7_arrowOf_b23 (nI i) (f, M)) = _
    rw [if_neg (nI_nm1 (by omega))]
    rfl
  | none =>
    obtain ⟨W, e1, e2, e3⟩ := makesType_rQ h hl hw.1 (some (x, y)) 2 rfl x y (fun p q hq => by cases hq; exact ⟨rfl, rfl⟩)
    refine ⟨_, W, ?_, e2, fun j hj => upd_n hj, e3⟩
    show (if (-1 : Int32) = -1 then Option.bind (fX7_makesType 2 x y (f, M)) _ else _) = _
    rw [if_pos rfl, e1, Option.bind_some]
    rfl
theorem RQ.of (h : RR f M T n g R F Q U) : RQ 0 f M T n g R F Q U := h
theorem RQ.to (h : RQ 0 f M T n g R F Q U) : RR f M T n g R F Q U := h
theorem RQ.deep {D2 : Int32} {f2 : Nat → Int32} (x : RQ D f M T n g R F Q U) (hf : ∀ j, j ≠ 41 → f2 j = f j) (h2 : f2 41 = D2) : RQ D2 f2 M T n g R F Q U :=
  ⟨x.ty.congr (hf _ (by omega)) rfl rfl rfl, x.cn.congr (hf _ (by omega)) (hf _ (by omega)) rfl rfl, x.rw, x.fu.congr (hf _ (by omega)) (fun _ _ _ => rfl), x.pk.congr (hf _ (by omega)) rfl rfl, x.un.congr (hf _ (by omega)) (fun _ _ _ => rfl), h2⟩
end RQs
