/-! SEALING, VIEWING, UNPACKING -/
def newR (R : Nat → Option RowD) (n0 : Nat) (E : List (List En)) : Nat → Option RowD := fun k => if k < n0 ∨ 100 ≤ k then R k else (E[k - n0]?).map (fun L => (L, 0, 0))
section Seal
variable {o b t : Nat} {K : Nat → Option (Nat × Nat)} {I J : Nat → Nat → Int32} {P : Nat → Nat → Option Nat} {N0 N a : Nat} {f : Nat → Int32} {M : Nat → Nat → Int32} {T T2 : List TyD} {n n2 n0 g : Nat} {R R2 : Nat → Option RowD} {F : List FuD} {Q : List (Int32 × Int32)} {U : List UnD} {E : List (List En)} {vw : Bool} {how v : Int32} {s u : Nat}
theorem newR_o {k : Nat} (h : k < n0 ∨ 100 ≤ k) : newR R n0 E k = R k := if_pos h
theorem newR_sub (h1 : ∀ (j : Nat) (L : List En), E[j]? = some L → R2 (n0 + j) = some (L, 0, 0)) (h2 : ∀ j, (j < n0 ∨ 100 ≤ j) → R2 j = R j) : ∀ k d, newR R n0 E k = some d → R2 k = some d := by
  intro k d hk
  unfold newR at hk
  by_cases h : k < n0 ∨ 100 ≤ k
  · rw [if_pos h] at hk
    rw [h2 k h]
    exact hk
  · rw [if_neg h] at hk
    cases hE : E[k - n0]? with
    | none => rw [hE] at hk; cases hk
    | some L =>
      rw [hE] at hk
      cases hk
      have := h1 _ L hE
      rwa [show n0 + (k - n0) = k by omega] at this
theorem sum_le {α : Type} {p q : α → Nat} : ∀ L : List α, (∀ e, e ∈ L → p e ≤ q e) → (L.map p).sum ≤ (L.map q).sum := by
  intro L
  induction L with
  | nil => intro _; exact Nat.le_refl _
  | cons a L ih =>
    intro h
    have h1 := h a (List.mem_cons_self ..)
    have h2 := ih (fun e he => h e (List.mem_cons_of_mem _ he))
    simp only [List.map_cons, List.sum_cons]
    omega
theorem WF.pw (h : WF t T n g R F Q U) : ∀ i, i < g → pOf R i ≤ wOf R i ∧ wOf R i ≤ 60 := by
  have h20 := h.1.2.2.2
  intro i
  induction i using Nat.strongRecOn with
  | _ i ih =>
    intro hi
    obtain ⟨L, h1, h2, h3⟩ := h.sG hi
    have e1 : wOf R i = sumW R L := by unfold wOf; rw [h1]
    have e2 : pOf R i = sumP R L := by unfold pOf; rw [h1]
    rw [e1, e2]
    refine ⟨sum_le L (fun e he => ?_), h2⟩
    obtain ⟨p, hp⟩ := List.mem_iff_getElem?.mp he
    unfold pt wt
    by_cases h4 : e.1 = 2
    · rw [if_pos h4, if_pos h4]
      obtain ⟨j, hj, hj2⟩ := (h3.2 p e hp).part h4
      have := ih j hj (by omega)
      rw [hj2, iN_nI (by omega)]
      omega
    · rw [if_neg h4, if_neg h4]
      omega
theorem WF.sgAt (h : WF t T n g R F Q U) {i : Nat} (hi : i < g) : R (200 + i) = some (sgL R i, sumW R (sgL R i), sumP R (sgL R i)) ∧ sumW R (sgL R i) ≤ 60 ∧ WfG T.length i (sgL R i) := by
  obtain ⟨L, h1, h2, h3⟩ := h.sG hi
  have e : sgL R i = L := by unfold sgL; rw [h1]
  rw [e]
  exact ⟨h1, h2, h3⟩
theorem WF.stAt (h : WF t T n g R F Q U) {s : Nat} (hs : s < n) : ∃ w p, R s = some (stR R s, w, p) ∧ WfS T.length n (stR R s) := by
  obtain ⟨L, w, p, h1, h2⟩ := h.str (Or.inl hs)
  have e : stR R s = L := by unfold stR; rw [h1]
  rw [e]
  exact ⟨w, p, h1, h2⟩
theorem WF.toR (h : WF t T n g R F Q U) : gdR R n g T.length := by
  have h30 := h.1.2.2.1
  refine ⟨h.1.2.2.2, by omega, fun s hs => let ⟨_, _, _, a⟩ := h.stAt hs; a, fun i hi => ?_⟩
  obtain ⟨h1, h2, h3⟩ := h.sgAt hi
  exact ⟨h3, by unfold wOf; rw [h1], by unfold pOf; rw [h1], h2⟩
theorem WF.toX (h : WF t T n g R F Q U) : gdX R n g := by
  refine ⟨fun s hs => let ⟨w, p, a, _⟩ := h.stAt hs; ⟨w, p, a⟩, fun i hi => ?_⟩
  obtain ⟨h1, h2, h3⟩ := h.sgAt hi
  exact ⟨sumW R (sgL R i), by rw [show pOf R i = sumP R (sgL R i) by unfold pOf; rw [h1]]; exact h1⟩
theorem gdU_of (hs : s < n) (hu : u < g) (hu20 : u < 30) (hm : ms T R s u = 0) : gdU vw R n g (some s) u :=
  ⟨hu, (fun _ h => nomatch h), (fun s' h => by cases h; exact ⟨hs, 30, fitS T, hu20, hm⟩)⟩
theorem WF.toS (h : WF t T n g R F Q U) : gdS n T.length (T, []) := ⟨h.1.1, Nat.le_refl _, by have := h.1.2.1; show T.length ≤ 390; omega, fun j L hj => by have h9 : ([] : List (List En))[j]? = some L := hj; simp at h9⟩
theorem WF.made (h : WF t T n g R F Q U) {st' : MkS} (hg : gdS n T.length st') (h200 : st'.1.length ≤ 200) (h30 : n + st'.2.length ≤ 30) : WF t st'.1 (n + st'.2.length) g (newR R n st'.2) F Q U := by
  refine (h.types hg.1 h200 hg.2.1).strs (Nat.le_add_right _ _) h30 (fun k hk => newR_o (Or.inr (by omega))) (fun k hk => ?_)
  by_cases hk1 : k < n ∨ k = 100
  · obtain ⟨L, w, p, h1, h2⟩ := h.str hk1
    exact ⟨L, w, p, by rw [newR_o (by omega)]; exact h1, h2.mono hg.2.1 (Nat.le_add_right _ _)⟩
  · have hl : k - n < st'.2.length := by omega
    have hE := List.getElem?_eq_getElem hl
    refine ⟨st'.2[k - n], 0, 0, ?_, (hg.2.2.2 _ _ hE).mono (Nat.le_refl _) (by omega)⟩
    unfold newR
    rw [if_neg (by omega), hE]
    rfl
theorem WF.cut (h : WF t T n g R F Q U) : WF t T n g (newR R n []) F Q U :=
  h.strs (Nat.le_refl _) h.1.2.2.1 (fun k hk => newR_o (Or.inr (by omega))) (fun k hk => by
    obtain ⟨L, w, p, h1, h2⟩ := h.str hk
    exact ⟨L, w, p, by rw [newR_o (by omega)]; exact h1, h2⟩)
/-! the class -/
theorem cTy_pre (h : cTy b I T2) (hp : T <+: T2) : cTy b (cup I b 2 (nI T.length)) T := by
  have h1 := hp.length_le
  have h2 := h.2.1
  refine ⟨cup_s, by omega, fun t x hx => ?_⟩
  rw [cup_q (by omega), cup_q (by omega)]
  refine h.2.2 t x ?_
  obtain ⟨E, rfl⟩ := hp
  rw [List.getElem?_append_left (List.getElem?_eq_some_iff.mp hx).1]
  exact hx
theorem CR.backTy (h : CR o b K I P N T2 n g R F Q U) (hp : T <+: T2) : CR o b K (cup I b 2 (nI T.length)) P N T n g R F Q U :=
  h.upTy (fun q h1 _ _ => cup_q h1) (cTy_pre h.ty hp)
theorem remade_top (hC : CR o b K I P N T n g R F Q U) (hW : WF t T n g R F Q U) (hs : s < n) (hu : u < g) : fX6_remade o (nI s) (nI u) v (K, I, P, N) = if ms T R s u = 0 then abind (fX6_remake 30 o (nI s) (nI u) (nI n) v (nI 0) (K, I, P, N)) (fun v45 z45 =>
      if (v45) = ((-1)) then
        Option.bind (cgR z45 o 6 0) fun x57 =>
        Option.bind x57 fun q62 =>
        Option.bind (cpI z45 q62 4 2 (nI T.length)) fun z62 =>
        some ((.inr 2 : Int32 ⊕ Nat), z62, 1, 6)
      else
        Option.bind (cgR z45 o 6 1) fun x76 =>
        Option.bind x76 fun q83 =>
        Option.bind (cpI z45 q83 3 1 (v45 + 1)) fun z83 =>
        some (.inl v45, z83, 0, 0)) else some (.inr 2, (K, I, P, N), 1, 6) := by
  unfold fX6_remade
  rw [g61 hC, Option.bind_some, ro hC, Option.bind_some, misfit_S hC hW.1.1 hW.wfSt (Nat.le_refl _) hW.wfGm hs hu, Option.bind_some]
  show (if ms T R s u = 0 then _ else _) = _
  by_cases hm : ms T R s u = 0
  · rw [if_pos hm, if_pos hm, g60 hC, Option.bind_some, Option.bind_some, e_gI hC.K0, Option.bind_some, hC.ty.1]
    show Option.bind (cgR (K, I, P, N) o 6 1) _ = _
    rw [g61 hC, Option.bind_some, Option.bind_some, e_gI hC.shS.1, Option.bind_some, hC.cn.1]
    show Option.bind (crc (K, I, P, N) (some o) 6) _ = _
    rw [ro hC, Option.bind_some]
    rfl
  · rw [if_neg hm, if_neg hm]
theorem remade_c (hC : CR o b K I P N T n g R F Q U) (hW : WF t T n g R F Q U) (hs : s < n) (hu : u < g) (hv : v = if vw = true then 0 else 1) (hm : ms T R s u = 0) : ∃ K2 I2 P2 N2 ka kb, ka ≤ 61 ∧ kb ≤ 6000 ∧ (((mk vw n R 20 (some s) u (T, [])).1.length ≤ 200 ∧ n + (mk vw n R 20 (some s) u (T, [])).2.length ≤ 30 ∧ fX6_remade o (nI s) (nI u) v (K, I, P, N) = some (.inl (nI (n + (mk vw n R 20 (some s) u (T, [])).2.length - 1)), (K2, I2, P2, N2), ka, kb) ∧ CR o b K2 I2 P2 N2 (mk vw n R 20 (some s) u (T, [])).1 (n + (mk vw n R 20 (some s) u (T, [])).2.length) g (newR R n (mk vw n R 20 (some s) u (T, [])).2) F Q U) ∨ (¬ ((mk vw n R 20 (some s) u (T, [])).1.length ≤ 200 ∧ n + (mk vw n R 20 (some s) u (T, [])).2.length ≤ 30) ∧ fX6_remade o (nI s) (nI u) v (K, I, P, N) = some (.inr 2, (K2, I2, P2, N2), ka, kb) ∧ CR o b K2 I2 P2 N2 T n g (newR R n []) F Q U)) := by
  have h20 := hW.1.2.2.2
  have h30 := hW.1.2.2.1
  have h200 := hW.1.2.1
  obtain ⟨p1, p2⟩ := hW.pw u hu
  have hU : gdU vw R n g (some s) u := gdU_of hs hu (by omega) hm
  obtain ⟨-, x1, x2, E, x3, x4⟩ := mk_ok hW.toR 20 (some s) u (T, []) (by omega) hU hW.toS (by show T.length + _ ≤ 390; omega) (by show n + 0 + _ + 1 < 2 ^ 30; omega)
  have hlen : (mk vw n R 20 (some s) u (T, [])).2.length = pOf R u + 1 := by rw [x3]; exact x4
  have htop := remade_top (v := v) hC hW hs hu
  rw [if_pos hm] at htop
  have cutC : ∀ {K I P N T R2}, CR o b K I P N T n g R2 F Q U → (∀ j, (j < n ∨ 100 ≤ j) → R2 j = R j) → CR o b K I P N T n g (newR R n []) F Q U := fun h h2 => h.sub (newR_sub (fun j L h => by simp at h) h2)
  by_cases hn : n + pOf R u + 1 ≤ 30
  · obtain ⟨K2, I2, P2, N2, ka, kb, -, k1, k2, k3⟩ := remake_c hW.toR hW.toX hv 20 s u 0 30 (T, []) K I P N R (by omega) (by omega) (by omega) hU hW.toS (by show T.length + _ ≤ 390; omega) (by show n + 0 + _ + 1 ≤ 30; omega) hC (fun _ _ => rfl)
    rcases k3 with ⟨i1, i2, R3, i3, i4, i5⟩ | ⟨i1, i2, T3, R3, i3, i4, i5⟩
    · refine ⟨K2, cup I2 (b + 3) 1 (nI (n + (mk vw n R 20 (some s) u (T, [])).2.length)), P2, N2, ka, kb, by omega, by omega, Or.inl ⟨i1, by omega, ?_, (i3.upN (n2 := n + (mk vw n R 20 (some s) u (T, [])).2.length) (by omega)).sub (newR_sub (fun j L hj => i4 j L (Nat.zero_le _) hj) (fun j hj => i5 j (by show j < n + 0 ∨ _; omega)))⟩⟩
      rw [htop]
      have i6 : fX6_remake 30 o (nI s) (nI u) (nI n) v (nI 0) (K, I, P, N) = some (nI (n + (mk vw n R 20 (some s) u (T, [])).2.length - 1), (K2, I2, P2, N2), ka, kb) := i2
      rw [i6]
      show ause ka kb (if nI (n + (mk vw n R 20 (some s) u (T, [])).2.length - 1) = -1 then _ else Option.bind (cgR (K2, I2, P2, N2) o 6 1) _) = _
      rw [if_neg (nI_nm1 (by omega)), g61 i3, Option.bind_some, Option.bind_some, nI_1, e_pI i3.shS.1, Option.bind_some, show n + (mk vw n R 20 (some s) u (T, [])).2.length - 1 + 1 = n + (mk vw n R 20 (some s) u (T, [])).2.length by omega]
      rfl
    · refine ⟨K2, cup I2 b 2 (nI T.length), P2, N2, ka + 1, kb + 6, by omega, by omega, Or.inr ⟨by omega, ?_, cutC (i3.backTy i4) (fun j hj => i5 j (by omega))⟩⟩
      rw [htop]
      have i6 : fX6_remake 30 o (nI s) (nI u) (nI n) v (nI 0) (K, I, P, N) = some (-1, (K2, I2, P2, N2), ka, kb) := i2
      rw [i6]
      show ause ka kb (if (-1 : Int32) = -1 then Option.bind (cgR (K2, I2, P2, N2) o 6 0) _ else _) = _
      rw [if_pos rfl, g60 i3, Option.bind_some, Option.bind_some, e_pI i3.K0, Option.bind_some]
      rfl
  · refine ⟨K, cup I b 2 (nI T.length), P, N, 1, 6, by omega, by omega, Or.inr ⟨by omega, ?_, cutC (hC.backTy (List.prefix_refl _)) (fun _ _ => rfl)⟩⟩
    rw [htop, remake_no hW.toX hs hu (by omega) (by omega) hC (fun _ _ => rfl) (by omega)]
    show ause 0 0 (if (-1 : Int32) = -1 then Option.bind (cgR (K, I, P, N) o 6 0) _ else _) = _
    rw [if_pos rfl, g60 hC, Option.bind_some, Option.bind_some, e_pI hC.K0, Option.bind_some]
    rfl
/-! the reference -/
theorem upd_id {f : Nat → Int32} {k : Nat} {v : Int32} (h : f k = v) : upd f k v = f := by
  funext j
  by_cases hj : j = k
  · subst hj; rw [upd_s, h]
  · rw [upd_n hj]
theorem RR.back (h : RR f M T2 n2 g R F Q U) (hp : T <+: T2) (hn : n ≤ 95) : RR (upd (upd f 0 (nI T.length)) 4 (nI n)) M T n g R F Q U := by
  have h1 := hp.length_le
  have h2 := h.ty.2.1
  have hf : ∀ j, j ≠ 0 → j ≠ 4 → upd (upd f 0 (nI T.length)) 4 (nI n) j = f j := fun j h0 h4 => by rw [upd_n h4, upd_n h0]
  refine ⟨⟨by rw [upd_n (by omega), upd_s], by omega, fun t x hx => h.ty.2.2 t x ?_⟩, ⟨upd_s, hn, (hf _ (by omega) (by omega)).trans h.cn.2.2.1, h.cn.2.2.2⟩, h.rw, h.fu.congr (hf _ (by omega) (by omega)) (fun _ _ _ => rfl), h.pk.congr (hf _ (by omega) (by omega)) rfl rfl, h.un.congr (hf _ (by omega) (by omega)) (fun _ _ _ => rfl), (hf _ (by omega) (by omega)).trans h.dp⟩
  obtain ⟨E, rfl⟩ := hp
  rw [List.getElem?_append_left (List.getElem?_eq_some_iff.mp hx).1]
  exact hx
theorem fits_t (h : RR f M T2 n2 g R F Q U) {x y : Int32} (h1 : T2.length ≤ 200) (h2 : n2 ≤ 30) : fX7_fits x y (f, M) = some (1, f, M) := by
  unfold fX7_fits
  show (if (200 : Int32) < f 0 then _ else _) = _
  rw [h.ty.1, show (200 : Int32) = nI 200 from rfl, if_neg (nI_nlt h1 (by omega))]
  show (if (30 : Int32) < f 4 then _ else _) = _
  rw [h.cn.1, show (30 : Int32) = nI 30 from rfl, if_neg (nI_nlt h2 (by omega))]
  unfold fX7_fits_b24
  rw [if_neg i10]
  unfold fX7_fits_b38
  show (if (1 : Int32) = 0 then _ else fX7_fits_b54 1 (upd f 0 (f 0) 4) (upd f 0 (f 0), M)) = _
  rw [if_neg i10, upd_id rfl]
  unfold fX7_fits_b54
  show rbo 1 (upd f 4 (f 4), M) = _
  rw [upd_id rfl]
  exact rbo_1
theorem fits_f (h : RR f M T2 n2 g R F Q U) {x y : Int32} (h1 : ¬ (T2.length ≤ 200 ∧ n2 ≤ 30)) : fX7_fits x y (f, M) = some (0, upd (upd f 0 x) 4 y, M) := by
  have h390 := h.ty.2.1
  have h95 := h.cn.2.1
  have b23 : fX7_fits_b23 x y (f, M) = some (0, upd (upd f 0 x) 4 y, M) := by
    unfold fX7_fits_b23 fX7_fits_b24
    rw [if_pos rfl]
    unfold fX7_fits_b38
    show (if (0 : Int32) = 0 then fX7_fits_b54 0 y (upd f 0 x, M) else _) = _
    rw [if_pos rfl]
    unfold fX7_fits_b54
    show rbo 0 (upd (upd f 0 x) 4 y, M) = _
    exact rbo_0
  unfold fX7_fits
  show (if (200 : Int32) < f 0 then _ else _) = _
  rw [h.ty.1, show (200 : Int32) = nI 200 from rfl]
  by_cases h2 : T2.length ≤ 200
  · rw [if_neg (nI_nlt h2 (by omega))]
    show (if (30 : Int32) < f 4 then _ else _) = _
    rw [h.cn.1, show (30 : Int32) = nI 30 from rfl, if_pos (nI_lt (by omega) (by omega))]
    exact b23
  · rw [if_pos (nI_lt (by omega) (by omega))]
    exact b23
theorem seals_b129 {l : Int32} {S : rS} : fX7_seals_b129 l S = some (l, S) := rfl
theorem seals_bad (hR : RR f M T n g R F Q U) {p q : Int32} (h : (p < 0 ∨ nI n ≤ p) ∨ ∃ s, s < n ∧ p = nI s ∧ (q < 0 ∨ nI g ≤ q)) : fX7_seals how p q (f, M) = some (0, upd f 54 1, M) := by
  have bad : fX7_seals_b20 how p q (f, M) = some (0, upd f 54 1, M) := by
    unfold fX7_seals_b20 fX7_seals_b21
    show (if (0 : Int32) = 0 then fX7_seals_b53 how p q 0 (f 0) (f 4) (f, M) else _) = _
    rw [if_pos rfl]
    unfold fX7_seals_b53 fX7_seals_b54
    rw [if_pos rfl]
    unfold fX7_seals_b72
    rw [if_pos rfl]
    unfold fX7_seals_b94 fX7_seals_b95
    rw [if_pos rfl]
    unfold fX7_seals_b117
    rw [fails_1 (by decide), Option.bind_some]
    rfl
  unfold fX7_seals
  rcases h with h | ⟨s, hs, rfl, h⟩
  · rw [isStr_f hR h, Option.bind_some, if_pos rfl]
    exact bad
  · rw [isStr_t hR hs, Option.bind_some, if_neg i10, isSig_f hR h, Option.bind_some, if_pos rfl]
    exact bad
theorem seals_top (hR : RR f M T n g R F Q U) (hs : s < n) (hu : u < g) : fX7_seals how (nI s) (nI u) (f, M) = Option.bind (fX7_matchOf (nI s) (nI u) (f, M)) fun q43 => if q43.1 = 0 then fX7_seals_b54 how (nI s) (nI u) 1 (nI T.length) (nI n) 1 q43.2 else fX7_seals_b53 how (nI s) (nI u) 1 (nI T.length) (nI n) q43.2 := by
  unfold fX7_seals
  rw [isStr_t hR hs, Option.bind_some, if_neg i10, isSig_t hR hu, Option.bind_some, if_neg i10]
  unfold fX7_seals_b21
  show (if (1 : Int32) = 0 then _ else Option.bind (fX7_matchOf (nI s) (nI u) (f, M)) fun q43 => if q43.1 = 0 then fX7_seals_b54 how (nI s) (nI u) 1 (f 0) (f 4) 1 q43.2 else fX7_seals_b53 how (nI s) (nI u) 1 (f 0) (f 4) q43.2) = _
  rw [if_neg i10, hR.ty.1, hR.cn.1]
theorem seals_mis (hR : RR f M T n g R F Q U) (hW : WF t T n g R F Q U) (hs : s < n) (hu : u < g) (hm : ms T R s u ≠ 0) : ∃ W, fX7_seals how (nI s) (nI u) (f, M) = some (0, upd f 54 2, W) ∧ RR (upd f 54 2) W T n g R F Q U := by
  obtain ⟨W, d1, d2, -⟩ := matchOf_r hR hW.1.1 hW.wfSt (Nat.le_refl _) hW.wfGm hs hu
  refine ⟨W, ?_, d2.thr 2⟩
  rw [seals_top hR hs hu, d1, Option.bind_some]
  show (if ms T R s u = 0 then _ else fX7_seals_b53 how (nI s) (nI u) 1 (nI T.length) (nI n) (f, W)) = _
  rw [if_neg hm]
  unfold fX7_seals_b53 fX7_seals_b54
  rw [if_pos rfl]
  unfold fX7_seals_b72
  rw [if_pos rfl]
  unfold fX7_seals_b94 fX7_seals_b95
  rw [if_neg i10, if_pos rfl]
  unfold fX7_seals_b117
  rw [fails_1 (by decide), Option.bind_some]
  rfl
theorem seals_r (hR : RR f M T n g R F Q U) (hW : WF t T n g R F Q U) (hs : s < n) (hu : u < g) (hh : how = 1 ↔ vw = true) (hm : ms T R s u = 0) : ((mk vw n R 20 (some s) u (T, [])).1.length ≤ 200 ∧ n + (mk vw n R 20 (some s) u (T, [])).2.length ≤ 30 ∧ ∃ f2 W, fX7_seals how (nI s) (nI u) (f, M) = some (nI (n + (mk vw n R 20 (some s) u (T, [])).2.length - 1), f2, W) ∧ f2 54 = 0 ∧ RR f2 W (mk vw n R 20 (some s) u (T, [])).1 (n + (mk vw n R 20 (some s) u (T, [])).2.length) g (newR R n (mk vw n R 20 (some s) u (T, [])).2) F Q U) ∨ (¬ ((mk vw n R 20 (some s) u (T, [])).1.length ≤ 200 ∧ n + (mk vw n R 20 (some s) u (T, [])).2.length ≤ 30) ∧ ∃ f2 W, fX7_seals how (nI s) (nI u) (f, M) = some (0, f2, W) ∧ f2 54 = 2 ∧ RR f2 W T n g (newR R n []) F Q U) := by
  have h20 := hW.1.2.2.2
  have h30 := hW.1.2.2.1
  have h200 := hW.1.2.1
  obtain ⟨p1, p2⟩ := hW.pw u hu
  have hU : gdU vw R n g (some s) u := gdU_of hs hu (by omega) hm
  obtain ⟨-, x1, x2, E, x3, x4⟩ := mk_ok hW.toR 20 (some s) u (T, []) (by omega) hU hW.toS (by show T.length + _ ≤ 390; omega) (by show n + 0 + _ + 1 < 2 ^ 30; omega)
  have hlen : (mk vw n R 20 (some s) u (T, [])).2.length = pOf R u + 1 := by rw [x3]; exact x4
  obtain ⟨W, d1, d2, -⟩ := matchOf_r hR hW.1.1 hW.wfSt (Nat.le_refl _) hW.wfGm hs hu
  obtain ⟨f2, V, R2, e1, e2, e3, e4⟩ := makes_r (st := (T, [])) hW.toR hW.toX hh rfl hU hW.toS (by show T.length + _ ≤ 390; omega) (by omega) d2 (fun _ _ => rfl)
  have top : fX7_seals how (nI s) (nI u) (f, M) = fX7_seals_b72 1 (nI T.length) (nI n) 1 (nI (n + (mk vw n R 20 (some s) u (T, [])).2.length - 1)) (f2, V) := by
    rw [seals_top hR hs hu, d1, Option.bind_some]
    show (if ms T R s u = 0 then fX7_seals_b54 how (nI s) (nI u) 1 (nI T.length) (nI n) 1 (f, W) else _) = _
    rw [if_pos hm]
    unfold fX7_seals_b54
    have e5 : fX7_makes how (nI s) (nI u) (f, W) = some (nI (n + (mk vw n R 20 (some s) u (T, [])).2.length - 1), f2, V) := e1
    rw [if_neg i10, e5, Option.bind_some]
  rw [top]
  unfold fX7_seals_b72
  rw [if_neg i10]
  by_cases hc : (mk vw n R 20 (some s) u (T, [])).1.length ≤ 200 ∧ n + (mk vw n R 20 (some s) u (T, [])).2.length ≤ 30
  · refine Or.inl ⟨hc.1, hc.2, upd f2 54 0, V, ?_, upd_s, (e2.thr 0).sub (newR_sub (fun j L hj => e3 j L hj) (fun j hj => e4 j (by omega)))⟩
    rw [fits_t e2 hc.1 hc.2, Option.bind_some]
    show (if (1 : Int32) = 0 then _ else fX7_seals_b95 1 _ 1 (f2, V)) = _
    rw [if_neg i10]
    unfold fX7_seals_b95
    rw [if_neg i10, if_neg i10]
    unfold fX7_seals_b117
    rw [fails_0, Option.bind_some]
    rfl
  · refine Or.inr ⟨hc, upd (upd (upd f2 0 (nI T.length)) 4 (nI n)) 54 2, V, ?_, upd_s, ((e2.back x1 (by omega)).thr 2).sub (newR_sub (fun j L h => by simp at h) (fun j hj => e4 j (by omega)))⟩
    rw [fits_f e2 hc, Option.bind_some]
    show (if (0 : Int32) = 0 then fX7_seals_b94 1 _ (upd (upd f2 0 (nI T.length)) 4 (nI n), V) else _) = _
    rw [if_pos rfl]
    unfold fX7_seals_b94 fX7_seals_b95
    rw [if_neg i10, if_pos rfl]
    unfold fX7_seals_b117
    rw [fails_1 (by decide), Option.bind_some]
    rfl
/-- a struct of a struct, by a signature -/
theorem seals_core {fn : cS → Option ((Int32 ⊕ Nat) × cS × Nat × Nat)} {fr : Option (Int32 × rS)} (hR : RR f M T n g R F Q U) (hW : WF t T n g R F Q U) (hs : s < n) (hu : u < g) (hv : v = if vw = true then 0 else 1) (hh : how = 1 ↔ vw = true) (hc : ∀ N, CR o b K I P N T n g R F Q U → fn (K, I, P, N) = fX6_remade o (nI s) (nI u) v (K, I, P, N)) (hr : fr = fX7_seals how (nI s) (nI u) (f, M)) : ∃ res T2 n2 g2 R2 F2 Q2 U2, okC o b K I P T n g R F Q U fn res T2 n2 g2 R2 F2 Q2 U2 ∧ okR fr res (fun e => if e = 0 then 1 else (if e = 2 then 2 else 0)) T2 n2 g2 R2 F2 Q2 U2 ∧ WF (t + 1) T2 n2 g2 R2 F2 Q2 U2 ∧ ∀ e, res = .inr e → e = 0 ∨ e = 2 := by
  have h20 := hW.1.2.2.2
  have h30 := hW.1.2.2.1
  have h200 := hW.1.2.1
  obtain ⟨p1, p2⟩ := hW.pw u hu
  by_cases hm : ms T R s u = 0
  · have hU : gdU vw R n g (some s) u := gdU_of hs hu (by omega) hm
    obtain ⟨gd, -⟩ := mk_ok hW.toR 20 (some s) u (T, []) (by omega) hU hW.toS (by show T.length + _ ≤ 390; omega) (by show n + 0 + _ + 1 < 2 ^ 30; omega)
    rcases seals_r hR hW hs hu hh hm with ⟨c1, c2, f2, W, c3, c4, c5⟩ | ⟨c1, f2, W, c3, c4, c5⟩
    · refine ⟨.inl (nI (n + (mk vw n R 20 (some s) u (T, [])).2.length - 1)), _, _, g, _, F, Q, U, fun N hC => ?_, ⟨_, f2, W, hr.trans c3, c5, c4, rfl⟩, (hW.made gd c1 c2).step, fun e h => by cases h⟩
      obtain ⟨K2, I2, P2, N2, ka, kb, d1, d2, d3⟩ := remade_c hC hW hs hu hv hm
      rcases d3 with ⟨-, -, d4, d5⟩ | ⟨d4, -⟩
      · exact ⟨K2, I2, P2, N2, ka, kb, (hc N hC).trans d4, by omega, by omega, d5⟩
      · exact absurd ⟨c1, c2⟩ d4
    · refine ⟨.inr 2, T, n, g, _, F, Q, U, fun N hC => ?_, ⟨_, f2, W, hr.trans c3, c5, c4⟩, hW.cut.step, fun e h => by cases h; exact Or.inr rfl⟩
      obtain ⟨K2, I2, P2, N2, ka, kb, d1, d2, d3⟩ := remade_c hC hW hs hu hv hm
      rcases d3 with ⟨d4, d5, -⟩ | ⟨-, d4, d5⟩
      · exact absurd ⟨d4, d5⟩ c1
      · exact ⟨K2, I2, P2, N2, ka, kb, (hc N hC).trans d4, by omega, by omega, d5⟩
  · obtain ⟨W, c1, c2⟩ := seals_mis (how := how) hR hW hs hu hm
    refine ⟨.inr 2, T, n, g, R, F, Q, U, fun N hC => ⟨K, I, P, N, 1, 6, ?_, by omega, by omega, hC⟩, ⟨0, _, W, hr.trans c1, c2, upd_s⟩, hW.step, fun e h => by cases h; exact Or.inr rfl⟩
    rw [hc N hC, remade_top hC hW hs hu, if_neg hm]
theorem tb_inl {x : Option ((Int32 ⊕ Nat) × cS × Nat × Nat)} : tbind x (fun v z => some ((.inl v : Int32 ⊕ Nat), z, 0, 0)) = x := by
  cases x with
  | none => rfl
  | some y =>
    obtain ⟨r, z, p, q⟩ := y
    cases r with
    | inl v => rfl
    | inr e => rfl
theorem s_seal (o t : Nat) : sim_seal o (Inv o t) (Inv o (t + 1)) := by
  intro z S p0 p1 hI
  obtain ⟨K, I, P, N0⟩ := z
  obtain ⟨f, M⟩ := S
  refine sim_core (fun e => e = 0 ∨ e = 2) (fun e => if e = 0 then 1 else (if e = 2 then 2 else 0)) hI (fun b T n g R F Q U hR hW => ?_)
  have h20 := hW.1.2.2.2
  have h30 := hW.1.2.2.1
  have rb : ∀ p q, ((p < 0 ∨ nI n ≤ p) ∨ ∃ s, s < n ∧ p = nI s ∧ (q < 0 ∨ nI g ≤ q)) → fX7_seal p q (f, M) = some (0, upd f 54 1, M) := fun p q h => by
    unfold fX7_seal
    rw [seals_bad hR h]
    rfl
  rcases ix_em p0 (n := n) (by omega) with ⟨s, hs, rfl⟩ | h1
  · obtain ⟨wx, px, rx, -⟩ := hW.stAt hs
    rcases ix_em p1 (n := g) (by omega) with ⟨u, hu, rfl⟩ | h2
    · obtain ⟨ry, -⟩ := hW.sgAt hu
      refine seals_core (vw := false) (v := 1) (how := 0) hR hW hs hu rfl ⟨fun h => absurd h (by decide), fun h => by cases h⟩ (fun N hC => ?_) ?_
      · obtain ⟨a, a1, a2, a3, ha⟩ := atS hC hs rx
        obtain ⟨c, c1, c2, c3, hc⟩ := atG hC hu ry
        unfold fX6_seal
        rw [g61 hC, Option.bind_some, r3 hC, Option.bind_some, ha, Option.bind_some, needRow_t, tb_l, g62 hC, Option.bind_some, r5 hC, Option.bind_some, hc, Option.bind_some, needRow_t, tb_l, ro hC, Option.bind_some]
        exact tb_inl
      · unfold fX7_seal
        cases fX7_seals 0 (nI s) (nI u) (f, M) with
        | none => rfl
        | some q => rfl
    · refine sim_thr 0 0 hR hW (Or.inl rfl) (fun N hC => ?_) (rb _ _ (Or.inr ⟨s, hs, rfl, h2⟩))
      obtain ⟨a, a1, a2, a3, ha⟩ := atS hC hs rx
      unfold fX6_seal
      rw [g61 hC, Option.bind_some, r3 hC, Option.bind_some, ha, Option.bind_some, needRow_t, tb_l, g62 hC, Option.bind_some, r5 hC, Option.bind_some, at_no hC.shG h2, Option.bind_some, needRow_f]
      rfl
  · refine sim_thr 0 0 hR hW (Or.inl rfl) (fun N hC => ?_) (rb _ _ (Or.inl h1))
    unfold fX6_seal
    rw [g61 hC, Option.bind_some, r3 hC, Option.bind_some, at_no hC.shS h1, Option.bind_some, needRow_f]
    rfl
theorem s_view (o t : Nat) : sim_view o (Inv o t) (Inv o (t + 1)) := by
  intro z S p0 p1 hI
  obtain ⟨K, I, P, N0⟩ := z
  obtain ⟨f, M⟩ := S
  refine sim_core (fun e => e = 0 ∨ e = 2) (fun e => if e = 0 then 1 else (if e = 2 then 2 else 0)) hI (fun b T n g R F Q U hR hW => ?_)
  have h20 := hW.1.2.2.2
  have h30 := hW.1.2.2.1
  have rb : ∀ p q, ((p < 0 ∨ nI n ≤ p) ∨ ∃ s, s < n ∧ p = nI s ∧ (q < 0 ∨ nI g ≤ q)) → fX7_view p q (f, M) = some (0, upd f 54 1, M) := fun p q h => by
    unfold fX7_view
    rw [seals_bad hR h]
    rfl
  rcases ix_em p0 (n := n) (by omega) with ⟨s, hs, rfl⟩ | h1
  · obtain ⟨wx, px, rx, -⟩ := hW.stAt hs
    rcases ix_em p1 (n := g) (by omega) with ⟨u, hu, rfl⟩ | h2
    · obtain ⟨ry, -⟩ := hW.sgAt hu
      refine seals_core (vw := true) (v := 0) (how := 1) hR hW hs hu rfl ⟨fun _ => rfl, fun _ => rfl⟩ (fun N hC => ?_) ?_
      · obtain ⟨a, a1, a2, a3, ha⟩ := atS hC hs rx
        obtain ⟨c, c1, c2, c3, hc⟩ := atG hC hu ry
        unfold fX6_view
        rw [g61 hC, Option.bind_some, r3 hC, Option.bind_some, ha, Option.bind_some, needRow_t, tb_l, g62 hC, Option.bind_some, r5 hC, Option.bind_some, hc, Option.bind_some, needRow_t, tb_l, ro hC, Option.bind_some]
        exact tb_inl
      · unfold fX7_view
        cases fX7_seals 1 (nI s) (nI u) (f, M) with
        | none => rfl
        | some q => rfl
    · refine sim_thr 0 0 hR hW (Or.inl rfl) (fun N hC => ?_) (rb _ _ (Or.inr ⟨s, hs, rfl, h2⟩))
      obtain ⟨a, a1, a2, a3, ha⟩ := atS hC hs rx
      unfold fX6_view
      rw [g61 hC, Option.bind_some, r3 hC, Option.bind_some, ha, Option.bind_some, needRow_t, tb_l, g62 hC, Option.bind_some, r5 hC, Option.bind_some, at_no hC.shG h2, Option.bind_some, needRow_f]
      rfl
  · refine sim_thr 0 0 hR hW (Or.inl rfl) (fun N hC => ?_) (rb _ _ (Or.inl h1))
    unfold fX6_view
    rw [g61 hC, Option.bind_some, r3 hC, Option.bind_some, at_no hC.shS h1, Option.bind_some, needRow_f]
    rfl
end Seal
