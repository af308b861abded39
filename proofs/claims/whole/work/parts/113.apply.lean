/-! APPLYING: the class -/
def apS (n : Nat) (R1 : Nat → Option RowD) (T1 : List TyD) (rc : Option Nat) : MkS := match rc with
  | none => (T1, [])
  | some c => mk false (n + 1) R1 20 (some n) c (T1, [])
def apOK (n : Nat) (R1 : Nat → Option RowD) (T1 : List TyD) (rc : Option Nat) : Prop := (∀ c, rc = some c → ms T1 R1 n c = 0) ∧ (apS n R1 T1 rc).1.length ≤ 200 ∧ n + 1 + (apS n R1 T1 rc).2.length ≤ 30
noncomputable def apRest (o : Nat) (a0 : Option Nat) (x4 : Int32) (q47 : Int32 × cS) : Option (Int32 × cS × Nat × Nat) :=
        if (q47.1) = 0 then
          fX6_applyAnew_b53 o  (q47.2)
        else
          Option.bind (cgR (q47.2) o 6 1) fun x56 =>
          Option.bind x56 fun q60 =>
          Option.bind (cgI (q47.2) q60 3 1) fun x60 =>
          Option.bind x56 fun q65 =>
          Option.bind (cpI (q47.2) q65 3 1 (x60 + 1)) fun z65 =>
          Option.bind a0 fun q69 =>
          Option.bind (cgI z65 q69 0 1) fun x69 =>
          if (x69) = ((-1)) then
            some (x4, z65, 0, 0)
          else
            Option.bind (cgR z65 o 6 1) fun x80 =>
            Option.bind a0 fun q85 =>
            Option.bind (cgI z65 q85 0 1) fun x85 =>
            Option.bind (crc z65 (some o) 6) fun c89 =>
            Option.bind (fX6_firstMisfit 30 c89 x80 x4 x85 0 z65) fun q89 =>
            if (q89.1) = 0 then
              Option.bind a0 fun q100 =>
              Option.bind (cgI (q89.2) q100 0 1) fun x100 =>
              Option.bind (cgR (q89.2) o 6 1) fun x104 =>
              Option.bind x104 fun q107 =>
              Option.bind (cgI (q89.2) q107 3 1) fun x107 =>
              Option.bind (crc (q89.2) (some o) 6) fun c112 =>
              abind (fX6_remake 30 c112 x4 x100 x107 1 0 (q89.2)) fun v112 z112 =>
              if (v112) = ((-1)) then
                fX6_applyAnew_b134 o v112 z112
              else
                Option.bind (cgR z112 o 6 1) fun x124 =>
                Option.bind x124 fun q131 =>
                Option.bind (cpI z112 q131 3 1 (v112 + 1)) fun z131 =>
                fX6_applyAnew_b134 o v112 z131
            else
              some ((-1), q89.2, 0, 0)
section Apply
variable {o b t : Nat} {K : Nat → Option (Nat × Nat)} {I J : Nat → Nat → Int32} {P : Nat → Nat → Option Nat} {N a : Nat} {T T1 : List TyD} {n g : Nat} {R R1 R2 : Nat → Option RowD} {F : List FuD} {Q : List (Int32 × Int32)} {U : List UnD} {s i : Nat} {x : FuD} {B L1 : List En} {wB pB : Nat} {rc : Option Nat}
theorem mid_R (hW : WF t T n g R F Q U) (hp : T.length ≤ T1.length) (h390 : T1.length ≤ 390) (hL1 : WfS T1.length n L1) : gdR (newR R n [L1]) (n + 1) g T1.length ∧ gdX (newR R n [L1]) (n + 1) g ∧ wfSt (newR R n [L1]) T1.length (n + 1) ∧ wfGm (newR R n [L1]) g T.length ∧ ∀ i, i < g → pOf (newR R n [L1]) i = pOf R i ∧ wOf (newR R n [L1]) i = wOf R i := by
  have h30 := hW.1.2.2.1
  have h20 := hW.1.2.2.2
  have e200 : ∀ i, newR R n [L1] (200 + i) = R (200 + i) := fun i => newR_o (Or.inr (by omega))
  have eS : ∀ i, sgL (newR R n [L1]) i = sgL R i := fun i => by unfold sgL; rw [e200]
  have eW : ∀ i, wOf (newR R n [L1]) i = wOf R i := fun i => by unfold wOf; rw [e200]
  have eP : ∀ i, pOf (newR R n [L1]) i = pOf R i := fun i => by unfold pOf; rw [e200]
  have rS : ∀ s, s < n + 1 → ∃ w p, newR R n [L1] s = some (stR (newR R n [L1]) s, w, p) ∧ WfS T1.length (n + 1) (stR (newR R n [L1]) s) := by
    intro s hs
    by_cases hsn : s < n
    · have e : newR R n [L1] s = R s := newR_o (Or.inl hsn)
      have e2 : stR (newR R n [L1]) s = stR R s := by unfold stR; rw [e]
      obtain ⟨w, p, h1, h2⟩ := hW.stAt hsn
      rw [e, e2]
      exact ⟨w, p, h1, h2.mono hp (Nat.le_succ _)⟩
    · have hsn2 : s = n := by omega
      subst hsn2
      have e : newR R s [L1] s = some (L1, 0, 0) := by
        unfold newR
        rw [if_neg (by omega), Nat.sub_self]
        rfl
      have e2 : stR (newR R s [L1]) s = L1 := by unfold stR; rw [e]
      rw [e2]
      exact ⟨0, 0, e, hL1.mono (Nat.le_refl _) (Nat.le_succ _)⟩
  refine ⟨⟨h20, by omega, fun s hs => let ⟨_, _, _, h⟩ := rS s hs; h, fun i hi => ?_⟩, ⟨fun s hs => let ⟨w, p, h, _⟩ := rS s hs; ⟨w, p, h⟩, fun i hi => ?_⟩, ⟨by omega, h390, fun s hs => let ⟨w, p, h, h2⟩ := rS s hs; ⟨_, w, p, h, h2⟩⟩, ⟨h20, fun i hi => ?_⟩, fun i _ => ⟨eP i, eW i⟩⟩
  · obtain ⟨h1, h2, h3, h4⟩ := hW.toR.2.2.2 i hi
    obtain ⟨c1, c2⟩ := sumW_congr (R := R) (R2 := newR R n [L1]) h1 (by omega) (fun j _ => e200 j)
    rw [eS, eW, eP, c1, c2]
    exact ⟨h1.mono hp (Nat.le_refl _), h2, h3, h4⟩
  · obtain ⟨w, h⟩ := hW.toX.2 i hi
    rw [e200, eS, eP]
    exact ⟨w, h⟩
  · obtain ⟨L, w, p, h1, h2⟩ := hW.wfGm.2 i hi
    rw [e200]
    exact ⟨L, w, p, h1, h2⟩
theorem newR_s {L : List En} (hn : n < 100) (h1 : ∀ j, j ≠ n → R2 j = R j) (h2 : R2 n = some (L, 0, 0)) : ∀ k d, newR R n [L] k = some d → R2 k = some d := by
  intro k d hk
  unfold newR at hk
  by_cases hkn : k = n
  · subst hkn
    rw [if_neg (by omega), Nat.sub_self] at hk
    cases hk
    exact h2
  · rw [h1 k hkn]
    by_cases h : k < n ∨ 100 ≤ k
    · rw [if_pos h] at hk; exact hk
    · rw [if_neg h] at hk
      obtain ⟨m, hm⟩ : ∃ m, k - n = m + 1 := ⟨k - n - 1, by omega⟩
      rw [hm] at hk
      cases hk
theorem fuAt (hC : CR o b K I P N T n g R F Q U) (hF : F[i]? = some x) (ha : ptr b P (400 + i) = some a) : i < 8 ∧ K a = some (0, 0) ∧ FuIs I a x ∧ P a 3 = some (a + 1) ∧ P a 4 = some (a + 3) ∧ K (a + 3) = some (8, 30) ∧ ptr b P (300 + i) = some (a + 1) := by
  have h8 := hC.fu.2.1
  have hi := (List.getElem?_eq_some_iff.mp hF).1
  have ka := hC.sd.1 _ _ ha
  rw [pkd0 (by omega) (by omega)] at ka
  obtain ⟨k3, -, k4, k5⟩ := hC.sd.2.2.2.1 a ka
  obtain ⟨a2, a3, a4⟩ := hC.fu.2.2.1 i x hF
  rw [ha] at a3
  cases a3
  refine ⟨by omega, ka, a4, k3, k4, k5, ?_⟩
  rw [ptr3 (by omega)]
  rw [ptr4 (by omega)] at ha
  rw [ha]
  rfl
theorem ab_m1 {p q : Nat} {z : cS} {A B : Int32 → cS → Option (Int32 × cS × Nat × Nat)} : abind (some (-1, z, p, q)) (fun v z => if v = -1 then A v z else B v z) = ause p q (A (-1) z) := by
  show ause p q (if (-1 : Int32) = -1 then A (-1) z else B (-1) z) = _
  rw [if_pos rfl]
theorem rest_c (hW : WF t T n g R F Q U) (hC : CR o b K I P N T1 n g R2 F Q U) (hR2 : ∀ j, j ≠ n → R2 j = R j) (hRn : R2 n = some (L1, 0, 0)) (hw1 : TyW T1) (hp : T <+: T1) (hL1 : WfS T1.length n L1) (hn : n < 30) (hF : F[i]? = some x) (ha : ptr b P (400 + i) = some a) (hrc : x.2.1 = sI rc) (hrg : ∀ c, rc = some c → c < g) : ∃ K2 I2 P2 N2 ka kb, ka ≤ 61 ∧ kb ≤ 6000 ∧ (∀ j c, ptr b P j = some c → ptr b P2 j = some c) ∧ ((apOK n (newR R n [L1]) T1 rc ∧ apRest o (some a) (nI n) (1, K, I, P, N) = some (nI (n + (apS n (newR R n [L1]) T1 rc).2.length), (K2, I2, P2, N2), ka, kb) ∧ CR o b K2 I2 P2 N2 (apS n (newR R n [L1]) T1 rc).1 (n + 1 + (apS n (newR R n [L1]) T1 rc).2.length) g (newR (newR R n [L1]) (n + 1) (apS n (newR R n [L1]) T1 rc).2) F Q U) ∨ (¬ apOK n (newR R n [L1]) T1 rc ∧ apRest o (some a) (nI n) (1, K, I, P, N) = some (-1, (K2, I2, P2, N2), ka, kb) ∧ ∃ T2 n2 R3, CR o b K2 I2 P2 N2 T2 n2 g R3 F Q U ∧ T <+: T2 ∧ ∀ j, (j < n ∨ 100 ≤ j) → R3 j = R j)) := by
  have h20 := hW.1.2.2.2
  have h200 := hC.ty.2.1
  have hpl := hp.length_le
  obtain ⟨m1, m2, m3, m4, m5⟩ := mid_R (U := U) hW hpl (by omega) hL1
  have hC4 := (hC.upN (n2 := n + 1) (by omega)).sub (newR_s (R := R) (by omega) hR2 hRn)
  obtain ⟨-, ka, hfi, -⟩ := fuAt hC4 hF ha
  have hres : cup I (b + 3) 1 (nI (n + 1)) a 1 = sI rc := hfi.2.1.trans hrc
  generalize hR9 : newR R n [L1] = R9 at *
  have hR9j : ∀ j, (j < n ∨ 100 ≤ j) → R9 j = R j := fun j hj => by rw [← hR9]; exact newR_o hj
  have top : apRest o (some a) (nI n) (1, K, I, P, N) = if sI rc = -1 then some (nI n, (K, cup I (b + 3) 1 (nI (n + 1)), P, N), 0, 0) else (Option.bind (cgR (K, cup I (b + 3) 1 (nI (n + 1)), P, N) o 6 1) fun x80 =>
            Option.bind (some a) fun q85 =>
            Option.bind (cgI (K, cup I (b + 3) 1 (nI (n + 1)), P, N) q85 0 1) fun x85 =>
            Option.bind (crc (K, cup I (b + 3) 1 (nI (n + 1)), P, N) (some o) 6) fun c89 =>
            Option.bind (fX6_firstMisfit 30 c89 x80 (nI n) x85 0 (K, cup I (b + 3) 1 (nI (n + 1)), P, N)) fun q89 =>
            if (q89.1) = 0 then
              Option.bind (some a) fun q100 =>
              Option.bind (cgI (q89.2) q100 0 1) fun x100 =>
              Option.bind (cgR (q89.2) o 6 1) fun x104 =>
              Option.bind x104 fun q107 =>
              Option.bind (cgI (q89.2) q107 3 1) fun x107 =>
              Option.bind (crc (q89.2) (some o) 6) fun c112 =>
              abind (fX6_remake 30 c112 (nI n) x100 x107 1 0 (q89.2)) fun v112 z112 =>
              if (v112) = ((-1)) then
                fX6_applyAnew_b134 o v112 z112
              else
                Option.bind (cgR z112 o 6 1) fun x124 =>
                Option.bind x124 fun q131 =>
                Option.bind (cpI z112 q131 3 1 (v112 + 1)) fun z131 =>
                fX6_applyAnew_b134 o v112 z131
            else
              some ((-1), q89.2, 0, 0)) := by
    unfold apRest
    show (if (1 : Int32) = 0 then _ else Option.bind (cgR (K, I, P, N) o 6 1) _) = _
    rw [if_neg i10, g61 hC, Option.bind_some, Option.bind_some, e_gI hC.shS.1, Option.bind_some, hC.cn.1, Option.bind_some, nI_1, e_pI hC.shS.1, Option.bind_some, Option.bind_some, e_gI ka, Option.bind_some, hres]
  cases rc with
  | none =>
    rw [if_pos (show sI (none : Option Nat) = -1 from rfl)] at top
    refine ⟨K, cup I (b + 3) 1 (nI (n + 1)), P, N, 0, 0, by omega, by omega, fun j c h => h, Or.inl ⟨⟨(fun c h => nomatch h), h200, by show n + 1 + 0 ≤ 30; omega⟩, top, hC4.sub (newR_sub (fun j L h => ?_) (fun _ _ => rfl))⟩⟩
    have h9 : ([] : List (List En))[j]? = some L := h
    simp at h9
  | some c =>
    have hc := hrg c rfl
    obtain ⟨p1, p2⟩ := hW.pw c hc
    obtain ⟨p3, p4⟩ := m5 c hc
    have e9 : sI (some c) = nI c := rfl
    rw [e9, if_neg (nI_nm1 (by omega)), g61 hC4, Option.bind_some, Option.bind_some, e_gI ka, Option.bind_some, hres, ro hC4, Option.bind_some, e9, misfit_S hC4 hw1 m3 hpl m4 (Nat.lt_succ_self n) hc, Option.bind_some] at top
    have top2 : apRest o (some a) (nI n) (1, K, I, P, N) = if ms T1 R9 n c = 0 then (Option.bind (some a) fun q100 =>
              Option.bind (cgI (K, cup I (b + 3) 1 (nI (n + 1)), P, N) q100 0 1) fun x100 =>
              Option.bind (cgR (K, cup I (b + 3) 1 (nI (n + 1)), P, N) o 6 1) fun x104 =>
              Option.bind x104 fun q107 =>
              Option.bind (cgI (K, cup I (b + 3) 1 (nI (n + 1)), P, N) q107 3 1) fun x107 =>
              Option.bind (crc (K, cup I (b + 3) 1 (nI (n + 1)), P, N) (some o) 6) fun c112 =>
              abind (fX6_remake 30 c112 (nI n) x100 x107 1 0 (K, cup I (b + 3) 1 (nI (n + 1)), P, N)) fun v112 z112 =>
              if (v112) = ((-1)) then
                fX6_applyAnew_b134 o v112 z112
              else
                Option.bind (cgR z112 o 6 1) fun x124 =>
                Option.bind x124 fun q131 =>
                Option.bind (cpI z112 q131 3 1 (v112 + 1)) fun z131 =>
                fX6_applyAnew_b134 o v112 z131) else some (-1, (K, cup I (b + 3) 1 (nI (n + 1)), P, N), 0, 0) := top
    by_cases hm : ms T1 R9 n c = 0
    · rw [if_pos hm, Option.bind_some, e_gI ka, Option.bind_some, hres, g61 hC4, Option.bind_some, Option.bind_some, e_gI hC4.shS.1, Option.bind_some, hC4.cn.1, ro hC4, Option.bind_some, e9] at top2
      have hU : gdU false R9 (n + 1) g (some n) c := gdU_of (Nat.lt_succ_self n) hc (by omega) hm
      have hS9 : gdS (n + 1) T1.length (T1, []) := ⟨hw1, Nat.le_refl _, by show T1.length ≤ 390; omega, fun j L hj => by have h9 : ([] : List (List En))[j]? = some L := hj; simp at h9⟩
      obtain ⟨-, x1, x2, E, x3, x4⟩ := mk_ok m1 20 (some n) c (T1, []) (by omega) hU hS9 (by show T1.length + _ ≤ 390; omega) (by show n + 1 + 0 + _ + 1 < 2 ^ 30; omega)
      have hlen : (mk false (n + 1) R9 20 (some n) c (T1, [])).2.length = pOf R c + 1 := by rw [x3, ← p3]; exact x4
      have hxl := x1.length_le
      by_cases hroom : n + 1 + pOf R c + 1 ≤ 30
      · obtain ⟨K2, I2, P2, N2, ka2, kb2, kp, k1, k2, k3⟩ := remake_c m1 m2 (vw := false) (v := 1) rfl 20 n c 0 30 (T1, []) K (cup I (b + 3) 1 (nI (n + 1))) P N R9 (by omega) (by omega) (by omega) hU hS9 (by show T1.length + _ ≤ 390; omega) (by show n + 1 + 0 + _ + 1 ≤ 30; omega) hC4 (fun _ _ => rfl)
        rcases k3 with ⟨i1, i2, R3, i3, i4, i5⟩ | ⟨i1, i2, T3, R3, i3, i4, i5⟩
        · refine ⟨K2, cup I2 (b + 3) 1 (nI (n + 1 + (mk false (n + 1) R9 20 (some n) c (T1, [])).2.length)), P2, N2, ka2, kb2, by omega, by omega, kp, Or.inl ⟨⟨fun c2 h => by cases h; exact hm, i1, by show n + 1 + (mk false (n + 1) R9 20 (some n) c (T1, [])).2.length ≤ 30; omega⟩, ?_, (i3.upN (n2 := n + 1 + (mk false (n + 1) R9 20 (some n) c (T1, [])).2.length) (by omega)).sub (newR_sub (fun j L hj => i4 j L (Nat.zero_le _) hj) (fun j hj => i5 j (by show j < n + 1 + 0 ∨ _; omega)))⟩⟩
          rw [top2]
          have i6 : fX6_remake 30 o (nI n) (nI c) (nI (n + 1)) 1 0 (K, cup I (b + 3) 1 (nI (n + 1)), P, N) = some (nI (n + 1 + (mk false (n + 1) R9 20 (some n) c (T1, [])).2.length - 1), (K2, I2, P2, N2), ka2, kb2) := i2
          rw [i6]
          show ause ka2 kb2 (if nI (n + 1 + (mk false (n + 1) R9 20 (some n) c (T1, [])).2.length - 1) = -1 then _ else Option.bind (cgR (K2, I2, P2, N2) o 6 1) _) = _
          rw [if_neg (nI_nm1 (by omega)), g61 i3, Option.bind_some, Option.bind_some, nI_1, e_pI i3.shS.1, Option.bind_some, show n + 1 + (mk false (n + 1) R9 20 (some n) c (T1, [])).2.length - 1 + 1 = n + 1 + (mk false (n + 1) R9 20 (some n) c (T1, [])).2.length by omega, show n + 1 + (mk false (n + 1) R9 20 (some n) c (T1, [])).2.length - 1 = n + (mk false (n + 1) R9 20 (some n) c (T1, [])).2.length by omega]
          rfl
        · refine ⟨K2, I2, P2, N2, ka2, kb2, by omega, by omega, kp, Or.inr ⟨fun h => by have h9 : (mk false (n + 1) R9 20 (some n) c (T1, [])).1.length ≤ 200 := h.2.1; omega, ?_, T3, n + 1, R3, i3, hp.trans i4, fun j hj => by rw [i5 j (by omega)]; exact hR9j j hj⟩⟩
          rw [top2]
          have i6 : fX6_remake 30 o (nI n) (nI c) (nI (n + 1)) 1 0 (K, cup I (b + 3) 1 (nI (n + 1)), P, N) = some (-1, (K2, I2, P2, N2), ka2, kb2) := i2
          rw [i6]
          exact ab_m1.trans rfl
      · refine ⟨K, cup I (b + 3) 1 (nI (n + 1)), P, N, 0, 0, by omega, by omega, fun j c h => h, Or.inr ⟨fun h => by have h9 : n + 1 + (mk false (n + 1) R9 20 (some n) c (T1, [])).2.length ≤ 30 := h.2.2; omega, ?_, T1, n + 1, R9, hC4, hp, hR9j⟩⟩
        have i6 : fX6_remake 30 o (nI n) (nI c) (nI (n + 1)) 1 0 (K, cup I (b + 3) 1 (nI (n + 1)), P, N) = some (-1, (K, cup I (b + 3) 1 (nI (n + 1)), P, N), 0, 0) := remake_no (d := 0) m2 (Nat.lt_succ_self n) hc (by omega) (by omega) hC4 (fun _ _ => rfl) (by omega)
        rw [top2, i6]
        exact ab_m1.trans rfl
    · rw [if_neg hm] at top2
      exact ⟨K, cup I (b + 3) 1 (nI (n + 1)), P, N, 0, 0, by omega, by omega, fun j c h => h, Or.inr ⟨fun h => hm (h.1 c rfl), top2, T1, n + 1, R9, hC4, hp, hR9j⟩⟩
theorem applyAnew_c (hW : WF t T n g R F Q U) (hC : CR o b K I P N T n g R F Q U) (hF : F[i]? = some x) (ha : ptr b P (400 + i) = some a) (hs : s < n) (hrc : x.2.1 = sI rc) (hrg : ∀ c, rc = some c → c < g) (hB : R (300 + i) = some (B, wB, pB)) (hok : glOK B (stR R s) T.length n) (hgl : glL (stR R s) B [] T = (L1, T1)) : ∃ K2 I2 P2 N2 ka kb, ka ≤ 70 ∧ kb ≤ 6500 ∧ (∀ j c, ptr b P j = some c → ptr b P2 j = some c) ∧ ((apOK n (newR R n [L1]) T1 rc ∧ fX6_applyAnew o (some a) (nI s) (K, I, P, N) = some (nI (n + (apS n (newR R n [L1]) T1 rc).2.length), (K2, I2, P2, N2), ka, kb) ∧ CR o b K2 I2 P2 N2 (apS n (newR R n [L1]) T1 rc).1 (n + 1 + (apS n (newR R n [L1]) T1 rc).2.length) g (newR (newR R n [L1]) (n + 1) (apS n (newR R n [L1]) T1 rc).2) F Q U) ∨ (¬ apOK n (newR R n [L1]) T1 rc ∧ fX6_applyAnew o (some a) (nI s) (K, I, P, N) = some (-1, (K2, I2, P2, N2), ka, kb) ∧ ∃ T2 n2 R3, CR o b K2 I2 P2 N2 T2 n2 g R3 F Q U ∧ T <+: T2 ∧ ∀ j, (j < n ∨ 100 ≤ j) → R3 j = R j)) := by
  have h20 := hW.1.2.2.2
  have h30 := hW.1.2.2.1
  have h200 := hW.1.2.1
  have hB20 := hok.1.len
  obtain ⟨g1, g2, g3, g4⟩ := gl_ok hok B.length 0 [] T (by omega) hW.1.1 (Nat.le_refl _) (by omega) ⟨rfl, fun r e y h => by simp at h, WfS.nil⟩
  rw [List.drop_zero, hgl] at g1 g2 g3 g4
  obtain ⟨wX, pX, rX, hX⟩ := hW.stAt hs
  have hi8 := (fuAt hC hF ha).1
  by_cases hn : n < 30
  · obtain ⟨w, K2, I2, P2, N2, ka, kb, e1, e2, e3, e4, e5, e6⟩ := blank_ok hC hC.shS (Or.inl rfl) (k := n) (Nat.le_refl _) hn
    rw [Nat.zero_add] at e4 e5
    have ha2 := e6 _ _ ha
    obtain ⟨-, k0, -, k3, -, -, pb⟩ := fuAt e5 hF ha2
    obtain ⟨d, d1, d2, d3, hd⟩ := atS e5 hs ((aup_n (by omega)).trans rX)
    obtain ⟨I3, hfill⟩ := fill_c (R := R) (wh := n) (kb := 300 + i) (N := N2) hok hB rX (by omega) (by omega) B.length rFuel 0 [] T I2 _ (by omega) (by show B.length < 100000; omega) hW.1.1 (Nat.le_refl _) ⟨rfl, fun r e y h => by simp at h, WfS.nil⟩ e5 (fun j hj => aup_n hj) aup_s d1 pb e4
    rw [List.drop_zero, hgl] at hfill
    have top : fX6_applyAnew o (some a) (nI s) (K, I, P, N) = ause ka kb (Option.bind (fX6_fill_b3 o rFuel (some w) (some (a + 1)) (some d) (nI 0) (K2, I2, P2, N2)) (apRest o (some a) (nI n))) := by
      unfold fX6_applyAnew
      rw [g61 hC, Option.bind_some, Option.bind_some, e_gI hC.shS.1, Option.bind_some, hC.cn.1, Option.bind_some, r3 hC, Option.bind_some, e1]
      show ause ka kb (Option.bind (cgR (K2, I2, P2, N2) o 6 1) _) = _
      rw [g61 e5, Option.bind_some, r3 e5, Option.bind_some, hd, Option.bind_some]
      show ause ka kb (if some w = none then _ else if some d = none then _ else Option.bind (some a) _) = _
      rw [if_neg (fun e => by cases e), if_neg (fun e => by cases e), Option.bind_some]
      show ause ka kb (Option.bind (cgR (K2, I2, P2, N2) a 0 3) _) = _
      rw [e_gR k0, Option.bind_some, k3]
      show ause ka kb (Option.bind (crc (K2, I2, P2, N2) (some o) 6) _) = _
      rw [ro e5, Option.bind_some]
      rfl
    rcases hfill with ⟨f1, f2, R2, f3, f4, f5⟩ | ⟨f1, f2, T2, R2, f3, f4, f5⟩
    · rw [f2, Option.bind_some] at top
      obtain ⟨K4, I4, P4, N4, ka4, kb4, r1, r2, r3, r4⟩ := rest_c (rc := rc) hW f3 f4 f5 g1 g2 g4 hn hF ha2 hrc hrg
      refine ⟨K4, I4, P4, N4, ka + ka4, kb + kb4, by omega, by omega, fun j c h => r3 j c (e6 j c h), ?_⟩
      rcases r4 with ⟨r5, r6, r7⟩ | ⟨r5, r6, r7⟩
      · exact Or.inl ⟨r5, by rw [top, r6]; rfl, r7⟩
      · exact Or.inr ⟨r5, by rw [top, r6]; rfl, r7⟩
    · rw [f2, Option.bind_some] at top
      refine ⟨K2, I3, P2, N2, ka, kb, by omega, by omega, e6, Or.inr ⟨fun h => ?_, ?_, T2, n, R2, f3, f4, fun j hj => f5 j (by omega)⟩⟩
      · have h9 := h.2.1
        have hle : T1.length ≤ (apS n (newR R n [L1]) T1 rc).1.length := by
          cases rc with
          | none => exact Nat.le_refl _
          | some c =>
            have hc := hrg c rfl
            obtain ⟨m1, m2, m3, m4, m5⟩ := mid_R (T1 := T1) hW g2.length_le (by have : T1.length ≤ T.length + B.length := g3; omega) g4
            obtain ⟨p1, p2⟩ := hW.pw c hc
            obtain ⟨p3, p4⟩ := m5 c hc
            have hm := h.1 c rfl
            have hU : gdU false (newR R n [L1]) (n + 1) g (some n) c := gdU_of (Nat.lt_succ_self n) hc (by omega) hm
            have hT1 : T1.length ≤ T.length + B.length := g3
            have hS9 : gdS (n + 1) T1.length (T1, []) := ⟨g1, Nat.le_refl _, by show T1.length ≤ 390; omega, fun j L hj => by have h9 : ([] : List (List En))[j]? = some L := hj; simp at h9⟩
            obtain ⟨-, x1, -⟩ := mk_ok m1 20 (some n) c (T1, []) (by omega) hU hS9 (by show T1.length + _ ≤ 390; omega) (by show n + 1 + 0 + _ + 1 < 2 ^ 30; omega)
            exact x1.length_le
        have h8 : 200 < T1.length := f1
        omega
      · rw [top]
        unfold apRest
        show ause ka kb (if (0 : Int32) = 0 then fX6_applyAnew_b53 o (K2, I3, P2, N2) else _) = _
        rw [if_pos rfl]
        rfl
  · refine ⟨K, I, P, N, 0, 0, by omega, by omega, fun j c h => h, Or.inr ⟨fun h => by have := h.2.2; omega, ?_, T, n, R, hC, List.prefix_refl _, fun _ _ => rfl⟩⟩
    unfold fX6_applyAnew
    rw [g61 hC, Option.bind_some, Option.bind_some, e_gI hC.shS.1, Option.bind_some, hC.cn.1, Option.bind_some, r3 hC, Option.bind_some, blank_no hC.shS (Or.inr (Or.inr (nI_nlt (by omega) (by omega))))]
    obtain ⟨d, d1, d2, d3, hd⟩ := atS hC hs rX
    show ause 0 0 (Option.bind (cgR (K, I, P, N) o 6 1) _) = _
    rw [g61 hC, Option.bind_some, r3 hC, Option.bind_some, hd, Option.bind_some]
    show ause 0 0 (if (none : Option Nat) = none then _ else _) = _
    rw [if_pos rfl]
    rfl
end Apply
