/-! FUNCTOR -/
section Functor
variable {o b t : Nat} {K : Nat → Option (Nat × Nat)} {I J : Nat → Nat → Int32} {P : Nat → Nat → Option Nat} {N0 N a : Nat} {f : Nat → Int32} {M : Nat → Nat → Int32} {T : List TyD} {n g : Nat} {R : Nat → Option RowD} {F : List FuD} {Q : List (Int32 × Int32)} {U : List UnD} {L X Y : List En}
theorem ptr4 {u : Nat} (hu : u < 8) : ptr b P (400 + u) = P (b + 13) u := by
  unfold ptr
  rw [if_neg (by omega), if_neg (by omega), if_neg (by omega), if_neg (by omega), if_neg (by omega), if_neg (by omega), if_pos (by omega), Nat.add_sub_cancel_left]
theorem ptr3 {u : Nat} (hu : u < 8) : ptr b P (300 + u) = (P (b + 13) u).map (· + 1) := by
  unfold ptr
  rw [if_neg (by omega), if_neg (by omega), if_neg (by omega), if_neg (by omega), if_pos (by omega), Nat.add_sub_cancel_left]
theorem res_loop {N4 : Nat} (hK : K a = some (0, 0)) (hP : P a 4 = some (a + 3)) (hR : K (a + 3) = some (8, 30)) : ∀ m fu k I, k + m = 30 → m < fu → (∀ s, s < k → I (a + 3) s = -1) → ∃ J, fX0_init_b41 a fu (nI k) (K, I, P, N4) = some ((), (K, J, P, N4), 0, 0) ∧ (∀ s, s < 30 → J (a + 3) s = -1) ∧ ∀ q, q ≠ a + 3 → J q = I q := by
  intro m
  induction m with
  | zero =>
    intro fu k I hk hf h
    cases fu with
    | zero => omega
    | succ fu =>
      refine ⟨I, ?_, fun s hs => h s (by omega), fun _ _ => rfl⟩
      show fX0_init_b41_body a _ (nI k) (K, I, P, N4) = _
      unfold fX0_init_b41_body
      rw [show (30 : Int32) = nI 30 from rfl, if_pos (nI_le (by omega) (by omega))]
  | succ m ih =>
    intro fu k I hk hf h
    cases fu with
    | zero => omega
    | succ fu =>
      obtain ⟨J, d1, d2, d3⟩ := ih fu (k + 1) (cup I (a + 3) k (-1)) (by omega) (by omega) (fun s hs => by
        by_cases hsk : s = k
        · subst hsk; exact cup_s
        · rw [cup_j hsk]; exact h s (by omega))
      refine ⟨J, ?_, d2, fun q hq => by rw [d3 q hq, cup_q hq]⟩
      show fX0_init_b41_body a _ (nI k) (K, I, P, N4) = _
      unfold fX0_init_b41_body
      rw [show (30 : Int32) = nI 30 from rfl, if_neg (nI_ge (by omega) (by omega)), e_gR hK, Option.bind_some, hP, e_write hR (by omega) (by omega), Option.bind_some, nI_1]
      exact d1
theorem RowO.upc {q j : Nat} {v : Int32} (h : RowO I J a) : RowO (cup I q j v) (cup J q j v) a := fun p h1 h2 => by
  by_cases hp : p = q
  · subst hp
    funext k
    by_cases hk : k = j
    · subst hk; rw [cup_s, cup_s]
    · rw [cup_j hk, cup_j hk, h p h1 h2]
  · rw [cup_q hp, cup_q hp, h p h1 h2]
theorem new0_c (h : CR o b K I P N T n g R F Q U) (hl : F.length < 8) (a0 a1 pu : Int32) (hpu : pu = 0 ∨ pu = 1) {w p : Nat} (hd : R 308 = some (L, w, p)) : ∃ K2 I2 P2, (abind (fX0_init N a0 a1 pu (cnw (K, I, P, N) 0 0)) fun v149 z149 =>
      (fun v152 : Option Nat =>
      Option.bind v152 fun q156 =>
      Option.bind (cgR z149 q156 0 3) fun x156 =>
      Option.bind (cgR z149 o 6 5) fun x160 =>
      Option.bind (crc z149 x156 2) fun c163 =>
      Option.bind (fX2_addAll c163 x160 z149) fun q163 =>
      Option.bind (cgR (q163.2) o 6 5) fun x167 =>
      Option.bind (crc (q163.2) x167 2) fun c170 =>
      Option.bind (fX2_clear c170  (q163.2)) fun q170 =>
      Option.bind (cgR (q170.2) o 6 6) fun x174 =>
      Option.bind x174 fun q181 =>
      Option.bind (cstR (q170.2) q181 10 (nI F.length) v152) fun z181 =>
      Option.bind (cgI z181 o 6 7) fun x184 =>
      Option.bind (cpI z181 o 6 7 (x184 + 1)) fun z189 =>
      some ((.inl (nI F.length) : Int32 ⊕ Nat), z189, 0, 0)) (some N)) = some (.inl (nI F.length), (K2, I2, P2, N + 4), 3, 214) ∧ CR o b K2 I2 P2 (N + 4) T n g (aup (aup R (300 + F.length) (some (L, w, p))) 308 (some ([], 0, 0))) (F ++ [(a0, a1, pu, fun _ => -1)]) Q U := by
  have hlt : ∀ q x, K q = some x → q < N := fun q x hx => h.fr q (by rw [hx]; exact fun e => by cases e)
  obtain ⟨⟨s1, s2, s3, s4, s5, s6, s7, s8, s9, s10, s11⟩, u1, u2, u3, u4, u5, u6, u7, u8⟩ := h.sf
  have hoN := hlt _ _ s1
  have haN := hlt _ _ s9
  obtain ⟨dp, dok, drow⟩ := row308 h hd
  have hdN := hlt _ _ dok.1
  have hdN1 := hlt _ _ dok.2.2
  let K1 : Nat → Option (Nat × Nat) := fun q => if q = N then some (0, 0) else K q
  let Ka : Nat → Option (Nat × Nat) := fun q => if q = N + 1 then some (2, 0) else K1 q
  let Kb : Nat → Option (Nat × Nat) := fun q => if q = N + 2 then some (8, 180) else Ka q
  let K2 : Nat → Option (Nat × Nat) := fun q => if q = N + 3 then some (8, 30) else Kb q
  let I1 : Nat → Nat → Int32 := cup (cup (cup (fun q => if q = N then fun _ => 0 else I q) N 0 a0) N 1 a1) N 2 pu
  let Ia : Nat → Nat → Int32 := fun q => if q = N + 1 then fun _ => 0 else I1 q
  let Ib : Nat → Nat → Int32 := fun q => if q = N + 2 then fun _ => 0 else Ia q
  let Ic : Nat → Nat → Int32 := fun q => if q = N + 3 then fun _ => 0 else Ib q
  let Pa : Nat → Nat → Option Nat := fun q => if q = N + 1 then fun _ => none else (fun q => if q = N then fun _ => none else P q) q
  let Pb : Nat → Nat → Option Nat := cuR (fun q => if q = N + 2 then fun _ => none else Pa q) (N + 1) 0 (some (N + 2))
  let Pc : Nat → Nat → Option Nat := cuR Pb N 3 (some (N + 1))
  let P2 : Nat → Nat → Option Nat := cuR (fun q => if q = N + 3 then fun _ => none else Pc q) N 4 (some (N + 3))
  have ka : Ka (N + 1) = some (2, 0) := if_pos rfl
  have kaN : Ka N = some (0, 0) := by
    show (if N = N + 1 then _ else if N = N then _ else _) = _
    rw [if_neg (by omega), if_pos rfl]
  have kbN : Kb N = some (0, 0) := by
    show (if N = N + 2 then _ else Ka N) = _
    rw [if_neg (by omega), kaN]
  have k0 : K2 N = some (0, 0) := by
    show (if N = N + 3 then _ else Kb N) = _
    rw [if_neg (by omega), kbN]
  have k1 : K2 (N + 1) = some (2, 0) := by
    show (if N + 1 = N + 3 then _ else if N + 1 = N + 2 then _ else Ka (N + 1)) = _
    rw [if_neg (by omega), if_neg (by omega), ka]
  have k2 : K2 (N + 2) = some (8, 180) := by
    show (if N + 2 = N + 3 then _ else if N + 2 = N + 2 then _ else _) = _
    rw [if_neg (by omega), if_pos rfl]
  have k3 : K2 (N + 3) = some (8, 30) := if_pos rfl
  have kO : ∀ q, q < N → K2 q = K q := fun q hq => by
    show (if q = N + 3 then _ else if q = N + 2 then _ else if q = N + 1 then _ else if q = N then _ else K q) = _
    rw [if_neg (by omega), if_neg (by omega), if_neg (by omega), if_neg (by omega)]
  have kN : ∀ q, N + 4 ≤ q → K2 q = none := fun q hq => by
    show (if q = N + 3 then _ else if q = N + 2 then _ else if q = N + 1 then _ else if q = N then _ else K q) = _
    rw [if_neg (by omega), if_neg (by omega), if_neg (by omega), if_neg (by omega)]
    exact Classical.byContradiction (fun h9 => by have := h.fr q h9; omega)
  have icO : ∀ q, q < N → Ic q = I q := fun q hq => by
    show (if q = N + 3 then _ else if q = N + 2 then _ else if q = N + 1 then _ else cup (cup (cup _ N 0 a0) N 1 a1) N 2 pu q) = _
    rw [if_neg (by omega), if_neg (by omega), if_neg (by omega), cup_q (by omega), cup_q (by omega), cup_q (by omega), if_neg (by omega)]
  have icN : Ic N = cup (cup (cup (fun q => if q = N then fun _ => 0 else I q) N 0 a0) N 1 a1) N 2 pu N := by
    show (if N = N + 3 then _ else if N = N + 2 then _ else if N = N + 1 then _ else _) = _
    rw [if_neg (by omega), if_neg (by omega), if_neg (by omega)]
  have ic1 : Ic (N + 1) = fun _ => 0 := by
    show (if N + 1 = N + 3 then _ else if N + 1 = N + 2 then _ else if N + 1 = N + 1 then _ else _) = _
    rw [if_neg (by omega), if_neg (by omega), if_pos rfl]
  have pO : ∀ q, q < N → P2 q = P q := fun q hq => by
    show cuR _ N 4 (some (N + 3)) q = _
    rw [cuR_q (by omega), if_neg (by omega)]
    show cuR Pb N 3 (some (N + 1)) q = _
    rw [cuR_q (by omega)]
    show cuR _ (N + 1) 0 (some (N + 2)) q = _
    rw [cuR_q (by omega), if_neg (by omega)]
    show (if q = N + 1 then _ else if q = N then _ else P q) = _
    rw [if_neg (by omega), if_neg (by omega)]
  have p4 : P2 N 4 = some (N + 3) := cuR_s
  have p3 : P2 N 3 = some (N + 1) := by
    show cuR _ N 4 (some (N + 3)) N 3 = _
    rw [cuR_j (by omega), if_neg (by omega)]
    exact cuR_s
  have p10 : P2 (N + 1) 0 = some (N + 2) := by
    show cuR _ N 4 (some (N + 3)) (N + 1) 0 = _
    rw [cuR_q (by omega), if_neg (by omega)]
    show cuR Pb N 3 (some (N + 1)) (N + 1) 0 = _
    rw [cuR_q (by omega)]
    exact cuR_s
  obtain ⟨Id, d1, d2, d3⟩ := res_loop (N4 := N + 4) k0 p4 k3 30 rFuel 0 Ic (by omega) (by show 30 < 100000; omega) (fun s hs => by omega)
  have ini : fX0_init N a0 a1 pu (cnw (K, I, P, N) 0 0) = some ((), (K2, Id, P2, N + 4), 3, 214) := by
    have e0 : cnw (K, I, P, N) 0 0 = (K1, (fun q => if q = N then fun _ => 0 else I q), (fun q => if q = N then fun _ => none else P q), N + 1) := rfl
    have kk : K1 N = some (0, 0) := if_pos rfl
    unfold fX0_init
    rw [e0, e_pI kk, Option.bind_some, e_pI kk, Option.bind_some, e_pZ kk hpu, Option.bind_some]
    show ause 1 4 (abind (fX2_init (N + 1) (Ka, Ia, Pa, N + 2)) _) = _
    rw [e_init (N := N + 2) ka (by omega)]
    show ause 1 4 (ause 1 180 (Option.bind (cpR (Kb, Ib, Pb, N + 3) N 0 3 (some (N + 1))) _)) = _
    rw [e_pR kbN, Option.bind_some]
    have n1 : ∀ z : cS, cna z 8 30 = some (cnw z 8 30) := fun z => if_neg (by decide)
    rw [n1, Option.bind_some]
    show ause 1 4 (ause 1 180 (ause 1 30 (Option.bind (cpR (K2, Ic, (fun q => if q = N + 3 then fun _ => none else Pc q), N + 4) N 0 4 (some (N + 3))) _))) = _
    rw [e_pR k0, Option.bind_some]
    show ause 1 4 (ause 1 180 (ause 1 30 (fX0_init_b41 N rFuel (nI 0) (K2, Ic, P2, N + 4)))) = _
    rw [d1]
    rfl
  have hpp : ∀ j, ptr b (cuR P2 (b + 13) F.length (some N)) j = if j = 400 + F.length then some N else if j = 300 + F.length then some (N + 1) else ptr b P j := by
    have e1 : cuR P2 (b + 13) F.length (some N) (b + 4) = P (b + 4) := by rw [cuR_q (by omega), pO _ (hlt _ _ s6)]
    have e2 : cuR P2 (b + 13) F.length (some N) (b + 6) = P (b + 6) := by rw [cuR_q (by omega), pO _ (hlt _ _ s8)]
    have e3 : cuR P2 (b + 13) F.length (some N) (b + 15) = P (b + 15) := by rw [cuR_q (by omega), pO _ (hlt _ _ s11)]
    have e4 : cuR P2 (b + 13) F.length (some N) (b + 14) = P (b + 14) := by rw [cuR_q (by omega), pO _ (hlt _ _ s10)]
    have e5 : ∀ i, i ≠ F.length → cuR P2 (b + 13) F.length (some N) (b + 13) i = P (b + 13) i := fun i hi => by rw [cuR_j hi, pO _ (hlt _ _ s9)]
    intro j
    by_cases hj : j = 400 + F.length
    · rw [if_pos hj, hj, ptr4 hl, cuR_s]
    · rw [if_neg hj]
      by_cases hj3 : j = 300 + F.length
      · rw [if_pos hj3, hj3, ptr3 hl, cuR_s]; rfl
      · rw [if_neg hj3]
        by_cases h6 : 400 ≤ j ∧ j < 408
        · obtain ⟨i, rfl⟩ : ∃ i, j = 400 + i := ⟨j - 400, by omega⟩
          rw [ptr4 (by omega), ptr4 (by omega), e5 i (by omega)]
        · by_cases h7 : 300 ≤ j ∧ j < 308
          · obtain ⟨i, rfl⟩ : ∃ i, j = 300 + i := ⟨j - 300, by omega⟩
            rw [ptr3 (by omega), ptr3 (by omega), e5 i (by omega)]
          · unfold ptr
            rw [e1, e2, e3, e4, if_neg h6, if_neg h6, if_neg h7, if_neg h7]
  have hn4 : ptr b P (400 + F.length) = none := h.fu.2.2.2 _ (Nat.le_refl _) hl
  have hn3 : ptr b P (300 + F.length) = none := by rw [ptr3 hl]; rw [ptr4 hl] at hn4; rw [hn4]; rfl
  have I3o : ∀ q, q < N → q ≠ o → cup Id o 7 (nI (F.length + 1)) q = I q := fun q hq ho => by rw [cup_q ho, d3 q (by omega), icO q hq]
  have hold : ∀ {c} j, N ≤ c → ptr b P j = some c → False := fun {c} j hc hj => by have := hlt _ _ (h.sd.1 j c hj); omega
  obtain ⟨c1, c2, c3, c4, c5, c6, c7, c8⟩ := h.allocX (K2 := K2) (I2 := cup Id o 7 (nI (F.length + 1))) (P2 := cuR P2 (b + 13) F.length (some N)) (arr := b + 13) (Or.inl rfl) kO I3o (fun q hq hqa => by rw [cuR_q hqa, pO q hq]) (fun a ha hk => by
      rcases (show a = N ∨ a = N + 1 ∨ a = N + 2 ∨ a = N + 3 ∨ N + 4 ≤ a by omega) with rfl | rfl | rfl | rfl | h9
      · rw [k0] at hk; cases hk
      · rw [cuR_q (by omega)]; exact ⟨p10, k2⟩
      · rw [k2] at hk; cases hk
      · rw [k3] at hk; cases hk
      · rw [kN a h9] at hk; cases hk) (fun a ha hk => by
      rcases (show a = N ∨ a = N + 1 ∨ a = N + 2 ∨ a = N + 3 ∨ N + 4 ≤ a by omega) with rfl | rfl | rfl | rfl | h9
      · rw [cuR_q (by omega)]; exact ⟨p3, k1, p4, k3⟩
      · rw [k1] at hk; cases hk
      · rw [k2] at hk; cases hk
      · rw [k3] at hk; cases hk
      · rw [kN a h9] at hk; cases hk) (fun a ha hk => by
      rcases (show a = N ∨ a = N + 1 ∨ a = N + 2 ∨ a = N + 3 ∨ N + 4 ≤ a by omega) with rfl | rfl | rfl | rfl | h9
      · rw [k0] at hk; cases hk
      · rw [k1] at hk; cases hk
      · rw [k2] at hk; cases hk
      · rw [k3] at hk; cases hk
      · rw [kN a h9] at hk; cases hk) (fun j c hj => by
      rw [hpp] at hj
      by_cases h9 : j = 400 + F.length
      · rw [if_pos h9] at hj; cases hj; exact Or.inr ⟨Nat.le_refl _, by rw [k0, pkd0 (by omega) (by omega)]⟩
      · rw [if_neg h9] at hj
        by_cases h10 : j = 300 + F.length
        · rw [if_pos h10] at hj; cases hj; exact Or.inr ⟨by omega, by rw [k1, pkd2 (by omega)]⟩
        · rw [if_neg h10] at hj; exact Or.inl hj) (fun i j c hc hi hj => by
      rw [hpp] at hi hj
      by_cases h9 : i = 400 + F.length <;> by_cases h10 : j = 400 + F.length
      · rw [h9, h10]
      · rw [if_pos h9] at hi; rw [if_neg h10] at hj; cases hi
        by_cases h11 : j = 300 + F.length
        · rw [if_pos h11] at hj; have := Option.some.inj hj; omega
        · rw [if_neg h11] at hj; exact absurd hj (hold j hc)
      · rw [if_neg h9] at hi; rw [if_pos h10] at hj; cases hj
        by_cases h11 : i = 300 + F.length
        · rw [if_pos h11] at hi; have := Option.some.inj hi; omega
        · rw [if_neg h11] at hi; exact absurd hi (hold i hc)
      · rw [if_neg h9] at hi; rw [if_neg h10] at hj
        by_cases h11 : i = 300 + F.length <;> by_cases h12 : j = 300 + F.length
        · rw [h11, h12]
        · rw [if_neg h12] at hj; exact absurd hj (hold j hc)
        · rw [if_neg h11] at hi; exact absurd hi (hold i hc)
        · rw [if_neg h12] at hj; exact absurd hj (hold j hc)) (fun j c hj => by rw [hpp, if_neg (fun e => by rw [e, hn4] at hj; cases hj), if_neg (fun e => by rw [e, hn3] at hj; cases hj)]; exact hj)
  have id1 : Id (N + 1) = fun _ => 0 := by rw [d3 _ (by omega), ic1]
  have hp300 : ptr b (cuR P2 (b + 13) F.length (some N)) (300 + F.length) = some (N + 1) := by rw [hpp, if_neg (by omega), if_pos rfl]
  have hA : CR o b K2 (cup Id o 7 (nI (F.length + 1))) (cuR P2 (b + 13) F.length (some N)) (N + 4) T n g (aup R (300 + F.length) (some ([], 0, 0))) (F ++ [(a0, a1, pu, fun _ => -1)]) Q U := by
    refine ⟨fun q hq => Nat.lt_of_not_le (fun h9 => hq (kN q h9)), c1, c2, c3, c4, ?_, ?_, ?_, ?_⟩
    · intro k d hk
      by_cases hkk : k = 300 + F.length
      · subst hkk
        rw [aup_s] at hk
        cases hk
        refine ⟨by omega, N + 1, hp300, ⟨?_, by simp, fun p e hp => by simp at hp⟩, ?_, ?_⟩
        · rw [cup_q (by omega), id1]; rfl
        · rw [cup_q (by omega), id1]; rfl
        · rw [cup_q (by omega), id1]; rfl
      · rw [aup_n hkk] at hk
        exact c5 k d hk
    · refine ⟨by rw [cup_s, List.length_append]; rfl, by simp; omega, fun u x hx => ?_, fun u h1 h2 => ?_⟩
      · by_cases hu : u < F.length
        · rw [List.getElem?_append_left hu] at hx
          exact c6 u x hx
        · have hl2 := (List.getElem?_eq_some_iff.mp hx).1
          have hu2 : u = F.length := by simp at hl2; omega
          subst hu2
          rw [List.getElem?_append_right (Nat.le_refl _), Nat.sub_self] at hx
          cases hx
          have iN0 : ∀ j, cup Id o 7 (nI (F.length + 1)) N j = cup (cup (cup (fun q => if q = N then fun _ => 0 else I q) N 0 a0) N 1 a1) N 2 pu N j := fun j => by rw [cup_q (by omega), d3 _ (by omega), icN]
          refine ⟨N, by rw [hpp, if_pos rfl], ?_, ?_, ?_, fun s hs => ?_⟩
          · rw [iN0, cup_j (by omega), cup_j (by omega), cup_s]
          · rw [iN0, cup_j (by omega), cup_s]
          · rw [iN0, cup_s]
          · rw [cup_q (by omega)]; exact d2 s hs
      · rw [List.length_append, List.length_singleton] at h1
        rw [hpp, if_neg (by omega), if_neg (by omega)]
        exact h.fu.2.2.2 u (by omega) h2
    · have hpk := h.pk
      refine ⟨by rw [cup_j (by omega), d3 o (by omega), icO o hoN]; exact hpk.1, hpk.2.1, c7, fun i h1 h2 => by rw [hpp, if_neg (by omega), if_neg (by omega)]; exact hpk.2.2.2 i h1 h2⟩
    · have hun := h.un
      refine ⟨by rw [cup_j (by omega), d3 o (by omega), icO o hoN]; exact hun.1, hun.2.1, c8, fun i h1 h2 => by rw [hpp, if_neg (by omega), if_neg (by omega)]; exact hun.2.2.2 i h1 h2⟩
  have okN : RowOK K2 P2 (N + 1) := ⟨k1, p10, k2⟩
  have okD : RowOK K2 P2 (b + 11) := ⟨by rw [kO _ hdN]; exact dok.1, by rw [pO _ hdN]; exact dok.2.1, by rw [kO _ hdN1]; exact dok.2.2⟩
  have rowD : RowIs Id (b + 11) (L, w, p) := drow.congr (by rw [d3 _ (by omega), icO _ hdN]) (by rw [d3 _ (by omega), icO _ hdN1])
  have rowN : RowE Id (N + 1) [] := ⟨by rw [id1]; rfl, by simp, fun p e hp => by simp at hp⟩
  have hL30 : L.length ≤ 30 := rowD.1.2.1
  obtain ⟨J1, j1, j2, j3, j4, j5⟩ := addAll_r (N := N + 4) okN okD (show N + 1 ≠ b + 11 by omega) rowD.1 rowN (by simp; exact hL30)
  rw [List.nil_append] at j2
  have jrow : RowIs J1 (N + 1) (L, w, p) := ⟨j2, by rw [j4, id1, rowD.2.1]; show (0 : Int32) + nI w = nI w; rw [Int32.zero_add], by rw [j5, id1, rowD.2.2]; show (0 : Int32) + nI p = nI p; rw [Int32.zero_add]⟩
  have jr2 : RowIs (cup J1 o 7 (nI (F.length + 1))) (N + 1) (L, w, p) := jrow.congr (cup_q (by omega)) (cup_q (by omega))
  have hB := hA.upRow (by omega) hp300 (j3.upc (q := o) (j := 7) (v := nI (F.length + 1))) jr2
  rw [aup_aup] at hB
  have hdo : b + 11 ≠ o := fun e => by have := dok.1; rw [e, s1] at this; cases this
  have hdo1 : b + 11 + 1 ≠ o := fun e => by have := dok.2.2; rw [e, s1] at this; cases this
  have hp308 : ptr b (cuR P2 (b + 13) F.length (some N)) 308 = some (b + 11) := ptr308
  have hCl := hB.upRow (J := cup (cup (cup (cup J1 (b + 11) 1 0) (b + 11) 2 0) (b + 11) 3 0) o 7 (nI (F.length + 1))) (d := ([], 0, 0)) (by omega) hp308 (clear_o.upc) (clear_is.congr (cup_q hdo) (cup_q hdo1))
  refine ⟨K2, _, cuR P2 (b + 13) F.length (some N), ?_, hCl⟩
  have ko : K2 o = some (6, 0) := by rw [kO o hoN, s1]
  have po5 : P2 o 5 = some (b + 11) := by rw [pO o hoN, u6]
  have po6 : P2 o 6 = some (b + 13) := by rw [pO o hoN, u7]
  rw [ini]
  show ause 3 214 (Option.bind (cgR (K2, Id, P2, N + 4) N 0 3) _) = _
  rw [e_gR k0, Option.bind_some, p3, e_gR ko, Option.bind_some, po5, e_rc k1, Option.bind_some, j1, Option.bind_some, e_gR ko, Option.bind_some, po5, e_rc okD.1, Option.bind_some, clear_r okD, Option.bind_some, e_gR ko, Option.bind_some, po6, Option.bind_some, e_stR (n := 8) (m := 0) (by rw [kO _ haN, s9]) k0 hl (by omega), Option.bind_some, e_gI ko, Option.bind_some]
  have jo : cup (cup (cup J1 (b + 11) 1 0) (b + 11) 2 0) (b + 11) 3 0 o 7 = nI F.length := by
    rw [cup_q (fun e => hdo e.symm), cup_q (fun e => hdo e.symm), cup_q (fun e => hdo e.symm), j3 o (by omega) (by omega), d3 o (by omega), icO o hoN]
    exact h.fu.1
  rw [jo, nI_1, e_pI ko, Option.bind_some]
  rfl
end Functor
