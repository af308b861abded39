/-! THE BEGINNING: both constructors; what is asked of Inv -/
theorem rInt_no : ∀ j, j < 41 → (j ≠ 0 ∧ j ≠ 4 ∧ j ≠ 10 ∧ j ≠ 17 ∧ j ≠ 29 ∧ j ≠ 32 ∧ j ≠ 28) → rInt j = false := by decide +kernel
theorem ix7_inj {j k : Nat} (hj : j < 55) (hk : k < 55) (h1 : rInt j = false) (h2 : rInt k = false) (h : ix7 j = ix7 k) : j = k := by
  obtain ⟨-, a⟩ := fl47_of j hj h1
  obtain ⟨-, b⟩ := fl47_of k hk h2
  rw [h, b] at a
  have := Option.some.inj a
  exact (congrArg Prod.fst this).symm
theorem inv_start : simStart Inv := by
  intro q
  refine ⟨fun z' => ∃ b, q < b ∧ ∃ N, CR q b z'.1 z'.2.1 z'.2.2.1 N [none, none] 0 0 R00 [] [] [], ?_, ?_⟩
  · intro nx hnx
    have hq : q < nx := hnx q (by
      show (if q = q then some (6, 0) else _) ≠ none
      rw [if_pos rfl]
      exact fun h => by cases h)
    have hz : cwn (cnw (cwn z00 q) 6 0) nx = (mkK q nx [], (fun p => if p = q then fun _ => 0 else fun _ => 0), (fun p => if p = q then fun _ => none else fun _ => none), nx) := by
      refine Prod.ext (funext fun p => ?_) rfl
      show (if p = q then some (6, 0) else none) = mkK q nx [] p
      unfold mkK
      by_cases h : p = q
      · rw [if_pos h, if_pos h]
      · rw [if_neg h, if_neg h]
        by_cases h2 : nx ≤ p
        · rw [if_pos h2]
          rfl
        · rw [if_neg h2]
    have hI : ∀ p, (fun p : Nat => if p = q then (fun _ : Nat => (0 : Int32)) else fun _ => 0) p = fun _ => 0 := fun p => by
      show (if p = q then (fun _ : Nat => (0 : Int32)) else fun _ => 0) = _
      by_cases h : p = q
      · rw [if_pos h]
      · rw [if_neg h]
    have hP : ∀ p, (fun p : Nat => if p = q then (fun _ : Nat => (none : Option Nat)) else fun _ => none) p = fun _ => none := fun p => by
      show (if p = q then (fun _ : Nat => (none : Option Nat)) else fun _ => none) = _
      by_cases h : p = q
      · rw [if_pos h]
      · rw [if_neg h]
    rw [hz]
    exact ⟨_, 16, 1035, init6_c hq hI hP, by omega, by omega, nx, hq, _, CR0 hq hI hP⟩
  · rintro ⟨K, I, P, N0⟩ ⟨b, hqb, N, hC⟩ q7 hq7 nx hnx
    have hC2 : CR q b K I P N [none, none] 0 0 R00 [] [] [] := hC
    have hq72 : ∀ p, K p ≠ none → p < q7 := hq7
    have h7 : q7 < nx := hnx q7 (by
      show (if q7 = q7 then some (7, 0) else _) ≠ none
      rw [if_pos rfl]
      exact fun h => by cases h)
    have hKp : ∀ p x, K p = some x → p < q7 := fun p x h => hq72 p (by rw [h]; exact fun h => by cases h)
    obtain ⟨K1, hK1⟩ : ∃ K1 : Nat → Option (Nat × Nat), K1 = fun p => if p = q7 then some (7, 0) else K p := ⟨_, rfl⟩
    obtain ⟨I1, hI1⟩ : ∃ I1 : Nat → Nat → Int32, I1 = fun p => if p = q7 then fun _ => 0 else I p := ⟨_, rfl⟩
    obtain ⟨P1, hP1⟩ : ∃ P1 : Nat → Nat → Option Nat, P1 = fun p => if p = q7 then fun _ => none else P p := ⟨_, rfl⟩
    have hz : cwn (cnw (cwn (K, I, P, N0) q7) 7 0) nx = (K1, I1, P1, nx) := by
      rw [hK1, hI1, hP1]
      rfl
    have k7 : K1 q7 = some (7, 0) := by
      rw [hK1]
      exact if_pos rfl
    have ko : ∀ p, p ≠ q7 → K1 p = K p ∧ I1 p = I p ∧ P1 p = P p := fun p hp => by
      rw [hK1, hI1, hP1]
      exact ⟨if_neg hp, if_neg hp, if_neg hp⟩
    have i7 : ∀ j, I1 q7 j = 0 := fun j => by
      rw [hI1]
      show (if q7 = q7 then (fun _ : Nat => (0 : Int32)) else I q7) j = 0
      rw [if_pos rfl]
    have hKn : ∀ p, nx ≤ p → K1 p = none := fun p hp => by
      rw [(ko p (by omega)).1]
      cases hx : K p with
      | none => rfl
      | some x => have := hKp p x hx; omega
    obtain ⟨I2, e1, e2, e3⟩ := init7_c (K := K1) (I := I1) (P := P1) (o := q7) (N := nx) h7 k7 hKn
    have g7 : I2 q7 = cup I1 q7 0 2 q7 := by
      rw [e2 q7 (by omega)]
      unfold gI
      rw [if_neg (by omega)]
    have h28 := fl47_of 28 (by decide) (by decide)
    rw [hz]
    refine ⟨_, 47, 40182, e1, by omega, by omega, (K, I, P, N0), fun k => nx + ix7 k, (fun k => I2 q7 k, fun k => I2 (nx + ix7 k)), fun p x hx => ?_, ⟨⟨0, ?_⟩, fun k _ _ => rfl, fun k hk hi => ?_, fun j k hj hk h1 h2 h => ix7_inj hj hk h1 h2 (by have h9 : nx + ix7 j = nx + ix7 k := h; omega)⟩, ⟨?_, fun k hk hi => ?_⟩, b, [none, none], 0, 0, R00, [], [], [], N, hC2, RR0 ?_ (fun j hj => ?_) (fun j i hj hj2 => ?_) (fun i hi => ?_), WF0 0⟩
    · have hp : p < q7 := hKp p x hx
      obtain ⟨a1, a2, a3⟩ := ko p (by omega)
      refine ⟨?_, ?_, ?_⟩
      · show gK K1 nx 47 p = some x
        unfold gK
        rw [if_neg (by omega), a1]
        exact hx
      · show I p = I2 p
        rw [e2 p (by omega)]
        unfold gI
        rw [if_neg (by omega), cup_q (by omega), a2]
      · show P p = gP P1 q7 nx 47 p
        unfold gP
        rw [if_neg (by omega), if_neg (by omega), a3]
    · show gK K1 nx 47 q7 = some (7, 0)
      unfold gK
      rw [if_neg (by omega)]
      exact k7
    · obtain ⟨f1, f2⟩ := fl47_of k hk hi
      refine ⟨?_, ?_, rfl⟩
      · show gP P1 q7 nx 47 q7 k = some (nx + ix7 k)
        unfold gP
        rw [if_pos rfl, if_pos f1]
      · show gK K1 nx 47 (nx + ix7 k) = _
        unfold gK
        rw [if_pos (by omega), if_pos (by omega), Nat.add_sub_cancel_left, f2]
        rfl
    · cases hx : K q7 with
      | none => exact hx
      | some x => have := hKp q7 x hx; omega
    · show K (nx + ix7 k) = none
      cases hx : K (nx + ix7 k) with
      | none => rfl
      | some x => have := hKp _ x hx; omega
    · show I2 q7 0 = nI 2
      rw [g7, cup_s]
      rfl
    · show I2 q7 j = 0
      rw [g7, cup_j (by omega), i7]
    · show I2 (nx + ix7 j) i = 0
      obtain ⟨f1, f2⟩ := fl47_of j (by omega) (rInt_no j hj hj2)
      have hne : ix7 j ≠ ix7 28 := fun h => hj2.2.2.2.2.2.2 (ix7_inj (by omega) (by omega) (rInt_no j hj hj2) (by decide) h)
      rw [e2 _ (by omega)]
      unfold gI
      rw [if_pos (by omega)]
    · exact e3 i hi
theorem inv_o : ∀ o t z S, Inv o t z S → ∃ n, z.1 o = some (6, n) := by
  rintro o t z S ⟨b, T, n, g, R, F, Q, U, nx, hC, -, -⟩
  exact ⟨0, hC.Ko⟩
theorem inv_w : ∀ o t z S, Inv o t z S → Inv o (t + 1) z S := by
  rintro o t z S ⟨b, T, n, g, R, F, Q, U, nx, hC, hR, hW⟩
  exact ⟨b, T, n, g, R, F, Q, U, nx, hC, hR, hW.step⟩
theorem inv_all : ∀ o t, t < 512 → simAll o (Inv o t) (Inv o (t + 1)) := fun o t ht => ⟨s_arrow o t, s_type o t, s_addType o t, s_addValue o t, s_addPart o t, s_open o t, s_structure o t, s_item o t, s_items o t, s_specType o t, s_specValue o t, s_specPart o t, s_include o t, s_signature o t, s_with o t, s_specs o t, s_match o t, s_seal o t, s_view o t, s_finer o t, s_alike o t, s_bodyType o t, s_bodyValue o t, s_functor o t, s_apply o t, s_pack o t, s_unpack o t, s_unit o t, s_change o t, s_stale o t (by omega), s_build o t (by omega)⟩
/-- from the entry, for every script of at most 3072 ints, the law comes to its end with true -/
theorem whole_start {p : Program} {e : Env} {s : State} {m : MethodId} {below : List Frame} {meth : Method} {c : Code} (l : Launch) (hflags : l.flags = flags0) {b L : Nat} {xs : Nat → Int32} (hL : L ≤ 3072) (C0 : lw_At p s m meth c b L xs) : W p l e room_1 s m #[Value.ref b] below meth c s.heap [] 0 0 (lw_Z below #[Value.ref b] s) (entryFrame m ([Value.ref b] : List Value).toArray 7) :=
  whole_of Inv inv_start inv_o inv_all inv_w l hflags hL C0
