/-! THE BEGINNING: the reference's constructor -/
def fl47 : List (Nat × Nat × Nat) := [(1, 8, 400), (2, 8, 400), (3, 8, 400), (5, 8, 101), (6, 8, 6060), (7, 8, 6060), (8, 8, 6060), (9, 8, 6060), (11, 8, 21), (12, 8, 21), (13, 8, 1260), (14, 8, 1260), (15, 8, 1260), (16, 8, 1260), (18, 8, 9), (19, 8, 180), (20, 8, 180), (21, 8, 180), (22, 8, 180), (23, 8, 180), (24, 8, 180), (25, 8, 8), (26, 8, 8), (27, 9, 8), (28, 8, 240), (30, 8, 10), (31, 8, 10), (33, 8, 8), (34, 8, 8), (35, 9, 8), (36, 8, 8), (37, 9, 8), (38, 8, 8), (39, 8, 64), (40, 8, 64), (42, 8, 22), (43, 8, 22), (44, 8, 22), (45, 8, 22), (46, 8, 220), (47, 8, 22), (48, 8, 1320), (49, 8, 1320), (50, 8, 1320), (51, 8, 1320), (52, 8, 2000), (53, 9, 400)]
def ix7 (k : Nat) : Nat := fl47.findIdx (fun x => decide (x.1 = k))
def gK (K : Nat → Option (Nat × Nat)) (N k : Nat) : Nat → Option (Nat × Nat) := fun p => if N ≤ p then (if p < N + k then (fl47[p - N]?).map (fun x => x.2) else none) else K p
def gI (I : Nat → Nat → Int32) (N k : Nat) : Nat → Nat → Int32 := fun p => if N ≤ p ∧ p < N + k then (fun _ => 0) else I p
def gP (P : Nat → Nat → Option Nat) (o N k : Nat) : Nat → Nat → Option Nat := fun p => if p = o then (fun j => if ix7 j < k then some (N + ix7 j) else P o j) else if N ≤ p ∧ p < N + k then (fun _ => none) else P p
def st7 (K : Nat → Option (Nat × Nat)) (I : Nat → Nat → Int32) (P : Nat → Nat → Option Nat) (o N k : Nat) : cS := (gK K N k, gI I N k, gP P o N k, N + k)
section Init7
variable {K : Nat → Option (Nat × Nat)} {I : Nat → Nat → Int32} {P : Nat → Nat → Option Nat} {o N k c m j kd a : Nat}
theorem fl47_ok : ∀ i, i < 47 → (fl47[i]?).map (fun x => ix7 x.1) = some i := by decide +kernel
theorem fl47_of : ∀ k, k < 55 → rInt k = false → ix7 k < 47 ∧ fl47[ix7 k]? = some (k, (if rZ k then 9 else 8), rLen k) := by decide +kernel
theorem st7_0 (hK : ∀ p, N ≤ p → K p = none) : (K, I, P, N) = st7 K I P o N 0 := by
  unfold st7
  refine Prod.ext (funext fun p => ?_) (Prod.ext (funext fun p => ?_) (Prod.ext (funext fun p => ?_) rfl))
  · show K p = if N ≤ p then (if p < N + 0 then (fl47[p - N]?).map (fun x => x.2) else none) else K p
    by_cases h : N ≤ p
    · rw [if_pos h, if_neg (by omega), hK p h]
    · rw [if_neg h]
  · show I p = if N ≤ p ∧ p < N + 0 then (fun _ => 0) else I p
    rw [if_neg (by omega)]
  · show P p = if p = o then (fun j => if ix7 j < 0 then some (N + ix7 j) else P o j) else if N ≤ p ∧ p < N + 0 then (fun _ => none) else P p
    by_cases h : p = o
    · rw [if_pos h, h]
      funext j
      rw [if_neg (by omega)]
    · rw [if_neg h, if_neg (by omega)]
theorem st7_step (ho : o < N) (hKo : K o = some (7, c)) (hk : k < 47) {x : Int32} (hfl : fl47[k]? = some (j, kd, m)) (hx : x = nI m) (hm : m ≤ 100000) {f : cS → Option (Unit × cS × Nat × Nat)} : (Option.bind (cna (st7 K I P o N k) kd x) fun z => ause 1 m <| Option.bind (cpR z o 7 j (some (st7 K I P o N k).2.2.2)) f) = ause 1 m (f (st7 K I P o N (k + 1))) := by
  have hix : ix7 j = k := by
    have h9 := fl47_ok k hk
    rw [hfl] at h9
    exact Option.some.inj h9
  have hinj : ∀ i, ix7 i = k → i = j := by
    intro i hi
    unfold ix7 at hi
    subst hi
    obtain ⟨q1, q2⟩ := List.getElem?_eq_some_iff.mp hfl
    have h9 := List.findIdx_getElem (w := q1)
    rw [q2] at h9
    exact (of_decide_eq_true h9).symm
  rw [e_cna hx hm, Option.bind_some]
  have hst : cnw (st7 K I P o N k) kd m = (gK K N (k + 1), gI I N (k + 1), (fun p => if p = N + k then fun _ => none else gP P o N k p), N + (k + 1)) := by
    unfold cnw st7
    refine Prod.ext (funext fun p => ?_) (Prod.ext (funext fun p => ?_) rfl)
    · show (if p = N + k then some (kd, m) else gK K N k p) = gK K N (k + 1) p
      unfold gK
      by_cases h : p = N + k
      · rw [if_pos h, if_pos (by omega), if_pos (by omega), h, Nat.add_sub_cancel_left, hfl]
        rfl
      · rw [if_neg h]
        by_cases h1 : N ≤ p
        · rw [if_pos h1, if_pos h1]
          by_cases h2 : p < N + k
          · rw [if_pos h2, if_pos (by omega)]
          · rw [if_neg h2, if_neg (by omega)]
        · rw [if_neg h1, if_neg h1]
    · show (if p = N + k then fun _ => 0 else gI I N k p) = gI I N (k + 1) p
      unfold gI
      by_cases h : p = N + k
      · rw [if_pos h, if_pos (by omega)]
      · rw [if_neg h]
        by_cases h1 : N ≤ p ∧ p < N + k
        · rw [if_pos h1, if_pos (by omega)]
        · rw [if_neg h1, if_neg (by omega)]
  rw [hst]
  have hko : gK K N (k + 1) o = some (7, c) := by
    unfold gK
    rw [if_neg (by omega)]
    exact hKo
  rw [e_pR hko, Option.bind_some]
  have hp : cuR (fun p => if p = N + k then fun _ => none else gP P o N k p) o j (some (st7 K I P o N k).2.2.2) = gP P o N (k + 1) := by
    funext p i
    by_cases hpo : p = o
    · subst hpo
      have e1 : gP P p N (k + 1) p i = if ix7 i < k + 1 then some (N + ix7 i) else P p i := by unfold gP; rw [if_pos rfl]
      have e2 : gP P p N k p i = if ix7 i < k then some (N + ix7 i) else P p i := by unfold gP; rw [if_pos rfl]
      rw [e1]
      by_cases hij : i = j
      · subst hij
        rw [cuR_s, hix, if_pos (by omega)]
        rfl
      · rw [cuR_j hij, if_neg (by omega), e2]
        have hne : ix7 i ≠ k := fun h => hij (hinj i h)
        by_cases h1 : ix7 i < k
        · rw [if_pos h1, if_pos (by omega)]
        · rw [if_neg h1, if_neg (by omega)]
    · rw [cuR_q hpo]
      show (if p = N + k then fun _ => none else gP P o N k p) i = _
      unfold gP
      rw [if_neg hpo, if_neg hpo]
      by_cases h : p = N + k
      · rw [if_pos h, if_pos (by omega)]
      · rw [if_neg h]
        by_cases h1 : N ≤ p ∧ p < N + k
        · rw [if_pos h1, if_pos (by omega)]
        · rw [if_neg h1, if_neg (by omega)]
  rw [hp]
  rfl
theorem b412_loop (hKo : K o = some (7, c)) (hP : P o 28 = some a) (ha : K a = some (8, 240)) : ∀ m fu i I, i + m = 240 → m < fu → ∃ I2, fX7_init_b412 o fu (nI i) (K, I, P, N) = some ((), (K, I2, P, N), 0, 0) ∧ (∀ p, p ≠ a → I2 p = I p) ∧ (∀ x, x < i → I2 a x = I a x) ∧ ∀ x, i ≤ x → x < 240 → I2 a x = -1 := by
  intro m
  induction m with
  | zero =>
    intro fu i I hi hf
    cases fu with
    | zero => omega
    | succ fu =>
      refine ⟨I, ?_, fun _ _ => rfl, fun _ _ => rfl, fun x h1 h2 => by omega⟩
      show fX7_init_b412_body o _ (nI i) (K, I, P, N) = _
      unfold fX7_init_b412_body
      rw [show (240 : Int32) = nI 240 from rfl, if_pos (nI_le (by omega) (by omega))]
  | succ m ih =>
    intro fu i I hi hf
    cases fu with
    | zero => omega
    | succ fu =>
      obtain ⟨I2, h1, h2, h3, h4⟩ := ih fu (i + 1) (cup I a i (-1)) (by omega) (by omega)
      refine ⟨I2, ?_, fun p hp => by rw [h2 p hp, cup_q hp], fun x hx => by rw [h3 x (by omega), cup_j (by omega)], fun x hx1 hx2 => ?_⟩
      · show fX7_init_b412_body o _ (nI i) (K, I, P, N) = _
        unfold fX7_init_b412_body
        rw [show (240 : Int32) = nI 240 from rfl, if_neg (nI_ge (by omega) (by omega)), e_gR hKo, Option.bind_some, hP, Option.bind_some, e_stI ha (by omega) (by omega), Option.bind_some, nI_1]
        exact h1
      · by_cases hxi : x = i
        · rw [hxi, h3 i (by omega), cup_s]
        · exact h4 x (by omega) hx2
set_option maxRecDepth 100000 in
theorem init7_c (ho : o < N) (hKo : K o = some (7, c)) (hK : ∀ p, N ≤ p → K p = none) : ∃ I2, fX7_init o (K, I, P, N) = some ((), (gK K N 47, I2, gP P o N 47, N + 47), 47, 40182) ∧ (∀ p, p ≠ N + ix7 28 → I2 p = gI (cup I o 0 2) N 47 p) ∧ ∀ x, x < 240 → I2 (N + ix7 28) x = -1 := by
  have hKo2 : K o = some (7, c) := hKo
  have h28 : ix7 28 < 47 ∧ fl47[ix7 28]? = some (28, 8, 240) := fl47_of 28 (by decide) (by decide)
  have ka : gK K N 47 (N + ix7 28) = some (8, 240) := by
    unfold gK
    rw [if_pos (by omega), if_pos (by omega), Nat.add_sub_cancel_left, h28.2]
    rfl
  have ko : gK K N 47 o = some (7, c) := by
    unfold gK
    rw [if_neg (by omega)]
    exact hKo
  have po : gP P o N 47 o 28 = some (N + ix7 28) := by
    unfold gP
    rw [if_pos rfl, if_pos h28.1]
  obtain ⟨I2, d1, d2, d3, d4⟩ := b412_loop (N := N + 47) ko po ka 240 rFuel 0 (gI (cup I o 0 2) N 47) (by omega) (by show 240 < 100000; omega)
  refine ⟨I2, ?_, d2, fun x hx => d4 x (by omega) hx⟩
  unfold fX7_init
  rw [e_pI hKo, Option.bind_some, st7_0 (o := o) (I := cup I o 0 2) hK]
  rw [st7_step (k := 0) (j := 1) (kd := 8) (m := 400) (x := 400) ho hKo2 (by omega) rfl rfl (by omega)]
  rw [st7_step (k := 1) (j := 2) (kd := 8) (m := 400) (x := 400) ho hKo2 (by omega) rfl rfl (by omega)]
  rw [st7_step (k := 2) (j := 3) (kd := 8) (m := 400) (x := 400) ho hKo2 (by omega) rfl rfl (by omega)]
  rw [st7_step (k := 3) (j := 5) (kd := 8) (m := 101) (x := 101) ho hKo2 (by omega) rfl rfl (by omega)]
  rw [st7_step (k := 4) (j := 6) (kd := 8) (m := 6060) (x := 6060) ho hKo2 (by omega) rfl rfl (by omega)]
  rw [st7_step (k := 5) (j := 7) (kd := 8) (m := 6060) (x := 6060) ho hKo2 (by omega) rfl rfl (by omega)]
  rw [st7_step (k := 6) (j := 8) (kd := 8) (m := 6060) (x := 6060) ho hKo2 (by omega) rfl rfl (by omega)]
  rw [st7_step (k := 7) (j := 9) (kd := 8) (m := 6060) (x := 6060) ho hKo2 (by omega) rfl rfl (by omega)]
  rw [st7_step (k := 8) (j := 11) (kd := 8) (m := 21) (x := 21) ho hKo2 (by omega) rfl rfl (by omega)]
  rw [st7_step (k := 9) (j := 12) (kd := 8) (m := 21) (x := 21) ho hKo2 (by omega) rfl rfl (by omega)]
  rw [st7_step (k := 10) (j := 13) (kd := 8) (m := 1260) (x := 1260) ho hKo2 (by omega) rfl rfl (by omega)]
  rw [st7_step (k := 11) (j := 14) (kd := 8) (m := 1260) (x := 1260) ho hKo2 (by omega) rfl rfl (by omega)]
  rw [st7_step (k := 12) (j := 15) (kd := 8) (m := 1260) (x := 1260) ho hKo2 (by omega) rfl rfl (by omega)]
  rw [st7_step (k := 13) (j := 16) (kd := 8) (m := 1260) (x := 1260) ho hKo2 (by omega) rfl rfl (by omega)]
  rw [st7_step (k := 14) (j := 18) (kd := 8) (m := 9) (x := 9) ho hKo2 (by omega) rfl rfl (by omega)]
  rw [st7_step (k := 15) (j := 19) (kd := 8) (m := 180) (x := 180) ho hKo2 (by omega) rfl rfl (by omega)]
  rw [st7_step (k := 16) (j := 20) (kd := 8) (m := 180) (x := 180) ho hKo2 (by omega) rfl rfl (by omega)]
  rw [st7_step (k := 17) (j := 21) (kd := 8) (m := 180) (x := 180) ho hKo2 (by omega) rfl rfl (by omega)]
  rw [st7_step (k := 18) (j := 22) (kd := 8) (m := 180) (x := 180) ho hKo2 (by omega) rfl rfl (by omega)]
  rw [st7_step (k := 19) (j := 23) (kd := 8) (m := 180) (x := 180) ho hKo2 (by omega) rfl rfl (by omega)]
  rw [st7_step (k := 20) (j := 24) (kd := 8) (m := 180) (x := 180) ho hKo2 (by omega) rfl rfl (by omega)]
  rw [st7_step (k := 21) (j := 25) (kd := 8) (m := 8) (x := 8) ho hKo2 (by omega) rfl rfl (by omega)]
  rw [st7_step (k := 22) (j := 26) (kd := 8) (m := 8) (x := 8) ho hKo2 (by omega) rfl rfl (by omega)]
  rw [st7_step (k := 23) (j := 27) (kd := 9) (m := 8) (x := 8) ho hKo2 (by omega) rfl rfl (by omega)]
  rw [st7_step (k := 24) (j := 28) (kd := 8) (m := 240) (x := 240) ho hKo2 (by omega) rfl rfl (by omega)]
  rw [st7_step (k := 25) (j := 30) (kd := 8) (m := 10) (x := 10) ho hKo2 (by omega) rfl rfl (by omega)]
  rw [st7_step (k := 26) (j := 31) (kd := 8) (m := 10) (x := 10) ho hKo2 (by omega) rfl rfl (by omega)]
  rw [st7_step (k := 27) (j := 33) (kd := 8) (m := 8) (x := 8) ho hKo2 (by omega) rfl rfl (by omega)]
  rw [st7_step (k := 28) (j := 34) (kd := 8) (m := 8) (x := 8) ho hKo2 (by omega) rfl rfl (by omega)]
  rw [st7_step (k := 29) (j := 35) (kd := 9) (m := 8) (x := 8) ho hKo2 (by omega) rfl rfl (by omega)]
  rw [st7_step (k := 30) (j := 36) (kd := 8) (m := 8) (x := 8) ho hKo2 (by omega) rfl rfl (by omega)]
  rw [st7_step (k := 31) (j := 37) (kd := 9) (m := 8) (x := 8) ho hKo2 (by omega) rfl rfl (by omega)]
  rw [st7_step (k := 32) (j := 38) (kd := 8) (m := 8) (x := 8) ho hKo2 (by omega) rfl rfl (by omega)]
  rw [st7_step (k := 33) (j := 39) (kd := 8) (m := 64) (x := 64) ho hKo2 (by omega) rfl rfl (by omega)]
  rw [st7_step (k := 34) (j := 40) (kd := 8) (m := 64) (x := 64) ho hKo2 (by omega) rfl rfl (by omega)]
  rw [st7_step (k := 35) (j := 42) (kd := 8) (m := 22) (x := 22) ho hKo2 (by omega) rfl rfl (by omega)]
  rw [st7_step (k := 36) (j := 43) (kd := 8) (m := 22) (x := 22) ho hKo2 (by omega) rfl rfl (by omega)]
  rw [st7_step (k := 37) (j := 44) (kd := 8) (m := 22) (x := 22) ho hKo2 (by omega) rfl rfl (by omega)]
  rw [st7_step (k := 38) (j := 45) (kd := 8) (m := 22) (x := 22) ho hKo2 (by omega) rfl rfl (by omega)]
  rw [st7_step (k := 39) (j := 46) (kd := 8) (m := 220) (x := 220) ho hKo2 (by omega) rfl rfl (by omega)]
  rw [st7_step (k := 40) (j := 47) (kd := 8) (m := 22) (x := 22) ho hKo2 (by omega) rfl rfl (by omega)]
  rw [st7_step (k := 41) (j := 48) (kd := 8) (m := 1320) (x := 1320) ho hKo2 (by omega) rfl rfl (by omega)]
  rw [st7_step (k := 42) (j := 49) (kd := 8) (m := 1320) (x := 1320) ho hKo2 (by omega) rfl rfl (by omega)]
  rw [st7_step (k := 43) (j := 50) (kd := 8) (m := 1320) (x := 1320) ho hKo2 (by omega) rfl rfl (by omega)]
  rw [st7_step (k := 44) (j := 51) (kd := 8) (m := 1320) (x := 1320) ho hKo2 (by omega) rfl rfl (by omega)]
  rw [st7_step (k := 45) (j := 52) (kd := 8) (m := 2000) (x := 2000) ho hKo2 (by omega) rfl rfl (by omega)]
  rw [st7_step (k := 46) (j := 53) (kd := 9) (m := 400) (x := 400) ho hKo2 (by omega) rfl rfl (by omega)]
  have d5 : fX7_init_b412 o rFuel 0 (st7 K (cup I o 0 2) P o N 47) = some ((), (gK K N 47, I2, gP P o N 47, N + 47), 0, 0) := d1
  rw [d5]
  rfl
end Init7
