/-! THE BEGINNING: the class's constructor -/
def mkK (q b : Nat) (kl : List (Nat × Nat)) : Nat → Option (Nat × Nat) := fun p => if p = q then some (6, 0) else if b ≤ p then kl[p - b]? else none
section Init6
variable {q b k ci n m j : Nat} {kl : List (Nat × Nat)} {K : Nat → Option (Nat × Nat)} {I J : Nat → Nat → Int32} {P : Nat → Nat → Option Nat} {N : Nat}
theorem mkK_q : mkK q b kl q = some (6, 0) := if_pos rfl
theorem mkK_i {i : Nat} (h : q < b) : mkK q b kl (b + i) = kl[i]? := by
  unfold mkK
  rw [if_neg (by omega), if_pos (by omega), Nat.add_sub_cancel_left]
theorem mkK_c {p : Nat} {x : Nat × Nat} (h : mkK q b kl p = some x) : (p = q ∧ x = (6, 0)) ∨ ∃ i, i < kl.length ∧ p = b + i ∧ kl[i]? = some x := by
  unfold mkK at h
  by_cases h1 : p = q
  · rw [if_pos h1] at h; cases h; exact Or.inl ⟨h1, rfl⟩
  · rw [if_neg h1] at h
    by_cases h2 : b ≤ p
    · rw [if_pos h2] at h
      exact Or.inr ⟨p - b, (List.getElem?_eq_some_iff.mp h).1, by omega, h⟩
    · rw [if_neg h2] at h; cases h
theorem e_cna {z : cS} {x : Int32} (h : x = nI m) (hm : m ≤ 100000) : cna z k x = some (cnw z k m) := by
  subst h
  unfold cna
  rw [nI_clamp (by omega), if_neg (fun h => h.elim (nI_pos (by omega)) (by omega))]
theorem e_cnw (hk : kl.length = k) (hqb : q < b) (hI : ∀ p, b + k ≤ p → I p = fun _ => 0) (hP : ∀ p, b + k ≤ p → P p = fun _ => none) : cnw (mkK q b kl, I, P, b + k) ci n = (mkK q b (kl ++ [(ci, n)]), I, P, b + (k + 1)) := by
  unfold cnw
  refine Prod.ext (funext fun p => ?_) (Prod.ext (funext fun p => ?_) (Prod.ext (funext fun p => ?_) rfl))
  · show (if p = b + k then some (ci, n) else mkK q b kl p) = mkK q b (kl ++ [(ci, n)]) p
    by_cases h : p = b + k
    · rw [if_pos h, h, mkK_i hqb, ← hk, List.getElem?_append_right (Nat.le_refl _), Nat.sub_self]
      rfl
    · rw [if_neg h]
      unfold mkK
      by_cases h1 : p = q
      · rw [if_pos h1, if_pos h1]
      · rw [if_neg h1, if_neg h1]
        by_cases h2 : b ≤ p
        · rw [if_pos h2, if_pos h2]
          by_cases h3 : p < b + k
          · rw [List.getElem?_append_left (by omega)]
          · rw [List.getElem?_eq_none (by omega), List.getElem?_eq_none (by rw [List.length_append, List.length_singleton]; omega)]
        · rw [if_neg h2, if_neg h2]
  · show (if p = b + k then fun _ => 0 else I p) = I p
    by_cases h : p = b + k
    · rw [if_pos h, h, hI _ (Nat.le_refl _)]
    · rw [if_neg h]
  · show (if p = b + k then fun _ => none else P p) = P p
    by_cases h : p = b + k
    · rw [if_pos h, h, hP _ (Nat.le_refl _)]
    · rw [if_neg h]
theorem au2 {β : Type} {a c d e : Nat} {x : Option (β × cS × Nat × Nat)} : ause a c (ause d e x) = ause (a + d) (c + e) x := by
  cases x with
  | none => rfl
  | some y =>
    obtain ⟨o, z, r, s⟩ := y
    show some (o, z, a + (d + r), c + (e + s)) = some (o, z, a + d + r, c + e + s)
    rw [Nat.add_assoc, Nat.add_assoc]
theorem app_raw {c : Nat} {x y : Int32} (h0 : K b = some (4, 0)) (h1 : K (b + 1) = some (8, 200)) (h2 : K (b + 2) = some (8, 200)) (p0 : P b 0 = some (b + 1)) (p1 : P b 1 = some (b + 2)) (hc : I b 2 = nI c) (hl : c < 200) : fX4_append b x y (K, I, P, N) = some (nI c, K, cup (cup (cup I (b + 1) c x) (b + 2) c y) b 2 (nI (c + 1)), P, N) := by
  unfold fX4_append
  rw [e_gI h0, Option.bind_some, hc, show (200 : Int32) = nI 200 from rfl, if_pos (nI_lt hl (by omega)), e_gR h0, Option.bind_some, p0, Option.bind_some, e_write h1 (by omega) (by omega), Option.bind_some, e_gR h0, Option.bind_some, p1, e_gI h0, Option.bind_some, cup_q (by omega), hc, e_write h2 (by omega) (by omega), Option.bind_some, e_gI h0, Option.bind_some, cup_q (by omega), cup_q (by omega), hc, nI_1, e_pI h0, Option.bind_some, e_gI h0, Option.bind_some, cup_s, nI_pred]
/-- the two types that are there from the start -/
def I6 (b : Nat) (I : Nat → Nat → Int32) : Nat → Nat → Int32 := cup (cup (cup (cup (cup (cup I (b + 1) 0 (-1)) (b + 2) 0 (-1)) b 2 (nI 1)) (b + 1) 1 (-1)) (b + 2) 1 (-1)) b 2 (nI 2)
theorem tt_c (hqb : q < b) (hI : ∀ p, I p = fun _ => 0) (hP : ∀ p, P p = fun _ => none) : fX4_init b (cnw (mkK q b [], I, P, b + 0) 4 0) = some ((), (mkK q b [(4, 0), (8, 200), (8, 200)], I6 b I, cuR (cuR P b 0 (some (b + 1))) b 1 (some (b + 2)), b + 3), 2, 400) := by
  have k0 : ∀ l : List (Nat × Nat), mkK q b ((4, 0) :: l) b = some (4, 0) := fun l => mkK_i (i := 0) hqb
  rw [e_cnw (kl := []) (k := 0) rfl hqb (fun p _ => hI p) (fun p _ => hP p)]
  unfold fX4_init
  rw [e_cna (x := 200) (m := 200) rfl (by omega), Option.bind_some]
  show ause 1 200 (Option.bind (cpR (cnw (mkK q b [(4, 0)], I, P, b + 1) 8 200) b 4 0 (some (b + 1))) _) = _
  rw [e_cnw (kl := [(4, 0)]) (k := 1) rfl hqb (fun p _ => hI p) (fun p _ => hP p)]
  show ause 1 200 (Option.bind (cpR (mkK q b [(4, 0), (8, 200)], I, P, b + 2) b 4 0 (some (b + 1))) _) = _
  rw [e_pR (k0 _), Option.bind_some, e_cna (x := 200) (m := 200) rfl (by omega), Option.bind_some]
  show ause 1 200 (ause 1 200 (Option.bind (cpR (cnw (mkK q b [(4, 0), (8, 200)], I, cuR P b 0 (some (b + 1)), b + 2) 8 200) b 4 1 (some (b + 2))) _)) = _
  rw [e_cnw (kl := [(4, 0), (8, 200)]) (k := 2) rfl hqb (fun p _ => hI p) (fun p hp => by rw [cuR_q (by omega)]; exact hP p)]
  show ause 1 200 (ause 1 200 (Option.bind (cpR (mkK q b [(4, 0), (8, 200), (8, 200)], I, cuR P b 0 (some (b + 1)), b + 3) b 4 1 (some (b + 2))) _)) = _
  have k1 : mkK q b [(4, 0), (8, 200), (8, 200)] (b + 1) = some (8, 200) := mkK_i hqb
  have k2 : mkK q b [(4, 0), (8, 200), (8, 200)] (b + 2) = some (8, 200) := mkK_i hqb
  rw [e_pR (k0 _), Option.bind_some, e_rc (k0 _), Option.bind_some, app_raw (c := 0) (k0 _) k1 k2 (by rw [cuR_j (by omega), cuR_s]) cuR_s (by rw [hI]; rfl) (by omega), Option.bind_some]
  show ause 1 200 (ause 1 200 (Option.bind (crc (mkK q b [(4, 0), (8, 200), (8, 200)], cup (cup (cup I (b + 1) 0 (-1)) (b + 2) 0 (-1)) b 2 (nI 1), cuR (cuR P b 0 (some (b + 1))) b 1 (some (b + 2)), b + 3) (some b) 4) _)) = _
  rw [e_rc (k0 _), Option.bind_some, app_raw (c := 1) (k0 _) k1 k2 (by rw [cuR_j (by omega), cuR_s]) cuR_s cup_s (by omega), Option.bind_some]
  rfl
theorem sh_step (hk : kl.length = k) (hqb : q < b) (hI : ∀ p, b + k ≤ p → I p = fun _ => 0) (hP : ∀ p, b + k ≤ p → P p = fun _ => none) {x : Int32} (hx : x = nI m) (hm : m ≤ 100000) {f : cS → Option (Unit × cS × Nat × Nat)} : (Option.bind (cna (cnw (mkK q b kl, I, P, b + k) 3 0) 12 x) fun z22 => ause 1 m <| Option.bind (fX3_init (b + k) (some (cnw (mkK q b kl, I, P, b + k) 3 0).2.2.2) z22) fun q25 => Option.bind (cpR (q25.2) q 6 j (some (b + k))) f) = ause 1 m (f (mkK q b (kl ++ [(3, 0)] ++ [(12, m)]), I, cuR (cuR P (b + k) 0 (some (b + (k + 1)))) q j (some (b + k)), b + (k + 2))) := by
  rw [e_cnw hk hqb hI hP, e_cna hx hm, Option.bind_some, e_cnw (k := k + 1) (by rw [List.length_append, hk]; rfl) hqb (fun p hp => hI p (by omega)) (fun p hp => hP p (by omega))]
  show ause 1 m (Option.bind (fX3_init (b + k) (some (b + (k + 1))) (mkK q b (kl ++ [(3, 0)] ++ [(12, m)]), I, P, b + (k + 2))) _) = _
  unfold fX3_init
  have hc : mkK q b (kl ++ [(3, 0)] ++ [(12, m)]) (b + k) = some (3, 0) := by
    rw [mkK_i hqb, ← hk, List.append_assoc, List.getElem?_append_right (Nat.le_refl _), Nat.sub_self]
    rfl
  rw [e_pR hc, Option.bind_some, Option.bind_some]
  show ause 1 m (Option.bind (cpR (mkK q b (kl ++ [(3, 0)] ++ [(12, m)]), I, cuR P (b + k) 0 (some (b + (k + 1))), b + (k + 2)) q 6 j (some (b + k))) f) = _
  rw [e_pR mkK_q, Option.bind_some]
theorem row_step (hk : kl.length = k) (hqb : q < b) (hI : ∀ p, b + k ≤ p → I p = fun _ => 0) (hP : ∀ p, b + k ≤ p → P p = fun _ => none) {f : cS → Option (Unit × cS × Nat × Nat)} : (abind (fX2_init (b + k) (cnw (mkK q b kl, I, P, b + k) 2 0)) fun _ z52 => Option.bind (cpR z52 q 6 j (some (b + k))) f) = ause 1 180 (f (mkK q b (kl ++ [(2, 0)] ++ [(8, 180)]), I, cuR (cuR P (b + k) 0 (some (b + (k + 1)))) q j (some (b + k)), b + (k + 2))) := by
  have hc : mkK q b (kl ++ [(2, 0)] ++ [(8, 180)]) (b + k) = some (2, 0) := by
    rw [mkK_i hqb, ← hk, List.append_assoc, List.getElem?_append_right (Nat.le_refl _), Nat.sub_self]
    rfl
  rw [e_cnw hk hqb hI hP]
  unfold fX2_init
  rw [e_cna (x := 180) (m := 180) rfl (by omega), Option.bind_some, e_cnw (k := k + 1) (by rw [List.length_append, hk]; rfl) hqb (fun p hp => hI p (by omega)) (fun p hp => hP p (by omega)), e_pR hc, Option.bind_some]
  show ause 1 180 (Option.bind (cpR (mkK q b (kl ++ [(2, 0)] ++ [(8, 180)]), I, cuR P (b + k) 0 (some (b + (k + 1))), b + (k + 2)) q 6 j (some (b + k))) f) = _
  rw [e_pR mkK_q, Option.bind_some]
theorem arr_step (hk : kl.length = k) (hqb : q < b) (hI : ∀ p, b + k ≤ p → I p = fun _ => 0) (hP : ∀ p, b + k ≤ p → P p = fun _ => none) {kd : Nat} {x : Int32} (hx : x = nI m) (hm : m ≤ 100000) {f : cS → Option (Unit × cS × Nat × Nat)} : (Option.bind (cna (mkK q b kl, I, P, b + k) kd x) fun z83 => ause 1 m <| Option.bind (cpR z83 q 6 j (some (b + k))) f) = ause 1 m (f (mkK q b (kl ++ [(kd, m)]), I, cuR P q j (some (b + k)), b + (k + 1))) := by
  rw [e_cna hx hm, Option.bind_some, e_cnw hk hqb hI hP, e_pR mkK_q, Option.bind_some]
def kl16 : List (Nat × Nat) := [(4, 0), (8, 200), (8, 200), (3, 0), (12, 30), (3, 0), (12, 20), (2, 0), (8, 180), (2, 0), (8, 180), (2, 0), (8, 180), (10, 8), (11, 10), (13, 8)]
def P6 (q b : Nat) (P : Nat → Nat → Option Nat) : Nat → Nat → Option Nat := cuR (cuR (cuR (cuR (cuR (cuR (cuR (cuR (cuR (cuR (cuR (cuR (cuR (cuR (cuR (cuR P b 0 (some (b + 1))) b 1 (some (b + 2))) q 0 (some b)) (b + 3) 0 (some (b + 4))) q 1 (some (b + 3))) (b + 5) 0 (some (b + 6))) q 2 (some (b + 5))) (b + 7) 0 (some (b + 8))) q 3 (some (b + 7))) (b + 9) 0 (some (b + 10))) q 4 (some (b + 9))) (b + 11) 0 (some (b + 12))) q 5 (some (b + 11))) q 6 (some (b + 13))) q 8 (some (b + 14))) q 10 (some (b + 15))
theorem init6_c (hqb : q < b) (hI : ∀ p, I p = fun _ => 0) (hP : ∀ p, P p = fun _ => none) : fX6_init q (mkK q b [], I, P, b) = some ((), (mkK q b kl16, I6 b I, P6 q b P, b + 16), 16, 1035) := by
  have hI6 : ∀ p, b + 3 ≤ p → I6 b I p = fun _ => 0 := fun p hp => by
    unfold I6
    rw [cup_q (by omega), cup_q (by omega), cup_q (by omega), cup_q (by omega), cup_q (by omega), cup_q (by omega)]
    exact hI p
  unfold fX6_init
  show ause 1 3 (abind (fX4_init b (cnw (mkK q b [], I, P, b + 0) 4 0)) _) = _
  rw [tt_c hqb hI hP]
  show ause 1 3 (ause 2 400 (Option.bind (cpR (mkK q b [(4, 0), (8, 200), (8, 200)], I6 b I, cuR (cuR P b 0 (some (b + 1))) b 1 (some (b + 2)), b + 3) q 6 0 (some b)) _)) = _
  rw [e_pR mkK_q, Option.bind_some, au2, au2]
  show ause _ _ (Option.bind (cna (cnw (mkK q b [(4, 0), (8, 200), (8, 200)], I6 b I, _, b + 3) 3 0) 12 30) _) = _
  refine (congrArg (ause _ _) (sh_step (k := 3) (kl := [(4, 0), (8, 200), (8, 200)]) rfl hqb hI6 (by intro p hp; (repeat rw [cuR_q (by omega)]); exact hP p) (m := 30) rfl (by omega))).trans ?_
  rw [au2]
  show ause _ _ (ause 1 2 (Option.bind (cna (cnw (mkK q b [(4, 0), (8, 200), (8, 200), (3, 0), (12, 30)], I6 b I, _, b + 5) 3 0) 12 20) _)) = _
  rw [au2]
  refine (congrArg (ause _ _) (sh_step (k := 5) (kl := [(4, 0), (8, 200), (8, 200), (3, 0), (12, 30)]) rfl hqb (fun p hp => hI6 p (by omega)) (by intro p hp; (repeat rw [cuR_q (by omega)]); exact hP p) (m := 20) rfl (by omega))).trans ?_
  rw [au2]
  show ause _ _ (ause 1 4 (abind (fX2_init (b + 7) (cnw (mkK q b [(4, 0), (8, 200), (8, 200), (3, 0), (12, 30), (3, 0), (12, 20)], I6 b I, _, b + 7) 2 0)) _)) = _
  rw [au2]
  refine (congrArg (ause _ _) (row_step (k := 7) (kl := [(4, 0), (8, 200), (8, 200), (3, 0), (12, 30), (3, 0), (12, 20)]) rfl hqb (fun p hp => hI6 p (by omega)) (by intro p hp; (repeat rw [cuR_q (by omega)]); exact hP p))).trans ?_
  rw [au2]
  show ause _ _ (ause 1 4 (abind (fX2_init (b + 9) (cnw (mkK q b [(4, 0), (8, 200), (8, 200), (3, 0), (12, 30), (3, 0), (12, 20), (2, 0), (8, 180)], I6 b I, _, b + 9) 2 0)) _)) = _
  rw [au2]
  refine (congrArg (ause _ _) (row_step (k := 9) (kl := [(4, 0), (8, 200), (8, 200), (3, 0), (12, 30), (3, 0), (12, 20), (2, 0), (8, 180)]) rfl hqb (fun p hp => hI6 p (by omega)) (by intro p hp; (repeat rw [cuR_q (by omega)]); exact hP p))).trans ?_
  rw [au2]
  show ause _ _ (ause 1 4 (abind (fX2_init (b + 11) (cnw (mkK q b [(4, 0), (8, 200), (8, 200), (3, 0), (12, 30), (3, 0), (12, 20), (2, 0), (8, 180), (2, 0), (8, 180)], I6 b I, _, b + 11) 2 0)) _)) = _
  rw [au2]
  refine (congrArg (ause _ _) (row_step (k := 11) (kl := [(4, 0), (8, 200), (8, 200), (3, 0), (12, 30), (3, 0), (12, 20), (2, 0), (8, 180), (2, 0), (8, 180)]) rfl hqb (fun p hp => hI6 p (by omega)) (by intro p hp; (repeat rw [cuR_q (by omega)]); exact hP p))).trans ?_
  rw [au2]
  show ause _ _ (Option.bind (cna (mkK q b [(4, 0), (8, 200), (8, 200), (3, 0), (12, 30), (3, 0), (12, 20), (2, 0), (8, 180), (2, 0), (8, 180), (2, 0), (8, 180)], I6 b I, _, b + 13) 10 8) _) = _
  refine (congrArg (ause _ _) (arr_step (k := 13) (kl := [(4, 0), (8, 200), (8, 200), (3, 0), (12, 30), (3, 0), (12, 20), (2, 0), (8, 180), (2, 0), (8, 180), (2, 0), (8, 180)]) rfl hqb (fun p hp => hI6 p (by omega)) (by intro p hp; (repeat rw [cuR_q (by omega)]); exact hP p) (m := 8) rfl (by omega))).trans ?_
  rw [au2]
  show ause _ _ (Option.bind (cna (mkK q b [(4, 0), (8, 200), (8, 200), (3, 0), (12, 30), (3, 0), (12, 20), (2, 0), (8, 180), (2, 0), (8, 180), (2, 0), (8, 180), (10, 8)], I6 b I, _, b + 14) 11 10) _) = _
  refine (congrArg (ause _ _) (arr_step (k := 14) (kl := [(4, 0), (8, 200), (8, 200), (3, 0), (12, 30), (3, 0), (12, 20), (2, 0), (8, 180), (2, 0), (8, 180), (2, 0), (8, 180), (10, 8)]) rfl hqb (fun p hp => hI6 p (by omega)) (by intro p hp; (repeat rw [cuR_q (by omega)]); exact hP p) (m := 10) rfl (by omega))).trans ?_
  rw [au2]
  show ause _ _ (Option.bind (cna (mkK q b [(4, 0), (8, 200), (8, 200), (3, 0), (12, 30), (3, 0), (12, 20), (2, 0), (8, 180), (2, 0), (8, 180), (2, 0), (8, 180), (10, 8), (11, 10)], I6 b I, _, b + 15) 13 8) _) = _
  refine (congrArg (ause _ _) (arr_step (k := 15) (kl := [(4, 0), (8, 200), (8, 200), (3, 0), (12, 30), (3, 0), (12, 20), (2, 0), (8, 180), (2, 0), (8, 180), (2, 0), (8, 180), (10, 8), (11, 10)]) rfl hqb (fun p hp => hI6 p (by omega)) (by intro p hp; (repeat rw [cuR_q (by omega)]); exact hP p) (m := 8) rfl (by omega))).trans ?_
  rw [au2]
  rfl
end Init6
