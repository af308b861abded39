/-! UNITS: build -/
def fcO (U : List UnD) (k : Nat) : Int32 := match U[k]? with
  | some y => y.2.2.1
  | none => 0
def chO (U : List UnD) (k : Nat) : Int32 := match U[k]? with
  | some y => nI y.2.2.2.1
  | none => 0
/-- a unit, its notes from k on taken anew -/
def noF (U : List UnD) (k : Nat) (x : UnD) : UnD := (x.1, x.2.1, x.2.2.1, x.2.2.2.1, x.2.2.2.2.1, (fun j => if k ≤ j ∧ j < U.length ∧ uB x.1 j = true then fcO U j else x.2.2.2.2.2.1 j), fun j => if k ≤ j ∧ j < U.length ∧ uB x.1 j = true then chO U j else x.2.2.2.2.2.2 j)
def noK (k : Nat) (v w : Int32) (x : UnD) : UnD := (x.1, x.2.1, x.2.2.1, x.2.2.2.1, x.2.2.2.2.1, (fun j => if j = k then v else x.2.2.2.2.2.1 j), fun j => if j = k then w else x.2.2.2.2.2.2 j)
def bld (U : List UnD) (x : UnD) : UnD := noF U 0 (x.1, x.2.1, x.2.2.1, x.2.2.2.1, some x.2.2.2.1, x.2.2.2.2.2)
def bdm (R : Nat → Option RowD) (U : List UnD) (x : UnD) : UnD := if stU R U x = true then bld U x else x
def bdV (R : Nat → Option RowD) (U : List UnD) (u : Nat) : List UnD := (U.take u).map (bdm R U) ++ U.drop u
def cN (R : Nat → Option RowD) (U : List UnD) : List UnD → Nat
  | [] => 0
  | y :: Y => (if stU R U y = true then 1 else 0) + cN R U Y
section Build2
variable {o b t : Nat} {K : Nat → Option (Nat × Nat)} {I J : Nat → Nat → Int32} {P : Nat → Nat → Option Nat} {N0 N a : Nat} {f : Nat → Int32} {M W : Nat → Nat → Int32} {T : List TyD} {n g : Nat} {R : Nat → Option RowD} {F : List FuD} {Q : List (Int32 × Int32)} {U V : List UnD} {L X : List En}
theorem bdV_len {u : Nat} : (bdV R U u).length = U.length := by unfold bdV; simp; omega
theorem bdV_0 : bdV R U 0 = U := by unfold bdV; simp
theorem bdV_all : bdV R U U.length = U.map (bdm R U) := by unfold bdV; simp
theorem bdV_get {u j : Nat} : (bdV R U u)[j]? = if j < u then (U[j]?).map (bdm R U) else U[j]? := by
  unfold bdV
  by_cases hj : j < u
  · rw [if_pos hj]
    by_cases hl : j < U.length
    · rw [List.getElem?_append_left (by simp; omega), List.getElem?_map, List.getElem?_take, if_pos hj]
    · rw [List.getElem?_append_right (by simp; omega), List.getElem?_drop, List.getElem?_eq_none (by simp; omega), List.getElem?_eq_none (by omega)]
      rfl
  · rw [if_neg hj]
    by_cases hl : u ≤ U.length
    · rw [List.getElem?_append_right (by simp; omega), List.getElem?_drop]
      simp
      rw [Nat.min_eq_left hl, show u + (j - u) = j by omega]
    · rw [List.getElem?_eq_none (by simp; omega), List.getElem?_eq_none (by omega)]
theorem bdV_step {u : Nat} (hu : u < U.length) : bdV R U (u + 1) = (bdV R U u).set u (bdm R U U[u]) := by
  apply List.ext_getElem?
  intro j
  rw [bdV_get, List.getElem?_set, bdV_len, bdV_get]
  by_cases h : u = j
  · subst h
    rw [if_pos (by omega), if_pos rfl, if_pos hu, List.getElem?_eq_getElem hu]
    rfl
  · rw [if_neg h]
    by_cases h2 : j < u
    · rw [if_pos (by omega), if_pos h2]
    · rw [if_neg (by omega), if_neg h2]
theorem bdV_same {u : Nat} (hu : u < U.length) (h : stU R U U[u] = false) : bdV R U (u + 1) = bdV R U u := by
  have hm : bdm R U U[u] = U[u] := by unfold bdm; rw [h]; exact if_neg (by decide)
  apply List.ext_getElem?
  intro j
  rw [bdV_get, bdV_get]
  by_cases h1 : j = u
  · subst h1
    rw [if_pos (by omega), if_neg (by omega), List.getElem?_eq_getElem hu, Option.map_some, hm]
  · by_cases h2 : j < u
    · rw [if_pos (by omega), if_pos h2]
    · rw [if_neg (by omega), if_neg h2]
/-- what stale looks at is the same -/
def sameF (U V : List UnD) : Prop := V.length = U.length ∧ ∀ (j : Nat) (y : UnD), U[j]? = some y → ∃ z, V[j]? = some z ∧ z.1 = y.1 ∧ z.2.1 = y.2.1 ∧ z.2.2.1 = y.2.2.1 ∧ z.2.2.2.1 = y.2.2.2.1
theorem bdm_same {y : UnD} : (bdm R U y).1 = y.1 ∧ (bdm R U y).2.1 = y.2.1 ∧ (bdm R U y).2.2.1 = y.2.2.1 ∧ (bdm R U y).2.2.2.1 = y.2.2.2.1 := by
  unfold bdm
  by_cases h : stU R U y = true
  · rw [if_pos h]; exact ⟨rfl, rfl, rfl, rfl⟩
  · rw [if_neg h]; exact ⟨rfl, rfl, rfl, rfl⟩
theorem bdV_sameF {u : Nat} : sameF U (bdV R U u) := by
  refine ⟨bdV_len, fun j y hj => ?_⟩
  rw [bdV_get, hj]
  by_cases h : j < u
  · rw [if_pos h]; exact ⟨_, rfl, bdm_same⟩
  · rw [if_neg h]; exact ⟨y, rfl, rfl, rfl, rfl, rfl⟩
theorem sameF.fc (h : sameF U V) (k : Nat) : fcO V k = fcO U k ∧ chO V k = chO U k := by
  unfold fcO chO
  cases hk : U[k]? with
  | none =>
    have : V[k]? = none := List.getElem?_eq_none (by rw [h.1]; exact List.getElem?_eq_none_iff.mp hk)
    rw [this]
    exact ⟨rfl, rfl⟩
  | some y =>
    obtain ⟨z, z0, z1, z2, z3, z4⟩ := h.2 k y hk
    rw [z0]
    exact ⟨z3, by show nI z.2.2.2.1 = nI y.2.2.2.1; rw [z4]⟩
theorem sameF.nof (h : sameF U V) {k : Nat} {x : UnD} : noF V k x = noF U k x := by
  unfold noF
  have hl := h.1
  have e1 : (fun j => if k ≤ j ∧ j < V.length ∧ uB x.1 j = true then fcO V j else x.2.2.2.2.2.1 j) = fun j => if k ≤ j ∧ j < U.length ∧ uB x.1 j = true then fcO U j else x.2.2.2.2.2.1 j := by
    funext j; rw [hl, (h.fc j).1]
  have e2 : (fun j => if k ≤ j ∧ j < V.length ∧ uB x.1 j = true then chO V j else x.2.2.2.2.2.2 j) = fun j => if k ≤ j ∧ j < U.length ∧ uB x.1 j = true then chO U j else x.2.2.2.2.2.2 j := by
    funext j; rw [hl, (h.fc j).2]
  rw [e1, e2]
theorem stL_same {x : UnD} : ∀ (Y Z : List UnD) (k : Nat), Z.length = Y.length → (∀ (j : Nat) (y : UnD), Y[j]? = some y → ∃ z, Z[j]? = some z ∧ z.2.1 = y.2.1 ∧ z.2.2.1 = y.2.2.1 ∧ z.2.2.2.1 = y.2.2.2.1) → stL R x k Z = stL R x k Y := by
  intro Y
  induction Y with
  | nil => intro Z k hl _; cases Z with
    | nil => rfl
    | cons z Z => simp at hl
  | cons y Y ih => intro Z k hl h; cases Z with
    | nil => simp at hl
    | cons z Z =>
      obtain ⟨z2, q1, q2, q3, q4⟩ := h 0 y rfl
      cases q1
      unfold stL
      rw [q2, q3, q4, ih Z (k + 1) (by simpa using hl) (fun j w hw => h (j + 1) w hw)]
theorem sameF.st (h : sameF U V) {x : UnD} : stU R V x = stU R U x := by
  unfold stU
  cases x.2.2.2.2.1 with
  | none => rfl
  | some c =>
    show (decide (c ≠ x.2.2.2.1) || stL R x 0 V) = _
    rw [stL_same U V 0 h.1 (fun j y hj => let ⟨z, z0, z1, z2, z3, z4⟩ := h.2 j y hj; ⟨z, z0, z2, z3, z4⟩)]
/-! the class -/
theorem note_c (hC : CR o b K I P N T n g R F Q U) (ha : K a = some (5, 0)) {k : Nat} (hk : k < 8) (v w : Int32) : fX5_note a (nI k) v w (K, I, P, N) = some ((), K, cup (cup I (a + 1) k v) (a + 2) k w, P, N) := by
  obtain ⟨q1, q2, q3, q4⟩ := hC.sd.2.2.2.2 a ha
  unfold fX5_note
  rw [e_gR ha, Option.bind_some, q1, e_write q2 hk (by omega), Option.bind_some, e_gR ha, Option.bind_some, q3, e_write q4 hk (by omega), Option.bind_some]
theorem noteAll_c {u : Nat} (hu8 : u < 8) : ∀ m fu k I V x, k + m = V.length → m < fu → CR o b K I P N T n g R F Q V → V[u]? = some x → ptr b P (600 + u) = some a → K a = some (5, 0) → (∀ j, u ≤ j → j < 8 → ¬ uBit x.1 j) → ∃ J, fX6_noteAllUsed_b10 o fu (some a) (nI k) (K, I, P, N) = some ((), K, J, P, N) ∧ CR o b K J P N T n g R F Q (V.set u (noF V k x)) := by
  intro m
  induction m with
  | zero =>
    intro fu k I V x hk hf hC hx hp ha hb
    have h8 := hC.un.2.1
    cases fu with
    | zero => omega
    | succ fu =>
      have hxx : noF V k x = x := by
        obtain ⟨x1, x2, x3, x4, x5, x6, x7⟩ := x
        unfold noF
        have e1 : (fun j => if k ≤ j ∧ j < V.length ∧ uB x1 j = true then fcO V j else x6 j) = x6 := by funext j; rw [if_neg (by omega)]
        have e2 : (fun j => if k ≤ j ∧ j < V.length ∧ uB x1 j = true then chO V j else x7 j) = x7 := by funext j; rw [if_neg (by omega)]
        show (x1, x2, x3, x4, x5, (fun j => if k ≤ j ∧ j < V.length ∧ uB x1 j = true then fcO V j else x6 j), fun j => if k ≤ j ∧ j < V.length ∧ uB x1 j = true then chO V j else x7 j) = _
        rw [e1, e2]
      have hset : V.set u x = V := by
        apply List.ext_getElem?
        intro j
        rw [List.getElem?_set]
        by_cases h : u = j
        · subst h
          rw [if_pos rfl, if_pos (List.getElem?_eq_some_iff.mp hx).1, hx]
        · rw [if_neg h]
      refine ⟨I, ?_, by rw [hxx, hset]; exact hC⟩
      show fX6_noteAllUsed_b10_body o _ (some a) (nI k) (K, I, P, N) = _
      unfold fX6_noteAllUsed_b10_body
      rw [e_gI hC.Ko, Option.bind_some, hC.un.1, if_pos (nI_le (by omega) (by omega))]
  | succ m ih =>
    intro fu k I V x hk hf hC hx hp ha hb
    have h8 := hC.un.2.1
    cases fu with
    | zero => omega
    | succ fu =>
      have hkl : k < V.length := by omega
      have hg := List.getElem?_eq_getElem hkl
      obtain ⟨c, c1, c2, c3, c4⟩ := unitAt_is hC hg
      obtain ⟨a2, a3, a4⟩ := hC.un.2.2.1 u x hx
      have haa : a2 = a := by rw [hp] at a3; cases a3; rfl
      subst haa
      have st : fX6_noteAllUsed_b10 o (fu + 1) (some a2) (nI k) (K, I, P, N) = if uB x.1 k = true then Option.bind (fX5_note a2 (nI k) V[k].2.2.1 (nI V[k].2.2.2.1) (K, I, P, N)) fun q46 => fX6_noteAllUsed_b10 o fu (some a2) (nI (k + 1)) (q46.2) else fX6_noteAllUsed_b10 o fu (some a2) (nI (k + 1)) (K, I, P, N) := by
        show fX6_noteAllUsed_b10_body o _ (some a2) (nI k) (K, I, P, N) = _
        unfold fX6_noteAllUsed_b10_body fX6_noteAllUsed_b49
        rw [e_gI hC.Ko, Option.bind_some, hC.un.1, if_neg (nI_ge hkl (by omega)), ro hC, Option.bind_some, c4, Option.bind_some]
        show (if some c = none then _ else Option.bind (crc (K, I, P, N) (some a2) 5) _) = _
        rw [if_neg (fun e => by cases e), e_rc ha, Option.bind_some, isUsing_c ha, Option.bind_some, a4.1, nI_1]
        cases hbb : uB x.1 k with
        | false =>
          show (if b2 false = 0 then fX6_noteAllUsed_b10 o fu (some a2) (nI (k + 1)) (K, I, P, N) else _) = _
          rw [if_pos bF]
          rfl
        | true =>
          show (if b2 true = 0 then _ else Option.bind (cgI (K, I, P, N) c 5 2) _) = _
          rw [if_neg (show ¬ b2 true = 0 by decide), e_gI c2, Option.bind_some, c3.2.2.1]
          show Option.bind (cgI (K, I, P, N) c 5 3) _ = _
          rw [e_gI c2, Option.bind_some, c3.2.2.2.1]
          show Option.bind (crc (K, I, P, N) (some a2) 5) _ = _
          rw [e_rc ha, Option.bind_some]
          rfl
      by_cases hbb : uB x.1 k = true
      · have hku : k < u := Nat.lt_of_not_le (fun h => hb k h (by omega) (uB_iff.mp hbb))
        have hC2 := hC.upUn (y := (noK k V[k].2.2.1 (nI V[k].2.2.2.1) x)) (J := cup (cup I (a2 + 1) k V[k].2.2.1) (a2 + 2) k (nI V[k].2.2.2.1)) hx hp (fun q h1 h2 h3 => by rw [cup_q h3, cup_q h2]) (by
          refine ⟨?_, ?_, ?_, ?_, ?_, fun j hj => ?_⟩
          · rw [cup_q (by omega), cup_q (by omega)]; exact a4.1
          · rw [cup_q (by omega), cup_q (by omega)]; exact a4.2.1
          · rw [cup_q (by omega), cup_q (by omega)]; exact a4.2.2.1
          · rw [cup_q (by omega), cup_q (by omega)]; exact a4.2.2.2.1
          · rw [cup_q (by omega), cup_q (by omega)]; exact a4.2.2.2.2.1
          · rw [cup_q (show a2 + 1 ≠ a2 + 2 by omega)]
            obtain ⟨o1, o2⟩ := a4.2.2.2.2.2 j hj
            by_cases hjk : j = k
            · subst hjk
              rw [cup_s, cup_s]
              exact ⟨(if_pos rfl).symm, (if_pos rfl).symm⟩
            · rw [cup_j hjk, cup_j hjk, cup_q (show a2 + 2 ≠ a2 + 1 by omega)]
              exact ⟨o1.trans (if_neg hjk).symm, o2.trans (if_neg hjk).symm⟩)
        have hul := (List.getElem?_eq_some_iff.mp hx).1
        obtain ⟨J, d1, d2⟩ := ih fu (k + 1) _ _ (noK k V[k].2.2.1 (nI V[k].2.2.2.1) x) (by rw [List.length_set]; omega) (by omega) hC2 (by rw [List.getElem?_set, if_pos rfl, if_pos hul]) hp ha hb
        refine ⟨J, ?_, ?_⟩
        · rw [st, if_pos hbb, note_c hC ha (by omega), Option.bind_some]
          exact d1
        · rw [List.set_set] at d2
          have hne : ∀ j, j < 8 → uB x.1 j = true → j ≠ u := fun j hj hh e => hb j (by omega) hj (uB_iff.mp hh)
          have hO : ∀ (y : UnD) j, j ≠ u → fcO (V.set u y) j = fcO V j ∧ chO (V.set u y) j = chO V j := by
            intro y j hj
            unfold fcO chO
            rw [List.getElem?_set, if_neg (fun e => hj e.symm)]
            exact ⟨rfl, rfl⟩
          have hfk : fcO V k = V[k].2.2.1 ∧ chO V k = nI V[k].2.2.2.1 := by unfold fcO chO; rw [hg]; exact ⟨rfl, rfl⟩
          have key : noF (V.set u (noK k V[k].2.2.1 (nI V[k].2.2.2.1) x)) (k + 1) (noK k V[k].2.2.1 (nI V[k].2.2.2.1) x) = noF V k x := by
            generalize hy : (noK k V[k].2.2.1 (nI V[k].2.2.2.1) x) = y
            unfold noF
            rw [List.length_set, ← hy]
            have e1 : (fun j => if k + 1 ≤ j ∧ j < V.length ∧ uB x.1 j = true then fcO (V.set u y) j else if j = k then V[k].2.2.1 else x.2.2.2.2.2.1 j) = fun j => if k ≤ j ∧ j < V.length ∧ uB x.1 j = true then fcO V j else x.2.2.2.2.2.1 j := by
              funext j
              by_cases hjk : j = k
              · subst hjk
                rw [if_neg (by omega), if_pos rfl, if_pos ⟨Nat.le_refl _, hkl, hbb⟩, hfk.1]
              · by_cases h1 : k + 1 ≤ j ∧ j < V.length ∧ uB x.1 j = true
                · rw [if_pos h1, if_pos ⟨by omega, h1.2⟩, (hO y j (hne j (by omega) h1.2.2)).1]
                · rw [if_neg h1, if_neg hjk, if_neg (fun h => h1 ⟨by omega, h.2⟩)]
            have e2 : (fun j => if k + 1 ≤ j ∧ j < V.length ∧ uB x.1 j = true then chO (V.set u y) j else if j = k then nI V[k].2.2.2.1 else x.2.2.2.2.2.2 j) = fun j => if k ≤ j ∧ j < V.length ∧ uB x.1 j = true then chO V j else x.2.2.2.2.2.2 j := by
              funext j
              by_cases hjk : j = k
              · subst hjk
                rw [if_neg (by omega), if_pos rfl, if_pos ⟨Nat.le_refl _, hkl, hbb⟩, hfk.2]
              · by_cases h1 : k + 1 ≤ j ∧ j < V.length ∧ uB x.1 j = true
                · rw [if_pos h1, if_pos ⟨by omega, h1.2⟩, (hO y j (hne j (by omega) h1.2.2)).2]
                · rw [if_neg h1, if_neg hjk, if_neg (fun h => h1 ⟨by omega, h.2⟩)]
            show (x.1, x.2.1, x.2.2.1, x.2.2.2.1, x.2.2.2.2.1, (fun j => if k + 1 ≤ j ∧ j < V.length ∧ uB x.1 j = true then fcO (V.set u (noK k V[k].2.2.1 (nI V[k].2.2.2.1) x)) j else if j = k then V[k].2.2.1 else x.2.2.2.2.2.1 j), fun j => if k + 1 ≤ j ∧ j < V.length ∧ uB x.1 j = true then chO (V.set u (noK k V[k].2.2.1 (nI V[k].2.2.2.1) x)) j else if j = k then nI V[k].2.2.2.1 else x.2.2.2.2.2.2 j) = _
            rw [hy, e1, e2]
          rw [key] at d2
          exact d2
      · obtain ⟨J, d1, d2⟩ := ih fu (k + 1) I V x (by omega) (by omega) hC hx hp ha hb
        refine ⟨J, by rw [st, if_neg hbb]; exact d1, ?_⟩
        have key : noF V (k + 1) x = noF V k x := by
          unfold noF
          have e1 : (fun j => if k + 1 ≤ j ∧ j < V.length ∧ uB x.1 j = true then fcO V j else x.2.2.2.2.2.1 j) = fun j => if k ≤ j ∧ j < V.length ∧ uB x.1 j = true then fcO V j else x.2.2.2.2.2.1 j := by
            funext j
            by_cases hjk : j = k
            · subst hjk; rw [if_neg (by omega), if_neg (fun h => hbb h.2.2)]
            · by_cases h1 : k + 1 ≤ j ∧ j < V.length ∧ uB x.1 j = true
              · rw [if_pos h1, if_pos ⟨by omega, h1.2⟩]
              · rw [if_neg h1, if_neg (fun h => h1 ⟨by omega, h.2⟩)]
          have e2 : (fun j => if k + 1 ≤ j ∧ j < V.length ∧ uB x.1 j = true then chO V j else x.2.2.2.2.2.2 j) = fun j => if k ≤ j ∧ j < V.length ∧ uB x.1 j = true then chO V j else x.2.2.2.2.2.2 j := by
            funext j
            by_cases hjk : j = k
            · subst hjk; rw [if_neg (by omega), if_neg (fun h => hbb h.2.2)]
            · by_cases h1 : k + 1 ≤ j ∧ j < V.length ∧ uB x.1 j = true
              · rw [if_pos h1, if_pos ⟨by omega, h1.2⟩]
              · rw [if_neg h1, if_neg (fun h => h1 ⟨by omega, h.2⟩)]
          rw [e1, e2]
        rw [key] at d2
        exact d2
end Build2
