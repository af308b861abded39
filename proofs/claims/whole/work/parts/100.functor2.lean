/-! FUNCTOR, the call -/
def okF (L A : List En) : Prop := ∀ e, e ∈ L → e.2.2.2.2.2 ≠ -1 → plc A e.1 e.2.2.2.2.2 ≠ none
section Functor2
variable {o b t : Nat} {K : Nat → Option (Nat × Nat)} {I J : Nat → Nat → Int32} {P : Nat → Nat → Option Nat} {N0 N a : Nat} {f : Nat → Int32} {M : Nat → Nat → Int32} {T : List TyD} {n g : Nat} {R : Nat → Option RowD} {F : List FuD} {Q : List (Int32 × Int32)} {U : List UnD} {L X Y A : List En}
theorem fchk_c (hC : CR o b K I P N T n g R F Q U) {w p c : Nat} (hr : R 308 = some (L, w, p)) (hc : RowOK K P c) (hA : RowE I c A) {l1 l2 l3 : Int32} : ∀ m fu q, q + m = L.length → m < fu → (∀ e, e ∈ L.take q → e.2.2.2.2.2 ≠ -1 → plc A e.1 e.2.2.2.2.2 ≠ none) → (¬ okF L A ∧ fX6_functor_b75 o fu l1 l2 l3 (some c) (nI F.length) (nI q) (K, I, P, N) = some (.inr 2, (K, I, P, N), 1, 6)) ∨ (okF L A ∧ ∃ fu2, fX6_functor_b75 o fu l1 l2 l3 (some c) (nI F.length) (nI q) (K, I, P, N) = fX6_functor_b75 o (fu2 + 1) l1 l2 l3 (some c) (nI F.length) (nI L.length) (K, I, P, N)) := by
  obtain ⟨hp, hok, hrow⟩ := row308 hC hr
  have h30 : L.length ≤ 30 := hrow.1.2.1
  have hA30 := hA.2.1
  intro m
  induction m with
  | zero =>
    intro fu q hq hf hno
    cases fu with
    | zero => omega
    | succ fu => exact Or.inr ⟨fun e he => hno e (by rw [List.take_of_length_le (by omega)]; exact he), fu, by rw [show L.length = q by omega]⟩
  | succ m ih =>
    intro fu q hq hf hno
    cases fu with
    | zero => omega
    | succ fu =>
      have hql : q < L.length := by omega
      have hg := List.getElem?_eq_getElem hql
      have nxt : (L[q].2.2.2.2.2 ≠ -1 → plc A L[q].1 L[q].2.2.2.2.2 ≠ none) → (¬ okF L A ∧ fX6_functor_b75 o fu l1 l2 l3 (some c) (nI F.length) (nI (q + 1)) (K, I, P, N) = some (.inr 2, (K, I, P, N), 1, 6)) ∨ (okF L A ∧ ∃ fu2, fX6_functor_b75 o fu l1 l2 l3 (some c) (nI F.length) (nI (q + 1)) (K, I, P, N) = fX6_functor_b75 o (fu2 + 1) l1 l2 l3 (some c) (nI F.length) (nI L.length) (K, I, P, N)) := by
        intro h
        refine ih fu (q + 1) (by omega) (by omega) (fun e he => ?_)
        rw [← List.take_append_getElem hql] at he
        rcases List.mem_append.mp he with h1 | h1
        · exact hno e h1
        · rw [List.mem_singleton.mp h1]; exact h
      have st : fX6_functor_b75 o (fu + 1) l1 l2 l3 (some c) (nI F.length) (nI q) (K, I, P, N) = if L[q].2.2.2.2.2 = -1 then fX6_functor_b75 o fu l1 l2 l3 (some c) (nI F.length) (nI (q + 1)) (K, I, P, N) else if plI 0 (plc A L[q].1 L[q].2.2.2.2.2) = -1 then some (.inr 2, (K, I, P, N), 1, 6) else fX6_functor_b75 o fu l1 l2 l3 (some c) (nI F.length) (nI (q + 1)) (K, I, P, N) := by
        show fX6_functor_b75_body o _ l1 l2 l3 (some c) (nI F.length) (nI q) (K, I, P, N) = _
        unfold fX6_functor_b75_body fX6_functor_b136
        rw [g65 hC, Option.bind_some, Option.bind_some, e_gI hok.1, Option.bind_some, hrow.1.1, if_neg (nI_ge (show q < L.length from hql) (show L.length < 2 ^ 31 by omega)), Option.bind_some, e_rc hok.1, Option.bind_some, get_r5 hok hrow.1 hg, Option.bind_some, nI_1]
        show (if L[q].2.2.2.2.2 = -1 then _ else Option.bind (cgR (K, I, P, N) o 6 5) _) = _
        by_cases h1 : L[q].2.2.2.2.2 = -1
        · rw [if_pos h1, if_pos h1]
        · rw [if_neg h1, if_neg h1, g65 hC, Option.bind_some, e_rc hok.1, Option.bind_some, get_r0 hok hrow.1 hg, Option.bind_some]
          show Option.bind (crc (K, I, P, N) (some c) 2) _ = _
          rw [e_rc hc.1, Option.bind_some, placeOf_r hc hA, Option.bind_some]
      rw [st]
      by_cases h1 : L[q].2.2.2.2.2 = -1
      · rw [if_pos h1]
        exact nxt (fun h => absurd h1 h)
      · rw [if_neg h1]
        cases hpl : plc A L[q].1 L[q].2.2.2.2.2 with
        | none =>
          rw [if_pos plI_none]
          exact Or.inl ⟨fun h => h _ (List.mem_of_getElem? hg) h1 hpl, rfl⟩
        | some r =>
          have := plc_lt hpl
          rw [if_neg (show ¬ plI 0 (some r) = -1 from nI_nm1 (by omega))]
          exact nxt (fun _ => by rw [hpl]; exact fun h => by cases h)
theorem fchk_r (hb : rBo M 8 L) {i : Nat} (hi : i < 20) (hA : rSp M i A) (hu : Uq A) {l2 l3 : Int32} : ∀ m fu q, q + m = L.length → m < fu → (∀ e, e ∈ L.take q → e.2.2.2.2.2 ≠ -1 → plc A e.1 e.2.2.2.2.2 ≠ none) → (¬ okF L A ∧ fX7_functor_b54 (fu + 1) (nI i) l2 l3 1 1 (nI (160 + q)) (f, M) = fX7_functor_b122 (nI i) l2 l3 1 0 (f, M)) ∨ (okF L A ∧ fX7_functor_b54 (fu + 1) (nI i) l2 l3 1 1 (nI (160 + q)) (f, M) = fX7_functor_b122 (nI i) l2 l3 1 1 (f, M)) := by
  have h20 := hb.2.1
  have h60 := hA.2.1
  intro m
  induction m with
  | zero =>
    intro fu q hq hf hno
    refine Or.inr ⟨fun e he => hno e (by rw [List.take_of_length_le (by omega)]; exact he), ?_⟩
    show fX7_functor_b54_body _ (nI i) l2 l3 1 1 (nI (160 + q)) (f, M) = _
    unfold fX7_functor_b54_body
    rw [if_neg i10, show (8 : Int32) = nI 8 from rfl, r_rd 9 rfl (by omega) (by omega), Option.bind_some, hb.1, show (160 : Int32) = nI 160 from rfl, nI_add, if_pos (nI_le (by omega) (by omega))]
  | succ m ih =>
    intro fu q hq hf hno
    cases fu with
    | zero => omega
    | succ fu =>
      have hql : q < L.length := by omega
      have hg := List.getElem?_eq_getElem hql
      obtain ⟨v1, v2, v3, v4, v5, v6⟩ := hb.2.2 q _ hg
      have nxt : (L[q].2.2.2.2.2 ≠ -1 → plc A L[q].1 L[q].2.2.2.2.2 ≠ none) → _ := fun h => ih fu (q + 1) (by omega) (by omega) (fun e he => by
        rw [← List.take_append_getElem hql] at he
        rcases List.mem_append.mp he with h1 | h1
        · exact hno e h1
        · rw [List.mem_singleton.mp h1]; exact h)
      have st : fX7_functor_b54 (fu + 1 + 1) (nI i) l2 l3 1 1 (nI (160 + q)) (f, M) = if L[q].2.2.2.2.2 = -1 then fX7_functor_b54 (fu + 1) (nI i) l2 l3 1 1 (nI (160 + (q + 1))) (f, M) else if plI (60 * i) (plc A L[q].1 L[q].2.2.2.2.2) = -1 then fX7_functor_b54 (fu + 1) (nI i) l2 l3 1 0 (nI (160 + (q + 1))) (f, M) else fX7_functor_b54 (fu + 1) (nI i) l2 l3 1 1 (nI (160 + (q + 1))) (f, M) := by
        show fX7_functor_b54_body _ (nI i) l2 l3 1 1 (nI (160 + q)) (f, M) = _
        unfold fX7_functor_b54_body fX7_functor_b109 fX7_functor_b114
        rw [if_neg i10, show (8 : Int32) = nI 8 from rfl, r_rd 9 rfl (by omega) (by omega), Option.bind_some, hb.1, show (160 : Int32) = nI 160 from rfl, nI_add, if_neg (nI_ge (by omega) (by omega)), r_rd 180 rfl (by omega) (by omega), Option.bind_some, show 160 + q = 20 * 8 + q from rfl, v5, nI_1]
        by_cases h1 : L[q].2.2.2.2.2 = -1
        · rw [if_pos h1, if_pos h1]; rfl
        · rw [if_neg h1, if_neg h1, r_rd 180 rfl (by omega) (by omega), Option.bind_some, Option.bind_some, v1, fi_sp hA (by omega) hu, Option.bind_some]
          rfl
      rw [st]
      by_cases h1 : L[q].2.2.2.2.2 = -1
      · rw [if_pos h1]
        exact nxt (fun h => absurd h1 h)
      · rw [if_neg h1]
        cases hpl : plc A L[q].1 L[q].2.2.2.2.2 with
        | none =>
          rw [if_pos plI_none]
          refine Or.inl ⟨fun h => h _ (List.mem_of_getElem? hg) h1 hpl, ?_⟩
          show fX7_functor_b54_body _ (nI i) l2 l3 1 0 _ (f, M) = _
          unfold fX7_functor_b54_body
          rw [if_pos rfl]
        | some r =>
          have := plc_lt hpl
          rw [if_neg (show ¬ plI (60 * i) (some r) = -1 from nI_nm1 (by omega))]
          exact nxt (fun _ => by rw [hpl]; exact fun h => by cases h)
/-- a body's entry, as it stands at a place -/
def boE (M : Nat → Nat → Int32) (k : Nat) (e : En) : Prop := M 19 k = e.1 ∧ M 20 k = e.2.1 ∧ (e.1 ≠ 0 → M 21 k = e.2.2.1) ∧ M 22 k = e.2.2.2.1 ∧ M 23 k = e.2.2.2.2.2 ∧ M 24 k = e.2.2.2.2.1
theorem fcopy_r {fn : Nat} (hfn : fn < 8) {l1 l2 l3 : Int32} (hl3 : l3 = 0 ∨ l3 = 1) : ∀ m fu q M, q + m = L.length → m < fu → f 17 = nI fn → rBo M 8 L → (∀ (p : Nat) (e : En), p < q → L[p]? = some e → boE M (20 * fn + p) e) → ∃ W, fX7_functor_b153 fu l1 l2 l3 (nI q) (f, M) = some (nI fn, upd f 17 (nI (fn + 1)), mup (mup (mup (mup (mup W 18 fn (nI L.length)) 18 8 0) 25 fn l1) 26 fn l2) 27 fn l3) ∧ (∀ (p : Nat) (e : En), L[p]? = some e → boE W (20 * fn + p) e) ∧ (∀ j, j < 19 ∨ 24 < j → W j = M j) ∧ ∀ j i, 19 ≤ j → j ≤ 24 → i < 20 * fn ∨ 20 * fn + 20 ≤ i → W j i = M j i := by
  intro m
  induction m with
  | zero =>
    intro fu q M hq hf hf17 hb ht
    have h20 := hb.2.1
    cases fu with
    | zero => omega
    | succ fu =>
      refine ⟨M, ?_, fun p e he => ht p e (by have := (List.getElem?_eq_some_iff.mp he).1; omega) he, fun _ _ => rfl, fun _ _ _ _ _ => rfl⟩
      show fX7_functor_b153_body _ l1 l2 l3 (nI q) (f, M) = _
      unfold fX7_functor_b153_body
      rw [show (8 : Int32) = nI 8 from rfl, r_rd 9 rfl (by omega) (by omega), Option.bind_some, hb.1, if_pos (nI_le (by omega) (by omega)), Option.bind_some]
      show Option.bind (rwr (f, M) 18 (f 17) (nI L.length)) _ = _
      rw [hf17, r_wr 9 rfl (by omega) (by omega), Option.bind_some, r_wr 9 rfl (by omega) (by omega), Option.bind_some]
      show Option.bind (rwr (f, _) 25 (f 17) l1) _ = _
      rw [hf17, r_wr 8 rfl (by omega) (by omega), Option.bind_some]
      show Option.bind (rwr (f, _) 26 (f 17) l2) _ = _
      rw [hf17, r_wr 8 rfl (by omega) (by omega), Option.bind_some]
      show Option.bind (rwz (f, _) 27 (f 17) l3) _ = _
      rw [hf17, r_wz 8 rfl (by omega) (by omega) (by rcases hl3 with rfl | rfl; exact b2_nar (x := false); exact b2_nar (x := true)), Option.bind_some]
      show some (upd f 17 (f 17 + 1) 17 - 1, upd f 17 (f 17 + 1), _) = _
      rw [upd_s, hf17, nI_1, nI_pred]
  | succ m ih =>
    intro fu q M hq hf hf17 hb ht
    have h20 := hb.2.1
    cases fu with
    | zero => omega
    | succ fu =>
      have hql : q < L.length := by omega
      have hg := List.getElem?_eq_getElem hql
      have e160 : (160 : Int32) + nI q = nI (160 + q) := nI_add 160 q
      have e20 : (20 : Int32) * nI fn + nI q = nI (20 * fn + q) := by rw [show (20 : Int32) = nI 20 from rfl, pk_mul, nI_add]
      generalize hV : mup (mup (mup (mup (mup (mup M 19 (20 * fn + q) (M 19 (160 + q))) 20 (20 * fn + q) (M 20 (160 + q))) 21 (20 * fn + q) (M 21 (160 + q))) 22 (20 * fn + q) (M 22 (160 + q))) 23 (20 * fn + q) (M 23 (160 + q))) 24 (20 * fn + q) (M 24 (160 + q)) = V
      have vo : ∀ j, j < 19 ∨ 24 < j → V j = M j := fun j hj => by rw [← hV, mup_k (by omega), mup_k (by omega), mup_k (by omega), mup_k (by omega), mup_k (by omega), mup_k (by omega)]
      have vi : ∀ j i, 19 ≤ j → j ≤ 24 → i ≠ 20 * fn + q → V j i = M j i := fun j i h1 h2 hi => by
        rw [← hV]
        rcases (show j = 19 ∨ j = 20 ∨ j = 21 ∨ j = 22 ∨ j = 23 ∨ j = 24 by omega) with rfl | rfl | rfl | rfl | rfl | rfl
        · rw [mup_k (by omega), mup_k (by omega), mup_k (by omega), mup_k (by omega), mup_k (by omega), mup_i hi]
        · rw [mup_k (by omega), mup_k (by omega), mup_k (by omega), mup_k (by omega), mup_i hi, mup_k (by omega)]
        · rw [mup_k (by omega), mup_k (by omega), mup_k (by omega), mup_i hi, mup_k (by omega), mup_k (by omega)]
        · rw [mup_k (by omega), mup_k (by omega), mup_i hi, mup_k (by omega), mup_k (by omega), mup_k (by omega)]
        · rw [mup_k (by omega), mup_i hi, mup_k (by omega), mup_k (by omega), mup_k (by omega), mup_k (by omega)]
        · rw [mup_i hi, mup_k (by omega), mup_k (by omega), mup_k (by omega), mup_k (by omega), mup_k (by omega)]
      have vs : ∀ j, 19 ≤ j → j ≤ 24 → V j (20 * fn + q) = M j (160 + q) := fun j h1 h2 => by
        rw [← hV]
        rcases (show j = 19 ∨ j = 20 ∨ j = 21 ∨ j = 22 ∨ j = 23 ∨ j = 24 by omega) with rfl | rfl | rfl | rfl | rfl | rfl
        · rw [mup_k (by omega), mup_k (by omega), mup_k (by omega), mup_k (by omega), mup_k (by omega), mup_s]
        · rw [mup_k (by omega), mup_k (by omega), mup_k (by omega), mup_k (by omega), mup_s]
        · rw [mup_k (by omega), mup_k (by omega), mup_k (by omega), mup_s]
        · rw [mup_k (by omega), mup_k (by omega), mup_s]
        · rw [mup_k (by omega), mup_s]
        · rw [mup_s]
      have hb2 : rBo V 8 L := ⟨by rw [vo 18 (by omega)]; exact hb.1, hb.2.1, fun p e he => by
        have hp := (List.getElem?_eq_some_iff.mp he).1
        rw [vi 19 _ (by omega) (by omega) (by omega), vi 20 _ (by omega) (by omega) (by omega), vi 21 _ (by omega) (by omega) (by omega), vi 22 _ (by omega) (by omega) (by omega), vi 23 _ (by omega) (by omega) (by omega), vi 24 _ (by omega) (by omega) (by omega)]
        exact hb.2.2 p e he⟩
      have ht2 : ∀ (p : Nat) (e : En), p < q + 1 → L[p]? = some e → boE V (20 * fn + p) e := fun p e hp he => by
        unfold boE
        by_cases hpq : p = q
        · subst hpq
          rw [vs 19 (by omega) (by omega), vs 20 (by omega) (by omega), vs 21 (by omega) (by omega), vs 22 (by omega) (by omega), vs 23 (by omega) (by omega), vs 24 (by omega) (by omega)]
          exact hb.2.2 p e he
        · rw [vi 19 _ (by omega) (by omega) (by omega), vi 20 _ (by omega) (by omega) (by omega), vi 21 _ (by omega) (by omega) (by omega), vi 22 _ (by omega) (by omega) (by omega), vi 23 _ (by omega) (by omega) (by omega), vi 24 _ (by omega) (by omega) (by omega)]
          exact ht p e (by omega) he
      obtain ⟨W, d1, d2, d3, d4⟩ := ih fu (q + 1) V (by omega) (by omega) hf17 hb2 ht2
      refine ⟨W, ?_, d2, fun j hj => by rw [d3 j hj, vo j hj], fun j i h1 h2 hi => by rw [d4 j i h1 h2 hi, vi j i h1 h2 (by omega)]⟩
      show fX7_functor_b153_body _ l1 l2 l3 (nI q) (f, M) = _
      unfold fX7_functor_b153_body
      rw [show (8 : Int32) = nI 8 from rfl, r_rd 9 rfl (by omega) (by omega), Option.bind_some, hb.1, if_neg (nI_ge hql (by omega))]
      have e3 : (20 : Int32) * (f, M).1 17 + nI q = nI (20 * fn + q) := by
        show 20 * f 17 + nI q = _
        rw [hf17, e20]
      show Option.bind (rd (f, M) 19 (160 + nI q)) _ = _
      rw [e160, e3]
      rw [r_rd 180 rfl (by omega) (by omega), Option.bind_some, r_wr 180 rfl (by omega) (by omega), Option.bind_some, r_rd 180 rfl (by omega) (by omega), Option.bind_some, mup_k (show 20 ≠ 19 by omega), r_wr 180 rfl (by omega) (by omega), Option.bind_some, r_rd 180 rfl (by omega) (by omega), Option.bind_some, mup_k (show 21 ≠ 20 by omega), mup_k (show 21 ≠ 19 by omega), r_wr 180 rfl (by omega) (by omega), Option.bind_some, r_rd 180 rfl (by omega) (by omega), Option.bind_some, mup_k (show 22 ≠ 21 by omega), mup_k (show 22 ≠ 20 by omega), mup_k (show 22 ≠ 19 by omega), r_wr 180 rfl (by omega) (by omega), Option.bind_some, r_rd 180 rfl (by omega) (by omega), Option.bind_some, mup_k (show 23 ≠ 22 by omega), mup_k (show 23 ≠ 21 by omega), mup_k (show 23 ≠ 20 by omega), mup_k (show 23 ≠ 19 by omega), r_wr 180 rfl (by omega) (by omega), Option.bind_some, r_rd 180 rfl (by omega) (by omega), Option.bind_some, mup_k (show 24 ≠ 23 by omega), mup_k (show 24 ≠ 22 by omega), mup_k (show 24 ≠ 21 by omega), mup_k (show 24 ≠ 20 by omega), mup_k (show 24 ≠ 19 by omega), r_wr 180 rfl (by omega) (by omega), Option.bind_some, nI_1, hV]
      exact d1
theorem s_functor (o t : Nat) : sim_functor o (Inv o t) (Inv o (t + 1)) := by
  intro z S p0 p1 p2 hp2 hI
  obtain ⟨K, I, P, N0⟩ := z
  obtain ⟨f, M⟩ := S
  refine sim_core (fun e => e = 0 ∨ e = 2) (fun e => if e = 0 then 1 else (if e = 2 then 2 else 0)) hI (fun b T n g R F Q U hR hW => ?_)
  have hF8 := hR.fu.2.1
  have h20 := hW.1.2.2.2
  have h30 := hW.1.2.2.1
  obtain ⟨L, w, p, hr, hL⟩ := hW.dB
  have hL20 := hL.len
  have hb := hR.bo (k := 8) (Nat.le_refl _) hr
  have thr : ∀ v : Int32, ¬ v ≤ 0 → fX7_functor_b142 p0 p1 p2 v (f, M) = some (0, upd f 54 v, M) := by
    intro v hv
    unfold fX7_functor_b142
    rw [fails_1 hv, Option.bind_some]
    rfl
  have r46 : ∀ x : Int32, fX7_functor_b46 p0 p1 p2 x (f, M) = fX7_functor_b122 p0 p1 p2 x 0 (f, M) := by
    intro x
    unfold fX7_functor_b46 fX7_functor_b47
    obtain ⟨k, hk⟩ : ∃ k, rFuel = k + 1 := ⟨99999, rfl⟩
    rw [hk]
    show fX7_functor_b54_body _ p0 p1 p2 x 0 160 (f, M) = _
    unfold fX7_functor_b54_body
    rw [if_pos rfl]
  have bad : fX7_functor_b25 p0 p1 p2 (f, M) = some (0, upd f 54 1, M) := by
    unfold fX7_functor_b25 fX7_functor_b26
    rw [if_pos rfl, r46]
    unfold fX7_functor_b122
    rw [if_pos rfl]
    exact thr 1 (by decide)
  rcases ix_em p0 (n := g) (by omega) with ⟨i, hi, rfl⟩ | h1
  · obtain ⟨A, hri, hA60, hA⟩ := hW.sG hi
    obtain ⟨hspi, -⟩ := hR.sp (k := i) (by omega) hri
    by_cases hx : p1 = -1 ∨ ∃ c, c < g ∧ p1 = nI c
    · have cst : ∀ N, CR o b K I P N T n g R F Q U → ∃ c, RowOK K P c ∧ RowE I c A ∧ fX6_functor o (nI i) p1 p2 (K, I, P, N) = if F.length < 8 then fX6_functor_b75 o rFuel (nI i) p1 p2 (some c) (nI F.length) (nI 0) (K, I, P, N) else fX6_functor_b62 o (K, I, P, N) := by
        intro N hC
        obtain ⟨c, c1, c2, c3, c4⟩ := atG hC hi hri
        obtain ⟨⟨s1, s2, s3, s4, s5, s6, s7, s8, s9, s10, s11⟩, u1, u2, u3, u4, u5, u6, u7, u8⟩ := hC.sf
        have b41 : fX6_functor_b41 o (nI i) p1 p2 (some c) (K, I, P, N) = if F.length < 8 then fX6_functor_b75 o rFuel (nI i) p1 p2 (some c) (nI F.length) (nI 0) (K, I, P, N) else fX6_functor_b62 o (K, I, P, N) := by
          unfold fX6_functor_b41
          rw [e_gI s1, Option.bind_some, hC.fu.1, if_neg (nI_pos (by omega)), e_gR s1, Option.bind_some, u7, Option.bind_some, e_len s9, Option.bind_some]
          by_cases hl : F.length < 8
          · rw [if_pos (nI_lt hl (by omega)), if_pos hl]; rfl
          · rw [if_neg (nI_nlt (by omega) (by omega)), if_neg hl]
        refine ⟨c, c2, c3.1, ?_⟩
        rw [← b41]
        unfold fX6_functor
        rw [g62 hC, Option.bind_some, r5 hC, Option.bind_some, c4, Option.bind_some]
        show (if some c = none then _ else if p1 = -1 then fX6_functor_b41 o (nI i) p1 p2 (some c) (K, I, P, N) else Option.bind (cgR (K, I, P, N) o 6 2) _) = _
        rw [if_neg (fun e => by cases e)]
        by_cases h2 : p1 = -1
        · rw [if_pos h2]
        · obtain ⟨j, hj, hj2⟩ := hx.resolve_left h2
          obtain ⟨B, hrj, -, -⟩ := hW.sG hj
          obtain ⟨d, d1, d2, d3, d4⟩ := atG hC hj hrj
          rw [if_neg h2, g62 hC, Option.bind_some, r5 hC, Option.bind_some, hj2, d4, Option.bind_some, if_neg (fun e => by cases e)]
      have rst : fX7_functor (nI i) p1 p2 (f, M) = if 8 ≤ F.length then fX7_functor_b46 (nI i) p1 p2 1 (f, M) else fX7_functor_b54 (99999 + 1) (nI i) p1 p2 1 1 (nI (160 + 0)) (f, M) := by
        have b21 : fX7_functor_b21 (nI i) p1 p2 (f, M) = if 8 ≤ F.length then fX7_functor_b46 (nI i) p1 p2 1 (f, M) else fX7_functor_b54 (99999 + 1) (nI i) p1 p2 1 1 (nI (160 + 0)) (f, M) := by
          unfold fX7_functor_b21 fX7_functor_b26
          rw [if_neg i10]
          show (if (8 : Int32) ≤ f 17 then _ else _) = _
          rw [hR.fu.1, show (8 : Int32) = nI 8 from rfl]
          by_cases hl : 8 ≤ F.length
          · rw [if_pos (nI_le hl (by omega)), if_pos hl]
          · rw [if_neg (nI_ge (by omega) (by omega)), if_neg hl]
            rfl
        rw [← b21]
        unfold fX7_functor
        rw [isSig_t hR hi, Option.bind_some, if_neg i10]
        by_cases h2 : p1 = -1
        · rw [if_pos h2]
        · obtain ⟨j, hj, hj2⟩ := hx.resolve_left h2
          rw [if_neg h2, hj2, isSig_t hR hj, Option.bind_some, if_neg i10]
      by_cases hl : F.length < 8
      · have rchk := fchk_r (L := L) (f := f) hb (show i < 20 by omega) hspi hA.1 (l2 := p1) (l3 := p2) L.length 99999 0 (by omega) (by omega) (fun e he => by simp at he)
        by_cases hok : okF L A
        · have hW2 : WF (t + 1) T n g (aup (aup R (300 + F.length) (some (L, w, p))) 308 (some ([], 0, 0))) (F ++ [(nI i, p1, p2, fun _ => -1)]) Q U := by
            obtain ⟨a, c, ⟨d1, d2⟩, e, fu, pk, un⟩ := hW.step
            have hk : ∀ k, k < 300 → (aup (aup R (300 + F.length) (some (L, w, p))) 308 (some ([], 0, 0))) k = R k := fun k hk => by rw [aup_n (by omega), aup_n (by omega)]
            refine ⟨a, fun k hk2 => by rw [hk k (by omega)]; exact c k hk2, ⟨fun j hj => (d1 j hj).congr (Nat.le_refl _) (by omega) (fun l hl => hk _ (by omega)) (hk _ (by omega)), d2.congr (Nat.le_refl _) h20 (fun l hl => hk _ (by omega)) (hk _ (by omega))⟩, fun j hj => ?_, fun j x hx2 => ?_, pk, un⟩
            · by_cases h8 : j = 8
              · subst h8; exact ⟨[], 0, 0, aup_s, WfB.nil⟩
              · rw [aup_n (by omega)]
                by_cases hjF : j = F.length
                · subst hjF; exact ⟨L, w, p, aup_s, hL⟩
                · rw [aup_n (by omega)]
                  exact e j (by simp at hj; omega)
            · by_cases hjF : j < F.length
              · rw [List.getElem?_append_left hjF] at hx2
                obtain ⟨⟨q, q1, q2, LA, wa, pa, LB, wb, pb, q3, q4, q5⟩, q6⟩ := fu j x hx2
                exact ⟨⟨q, q1, q2, LA, wa, pa, LB, wb, pb, by rw [hk _ (by omega)]; exact q3, by rw [aup_n (by omega), aup_n (by omega)]; exact q4, q5⟩, q6⟩
              · have hl2 := (List.getElem?_eq_some_iff.mp hx2).1
                have hjF2 : j = F.length := by simp at hl2; omega
                subst hjF2
                rw [List.getElem?_append_right (Nat.le_refl _), Nat.sub_self] at hx2
                cases hx2
                refine ⟨⟨i, hi, rfl, A, _, _, L, w, p, by rw [hk _ (by omega)]; exact hri, by rw [aup_n (by omega), aup_s], fun q e he hne => hok e (List.mem_of_getElem? he) hne⟩, hx, hp2, fun s hs => Or.inl rfl⟩
          refine sim_do (nI F.length) hW2 (fun N hC => ?_) ?_
          · obtain ⟨c, c1, c2, c3⟩ := cst N hC
            obtain ⟨hpp, dok, drow⟩ := row308 hC hr
            rcases fchk_c (o := o) (l1 := nI i) (l2 := p1) (l3 := p2) hC hr c1 c2 L.length rFuel 0 (by omega) (by show L.length < 100000; omega) (fun e he => by simp at he) with ⟨h5, -⟩ | ⟨-, fu2, h6⟩
            · exact absurd hok h5
            · obtain ⟨K2, I2, P2, e1, e2⟩ := new0_c hC hl (nI i) p1 p2 hp2 hr
              refine ⟨K2, I2, P2, N + 4, 4, 219, ?_, by omega, by omega, e2⟩
              rw [c3, if_pos hl, h6]
              show fX6_functor_b75_body o _ (nI i) p1 p2 (some c) (nI F.length) (nI L.length) (K, I, P, N) = _
              unfold fX6_functor_b75_body
              rw [g65 hC, Option.bind_some, Option.bind_some, e_gI dok.1, Option.bind_some, drow.1.1, if_pos (nI_le (Nat.le_refl _) (show L.length < 2 ^ 31 by omega))]
              show ause 1 5 (abind (fX0_init N (nI i) p1 p2 (cnw (K, I, P, N) 0 0)) _) = _
              rw [e1]
              rfl
          · rcases rchk with ⟨h5, -⟩ | ⟨-, h6⟩
            · exact absurd hok h5
            · obtain ⟨W, d1, d2, d3, d4⟩ := fcopy_r (f := upd f 54 0) (L := L) (fn := F.length) hl (l1 := nI i) (l2 := p1) (l3 := p2) hp2 L.length rFuel 0 M (by omega) (by show L.length < 100000; omega) ((upd_n (by omega)).trans hR.fu.1) hb (fun p e hp => by omega)
              refine ⟨upd (upd f 54 0) 17 (nI (F.length + 1)), mup (mup (mup (mup (mup W 18 F.length (nI L.length)) 18 8 0) 25 F.length (nI i)) 26 F.length p1) 27 F.length p2, ?_, ?_, by rw [upd_n (by omega), upd_s]⟩
              · rw [rst, if_neg (by omega), h6]
                unfold fX7_functor_b122
                rw [if_neg i10, if_neg i10]
                unfold fX7_functor_b142
                rw [fails_0, Option.bind_some]
                exact d1
              · have hR2 := hR.thr 0
                generalize hV : mup (mup (mup (mup (mup W 18 F.length (nI L.length)) 18 8 0) 25 F.length (nI i)) 26 F.length p1) 27 F.length p2 = V
                have vo : ∀ j, j < 18 ∨ 27 < j → V j = M j := fun j hj => by rw [← hV, mup_k (by omega), mup_k (by omega), mup_k (by omega), mup_k (by omega), mup_k (by omega), d3 j (by omega)]
                have vw : ∀ j, 19 ≤ j → j ≤ 24 → V j = W j := fun j h1 h2 => by rw [← hV, mup_k (by omega), mup_k (by omega), mup_k (by omega), mup_k (by omega), mup_k (by omega)]
                have v18 : ∀ k, V 18 k = if k = 8 then 0 else if k = F.length then nI L.length else M 18 k := fun k => by
                  rw [← hV, mup_k (by omega), mup_k (by omega), mup_k (by omega)]
                  by_cases h1 : k = 8
                  · subst h1; rw [if_pos rfl, mup_s]
                  · rw [if_neg h1, mup_i h1]
                    by_cases h2 : k = F.length
                    · subst h2; rw [if_pos rfl, mup_s]
                    · rw [if_neg h2, mup_i h2, d3 18 (by omega)]
                refine ⟨hR2.ty.congr (upd_n (by omega)) (vo _ (by omega)) (vo _ (by omega)) (vo _ (by omega)), hR2.cn.congr (upd_n (by omega)) (upd_n (by omega)) (vo _ (by omega)) (vo _ (by omega)), fun k d hk => ?_, ⟨by rw [upd_s, List.length_append]; rfl, by simp; omega, fun j x hx2 => ?_, fun j s h1 h2 h3 => ?_⟩, hR2.pk.congr (upd_n (by omega)) (vo _ (by omega)) (vo _ (by omega)), hR2.un.congr (upd_n (by omega)) (fun j h1 h2 => vo _ (by omega)), (upd_n (by omega)).trans hR2.dp⟩
                · by_cases hk8 : k = 308
                  · subst hk8
                    rw [aup_s] at hk
                    cases hk
                    exact ⟨fun h => by omega, fun _ h => by omega, fun _ _ => ⟨by rw [v18, if_pos rfl]; rfl, by simp, fun p e he => by simp at he⟩⟩
                  · rw [aup_n hk8] at hk
                    by_cases hkF : k = 300 + F.length
                    · subst hkF
                      rw [aup_s] at hk
                      cases hk
                      refine ⟨fun h => by omega, fun _ h => by omega, fun _ _ => ?_⟩
                      rw [Nat.add_sub_cancel_left]
                      refine ⟨by rw [v18, if_neg (by omega), if_pos rfl], hL20, fun p e he => ?_⟩
                      rw [vw 19 (by omega) (by omega), vw 20 (by omega) (by omega), vw 21 (by omega) (by omega), vw 22 (by omega) (by omega), vw 23 (by omega) (by omega), vw 24 (by omega) (by omega)]
                      exact d2 p e he
                    · rw [aup_n hkF] at hk
                      obtain ⟨q1, q2, q3⟩ := hR2.rw k d hk
                      refine ⟨fun h => (q1 h).congr (fun j h1 h2 => vo j (by omega)), fun h h2 => ⟨(q2 h h2).1.congr (fun j h1 h2 => vo j (by omega)), by rw [vo 12 (by omega)]; exact (q2 h h2).2⟩, fun h h2 => ?_⟩
                      obtain ⟨z1, z2, z3⟩ := q3 h h2
                      refine ⟨by rw [v18, if_neg (by omega), if_neg (by omega)]; exact z1, z2, fun p e he => ?_⟩
                      have hp := (List.getElem?_eq_some_iff.mp he).1
                      rw [vw 19 (by omega) (by omega), vw 20 (by omega) (by omega), vw 21 (by omega) (by omega), vw 22 (by omega) (by omega), vw 23 (by omega) (by omega), vw 24 (by omega) (by omega), d4 19 _ (by omega) (by omega) (by omega), d4 20 _ (by omega) (by omega) (by omega), d4 21 _ (by omega) (by omega) (by omega), d4 22 _ (by omega) (by omega) (by omega), d4 23 _ (by omega) (by omega) (by omega), d4 24 _ (by omega) (by omega) (by omega)]
                      exact z3 p e he
                · have w28 : V 28 = M 28 := vo 28 (by omega)
                  by_cases hjF : j < F.length
                  · rw [List.getElem?_append_left hjF] at hx2
                    obtain ⟨q1, q2, q3, q4⟩ := hR2.fu.2.2.1 j x hx2
                    rw [w28, ← hV, mup_k (show 25 ≠ 27 by omega), mup_k (show 25 ≠ 26 by omega), mup_i (by omega), mup_k (show 25 ≠ 18 by omega), mup_k (show 25 ≠ 18 by omega), d3 25 (by omega), mup_k (show 26 ≠ 27 by omega), mup_i (by omega), mup_k (show 26 ≠ 25 by omega), mup_k (show 26 ≠ 18 by omega), mup_k (show 26 ≠ 18 by omega), d3 26 (by omega), mup_i (by omega), mup_k (show 27 ≠ 26 by omega), mup_k (show 27 ≠ 25 by omega), mup_k (show 27 ≠ 18 by omega), mup_k (show 27 ≠ 18 by omega), d3 27 (by omega)]
                    exact ⟨q1, q2, q3, q4⟩
                  · have hl2 := (List.getElem?_eq_some_iff.mp hx2).1
                    have hjF2 : j = F.length := by simp at hl2; omega
                    subst hjF2
                    rw [List.getElem?_append_right (Nat.le_refl _), Nat.sub_self] at hx2
                    cases hx2
                    rw [w28, ← hV, mup_k (show 25 ≠ 27 by omega), mup_k (show 25 ≠ 26 by omega), mup_s, mup_k (show 26 ≠ 27 by omega), mup_s, mup_s]
                    exact ⟨rfl, rfl, rfl, fun s hs => hR2.fu.2.2.2 _ s (Nat.le_refl _) hl hs⟩
                · rw [vo 28 (by omega)]
                  exact hR2.fu.2.2.2 j s (by simp at h1; omega) h2 h3
        · refine sim_thr 2 0 hR hW (Or.inr rfl) (fun N hC => ?_) ?_
          · obtain ⟨c, c1, c2, c3⟩ := cst N hC
            rcases fchk_c (o := o) (l1 := nI i) (l2 := p1) (l3 := p2) hC hr c1 c2 L.length rFuel 0 (by omega) (by show L.length < 100000; omega) (fun e he => by simp at he) with ⟨-, h5⟩ | ⟨h5, -⟩
            · rw [c3, if_pos hl, h5]
            · exact absurd h5 hok
          · rcases rchk with ⟨-, h6⟩ | ⟨h5, -⟩
            · rw [rst, if_neg (by omega), h6]
              unfold fX7_functor_b122
              rw [if_neg i10, if_pos rfl]
              exact thr 2 (by decide)
            · exact absurd h5 hok
      · refine sim_thr 2 0 hR hW (Or.inr rfl) (fun N hC => ?_) ?_
        · obtain ⟨c, c1, c2, c3⟩ := cst N hC
          rw [c3, if_neg hl]
          rfl
        · rw [rst, if_pos (by omega), r46]
          unfold fX7_functor_b122
          rw [if_neg i10, if_pos rfl]
          exact thr 2 (by decide)
    · have h2 : ¬ p1 = -1 := fun e => hx (Or.inl e)
      have h3 : p1 < 0 ∨ nI g ≤ p1 := (ix_em p1 (n := g) (by omega)).resolve_left (fun e => hx (Or.inr e))
      refine sim_thr 0 0 hR hW (Or.inl rfl) (fun N hC => ?_) ?_
      · obtain ⟨c, c1, c2, c3, c4⟩ := atG hC hi hri
        unfold fX6_functor
        rw [g62 hC, Option.bind_some, r5 hC, Option.bind_some, c4, Option.bind_some]
        show (if some c = none then _ else if p1 = -1 then _ else Option.bind (cgR (K, I, P, N) o 6 2) _) = _
        rw [if_neg (fun e => by cases e), if_neg h2, g62 hC, Option.bind_some, r5 hC, Option.bind_some, at_no hC.shG h3, Option.bind_some, if_pos rfl]
        rfl
      · unfold fX7_functor
        rw [isSig_t hR hi, Option.bind_some, if_neg i10, if_neg h2, isSig_f hR h3, Option.bind_some, if_pos rfl]
        exact bad
  · refine sim_thr 0 0 hR hW (Or.inl rfl) (fun N hC => ?_) ?_
    · unfold fX6_functor
      rw [g62 hC, Option.bind_some, r5 hC, Option.bind_some, at_no hC.shG h1, Option.bind_some]
      rfl
    · unfold fX7_functor
      rw [isSig_f hR h1, Option.bind_some, if_pos rfl]
      exact bad
end Functor2
