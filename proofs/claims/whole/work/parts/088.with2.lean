/-! WITH: the call -/
section With2
variable {o b t : Nat} {K : Nat → Option (Nat × Nat)} {I : Nat → Nat → Int32} {P : Nat → Nat → Option Nat} {N0 N a : Nat} {f : Nat → Int32} {M : Nat → Nat → Int32} {T : List TyD} {n g : Nat} {R : Nat → Option RowD} {F : List FuD} {Q : List (Int32 × Int32)} {U : List UnD} {L X : List En}
theorem set_r2 (h : RowOK K P a) (hr : RowE I a L) {p : Nat} {e : En} (he : L[p]? = some e) (v : Int32) : ∃ J, fX2_set a (nI p) 2 v (K, I, P, N) = some ((), K, J, P, N) ∧ RowE J a (L.set p (e.1, e.2.1, v, e.2.2.2)) ∧ RowO I J a ∧ J a 2 = I a 2 ∧ J a 3 = I a 3 := by
  have hp := (List.getElem?_eq_some_iff.mp he).1
  have ne : a ≠ a + 1 := by omega
  refine ⟨cup I (a + 1) (p * 6 + 2) v, set_c (q := 2) h hr.1 hp hr.2.1 (by omega), ⟨by rw [cup_q ne, hr.1, List.length_set], by rw [List.length_set]; exact hr.2.1, fun r x hx q hq => ?_⟩, fun q h1 h2 => cup_q h2, by rw [cup_q ne], by rw [cup_q ne]⟩
  rw [List.getElem?_set] at hx
  by_cases hrp : p = r
  · subst hrp
    rw [if_pos rfl, if_pos hp] at hx
    cases hx
    have old := hr.2.2 p e he q hq
    rcases (show q = 2 ∨ q ≠ 2 by omega) with rfl | h2
    · rw [cup_s]; rfl
    · rw [cup_j (by omega), old]
      rcases (show q = 0 ∨ q = 1 ∨ q = 3 ∨ q = 4 ∨ q = 5 by omega) with rfl | rfl | rfl | rfl | rfl <;> rfl
  · rw [if_neg hrp] at hx
    rw [cup_j (by omega)]
    exact hr.2.2 r x hx q hq
/-- one spec: the reference -/
theorem with_step {rec92 : Int32 → Int32 → Int32 → Int32 → Int32 → Int32 → rS → Option (Int32 × rS)} {i nm ty tk : Int32} {pl q k : Nat} {e : En} (hpl : k + pl < 1260) (hq : k + q < 1260) (h2 : M 15 (k + q) = e.2.2.1) (h3 : M 16 (k + q) = e.2.2.2.1) (hk0 : q = pl → e.2.2.2.1 = -100) (hnm : isNm nm) : fX7_with_b124 rec92 i nm ty tk (nI (k + pl)) (nI (k + q)) (if e.1 = 2 then 1 else 0) (f, M) = if q = pl ∧ tk ≠ 0 then fX7_with_b249 rec92 i nm ty tk (nI (k + pl)) (nI (k + q)) (f, M) else fX7_with_b217 rec92 i nm ty tk (nI (k + pl)) (nI (k + q)) (wE tk nm ty pl q e).2.2.1 (wE tk nm ty pl q e).2.2.2.1 (f, M) := by
  have r15 : rd (f, M) 15 (nI (k + q)) = some e.2.2.1 := by rw [r_rd 1260 rfl hq (by omega), h2]
  have r16 : rd (f, M) 16 (nI (k + q)) = some e.2.2.2.1 := by rw [r_rd 1260 rfl hq (by omega), h3]
  have heq : (nI (k + q) = nI (k + pl)) = (q = pl) := by rw [nI_eq (by omega) (by omega)]; exact propext ⟨fun h => by omega, fun h => by omega⟩
  unfold fX7_with_b124 fX7_with_b156 fX7_with_b160 fX7_with_b167 fX7_with_b196 fX7_with_b203
  simp only [heq, r15, r16, Option.bind_some]
  unfold wE
  by_cases c1 : q = pl
  · by_cases c2 : tk = 0
    · simp only [c1, c2, if_pos, ne_eq, not_true_eq_false, and_false, if_false]
    · have c3 := hk0 c1
      have hne : ¬ (-100 : Int32) = -1 - nm := fun h => nm_100 hnm h.symm
      by_cases c4 : e.1 = 2
      · simp only [c1, c2, c3, c4, if_pos, if_neg, ne_eq, not_false_eq_true, and_true, if_true, if_false, i10]
      · simp only [c1, c2, c3, c4, hne, if_pos, if_neg, ne_eq, not_false_eq_true, and_true, if_true, if_false]
  · by_cases c2 : tk = 0
    · simp only [c1, c2, if_pos, if_neg, ne_eq, not_true_eq_false, and_false, if_false, not_false_eq_true]
    · by_cases c3 : e.1 = 2
      · simp only [c1, c2, c3, if_pos, if_neg, ne_eq, not_false_eq_true, false_and, if_false, i10]
      · simp only [c1, c2, c3, if_pos, if_neg, ne_eq, not_false_eq_true, false_and, if_false]
        by_cases c4 : e.2.2.1 = -1 - nm <;> by_cases c5 : e.2.2.2.1 = -1 - nm <;> simp only [c4, c5, if_pos, if_neg, not_false_eq_true, if_false]
theorem with_loop (hg : g < 20) {m0 i pl : Nat} {nm ty tk : Int32} (hi : i < g) (hXG : WfG m0 i X) (hpl : pl < X.length) (hnm : isNm nm) (hk0 : ∀ e, X[pl]? = some e → e.1 = 0) : ∀ m fu q M L w, q + m = X.length → m < fu → f 10 = nI g → hWt M R g → rSp M i X → rSp M g L → M 12 g = nI w → L.length + m ≤ 30 → ∃ W, fX7_with_b92 fu (nI i) nm ty tk (nI (60 * i + pl)) (nI (60 * i + q)) (f, M) = some (nI g, upd f 10 (nI (g + 1)), W) ∧ rSp W g (L ++ wL tk nm ty pl q (X.drop q)) ∧ W 12 g = nI (w + sumW R (wL tk nm ty pl q (X.drop q))) ∧ spF M W g := by
  intro m
  induction m with
  | zero =>
    intro fu q M L w hq hf hf10 hw hX hL hwk h30
    have h60 := hX.2.1
    cases fu with
    | zero => omega
    | succ fu =>
      refine ⟨M, ?_, by rw [List.drop_eq_nil_of_le (by omega)]; unfold wL; rw [List.append_nil]; exact hL, by rw [List.drop_eq_nil_of_le (by omega), hwk]; rfl, spF.rf⟩
      show fX7_with_b92_body _ (nI i) nm ty tk (nI (60 * i + pl)) (nI (60 * i + q)) (f, M) = _
      unfold fX7_with_b92_body
      rw [r_rd 21 rfl (by omega) (by omega), Option.bind_some, hX.1, show (60 : Int32) = nI 60 from rfl, pk_mul, nI_add, if_pos (nI_le (by omega) (by omega))]
      show some (upd f 10 (f 10 + 1) 10 - 1, upd f 10 (f 10 + 1), _) = _
      rw [upd_s, hf10, nI_1, nI_pred]
  | succ m ih =>
    intro fu q M L w hq hf hf10 hw hX hL hwk h30
    have h60 := hX.2.1
    cases fu with
    | zero => omega
    | succ fu =>
      have hql : q < X.length := by omega
      have hg2 := List.getElem?_eq_getElem hql
      have hE := hXG.2 q _ hg2
      have hpk : q = pl → X[q].1 = 0 := fun e => hk0 _ (by rw [← e]; exact hg2)
      have hp2 : q = pl → X[q].2.2.2.1 = -100 := fun e => by
        have h0 := hpk e
        rcases hE.2.2.2 with ⟨-, h, -⟩ | ⟨h, -⟩ | ⟨-, h, -⟩
        · exact h
        · exact absurd (h0.symm.trans h) i01
        · exact h
      have hdr : X.drop q = X[q] :: X.drop (q + 1) := List.drop_eq_getElem_cons hql
      obtain ⟨v1, v2, v3, v4⟩ := hX.2.2 q _ hg2
      have st : fX7_with_b92 (fu + 1) (nI i) nm ty tk (nI (60 * i + pl)) (nI (60 * i + q)) (f, M) = fX7_with_b124 (fX7_with_b92 fu) (nI i) nm ty tk (nI (60 * i + pl)) (nI (60 * i + q)) (if X[q].1 = 2 then 1 else 0) (f, M) := by
        show fX7_with_b92_body _ (nI i) nm ty tk (nI (60 * i + pl)) (nI (60 * i + q)) (f, M) = _
        unfold fX7_with_b92_body
        rw [r_rd 21 rfl (by omega) (by omega), Option.bind_some, hX.1, show (60 : Int32) = nI 60 from rfl, pk_mul, nI_add, if_neg (nI_ge (by omega) (by omega)), r_rd 1260 rfl (by omega) (by omega), Option.bind_some, v1]
        by_cases h : X[q].1 = 2
        · rw [if_pos h, if_pos h]
        · rw [if_neg h, if_neg h]
      rw [st, with_step (by omega) (by omega) v3 v4 hp2 hnm, hdr]
      unfold wL
      by_cases hc : q = pl ∧ tk ≠ 0
      · rw [if_pos hc, if_pos hc]
        obtain ⟨W2, d1, d2, d3, d4⟩ := ih fu (q + 1) M L w (by omega) (by omega) hf10 hw hX hL hwk (by omega)
        refine ⟨W2, ?_, d2, d3, d4⟩
        unfold fX7_with_b249
        rw [nI_1]
        exact d1
      · rw [if_neg hc, if_neg hc]
        obtain ⟨-, -, -, -, v5, W, e1, e2, e3, e4, e5, e6⟩ := copy_r (f := f) (R := R) (s := i) (k := g) (Nat.le_of_lt hg) hw (by omega) (by omega) (Nat.le_refl _) (by omega) hX hL hwk (by omega) hql (Nat.le_of_lt hi) hg2 hE (wE tk nm ty pl q X[q]).2.2.1 (wE tk nm ty pl q X[q]).2.2.2.1
        rw [show (X[q].1, X[q].2.1, (wE tk nm ty pl q X[q]).2.2.1, (wE tk nm ty pl q X[q]).2.2.2.1, (0 : Int32), (-1 : Int32)) = wE tk nm ty pl q X[q] from rfl] at e2
        obtain ⟨W2, d1, d2, d3, d4⟩ := ih fu (q + 1) W _ _ (by omega) (by omega) hf10 e6 e5 e2 e3 (by simp; omega)
        refine ⟨W2, ?_, by rw [List.append_assoc] at d2; exact d2, ?_, e4.tr d4⟩
        · unfold fX7_with_b217
          rw [r_rd 1260 rfl (by omega) (by omega), Option.bind_some, r_rd 1260 rfl (by omega) (by omega), Option.bind_some, v1, v2, v5, Option.bind_some]
          show Option.bind (fX7_specifies (f 10) _ _ _ _ (nI (wt R X[q])) (f, M)) _ = _
          rw [hf10, e1, Option.bind_some]
          unfold fX7_with_b249
          rw [nI_1]
          exact d1
        · rw [d3]
          have hwt : wt R (wE tk nm ty pl q X[q]) = wt R X[q] := (wE_wt (fun e => by rw [hpk e]; exact i02)).1
          have : sumW R (wE tk nm ty pl q X[q] :: wL tk nm ty pl (q + 1) (X.drop (q + 1))) = wt R X[q] + sumW R (wL tk nm ty pl (q + 1) (X.drop (q + 1))) := by unfold sumW; simp [hwt]
          rw [this, Nat.add_assoc]
theorem aup_self {α : Type} {R : Nat → α} {k : Nat} {d : α} (h : R k = d) : aup R k d = R := aup_id h
theorem s_with (o t : Nat) : sim_with o (Inv o t) (Inv o (t + 1)) := by
  intro z S p0 p1 p2 p3 hp3 hI
  obtain ⟨K, I, P, N0⟩ := z
  obtain ⟨f, M⟩ := S
  refine sim_core (fun e => e = 0 ∨ e = 2) (fun e => if e = 0 then 1 else (if e = 2 then 2 else 0)) hI (fun b T n g R F Q U hR hW => ?_)
  have h20 := hW.1.2.2.2
  have h200 := hW.1.2.1
  have thr : ∀ v : Int32, ¬ v ≤ 0 → ∀ x y z u w, fX7_with_b78 x y z u w v (f, M) = some (0, upd f 54 v, M) := by
    intro v hv x y z u w
    unfold fX7_with_b78
    rw [fails_1 hv, Option.bind_some]
    rfl
  have thr0 : ∀ x, fX7_with_b51 p0 p1 p2 p3 x (f, M) = some (0, upd f 54 1, M) := by
    intro x
    unfold fX7_with_b51 fX7_with_b52
    rw [if_pos rfl]
    exact thr 1 (by decide) _ _ _ _ _
  rcases ix_em p0 (n := g) (by omega) with ⟨i, hi, rfl⟩ | h1
  · obtain ⟨X, hri, hx60, hX⟩ := hW.sG hi
    obtain ⟨hspi, hswi⟩ := hR.sp (k := i) (by omega) hri
    have hX30 := hX.len
    have c1 : ∀ N, CR o b K I P N T n g R F Q U → ∃ c, ptr b P (200 + i) = some c ∧ RowOK K P c ∧ RowIs I c (X, sumW R X, sumP R X) ∧ fX3_at (b + 5) (nI i) (K, I, P, N) = some (some c, K, I, P, N) := fun N hC => atG hC hi hri
    rcases ix_em p2 (n := T.length) (by omega) with ⟨j, hj, rfl⟩ | h2
    · have rst : fX7_with (nI i) p1 (nI j) p3 (f, M) = fX7_with_b27 (nI i) p1 (nI j) p3 (plI (60 * i) (plc X 0 p1)) (f, M) := by
        unfold fX7_with
        rw [isSig_t hR hi, Option.bind_some, if_neg i10, isType_t hR hj, Option.bind_some, if_neg i10, fi_sp hspi (by omega) hX.1, Option.bind_some]
      cases hp : plc X 0 p1 with
      | none =>
        refine sim_thr 0 0 hR hW (Or.inl rfl) (fun N hC => ?_) ?_
        · obtain ⟨c, c2, c3, c4, c5⟩ := c1 N hC
          unfold fX6_with
          rw [g62 hC, Option.bind_some, r5 hC, Option.bind_some, c5, Option.bind_some]
          show (if some c = none then _ else Option.bind (crc (K, I, P, N) (some o) 6) _) = _
          rw [if_neg (fun e => by cases e), ro hC, Option.bind_some, needType_t hC hj, tb_l, e_rc c3.1, Option.bind_some, placeOf_r c3 c4.1, hp]
          rfl
        · rw [rst, hp]
          unfold fX7_with_b27
          rw [if_pos plI_none]
          exact thr0 _
      | some pl =>
        obtain ⟨e, he, ek, en⟩ := plc_some hp
        have hpl := plc_lt hp
        have hnm : isNm p1 := by rw [← en]; exact (hX.2 pl e he).1
        have hv := (hspi.2.2 pl e he).2.2.1
        have cst : ∀ N, CR o b K I P N T n g R F Q U → ∃ c, ptr b P (200 + i) = some c ∧ RowOK K P c ∧ RowIs I c (X, sumW R X, sumP R X) ∧ fX6_with o (nI i) p1 (nI j) p3 (K, I, P, N) = if e.2.2.1 = -100 then
          Option.bind (cgR (K, I, P, N) o 6 2) fun x69 =>
          Option.bind x69 fun q72 =>
          Option.bind (cgI (K, I, P, N) q72 3 1) fun x72 =>
          Option.bind (cgR (K, I, P, N) o 6 2) fun x78 =>
          Option.bind (crc (K, I, P, N) x78 3) fun c83 =>
          abind (fX3_blank c83 x72 (K, I, P, N)) fun v83 z83 =>
          if v83 = none then
            some (.inr 2, z83, 1, 6)
          else
            Option.bind (crc z83 v83 2) fun c107 =>
            Option.bind (fX2_addAll c107 (some c) z83) fun q107 =>
            if (p3) = 0 then
              Option.bind (crc (q107.2) v83 2) fun c151 =>
              Option.bind (fX2_set c151 (nI pl) 2 (nI j) (q107.2)) fun q151 =>
              fX6_with_b154 o x72 (q151.2)
            else
              Option.bind (crc (q107.2) v83 2) fun c121 =>
              Option.bind (fX2_tellEverywhere c121 (((-1)) - p1) (nI j) (q107.2)) fun q121 =>
              Option.bind (crc (q121.2) v83 2) fun c128 =>
              Option.bind (fX2_takeOut c128 (nI pl) (q121.2)) fun q128 =>
              Option.bind v83 fun q134 =>
              Option.bind (cgI (q128.2) q134 2 2) fun x134 =>
              Option.bind v83 fun q139 =>
              Option.bind (cpI (q128.2) q139 2 2 (x134 - 1)) fun z139 =>
              fX6_with_b154 o x72 z139
          else fX6_with_b58 o (K, I, P, N) := by
          intro N hC
          obtain ⟨c, c2, c3, c4, c5⟩ := c1 N hC
          refine ⟨c, c2, c3, c4, ?_⟩
          unfold fX6_with
          rw [g62 hC, Option.bind_some, r5 hC, Option.bind_some, c5, Option.bind_some]
          show (if some c = none then _ else Option.bind (crc (K, I, P, N) (some o) 6) _) = _
          rw [if_neg (fun e => by cases e), ro hC, Option.bind_some, needType_t hC hj, tb_l, e_rc c3.1, Option.bind_some, placeOf_r c3 c4.1, hp, Option.bind_some]
          show (if nI (0 + pl) = -1 then _ else Option.bind (crc (K, I, P, N) (some c) 2) _) = _
          rw [Nat.zero_add, if_neg (nI_nm1 (by omega)), e_rc c3.1, Option.bind_some]
          show Option.bind (fX2_get c (nI (0 + pl)) 2 (K, I, P, N)) _ = _
          rw [Nat.zero_add, get_r2 c3 c4.1 he, Option.bind_some, g62 hC]
          simp only [plI, Nat.zero_add]
        have r2 : fX7_with (nI i) p1 (nI j) p3 (f, M) = if e.2.2.1 = -100 then fX7_with_b52 (nI i) p1 (nI j) p3 (nI (60 * i + pl)) 1 (f, M) else fX7_with_b51 (nI i) p1 (nI j) p3 (nI (60 * i + pl)) (f, M) := by
          rw [rst, hp]
          unfold fX7_with_b27
          show (if nI (60 * i + pl) = -1 then _ else Option.bind (rd (f, M) 15 (nI (60 * i + pl))) _) = _
          rw [if_neg (nI_nm1 (by omega)), r_rd 1260 rfl (by omega) (by omega), hv]
          rfl
        by_cases hab : e.2.2.1 = -100
        · by_cases hg : g < 20
          · have hwE : ∀ (r : Nat) (e : En), X[r]? = some e → gE T.length i X (0 + r) e := fun r e he => by rw [Nat.zero_add]; exact hX.2 r e he
            have hsum := wL_sum (R := R) (tk := p3) (nm := p1) (ty := nI j) (pl := pl) X 0 (fun x _ hx => by rw [Nat.sub_zero, he] at hx; cases hx; exact ek)
            have hY : ∃ Y, wL p3 p1 (nI j) pl 0 X = Y ∧ WfG T.length i Y := by
              by_cases h3 : p3 = 0
              · subst h3
                exact ⟨_, wL_set0 (fun r e he => hX.2 r e he) he, hX.set he ek ⟨j, hj, rfl⟩⟩
              · refine ⟨_, wL_erase h3 hnm (by omega) X X 0 hwE (Nat.zero_le _), ?_⟩
                rw [← en]
                exact hX.tell (by omega) he ek ⟨j, hj, rfl⟩
            obtain ⟨Y, hYe, hYw⟩ := hY
            rw [hYe] at hsum
            have hYsum : sumW R Y ≤ 60 := by have := hsum.1; omega
            obtain ⟨D, hrD, hwD, hD⟩ := hW.dG
            have hW2 := hW.newG hg (hYw.mono (Nat.le_refl _) (Nat.le_of_lt hi)) hYsum hD hwD
            have hR2 : ∀ d, aup (aup R (200 + g) d) 220 (some (D, sumW R D, sumP R D)) = aup R (200 + g) d := fun d => aup_id (by rw [aup_n (by omega)]; exact hrD)
            rw [hR2] at hW2
            refine sim_do (nI g) hW2.step (fun N hC => ?_) ?_
            · obtain ⟨c, c2, c3, c4, c5⟩ := cst N hC
              have hs := hC.shG
              obtain ⟨a, K2, I2, P2, N2, ka, kb, e1, e2, e3, e4, e5, e6⟩ := blank_ok hC hs (by omega) (Nat.le_refl g) hg
              obtain ⟨c6, -, c7, c8, c9⟩ := e5.row (k := 200 + i) (d := (X, sumW R X, sumP R X)) (by rw [aup_n (by omega)]; exact hri)
              have hcc : c6 = c := by rw [e6 _ _ c2] at c7; cases c7; rfl
              subst hcc
              have hok := e5.rowOK (by omega) e4
              have hac : a ≠ c6 := fun e => by
                have := e5.sd.2.1 _ _ _ c7 (by rw [← e]; exact e4)
                omega
              obtain ⟨a2, -, q1, -, q2⟩ := e5.row (k := 200 + g) (d := ([], 0, 0)) aup_s
              have haa : a2 = a := by rw [e4] at q1; cases q1; rfl
              subst haa
              obtain ⟨J, j1, j2, j3, j4, j5⟩ := addAll_r (N := N2) hok c8 hac c9.1 q2.1 (show 0 + X.length ≤ 30 by omega)
              rw [List.nil_append] at j2
              have jw : J a2 2 = nI (sumW R X) := by rw [j4, q2.2.1, c9.2.1, nI_add, Nat.zero_add]
              have jp : J a2 3 = nI (sumP R X) := by rw [j5, q2.2.2, c9.2.2, nI_add, Nat.zero_add]
              have fin : ∀ J2, RowO J J2 a2 → RowIs J2 a2 (Y, sumW R Y, sumP R Y) → fX6_with_b154 o (nI g) (K2, J2, P2, N2) = some (.inl (nI g), (K2, cup J2 (b + 5) 1 (nI (g + 1)), P2, N2), 0, 0) ∧ CR o b K2 (cup J2 (b + 5) 1 (nI (g + 1))) P2 N2 T n (g + 1) (aup R (200 + g) (some (Y, sumW R Y, sumP R Y))) F Q U := by
                intro J2 h1 h2
                have hC2 := e5.upRow (by omega) e4 (j3.tr h1) h2
                rw [aup_aup] at hC2
                have hcn := hC2.shG
                refine ⟨?_, hC2.upG (by omega)⟩
                unfold fX6_with_b154
                rw [g62 hC2, Option.bind_some, Option.bind_some, e_gI hcn.1, Option.bind_some, hcn.2.2.2.1, Option.bind_some, nI_1, e_pI hcn.1]
                rfl
              have body : ∃ J2, RowO J J2 a2 ∧ RowIs J2 a2 (Y, sumW R Y, sumP R Y) ∧ (if (p3) = 0 then
              Option.bind (crc (K2, J, P2, N2) (some a2) 2) fun c151 =>
              Option.bind (fX2_set c151 (nI pl) 2 (nI j) (K2, J, P2, N2)) fun q151 =>
              fX6_with_b154 o (nI g) (q151.2)
            else
              Option.bind (crc (K2, J, P2, N2) (some a2) 2) fun c121 =>
              Option.bind (fX2_tellEverywhere c121 (((-1)) - p1) (nI j) (K2, J, P2, N2)) fun q121 =>
              Option.bind (crc (q121.2) (some a2) 2) fun c128 =>
              Option.bind (fX2_takeOut c128 (nI pl) (q121.2)) fun q128 =>
              Option.bind (some a2) fun q134 =>
              Option.bind (cgI (q128.2) q134 2 2) fun x134 =>
              Option.bind (some a2) fun q139 =>
              Option.bind (cpI (q128.2) q139 2 2 (x134 - 1)) fun z139 =>
              fX6_with_b154 o (nI g) z139) = fX6_with_b154 o (nI g) (K2, J2, P2, N2) := by
                by_cases h3 : p3 = 0
                · have hYset : Y = X.set pl (e.1, e.2.1, nI j, e.2.2.2) := by rw [← hYe, h3]; exact wL_set0 (fun r e he => hX.2 r e he) he
                  obtain ⟨J2, s1, s2, s3, s4, s5⟩ := set_r2 (N := N2) hok j2 he (nI j)
                  rw [if_neg (fun hh => hh.1 h3)] at hsum
                  refine ⟨J2, s3, ⟨by rw [hYset]; exact s2, by rw [s4, jw]; show nI _ = nI _; rw [← hsum.1]; rfl, by rw [s5, jp]; show nI _ = nI _; rw [hsum.2]⟩, ?_⟩
                  rw [if_pos h3, e_rc hok.1, Option.bind_some, s1, Option.bind_some]
                · have hYer : Y = (X.map (tl (-1 - p1) (nI j))).eraseIdx pl := by rw [← hYe]; exact wL_erase h3 hnm (by omega) X X 0 hwE (Nat.zero_le _)
                  obtain ⟨J2, s1, s2, s3, s4, s5⟩ := tell_r (N := N2) hok j2 (-1 - p1) (nI j)
                  obtain ⟨J3, t1, t2, t3, t4, t5⟩ := takeOut_r (N := N2) hok s2 (i := pl) (by rw [List.length_map]; exact hpl)
                  rw [if_pos ⟨h3, Nat.zero_le _, by omega⟩] at hsum
                  have hjw : J3 a2 2 = nI (sumW R Y + 1) := by rw [t4, s4, jw, ← hsum.1]
                  refine ⟨cup J3 a2 2 (nI (sumW R Y)), (s3.tr t3).tr (fun q h1 h2 => cup_q h1), ⟨(by rw [hYer]; exact t2.congr (cup_j (by omega)) (cup_q (by omega))), cup_s, by rw [cup_j (by omega), t5, s5, jp]; show nI _ = nI _; rw [hsum.2]⟩, ?_⟩
                  rw [if_neg h3, e_rc hok.1, Option.bind_some, s1, Option.bind_some, e_rc hok.1, Option.bind_some, t1, Option.bind_some, Option.bind_some, e_gI hok.1, Option.bind_some, hjw, nI_pred]
                  show Option.bind (cpI (K2, J3, P2, N2) a2 2 2 (nI (sumW R Y))) _ = _
                  rw [e_pI hok.1, Option.bind_some]
              obtain ⟨J2, b1, b2, b3⟩ := body
              obtain ⟨f1, f2⟩ := fin J2 b1 b2
              refine ⟨K2, _, P2, N2, ka, kb, ?_, by omega, by omega, f2⟩
              rw [c5, if_pos hab, g62 hC, Option.bind_some, Option.bind_some, e_gI hs.1, Option.bind_some, hs.2.2.2.1, Option.bind_some, r5 hC, Option.bind_some, e1]
              show ause ka kb (if some a2 = none then _ else Option.bind (crc (K2, I2, P2, N2) (some a2) 2) _) = _
              rw [if_neg (fun e => by cases e), e_rc hok.1, Option.bind_some, j1, Option.bind_some]
              rw [b3, f1]
              rfl
            · obtain ⟨z1, z2⟩ := hR.cn.2.2.2.2 g (Nat.le_refl _) hg
              obtain ⟨W, d1, d2, d3, d4⟩ := with_loop (f := upd f 54 0) (R := R) (nm := p1) (ty := nI j) (tk := p3) (pl := pl) hg hi hX hpl hnm (fun x hx => by rw [he] at hx; cases hx; exact ek) X.length rFuel 0 M [] 0 (by omega) (by show X.length < 100000; omega) ((upd_n (by omega)).trans hR.cn.2.2.1) (hR.wts hW) hspi (sp_nil z1) z2 (by simp; exact hX30)
              rw [List.drop_zero, List.nil_append, hYe] at d2
              rw [List.drop_zero, Nat.zero_add, hYe] at d3
              refine ⟨_, W, ?_, ((hR.thr 0).upG (g2 := g + 1) (by omega) (by omega)).upSp (k := g) (d := (Y, sumW R Y, sumP R Y)) (by omega) (fun h => by omega) d4 d2 d3, by rw [upd_n (by omega), upd_s]⟩
              rw [r2, if_pos hab]
              unfold fX7_with_b52
              rw [if_neg i10]
              show (if f 10 = 20 then _ else _) = _
              rw [hR.cn.2.2.1, show (20 : Int32) = nI 20 from rfl, if_neg (nI_ne (by omega) (by omega) (by omega))]
              unfold fX7_with_b78
              rw [fails_0, Option.bind_some]
              show fX7_with_b92 rFuel (nI i) p1 (nI j) p3 (nI (60 * i + pl)) (60 * nI i) (upd f 54 0, M) = _
              rw [show (60 : Int32) = nI 60 from rfl, pk_mul]
              exact d1
          · have hg20 : g = 20 := by omega
            refine sim_thr 2 0 hR hW (Or.inr rfl) (fun N hC => ?_) ?_
            · obtain ⟨c, c2, c3, c4, c5⟩ := cst N hC
              have hs := hC.shG
              rw [c5, if_pos hab, g62 hC, Option.bind_some, Option.bind_some, e_gI hs.1, Option.bind_some, hs.2.2.2.1, Option.bind_some, r5 hC, Option.bind_some, blank_no hs (Or.inr (Or.inr (by rw [hg20]; exact nI_nlt (Nat.le_refl _) (by omega))))]
              rfl
            · rw [r2, if_pos hab]
              unfold fX7_with_b52
              rw [if_neg i10]
              show (if f 10 = 20 then _ else _) = _
              rw [hR.cn.2.2.1, hg20, if_pos rfl]
              exact thr 2 (by decide) _ _ _ _ _
        · refine sim_thr 0 0 hR hW (Or.inl rfl) (fun N hC => ?_) ?_
          · obtain ⟨c, c2, c3, c4, c5⟩ := cst N hC
            rw [c5, if_neg hab]
            rfl
          · rw [r2, if_neg hab]
            exact thr0 _
    · refine sim_thr 0 0 hR hW (Or.inl rfl) (fun N hC => ?_) ?_
      · obtain ⟨c, c2, c3, c4, c5⟩ := c1 N hC
        unfold fX6_with
        rw [g62 hC, Option.bind_some, r5 hC, Option.bind_some, c5, Option.bind_some]
        show (if some c = none then _ else Option.bind (crc (K, I, P, N) (some o) 6) _) = _
        rw [if_neg (fun e => by cases e), ro hC, Option.bind_some, needType_f hC h2]
        rfl
      · unfold fX7_with
        rw [isSig_t hR hi, Option.bind_some, if_neg i10, isType_f hR h2, Option.bind_some, if_pos rfl]
        unfold fX7_with_b26 fX7_with_b27
        rw [if_pos rfl]
        exact thr0 _
  · refine sim_thr 0 0 hR hW (Or.inl rfl) (fun N hC => ?_) ?_
    · unfold fX6_with
      rw [g62 hC, Option.bind_some, r5 hC, Option.bind_some, at_no hC.shG h1, Option.bind_some]
      rfl
    · unfold fX7_with
      rw [isSig_f hR h1, Option.bind_some, if_pos rfl]
      unfold fX7_with_b26 fX7_with_b27
      rw [if_pos rfl]
      exact thr0 _
end With2
