/-! MAKING A STRUCT BY A SIGNATURE: the reference, all frames -/
def mkRes (how : Int32) (n0 g : Nat) (F : List FuD) (Q : List (Int32 × Int32)) (U : List UnD) (f : Nat → Int32) (M : Nat → Nat → Int32) (R1 : Nat → Option RowD) (D : Nat) (pa : Option (Nat × Option Nat × Nat × List En × En)) (st st' : MkS) (c0 : Nat) : Prop :=
  ∃ c f2 W R2, c ≤ 1 + 2 * c0 ∧ (∀ fu l4, fX7_makes_b9 (fu + c) how l4 (f, M) = fX7_makes_b9 fu how (nI (n0 + st'.2.length - 1)) (f2, W)) ∧ RQ (nI D) f2 W st'.1 (n0 + st'.2.length) g R2 F Q U ∧ (∀ (j : Nat) (L : List En), st.2.length ≤ j → st'.2[j]? = some L → R2 (n0 + j) = some (L, 0, 0)) ∧ (∀ j, (j < n0 + st.2.length ∨ n0 + st'.2.length ≤ j) → R2 j = R1 j) ∧ lowF M W (D - 1) ∧ PaO W D (n0 + st'.2.length - 1) pa ∧ f2 54 = f 54
section MakesR2
variable {D : Nat} {D9 : Int32} {f f1 h : Nat → Int32} {M W W1 V : Nat → Nat → Int32} {T : List TyD} {n g u q n0 m : Nat} {s : Option Nat} {R R1 R2 : Nat → Option RowD} {F : List FuD} {Q : List (Int32 × Int32)} {U : List UnD} {k : Nat} {L : List En} {vw : Bool} {how : Int32} {pa : Option (Nat × Option Nat × Nat × List En × En)}
theorem PaI.low (h : PaI R g M D pa) (hw : lowF M W D) : PaI R g W D pa := by
  cases pa with
  | none => exact h
  | some x =>
    obtain ⟨D', hD, h1, h2, h3, h4, h5⟩ := h
    exact ⟨D', hD, h1, h2.low (by omega) (by omega) h4 hw, h3, h4, h5⟩
theorem mkRes.after {st st1 st' : MkS} {c1 w1 c2 : Nat} {E : List (List En)} (hstep : ∀ fu l4, ∃ l5, fX7_makes_b9 (fu + c1) how l4 (f, M) = fX7_makes_b9 fu how l5 (f1, W1)) (hc : c1 ≤ 2 * w1) (h54 : f1 54 = f 54) (hlow : lowF M W1 D) (hE : st1.2 = st.2 ++ E) (hE2p : st1.2 <+: st'.2) (hrows : ∀ (j : Nat) (L : List En), st.2.length ≤ j → st1.2[j]? = some L → R2 (n0 + j) = some (L, 0, 0)) (hoth : ∀ j, (j < n0 + st.2.length ∨ n0 + st1.2.length ≤ j) → R2 j = R1 j) (h : mkRes how n0 g F Q U f1 W1 R2 D pa st1 st' c2) : mkRes how n0 g F Q U f M R1 D pa st st' (w1 + c2) := by
  obtain ⟨E2, hE2⟩ := hE2p
  replace hE2 := hE2.symm
  have hl1 : st.2.length ≤ st1.2.length := by rw [hE, List.length_append]; omega
  have hl2 : st1.2.length ≤ st'.2.length := by rw [hE2, List.length_append]; omega
  obtain ⟨c, f2, W, R3, h1, h2, h3, h4, h5, h6, h7, h8⟩ := h
  refine ⟨c + c1, f2, W, R3, by omega, fun fu l4 => ?_, h3, fun j L hj hL => ?_, fun j hj => ?_, lowF.tr (hlow.dn (by omega)) h6, h7, h8.trans h54⟩
  · obtain ⟨l5, h9⟩ := hstep (fu + c) l4
    rw [← Nat.add_assoc, h9, h2]
  · by_cases hj1 : st1.2.length ≤ j
    · exact h4 j L hj1 hL
    · rw [h5 _ (by omega)]
      exact hrows j L hj (by rw [hE2, List.getElem?_append_left (by omega)] at hL; exact hL)
  · rw [h5 j (by omega), hoth j (by omega)]
theorem mkR_loop (hR0 : gdR R n0 g m) (hX : gdX R n0 g) (hh : how = 1 ↔ vw = true) {s : Option Nat} {u D k : Nat} (huk : u ≤ k) (hD : D + u ≤ 20) (hu : gdU vw R n0 g s u) (hrecR : ∀ s' j st f M R1 pa, j < u → gdU vw R n0 g s' j → gdS n0 m st → st.1.length + wOf R j ≤ 390 → n0 + st.2.length + pOf R j + 1 ≤ 95 → RQ (nI (D + 1 + 1)) f M st.1 (n0 + st.2.length) g R1 F Q U → agr R R1 n0 → FrM M (D + 1) j s' 0 [] → PaI R g M (D + 1) pa → mkRes how n0 g F Q U f M R1 (D + 1) pa st (mk vw n0 R k s' j st) (wOf R j)) : ∀ cnt q L st f M R1, q + cnt = (sgL R u).length → gdS n0 m st → gdL (sgL R u) L n0 q st → st.1.length + sumW R ((sgL R u).drop q) ≤ 390 → n0 + st.2.length + sumP R ((sgL R u).drop q) + 1 ≤ 95 → RQ (nI (D + 1)) f M st.1 (n0 + st.2.length) g R1 F Q U → agr R R1 n0 → FrM M D u s q L → PaI R g M D pa → mkRes how n0 g F Q U f M R1 D pa st ((mkL (mk vw n0 R k) vw n0 (s.map (stR R)) ((sgL R u).drop q) L st).2.1, (mkL (mk vw n0 R k) vw n0 (s.map (stR R)) ((sgL R u).drop q) L st).2.2 ++ [(mkL (mk vw n0 R k) vw n0 (s.map (stR R)) ((sgL R u).drop q) L st).1]) (sumW R ((sgL R u).drop q)) := by
  have h20 := hR0.1
  have h95 := hR0.2.1
  have hug := hu.1
  have hY30 := (hR0.2.2.2 u hu.1).1.len
  intro cnt
  induction cnt with
  | zero =>
    intro q L st f M R1 hq hst hL h1 h2 hR hag hF hpa
    have hqe : q = (sgL R u).length := by omega
    subst hqe
    rw [List.drop_eq_nil_of_le (Nat.le_refl _)]
    have hsp := hR.spAt hX hag hug
    have hlL := hL.1
    obtain ⟨f2, W, d1, d2, d3, d4, d54⟩ := leaves_r hX hag hR (show n0 + st.2.length < 95 by omega) (show D ≤ 20 by omega) hF (by omega) hpa
    have hlen : (st.2 ++ [L]).length = st.2.length + 1 := by simp
    refine ⟨1, f2, W, aup R1 (n0 + st.2.length) (some (L, 0, 0)), by omega, fun fu l4 => ?_, ?_, fun j L' hj hj2 => ?_, fun j hj => ?_, d3, ?_, d54⟩
    · rw [mk_done hR hsp (by omega) (by omega) hF, d1]
      show fX7_makes_b9 fu how (nI (n0 + st.2.length)) (f2, W) = fX7_makes_b9 fu how (nI (n0 + (st.2 ++ [L]).length - 1)) (f2, W)
      rw [hlen]
      rfl
    · show RQ (nI D) f2 W st.1 (n0 + (st.2 ++ [L]).length) g _ F Q U
      rw [hlen]
      exact d2
    · have hj3 : (st.2 ++ [L])[j]? = some L' := hj2
      have hj4 := (List.getElem?_eq_some_iff.mp hj3).1
      have hj5 : j = st.2.length := by simp at hj4; omega
      subst hj5
      rw [List.getElem?_append_right (Nat.le_refl _), Nat.sub_self] at hj3
      cases hj3
      exact aup_s
    · have hj2 : j < n0 + st.2.length ∨ n0 + (st.2 ++ [L]).length ≤ j := hj
      rw [hlen] at hj2
      exact aup_n (by omega)
    · show PaO W D (n0 + (st.2 ++ [L]).length - 1) pa
      rw [hlen]
      exact d4
  | succ cnt ih =>
    intro q L st f M R1 hq hst hL h1 h2 hR hag hF hpa
    have hql : q < (sgL R u).length := by omega
    have hg := List.getElem?_eq_getElem hql
    obtain ⟨x, hE⟩ := mk_E hR0 hu hst hL hql
    obtain ⟨d1, d2⟩ := sumW_drop (R := R) hql
    rw [d1] at h1
    rw [d2] at h2
    have hrec : ∀ s' j st, j < u → gdU vw R n0 g s' j → gdS n0 m st → st.1.length + wOf R j ≤ 390 → n0 + st.2.length + pOf R j + 1 < 2 ^ 30 → gdS n0 m (mk vw n0 R k s' j st) ∧ gdW st (mk vw n0 R k s' j st) (wOf R j) (pOf R j + 1) := fun s' j st hj => mk_ok hR0 k s' j st (by omega)
    obtain ⟨g1, g2, g3, g4⟩ := mk_step hR0 hu.1 hrec hst hL hg hE (by omega) (by omega)
    have em : mkL (mk vw n0 R k) vw n0 (s.map (stR R)) ((sgL R u).drop q) L st = mkL (mk vw n0 R k) vw n0 (s.map (stR R)) ((sgL R u).drop (q + 1)) (L ++ [((sgL R u)[q].1, (sgL R u)[q].2.1, nI (mkN (mk vw n0 R k) vw n0 (s.map (stR R)) x (sgL R u)[q] L st).1, -100, x.2.2.2.2.1, -1)]) (mkN (mk vw n0 R k) vw n0 (s.map (stR R)) x (sgL R u)[q] L st).2 := by
      rw [List.drop_eq_getElem_cons hql]
      show (match mkX (s.map (stR R)) (sgL R u)[q] with
        | none => (L, st)
        | some x => mkL (mk vw n0 R k) vw n0 (s.map (stR R)) ((sgL R u).drop (q + 1)) (L ++ [((sgL R u)[q].1, (sgL R u)[q].2.1, nI (mkN (mk vw n0 R k) vw n0 (s.map (stR R)) x (sgL R u)[q] L st).1, -100, x.2.2.2.2.1, -1)]) (mkN (mk vw n0 R k) vw n0 (s.map (stR R)) x (sgL R u)[q] L st).2) = _
      rw [hE.1]
    have hE9 := hE
    have wt1 := g2.2.1
    have wt0 : 1 ≤ wt R (sgL R u)[q] := by unfold wt; split <;> omega
    have s5 : (mkN (mk vw n0 R k) vw n0 (s.map (stR R)) x (sgL R u)[q] L st).2.2.length = st.2.length + pt R (sgL R u)[q] := by
      obtain ⟨-, -, E, a3, a4⟩ := g2
      rw [a3, List.length_append, a4]
    obtain ⟨z1, ⟨-, -, E2, z3, z4⟩, -⟩ := mkL_ok hR0 hu hrec cnt (q + 1) _ _ (by omega) g1 g3 (by omega) (by omega)
    have hsp := hR.spAt hX hag hug
    have hlL := hL.1
    have hit : ∀ s', s = some s' → s' ≤ 100 ∧ Uq (stR R s') ∧ rIt M s' (stR R s') := fun s' h => by
      have h9 := (hu.2.2 s' h).1
      exact ⟨by omega, (hR0.2.2.1 s' h9).1, hR.itAt hX hag h9 (by omega)⟩
    have ihx := ih (q + 1) (L ++ [((sgL R u)[q].1, (sgL R u)[q].2.1, nI (mkN (mk vw n0 R k) vw n0 (s.map (stR R)) x (sgL R u)[q] L st).1, -100, x.2.2.2.2.1, -1)]) (mkN (mk vw n0 R k) vw n0 (s.map (stR R)) x (sgL R u)[q] L st).2
    rw [em, d1]
    generalize hL9 : (L ++ [((sgL R u)[q].1, (sgL R u)[q].2.1, nI (mkN (mk vw n0 R k) vw n0 (s.map (stR R)) x (sgL R u)[q] L st).1, -100, x.2.2.2.2.1, -1)]) = L9 at *
    by_cases k2 : (sgL R u)[q].1 = 2
    · rcases hE9.2.2.2.2 with ⟨-, j, j1, j2, j3, -⟩ | ⟨k0, -⟩ | ⟨k0, -⟩
      · have hj31 : j < 2 ^ 31 := by omega
        have ew : wt R (sgL R u)[q] = 1 + wOf R j := by unfold wt; rw [if_pos k2, j2, iN_nI hj31]
        have ep : pt R (sgL R u)[q] = 1 + pOf R j := by unfold pt; rw [if_pos k2, j2, iN_nI hj31]
        have emk : mkN (mk vw n0 R k) vw n0 (s.map (stR R)) x (sgL R u)[q] L st = (n0 + (mk vw n0 R k (mkU (s.map (stR R)) x) j st).2.length - 1, mk vw n0 R k (mkU (s.map (stR R)) x) j st) := by unfold mkN; rw [if_pos k2, j2, iN_nI hj31]
        obtain ⟨W1, c1, c2, c3, c4⟩ := enters_r (f := f) (M := M) (D := D + 1) (u := j) (s := mkU (s.map (stR R)) x) hR.dp (by omega)
        have hF1 : FrM W1 D u s q L := hF.low (by omega) (by omega) (fun p e he => by obtain ⟨i, i1, i2⟩ := (hL.2.2.2 p e he).2.1; rw [i2, iN_nI (by omega)]; exact i1) c3
        have hq2 := hrecR (mkU (s.map (stR R)) x) j st (upd f 41 (nI (D + 1 + 1))) W1 R1 (some (u, s, q, L, (sgL R u)[q])) j1 j3 hst (by omega) (by omega) ((hR.tmp (fun j hj => c4 j (by omega))).deep (fun j hj => upd_n hj) upd_s) hag c2 ⟨D, rfl, hug, hF1, by show L.length < 60; omega, fun p e he => by obtain ⟨i, i1, i2⟩ := (hL.2.2.2 p e he).2.1; rw [i2, iN_nI (by omega)]; exact i1, hg⟩
        obtain ⟨cc, f2, W2, R2, r1, r2, r3, r4, r5, r6, r7, r54⟩ := hq2
        rw [emk] at ihx z3 s5 hL9 g1 g3 g2 wt1 ⊢
        have hlow : lowF M W2 D := lowF.tr (c3.dn (by omega)) r6
        have hx0 : x.2.2.2.2.1 = 0 := hE.2.2.2.1 (by rw [k2]; decide)
        have hFn := r7 D rfl
        have hFn2 : FrM W2 D u s (q + 1) L9 := by
          rw [← hL9, k2, hx0]
          exact hFn
        obtain ⟨-, -, E, w3, w4⟩ := g2
        have hn1 : n0 + (mk vw n0 R k (mkU (s.map (stR R)) x) j st).2.length ≤ 95 := by
          have h9 : (mk vw n0 R k (mkU (s.map (stR R)) x) j st).2.length = st.2.length + pt R (sgL R u)[q] := s5
          omega
        have fin := ihx f2 W2 R2 (by omega) g1 g3 (by omega) (by omega) r3 (fun j hj => by rw [r5 j (by omega)]; exact hag j hj) hFn2 (hpa.low hlow)
        refine mkRes.after (c1 := cc + 1) (E := E) (fun fu l4 => ⟨nI (n0 + (mk vw n0 R k (mkU (s.map (stR R)) x) j st).2.length - 1), ?_⟩) (by omega) (r54.trans (upd_n (by omega))) hlow w3 (List.IsPrefix.trans ⟨E2, z3.symm⟩ (List.prefix_append _ _)) r4 r5 fin
        rw [← Nat.add_assoc, mk_head hR hsp (by omega) (by omega) hF hg, if_pos k2, ← r2 fu l4]
        have hen : ∀ v : Int32, v = sI (mkU (s.map (stR R)) x) → fX7_makes_b130 (fX7_makes_b9 (fu + cc)) how l4 v (sgL R u)[q].2.2.1 (f, M) = fX7_makes_b9 (fu + cc) how l4 (upd f 41 (nI (D + 1 + 1)), W1) := fun v hv => by
          unfold fX7_makes_b130
          rw [hv, j2, c1, Option.bind_some]
          rfl
        cases hs : s with
        | none =>
          rw [if_pos (show sI (none : Option Nat) = -1 from rfl)]
          subst hs
          exact hen _ rfl
        | some s' =>
          have hne : s ≠ none := by rw [hs]; exact fun h => by cases h
          obtain ⟨s2, p, hs2, e1, e2, -⟩ := findX (f := f) hit hE.1 hne
          rw [k2] at e1
          rw [← hs, if_neg (sI_ne hne (fun s' h => (hit s' h).1)), e1, Option.bind_some]
          show Option.bind (rd (f, M) 8 (nI (60 * s2 + p))) _ = _
          rw [e2, Option.bind_some]
          refine hen _ ?_
          rw [hs]
          rw [hs] at hE
          obtain ⟨pp, hp1, hp2⟩ := mkX_some hE.1
          obtain ⟨y, y1, y2, -⟩ := plc_some hp1
          rw [hp2] at y1
          cases y1
          obtain ⟨i, i1, i2⟩ := ((hR0.2.2.1 s' (hu.2.2 s' hs).1).2 pp x hp2).2.2.1 (y2.trans k2)
          show x.2.2.1 = nI (iN x.2.2.1)
          rw [i2, iN_nI (by omega)]
      · rw [k2] at k0; exact absurd k0 (by decide)
      · rw [k2] at k0; exact absurd k0 (by decide)
    · have emk : mkN (mk vw n0 R k) vw n0 (s.map (stR R)) x (sgL R u)[q] L st = ((mkT vw L x (sgL R u)[q] st.1).1, (mkT vw L x (sgL R u)[q] st.1).2, st.2) := if_neg k2
      obtain ⟨f2, W1, c1, c2, c3, c4, c54⟩ := mk_tv hR hst.1 (by omega) hsp (by omega) (by omega) hF hL.2.2 hit hg hst.2.1 hE k2 hu.2.1 hh
      rw [emk] at ihx z3 s5 hL9 g1 g3 g2 wt1 ⊢
      have fin := ihx f2 W1 R1 (by omega) g1 g3 (by omega) (by omega) c2 hag (by rw [← hL9]; exact c3) (hpa.low c4)
      refine mkRes.after (c1 := 1) (E := []) (fun fu l4 => ⟨l4, c1 fu l4⟩) (by omega) c54 c4 (List.append_nil _).symm (List.IsPrefix.trans ⟨E2, z3.symm⟩ (List.prefix_append _ _)) (fun j L' hj hj2 => ?_) (fun j _ => rfl) fin
      · have := (List.getElem?_eq_some_iff.mp hj2).1
        have h9 : j < st.2.length := this
        omega
theorem mkR_run (hR0 : gdR R n0 g m) (hX : gdX R n0 g) (hh : how = 1 ↔ vw = true) : ∀ k s u D st f M R1 pa, u < k → D + u ≤ 20 → gdU vw R n0 g s u → gdS n0 m st → st.1.length + wOf R u ≤ 390 → n0 + st.2.length + pOf R u + 1 ≤ 95 → RQ (nI (D + 1)) f M st.1 (n0 + st.2.length) g R1 F Q U → agr R R1 n0 → FrM M D u s 0 [] → PaI R g M D pa → mkRes how n0 g F Q U f M R1 D pa st (mk vw n0 R k s u st) (wOf R u) := by
  intro k
  induction k with
  | zero => intro s u D st f M R1 pa h; omega
  | succ k ih =>
    intro s u D st f M R1 pa hk hD hu hst h1 h2 hR hag hF hpa
    obtain ⟨-, ew, ep, -⟩ := hR0.2.2.2 u hu.1
    have hl := mkR_loop (pa := pa) hR0 hX hh (show u ≤ k by omega) hD hu (fun s' j st f M R1 pa hj => ih s' j (D + 1) st f M R1 pa (by omega) (by omega)) (sgL R u).length 0 [] st f M R1 (by omega) hst ⟨rfl, fun r e y h => by simp at h, WfS.nil⟩ (by rw [List.drop_zero]; omega) (by rw [List.drop_zero]; omega) hR hag hF hpa
    rw [List.drop_zero, ← ew] at hl
    exact hl
/-- a struct is made -/
theorem makes_r54 (hR0 : gdR R n0 g m) (hX : gdX R n0 g) (hh : how = 1 ↔ vw = true) {s : Option Nat} {u : Nat} {st : MkS} (hst0 : st.2 = []) (hu : gdU vw R n0 g s u) (hst : gdS n0 m st) (h1 : st.1.length + wOf R u ≤ 390) (h2 : n0 + pOf R u + 1 ≤ 95) (hR : RR f M st.1 n0 g R1 F Q U) (hag : agr R R1 n0) : ∃ f2 W R2, fX7_makes how (sI s) (nI u) (f, M) = some (nI (n0 + (mk vw n0 R 20 s u st).2.length - 1), f2, W) ∧ RR f2 W (mk vw n0 R 20 s u st).1 (n0 + (mk vw n0 R 20 s u st).2.length) g R2 F Q U ∧ (∀ (j : Nat) (L : List En), (mk vw n0 R 20 s u st).2[j]? = some L → R2 (n0 + j) = some (L, 0, 0)) ∧ (∀ j, (j < n0 ∨ n0 + (mk vw n0 R 20 s u st).2.length ≤ j) → R2 j = R1 j) ∧ f2 54 = f 54 := by
  have h20 := hR0.1
  have hug := hu.1
  have hl0 : st.2.length = 0 := by rw [hst0]; rfl
  have hw60 := (hR0.2.2.2 u hu.1).2.2.2
  have ew := (hR0.2.2.2 u hu.1).2.1
  obtain ⟨W1, c1, c2, c3, c4⟩ := enters_r (f := f) (M := M) (D := 0) (u := u) (s := s) hR.dp (by omega)
  have hR1 : RQ (nI (0 + 1)) (upd f 41 (nI (0 + 1))) W1 st.1 (n0 + st.2.length) g R1 F Q U := by
    rw [hl0]
    exact ((RQ.of hR).tmp (fun j hj => c4 j (by omega))).deep (fun j hj => upd_n hj) upd_s
  obtain ⟨c, f2, W, R2, r1, r2, r3, r4, r5, r6, r7, r54⟩ := mkR_run (pa := none) hR0 hX hh 20 s u 0 st _ W1 R1 (by omega) (by omega) hu hst h1 (by omega) hR1 hag c2 rfl
  obtain ⟨fu, hfu⟩ : ∃ fu, rFuel = (fu + 1) + c := ⟨rFuel - 1 - c, by show (100000 : Nat) = 100000 - 1 - c + 1 + c; omega⟩
  refine ⟨f2, W, R2, ?_, r3, fun j L hj => r4 j L (by omega) hj, fun j hj => r5 j (by omega), r54.trans (upd_n (by omega))⟩
  unfold fX7_makes
  rw [c1, Option.bind_some, hfu, r2]
  show fX7_makes_b9_body (fX7_makes_b9 fu) how _ (f2, W) = _
  unfold fX7_makes_b9_body
  have e0 : f2 41 ≤ 0 := by rw [r3.dp]; decide
  rw [if_pos e0]
theorem makes_r (hR0 : gdR R n0 g m) (hX : gdX R n0 g) (hh : how = 1 ↔ vw = true) {s : Option Nat} {u : Nat} {st : MkS} (hst0 : st.2 = []) (hu : gdU vw R n0 g s u) (hst : gdS n0 m st) (h1 : st.1.length + wOf R u ≤ 390) (h2 : n0 + pOf R u + 1 ≤ 95) (hR : RR f M st.1 n0 g R1 F Q U) (hag : agr R R1 n0) : ∃ f2 W R2, fX7_makes how (sI s) (nI u) (f, M) = some (nI (n0 + (mk vw n0 R 20 s u st).2.length - 1), f2, W) ∧ RR f2 W (mk vw n0 R 20 s u st).1 (n0 + (mk vw n0 R 20 s u st).2.length) g R2 F Q U ∧ (∀ (j : Nat) (L : List En), (mk vw n0 R 20 s u st).2[j]? = some L → R2 (n0 + j) = some (L, 0, 0)) ∧ ∀ j, (j < n0 ∨ n0 + (mk vw n0 R 20 s u st).2.length ≤ j) → R2 j = R1 j :=
  let ⟨f2, W, R2, h1, h2, h3, h4, _⟩ := makes_r54 hR0 hX hh hst0 hu hst h1 h2 hR hag
  ⟨f2, W, R2, h1, h2, h3, h4⟩
end MakesR2
