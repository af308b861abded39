/-! MATCHING: the reference's table; match -/
def ms (T : List TyD) (R : Nat → Option RowD) (s u : Nat) : Int32 := mf (fitS T) (stR R) R 30 s u
def on52 (M W : Nat → Nat → Int32) : Prop := ∀ j, j ≠ 52 → W j = M j
section Match2
variable {o b t : Nat} {K : Nat → Option (Nat × Nat)} {I : Nat → Nat → Int32} {P : Nat → Nat → Option Nat} {N0 N a : Nat} {f : Nat → Int32} {M : Nat → Nat → Int32} {T : List TyD} {n g : Nat} {R : Nat → Option RowD} {F : List FuD} {Q : List (Int32 × Int32)} {U : List UnD} {X Y : List En}
theorem mis_pos {e : En} (hk : e.1 = 0 ∨ e.1 = 1 ∨ e.1 = 2) (hn : isNm e.2.1) {v : Int32} (hv : v = 2 * e.1 + 1 ∨ v = 2 * e.1 + 2) : ¬ v ≤ 0 ∧ 10 * v + e.2.1 ≠ 0 := by
  obtain ⟨i, hi, hi2⟩ := hn
  have key : ∀ w : Nat, 1 ≤ w → w ≤ 6 → ¬ nI w ≤ 0 ∧ 10 * nI w + nI i ≠ 0 := fun w h1 h6 => ⟨nI_nle (by omega) (by omega), by
    rw [show (10 : Int32) = nI 10 from rfl, pk_mul, nI_add]
    exact nI_ne0 (by omega) (by omega)⟩
  rw [hi2]
  rcases hk with h | h | h <;> rw [h] at hv <;> rcases hv with h2 | h2 <;> rw [h2]
  · exact key 1 (by omega) (by omega)
  · exact key 2 (by omega) (by omega)
  · exact key 3 (by omega) (by omega)
  · exact key 4 (by omega) (by omega)
  · exact key 5 (by omega) (by omega)
  · exact key 6 (by omega) (by omega)
theorem match_in (hw : TyW T) (hS : wfSt R T.length n) {m2 : Nat} (hm2 : m2 ≤ T.length) (hG : wfGm R g m2) {s u : Nat} (hs : s < n) (hu : u < g) {rec2 : Int32 → rS → Option rS} {rec12 : Int32 → Int32 → rS → Option rS} : ∀ m fu q M, q + m = (sgL R u).length → m + 1 < fu → RR f M T n g R F Q U → M 52 (20 * s + u) = 0 → (∀ i j, i < n → j < u → M 52 (20 * i + j) = ms T R i j) → ∃ W, fX7_matches_b40 rec2 rec12 fu (nI u) (nI s) (nI (20 * s + u)) (nI (60 * u + q)) (f, M) = rec12 (nI u) (nI (s + 1)) (f, W) ∧ W 52 (20 * s + u) = mfL (mf (fitS T) (stR R) R 29) (fitS T (stR R s)) (stR R s) ((sgL R u).drop q) ∧ on52 M W ∧ ∀ i, i ≠ 20 * s + u → W 52 i = M 52 i := by
  have h20 := hG.1
  have h95 := hS.1
  have h390 := hS.2.1
  obtain ⟨w2, p2, ru, hY⟩ := hG.rw hu
  have rec_eq : ∀ i j, i < n → j < u → ms T R i j = mf (fitS T) (stR R) R 29 i j := fun i j hi hj => by
    unfold ms
    rw [← mf_eq hw h390 hS hG hm2 30 30 i j hi (by omega) (by omega) (by omega), mf_eq hw h390 hS hG hm2 30 29 i j hi (by omega) (by omega) (by omega)]
  intro m
  induction m with
  | zero =>
    intro fu q M hq hf hR h0 ht
    have hsp := (hR.sp (k := u) (by omega) ru).1
    have h60 : (sgL R u).length ≤ 60 := hsp.2.1
    cases fu with
    | zero => omega
    | succ fu =>
      refine ⟨M, ?_, by rw [List.drop_eq_nil_of_le (by omega)]; exact h0, fun _ _ => rfl, fun _ _ => rfl⟩
      show fX7_matches_b40_body _ rec2 rec12 (nI u) (nI s) (nI (20 * s + u)) (nI (60 * u + q)) (f, M) = _
      unfold fX7_matches_b40_body fX7_matches_b108
      rw [r_rd 21 rfl (by omega) (by omega), Option.bind_some, hsp.1, show (60 : Int32) = nI 60 from rfl, pk_mul, nI_add, if_pos (nI_le (show 60 * u + (sgL R u).length ≤ _ by omega) (by omega)), nI_1]
  | succ m ih =>
    intro fu q M hq hf hR h0 ht
    have hsp := (hR.sp (k := u) (by omega) ru).1
    have h60 : (sgL R u).length ≤ 60 := hsp.2.1
    cases fu with
    | zero => omega
    | succ fu =>
      have hql : q < (sgL R u).length := by omega
      have hg := List.getElem?_eq_getElem hql
      have hE := hY.2 q _ hg
      obtain ⟨v1, v2, -⟩ := hsp.2.2 q _ hg
      have st : fX7_matches_b40 rec2 rec12 (fu + 1) (nI u) (nI s) (nI (20 * s + u)) (nI (60 * u + q)) (f, M) = Option.bind (fX7_misfit (nI s) (nI (60 * u + q)) (f, M)) fun q69 => if (q69.1) ≤ 0 then fX7_matches_b101 rec2 rec12 (fX7_matches_b40 rec2 rec12 fu) (nI u) (nI s) (nI (20 * s + u)) (nI (60 * u + q)) 0 (nI (20 * s + u)) (q69.2) else Option.bind (rd (q69.2) 14 (nI (60 * u + q))) fun x95 => fX7_matches_b101 rec2 rec12 (fX7_matches_b40 rec2 rec12 fu) (nI u) (nI s) (nI (20 * s + u)) (nI (60 * u + q)) ((10 * (q69.1)) + x95) (nI (20 * s + u)) (q69.2) := by
        show fX7_matches_b40_body _ rec2 rec12 (nI u) (nI s) (nI (20 * s + u)) (nI (60 * u + q)) (f, M) = _
        unfold fX7_matches_b40_body
        rw [r_rd 21 rfl (by omega) (by omega), Option.bind_some, hsp.1, show (60 : Int32) = nI 60 from rfl, pk_mul, nI_add, if_neg (nI_ge (show 60 * u + q < 60 * u + (sgL R u).length by omega) (by omega)), r_rd 2000 rfl (by omega) (by omega), Option.bind_some, h0, if_pos rfl]
      obtain ⟨v, hv, hcase⟩ := misfit_r hR hS hG hs hu hg (rec := mf (fitS T) (stR R) R 29) (fun i j hi hj => by rw [ht i j hi hj, rec_eq i j hi hj])
      rw [st, hv, Option.bind_some, List.drop_eq_getElem_cons hql]
      unfold mfL
      have bad : (v = 2 * (sgL R u)[q].1 + 1 ∨ v = 2 * (sgL R u)[q].1 + 2) → ∃ W, (if v ≤ 0 then fX7_matches_b101 rec2 rec12 (fX7_matches_b40 rec2 rec12 fu) (nI u) (nI s) (nI (20 * s + u)) (nI (60 * u + q)) 0 (nI (20 * s + u)) (f, M) else Option.bind (rd (f, M) 14 (nI (60 * u + q))) fun x95 => fX7_matches_b101 rec2 rec12 (fX7_matches_b40 rec2 rec12 fu) (nI u) (nI s) (nI (20 * s + u)) (nI (60 * u + q)) ((10 * v) + x95) (nI (20 * s + u)) (f, M)) = rec12 (nI u) (nI (s + 1)) (f, W) ∧ W 52 (20 * s + u) = 10 * v + (sgL R u)[q].2.1 ∧ on52 M W ∧ ∀ i, i ≠ 20 * s + u → W 52 i = M 52 i := by
        intro hvv
        obtain ⟨hv1, hv2⟩ := mis_pos hE.kind.1 hE.kind.2 hvv
        refine ⟨mup M 52 (20 * s + u) (10 * v + (sgL R u)[q].2.1), ?_, mup_s, fun j hj => mup_k hj, fun i hi => mup_i hi⟩
        rw [if_neg hv1, r_rd 1260 rfl (by omega) (by omega), Option.bind_some, v2]
        unfold fX7_matches_b101
        rw [r_wr 2000 rfl (by omega) (by omega), Option.bind_some, nI_1]
        cases fu with
        | zero => omega
        | succ fu =>
          show fX7_matches_b40_body _ rec2 rec12 (nI u) (nI s) (nI (20 * s + u)) (nI (60 * u + q + 1)) (f, _) = _
          unfold fX7_matches_b40_body fX7_matches_b108
          rw [r_rd 21 rfl (by omega) (by omega), Option.bind_some, mup_k (by omega), hsp.1, show (60 : Int32) = nI 60 from rfl, pk_mul, nI_add]
          by_cases hend : nI (60 * u + (sgL R u).length) ≤ nI (60 * u + q + 1)
          · have he2 : nI (60 * u + (sgL R u, w2, p2).1.length) ≤ nI (60 * u + q + 1) := hend
            rw [if_pos he2, nI_1]
          · have he2 : ¬ nI (60 * u + (sgL R u, w2, p2).1.length) ≤ nI (60 * u + q + 1) := hend
            rw [if_neg he2, r_rd 2000 rfl (by omega) (by omega), Option.bind_some, mup_s, if_neg hv2, nI_1]
      rcases hcase with ⟨hv0, p, x, hp, hx, hfit⟩ | ⟨hv1, hp⟩ | ⟨hv2, p, x, hp, hx, hfit⟩
      · rw [hp]
        obtain ⟨W, d1, d2, d3, d4⟩ := ih fu (q + 1) (mup M 52 (20 * s + u) 0) (by omega) (by omega) (hR.tmp (fun j hj => mup_k (by omega))) mup_s (fun i j hi hj => by rw [mup_i (by omega)]; exact ht i j hi hj)
        refine ⟨W, ?_, ?_, fun j hj => by rw [d3 j hj, mup_k hj], fun i hi => by rw [d4 i hi, mup_i hi]⟩
        rotate_left
        · show W 52 (20 * s + u) = (match (stR R s)[p]? with
            | none => 0
            | some m => if (if (sgL R u)[q].1 = 2 then decide (mf (fitS T) (stR R) R 29 (iN m.2.2.1) (iN (sgL R u)[q].2.2.1) = 0) else fitS T (stR R s) m (sgL R u)[q]) = true then mfL (mf (fitS T) (stR R) R 29) (fitS T (stR R s)) (stR R s) ((sgL R u).drop (q + 1)) else 10 * (2 * (sgL R u)[q].1 + 2) + (sgL R u)[q].2.1)
          rw [hx]
          show W 52 (20 * s + u) = (if (if (sgL R u)[q].1 = 2 then decide (mf (fitS T) (stR R) R 29 (iN x.2.2.1) (iN (sgL R u)[q].2.2.1) = 0) else fitS T (stR R s) x (sgL R u)[q]) = true then mfL (mf (fitS T) (stR R) R 29) (fitS T (stR R s)) (stR R s) ((sgL R u).drop (q + 1)) else 10 * (2 * (sgL R u)[q].1 + 2) + (sgL R u)[q].2.1)
          rw [if_pos hfit, d2]
        rw [hv0]
        show (if (0 : Int32) ≤ 0 then _ else _) = _
        rw [if_pos (by decide)]
        unfold fX7_matches_b101
        rw [r_wr 2000 rfl (by omega) (by omega), Option.bind_some, nI_1]
        exact d1
      · rw [hp]
        obtain ⟨W, d1, d2, d3, d4⟩ := bad (Or.inl hv1)
        exact ⟨W, d1, by rw [d2, hv1], d3, d4⟩
      · rw [hp]
        obtain ⟨W, d1, d2, d3, d4⟩ := bad (Or.inr hv2)
        refine ⟨W, d1, ?_, d3, d4⟩
        show W 52 (20 * s + u) = (match (stR R s)[p]? with
          | none => 0
          | some m => if (if (sgL R u)[q].1 = 2 then decide (mf (fitS T) (stR R) R 29 (iN m.2.2.1) (iN (sgL R u)[q].2.2.1) = 0) else fitS T (stR R s) m (sgL R u)[q]) = true then mfL (mf (fitS T) (stR R) R 29) (fitS T (stR R s)) (stR R s) ((sgL R u).drop (q + 1)) else 10 * (2 * (sgL R u)[q].1 + 2) + (sgL R u)[q].2.1)
        rw [hx]
        show W 52 (20 * s + u) = (if (if (sgL R u)[q].1 = 2 then decide (mf (fitS T) (stR R) R 29 (iN x.2.2.1) (iN (sgL R u)[q].2.2.1) = 0) else fitS T (stR R s) x (sgL R u)[q]) = true then mfL (mf (fitS T) (stR R) R 29) (fitS T (stR R s)) (stR R s) ((sgL R u).drop (q + 1)) else 10 * (2 * (sgL R u)[q].1 + 2) + (sgL R u)[q].2.1)
        rw [if_neg (by rw [hfit]; decide), d2, hv2]
theorem match_mid (hw : TyW T) (hS : wfSt R T.length n) {m2 : Nat} (hm2 : m2 ≤ T.length) (hG : wfGm R g m2) {u : Nat} (hu : u < g) {rec2 : Int32 → rS → Option rS} : ∀ m fu s M, s + m = n → m < fu → RR f M T n g R F Q U → (∀ i j, i < n → j < u → M 52 (20 * i + j) = ms T R i j) → (∀ i, i < s → M 52 (20 * i + u) = ms T R i u) → ∃ W, fX7_matches_b12 rec2 fu (nI u) (nI s) (f, M) = rec2 (nI (u + 1)) (f, W) ∧ (∀ i j, i < n → j < u + 1 → W 52 (20 * i + j) = ms T R i j) ∧ on52 M W := by
  have h20 := hG.1
  have h95 := hS.1
  have h390 := hS.2.1
  intro m
  induction m with
  | zero =>
    intro fu s M hs hf hR ht hd
    cases fu with
    | zero => omega
    | succ fu =>
      refine ⟨M, ?_, fun i j hi hj => ?_, fun _ _ => rfl⟩
      · show fX7_matches_b12_body _ rec2 (nI u) (nI s) (f, M) = _
        unfold fX7_matches_b12_body
        show (if f 4 ≤ nI s then _ else _) = _
        rw [hR.cn.1, if_pos (nI_le (by omega) (by omega)), nI_1]
      · by_cases hju : j = u
        · subst hju; exact hd i (by omega)
        · exact ht i j hi (by omega)
  | succ m ih =>
    intro fu s M hs hf hR ht hd
    cases fu with
    | zero => omega
    | succ fu =>
      have hsn : s < n := by omega
      obtain ⟨w2, p2, ru, hY⟩ := hG.rw hu
      have h60 : (sgL R u).length ≤ 60 := (hR.sp (k := u) (by omega) ru).1.2.1
      have e20 : (20 : Int32) * nI s + nI u = nI (20 * s + u) := by rw [show (20 : Int32) = nI 20 from rfl, pk_mul, nI_add]
      obtain ⟨W, d1, d2, d3, d4⟩ := match_in (rec2 := rec2) (rec12 := fX7_matches_b12 rec2 fu) hw hS hm2 hG hsn hu (sgL R u).length rFuel 0 (mup M 52 (20 * s + u) 0) (by omega) (by show (sgL R u).length + 1 < 100000; omega) (hR.tmp (fun j hj => mup_k (by omega))) mup_s (fun i j hi hj => by rw [mup_i (by omega)]; exact ht i j hi hj)
      rw [List.drop_zero] at d2
      have d5 : ∀ i, i ≠ 20 * s + u → W 52 i = M 52 i := fun i hi => by rw [d4 i hi, mup_i hi]
      obtain ⟨W2, c1, c2, c3⟩ := ih fu (s + 1) W (by omega) (by omega) (hR.tmp (fun j hj => by rw [d3 j (by omega), mup_k (by omega)])) (fun i j hi hj => by rw [d5 _ (by omega)]; exact ht i j hi hj) (fun i hi => by
        by_cases h : i = s
        · subst h; exact d2
        · rw [d5 _ (by omega)]; exact hd i (by omega))
      refine ⟨W2, ?_, c2, fun j hj => by rw [c3 j hj, d3 j hj, mup_k hj]⟩
      show fX7_matches_b12_body _ rec2 (nI u) (nI s) (f, M) = _
      unfold fX7_matches_b12_body
      show (if f 4 ≤ nI s then _ else Option.bind (rwr (f, M) 52 (20 * nI s + nI u) 0) _) = _
      rw [hR.cn.1, if_neg (nI_ge hsn (by omega)), e20, r_wr 2000 rfl (by omega) (by omega), Option.bind_some]
      show fX7_matches_b40 rec2 (fX7_matches_b12 rec2 fu) rFuel (nI u) (nI s) (nI (20 * s + u)) (60 * nI u) (f, _) = _
      rw [show (60 : Int32) = nI 60 from rfl, pk_mul]
      exact d1.trans c1
theorem match_out (hw : TyW T) (hS : wfSt R T.length n) {m2 : Nat} (hm2 : m2 ≤ T.length) (hG : wfGm R g m2) : ∀ m fu u M, u + m = g → m < fu → RR f M T n g R F Q U → (∀ i j, i < n → j < u → M 52 (20 * i + j) = ms T R i j) → ∃ W, fX7_matches_b2 fu (nI u) (f, M) = some (f, W) ∧ (∀ i j, i < n → j < g → W 52 (20 * i + j) = ms T R i j) ∧ on52 M W := by
  have h20 := hG.1
  have h95 := hS.1
  intro m
  induction m with
  | zero =>
    intro fu u M hu hf hR ht
    cases fu with
    | zero => omega
    | succ fu =>
      refine ⟨M, ?_, fun i j hi hj => ht i j hi (by omega), fun _ _ => rfl⟩
      show fX7_matches_b2_body _ (nI u) (f, M) = _
      unfold fX7_matches_b2_body
      show (if f 10 ≤ nI u then _ else _) = _
      rw [hR.cn.2.2.1, if_pos (nI_le (by omega) (by omega))]
  | succ m ih =>
    intro fu u M hu hf hR ht
    cases fu with
    | zero => omega
    | succ fu =>
      obtain ⟨W, d1, d2, d3⟩ := match_mid (rec2 := fX7_matches_b2 fu) hw hS hm2 hG (u := u) (by omega) n rFuel 0 M (by omega) (by show n < 100000; omega) hR ht (fun i hi => by omega)
      obtain ⟨W2, c1, c2, c3⟩ := ih fu (u + 1) W (by omega) (by omega) (hR.tmp (fun j hj => d3 j (by omega))) d2
      refine ⟨W2, ?_, c2, fun j hj => by rw [c3 j hj, d3 j hj]⟩
      show fX7_matches_b2_body _ (nI u) (f, M) = _
      unfold fX7_matches_b2_body
      show (if f 10 ≤ nI u then _ else _) = _
      rw [hR.cn.2.2.1, if_neg (nI_ge (by omega) (by omega))]
      exact d1.trans c1
theorem matchOf_r (hR : RR f M T n g R F Q U) (hw : TyW T) (hS : wfSt R T.length n) {m2 : Nat} (hm2 : m2 ≤ T.length) (hG : wfGm R g m2) {s u : Nat} (hs : s < n) (hu : u < g) : ∃ W, fX7_matchOf (nI s) (nI u) (f, M) = some (ms T R s u, f, W) ∧ RR f W T n g R F Q U ∧ on52 M W := by
  have h20 := hG.1
  have h95 := hS.1
  obtain ⟨W, d1, d2, d3⟩ := match_out hw hS hm2 hG g rFuel 0 M (by omega) (by show g < 100000; omega) hR (fun i j _ hj => by omega)
  refine ⟨W, ?_, hR.tmp (fun j hj => d3 j (by omega)), d3⟩
  unfold fX7_matchOf fX7_matches
  show Option.bind (fX7_matches_b2 rFuel (nI 0) (f, M)) _ = _
  rw [d1, Option.bind_some, show (20 : Int32) = nI 20 from rfl, pk_mul, nI_add, r_rd 2000 rfl (by omega) (by omega), d2 s u hs hu]
  rfl
/-- the class's answer for structs -/
theorem misfit_S (hC : CR o b K I P N T n g R F Q U) (hw : TyW T) (hS : wfSt R T.length n) {m2 : Nat} (hm2 : m2 ≤ T.length) (hG : wfGm R g m2) {s u : Nat} (hs : s < n) (hu : u < g) : fX6_firstMisfit 30 o (some (b + 3)) (nI s) (nI u) 0 (K, I, P, N) = some (ms T R s u, K, I, P, N) := by
  have h20 := hG.1
  have h200 := hC.ty.2.1
  have hsh := shK_S hC (fun s hs => let ⟨L, w, p, h1, h2⟩ := hS.2.2 s hs; ⟨L, w, p, _, n, h1, h2, Nat.le_refl _⟩)
  have := misfit_c hC hw (hG.G (by omega)) hsh 30 s u 0 hs hu (by omega) (by omega)
  rw [mf_eq hw (by omega) hS hG hm2 30 30 s u hs hu (by omega) (by omega)] at this
  exact this
theorem s_match (o t : Nat) : sim_match o (Inv o t) (Inv o (t + 1)) := by
  intro z S p0 p1 hI
  obtain ⟨K, I, P, N0⟩ := z
  obtain ⟨f, M⟩ := S
  refine sim_core (fun e => e = 0) (fun e => if e = 0 then 1 else 0) hI (fun b T n g R F Q U hR hW => ?_)
  have hw := hW.1.1
  have hS := hW.wfSt
  have hG := hW.wfGm
  have h20 := hG.1
  have h95 := hS.1
  have bad : fX7_match_b21 p0 p1 (f, M) = some (0, upd f 54 1, M) := by
    unfold fX7_match_b21 fX7_match_b22
    rw [fails_1 (by decide), Option.bind_some]
    rfl
  rcases ix_em p0 (n := n) (by omega) with ⟨s, hs, rfl⟩ | h1
  · obtain ⟨wx, px, rx, -⟩ := hS.rw hs
    rcases ix_em p1 (n := g) (by omega) with ⟨u, hu, rfl⟩ | h2
    · obtain ⟨wy, py, ry, -⟩ := hG.rw hu
      refine sim_do (ms T R s u) hW.step (fun N hC => ?_) ?_
      · obtain ⟨a, a1, a2, a3, ha⟩ := atS hC hs rx
        obtain ⟨c, c1, c2, c3, hc⟩ := atG hC hu ry
        refine ⟨K, I, P, N, 0, 0, ?_, by omega, by omega, hC⟩
        unfold fX6_match
        rw [g61 hC, Option.bind_some, r3 hC, Option.bind_some, ha, Option.bind_some, needRow_t, tb_l, g62 hC, Option.bind_some, r5 hC, Option.bind_some, hc, Option.bind_some, needRow_t, tb_l, g61 hC, Option.bind_some, ro hC, Option.bind_some, misfit_S hC hw hS (Nat.le_refl _) hG hs hu, Option.bind_some]
      · obtain ⟨W, d1, d2, -⟩ := matchOf_r (hR.thr 0) hw hS (Nat.le_refl _) hG hs hu
        refine ⟨_, W, ?_, d2, upd_s⟩
        unfold fX7_match
        rw [isStr_t hR hs, Option.bind_some, if_neg i10, isSig_t hR hu, Option.bind_some, if_neg i10]
        unfold fX7_match_b22
        rw [fails_0, Option.bind_some]
        show Option.bind (fX7_matchOf (nI s) (nI u) (upd f 54 0, M)) _ = _
        rw [d1]
        rfl
    · refine sim_thr 0 0 hR hW rfl (fun N hC => ?_) ?_
      · obtain ⟨a, a1, a2, a3, ha⟩ := atS hC hs rx
        unfold fX6_match
        rw [g61 hC, Option.bind_some, r3 hC, Option.bind_some, ha, Option.bind_some, needRow_t, tb_l, g62 hC, Option.bind_some, r5 hC, Option.bind_some, at_no hC.shG h2, Option.bind_some, needRow_f]
        rfl
      · unfold fX7_match
        rw [isStr_t hR hs, Option.bind_some, if_neg i10, isSig_f hR h2, Option.bind_some, if_pos rfl]
        exact bad
  · refine sim_thr 0 0 hR hW rfl (fun N hC => ?_) ?_
    · unfold fX6_match
      rw [g61 hC, Option.bind_some, r3 hC, Option.bind_some, at_no hC.shS h1, Option.bind_some, needRow_f]
      rfl
    · unfold fX7_match
      rw [isStr_f hR h1, Option.bind_some, if_pos rfl]
      exact bad
end Match2
