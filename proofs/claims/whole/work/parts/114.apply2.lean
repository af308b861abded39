/-! APPLYING: the reference, the call -/
section Apply2
variable {o b t : Nat} {K : Nat → Option (Nat × Nat)} {I J : Nat → Nat → Int32} {P : Nat → Nat → Option Nat} {N a : Nat} {f : Nat → Int32} {M W : Nat → Nat → Int32} {T T1 T2 : List TyD} {n n2 g : Nat} {R R1 R2 : Nat → Option RowD} {F F2 : List FuD} {Q : List (Int32 × Int32)} {U : List UnD} {s i : Nat} {x y : FuD} {B L1 : List En} {wB pB : Nat} {rc : Option Nat}
theorem CR.upFu (h : CR o b K I P N T n g R F Q U) (hx : F[i]? = some x) (hp : ptr b P (400 + i) = some a) (ho : ∀ q, q ≠ a + 3 → J q = I q) (hy : FuIs J a y) : CR o b K J P N T n g R (F.set i y) Q U := by
  obtain ⟨hi8, ka, -, -, -, k3, -⟩ := fuAt h hx hp
  have hq : ∀ q z, K q = some z → z ≠ (8, 30) → J q = I q := fun q z hz h1 => ho q (fun e => by subst e; rw [k3] at hz; cases hz; exact h1 rfl)
  obtain ⟨⟨s1, s2, s3, s4, s5, s6, s7, s8, s9, s10, s11⟩, -⟩ := h.sf
  have jo := hq _ _ s1 (by decide)
  refine h.frame (h.ty.congr (hq _ _ s2 (by decide)) (hq _ _ s3 (by decide)) (hq _ _ s4 (by decide))) (h.cn.congr (hq _ _ s5 (by decide)) (hq _ _ s7 (by decide))) (cRw.congr h.sd h.rw (fun q hx => hq q _ hx (by decide)) (fun q hx => hq q _ hx (by decide))) ?_ (cPk.congr h.sd h.pk (by rw [jo]) (fun q hx => hq q _ hx (by decide))) (cUn.congr h.sd h.un (by rw [jo]) (fun q hx => hq q _ hx (by decide)) (fun q hx => hq q _ hx (by decide)))
  have hfu := h.fu
  refine ⟨by rw [jo, List.length_set]; exact hfu.1, by rw [List.length_set]; exact hfu.2.1, fun v z hz => ?_, by rw [List.length_set]; exact hfu.2.2.2⟩
  rcases set_get hz with ⟨rfl, rfl, -⟩ | ⟨h1, h2⟩
  · exact ⟨a, hp, hy⟩
  · obtain ⟨c, c1, c2⟩ := hfu.2.2.1 v z h2
    obtain ⟨hv8, kc, -, -, -, k4, -⟩ := fuAt h h2 c1
    have hne : c ≠ a := fun e => h1 (by have := h.sd.2.1 _ _ _ c1 (by rw [e]; exact hp); omega)
    have n1 : c ≠ a + 3 := fun e => by rw [e, k3] at kc; cases kc
    exact ⟨c, c1, c2.congr (ho c n1) (ho _ (by omega))⟩
theorem RR.upFu (h : RR f M T n g R F Q U) (hW : ∀ j, j ≠ 28 → W j = M j) (hF : rFu f W F2) : RR f W T n g R F2 Q U := ⟨h.ty.congr rfl (hW _ (by omega)) (hW _ (by omega)) (hW _ (by omega)), h.cn.congr rfl rfl (hW _ (by omega)) (hW _ (by omega)), h.rw.congr (fun j hj => hW j (by omega)), hF, h.pk.congr rfl (hW _ (by omega)) (hW _ (by omega)), h.un.congr rfl (fun j h1 h2 => hW j (by omega)), h.dp⟩
theorem RR.note (h : RR f M T n g R F Q U) (hx : F[i]? = some x) (hs : s < 30) (v : Int32) : RR f (mup M 28 (30 * i + s) v) T n g R (F.set i (x.1, x.2.1, x.2.2.1, fun k => if k = s then v else x.2.2.2 k)) Q U := by
  obtain ⟨f1, f2, f3, f4⟩ := h.fu
  have hi := (List.getElem?_eq_some_iff.mp hx).1
  refine h.upFu (fun j hj => mup_k hj) ⟨by rw [List.length_set]; exact f1, by rw [List.length_set]; exact f2, fun u z hz => ?_, fun u k h1 h2 h3 => ?_⟩
  · rw [mup_k (show 25 ≠ 28 by omega), mup_k (show 26 ≠ 28 by omega), mup_k (show 27 ≠ 28 by omega)]
    rcases set_get hz with ⟨rfl, rfl, -⟩ | ⟨h1, h2⟩
    · obtain ⟨a1, a2, a3, a4⟩ := f3 u x hx
      refine ⟨a1, a2, a3, fun k hk => ?_⟩
      show _ = if k = s then v else x.2.2.2 k
      by_cases hks : k = s
      · rw [hks, mup_s, if_pos rfl]
      · rw [mup_i (by omega), if_neg hks]
        exact a4 k hk
    · obtain ⟨a1, a2, a3, a4⟩ := f3 u z h2
      exact ⟨a1, a2, a3, fun k hk => by rw [mup_i (by omega)]; exact a4 k hk⟩
  · rw [List.length_set] at h1
    rw [mup_i (by omega)]
    exact f4 u k h1 h2 h3
theorem WF.setF (h : WF t T n g R F Q U) (hy : wFun R n g i y) : WF t T n g R (F.set i y) Q U := by
  obtain ⟨a, c, d, e, fu, pk, un⟩ := h
  refine ⟨a, c, d, by rw [List.length_set]; exact e, fun v x hx => ?_, pk, un⟩
  rcases set_get hx with ⟨rfl, rfl, -⟩ | ⟨-, h2⟩
  · exact hy
  · exact fu v x h2
theorem b282_no {l4 l8 e : Int32} (he : ¬ e ≤ 0) : fX7_apply_b282 l4 l8 e (f, M) = some (0, upd f 54 e, M) := by
  unfold fX7_apply_b282
  rw [fails_1 he, Option.bind_some]
  rfl
theorem b224_no {l4 l5 l6 l8 : Int32} : fX7_apply_b224 1 l4 l5 l6 l8 (f, M) = some (0, upd (upd (upd f 0 l5) 4 l6) 54 2, M) := by
  unfold fX7_apply_b224 fX7_apply_b225
  rw [if_pos rfl]
  unfold fX7_apply_b242
  show (if (0 : Int32) = 0 then fX7_apply_b260 1 l4 0 l8 l6 (upd f 0 l5, M) else _) = _
  rw [if_pos rfl]
  unfold fX7_apply_b260
  show (if (1 : Int32) = 0 then _ else if (0 : Int32) = 0 then fX7_apply_b282 l4 l8 2 (upd (upd f 0 l5) 4 l6, M) else _) = _
  rw [if_neg i10, if_pos rfl, b282_no (by decide)]
theorem b224_bad {l4 l5 l6 l8 : Int32} (h1 : f 0 = l5) (h2 : f 4 = l6) : fX7_apply_b224 0 l4 l5 l6 l8 (f, M) = some (0, upd f 54 1, M) := by
  unfold fX7_apply_b224 fX7_apply_b225
  rw [if_pos rfl]
  unfold fX7_apply_b242
  show (if (0 : Int32) = 0 then fX7_apply_b260 0 l4 0 l8 l6 (upd f 0 l5, M) else _) = _
  rw [if_pos rfl, upd_id h1]
  unfold fX7_apply_b260
  show (if (0 : Int32) = 0 then fX7_apply_b282 l4 l8 1 (upd f 4 l6, M) else _) = _
  rw [if_pos rfl, upd_id h2, b282_no (by decide)]
theorem b196_no (h : RR f M T2 n2 g R F Q U) {l4 l5 l6 l7 l8 : Int32} (h1 : l7 = 0 ∨ ¬ (T2.length ≤ 200 ∧ n2 ≤ 30)) : fX7_apply_b196 1 l4 l5 l6 l7 l8 (f, M) = some (0, upd (upd (upd f 0 l5) 4 l6) 54 2, M) := by
  have h390 := h.ty.2.1
  have h95 := h.cn.2.1
  unfold fX7_apply_b196
  by_cases h7 : l7 = 0
  · rw [if_pos h7]
    exact b224_no
  · rw [if_neg h7]
    have h2 := h1.resolve_left h7
    show (if (200 : Int32) < f 0 then _ else if (30 : Int32) < f 4 then _ else _) = _
    rw [h.ty.1, show (200 : Int32) = nI 200 from rfl]
    by_cases h3 : T2.length ≤ 200
    · rw [if_neg (nI_nlt h3 (by omega)), h.cn.1, show (30 : Int32) = nI 30 from rfl, if_pos (nI_lt (by omega) (by omega))]
      exact b224_no
    · rw [if_pos (nI_lt (by omega) (by omega))]
      exact b224_no
theorem b196_ok (h : RR f M T2 n2 g R F Q U) {l5 l6 l8 : Int32} {k : Nat} (hk : k < 240) (h1 : T2.length ≤ 200) (h2 : n2 ≤ 30) : fX7_apply_b196 1 (nI k) l5 l6 1 l8 (f, M) = some (l8, upd f 54 0, mup M 28 k l8) := by
  unfold fX7_apply_b196
  rw [if_neg i10]
  show (if (200 : Int32) < f 0 then _ else if (30 : Int32) < f 4 then _ else _) = _
  rw [h.ty.1, show (200 : Int32) = nI 200 from rfl, if_neg (nI_nlt h1 (by omega)), h.cn.1, show (30 : Int32) = nI 30 from rfl, if_neg (nI_nlt h2 (by omega))]
  unfold fX7_apply_b225
  rw [if_neg i10]
  unfold fX7_apply_b242
  show (if (1 : Int32) = 0 then _ else fX7_apply_b260 1 (nI k) 1 l8 (upd f 0 (f 0) 4) (upd f 0 (f 0), M)) = _
  rw [if_neg i10, upd_id rfl]
  unfold fX7_apply_b260
  show (if (1 : Int32) = 0 then _ else if (1 : Int32) = 0 then _ else fX7_apply_b282 (nI k) l8 0 (upd f 4 (f 4), M)) = _
  rw [if_neg i10, if_neg i10, upd_id rfl]
  unfold fX7_apply_b282
  rw [fails_0, Option.bind_some]
  show (if (0 : Int32) = 0 then Option.bind (rwr (upd f 54 0, M) 28 (nI k) l8) _ else _) = _
  rw [if_pos rfl, r_wr 240 rfl hk (by omega), Option.bind_some]
/-- once the argument is matched -/
theorem apply2_r (hR : RR f M T n g R F Q U) (hW : WF t T n g R F Q U) (hF : F[i]? = some x) (hs : s < n) (hrc : x.2.1 = sI rc) (hrg : ∀ c, rc = some c → c < g) (hB : R (300 + i) = some (B, wB, pB)) (hok : glOK B (stR R s) T.length n) (hgl : glL (stR R s) B [] T = (L1, T1)) : ∃ f2 W, (apOK n (newR R n [L1]) T1 rc ∧ fX7_apply_b116 (nI i) (nI s) 1 (nI (30 * i + s)) (nI T.length) (nI n) 1 (f, M) = some (nI (n + (apS n (newR R n [L1]) T1 rc).2.length), upd f2 54 0, mup W 28 (30 * i + s) (nI (n + (apS n (newR R n [L1]) T1 rc).2.length))) ∧ RR f2 W (apS n (newR R n [L1]) T1 rc).1 (n + 1 + (apS n (newR R n [L1]) T1 rc).2.length) g (newR (newR R n [L1]) (n + 1) (apS n (newR R n [L1]) T1 rc).2) F Q U) ∨ (¬ apOK n (newR R n [L1]) T1 rc ∧ fX7_apply_b116 (nI i) (nI s) 1 (nI (30 * i + s)) (nI T.length) (nI n) 1 (f, M) = some (0, upd f2 54 2, W) ∧ RR f2 W T n g (newR R n []) F Q U) := by
  have h20 := hW.1.2.2.2
  have h30 := hW.1.2.2.1
  have h200 := hW.1.2.1
  have hB20 := hok.1.len
  have hi8 : i < 8 := by have := (List.getElem?_eq_some_iff.mp hF).1; have := hR.fu.2.1; omega
  obtain ⟨g1, g2, g3, g4⟩ := gl_ok hok B.length 0 [] T (by omega) hW.1.1 (Nat.le_refl _) (by omega) ⟨rfl, fun r e y h => by simp at h, WfS.nil⟩
  rw [List.drop_zero, hgl] at g1 g2 g3 g4
  have hT1 : T1.length ≤ T.length + B.length := g3
  have g2' : T <+: T1 := g2
  have hpl := g2'.length_le
  obtain ⟨wX, pX, rX, hX⟩ := hW.stAt hs
  obtain ⟨f1, W1, R2, c1, c2, c3, c4⟩ := gives_r hok hB (by omega) rX hs (by omega) hW.1.1 (Nat.le_refl _) (by omega) hR
  rw [hgl] at c2 c4
  have hRm : RR f1 W1 T1 (n + 1) g (newR R n [L1]) F Q U := c2.sub (newR_s (by omega) c3 c4)
  obtain ⟨m1, m2, m3, m4, m5⟩ := mid_R (T1 := T1) hW hpl (by omega) g4
  generalize hR9 : newR R n [L1] = R9 at *
  have cut : ∀ {f2 W T2 n2 R3}, RR f2 W T2 n2 g R3 F Q U → T <+: T2 → (∀ j, (j < n ∨ 100 ≤ j) → R3 j = R j) → RR (upd (upd f2 0 (nI T.length)) 4 (nI n)) W T n g (newR R n []) F Q U := fun h hp hj => (h.back hp (by omega)).sub (newR_sub (fun j L h => by simp at h) hj)
  have hR9j : ∀ j, (j < n ∨ 100 ≤ j) → R9 j = R j := fun j hj => by rw [← hR9]; exact newR_o hj
  have a26 : ∀ {f2 W T2 n2 R3}, RR f2 W T2 n2 g R3 F Q U → rd (f2, W) 26 (nI i) = some (sI rc) := fun h => by rw [r_rd 8 rfl hi8 (by omega), (h.fu.2.2.1 i x hF).2.1, hrc]
  have top : fX7_apply_b116 (nI i) (nI s) 1 (nI (30 * i + s)) (nI T.length) (nI n) 1 (f, M) = fX7_apply_b133 (nI i) 1 (nI (30 * i + s)) (nI T.length) (nI n) 1 (nI n) (f1, W1) := by
    unfold fX7_apply_b116
    rw [if_neg i10, c1, Option.bind_some]
  rw [top]
  unfold fX7_apply_b133
  rw [if_neg i10, a26 hRm, Option.bind_some]
  cases rc with
  | none =>
    rw [if_pos (show sI (none : Option Nat) = -1 from rfl)]
    by_cases hfit : T1.length ≤ 200 ∧ n + 1 ≤ 30
    · refine ⟨f1, W1, Or.inl ⟨⟨(fun c h => nomatch h), hfit.1, by show n + 1 + 0 ≤ 30; omega⟩, b196_ok hRm (by omega) hfit.1 hfit.2, hRm.sub (newR_sub (fun j L h => ?_) (fun _ _ => rfl))⟩⟩
      have h9 : ([] : List (List En))[j]? = some L := h
      simp at h9
    · exact ⟨_, W1, Or.inr ⟨fun h => hfit ⟨h.2.1, by have h9 : n + 1 + 0 ≤ 30 := h.2.2; omega⟩, b196_no hRm (Or.inr hfit), cut hRm g2' hR9j⟩⟩
  | some c =>
    have hc := hrg c rfl
    obtain ⟨p1, p2⟩ := hW.pw c hc
    obtain ⟨p3, p4⟩ := m5 c hc
    have e9 : sI (some c) = nI c := rfl
    rw [e9, if_neg (nI_nm1 (by omega)), Option.bind_some]
    obtain ⟨W2, d1, d2, -⟩ := matchOf_r hRm g1 m3 hpl m4 (Nat.lt_succ_self n) hc
    rw [d1, Option.bind_some]
    have top2 : ∀ v : Int32, v = ms T1 R9 n c → (if (v, f1, W2).1 = 0 then fX7_apply_b170 (nI i) 1 (nI (30 * i + s)) (nI T.length) (nI n) (nI n) 1 (v, f1, W2).2 else fX7_apply_b170 (nI i) 1 (nI (30 * i + s)) (nI T.length) (nI n) (nI n) 0 (v, f1, W2).2) = if ms T1 R9 n c = 0 then fX7_apply_b170 (nI i) 1 (nI (30 * i + s)) (nI T.length) (nI n) (nI n) 1 (f1, W2) else fX7_apply_b170 (nI i) 1 (nI (30 * i + s)) (nI T.length) (nI n) (nI n) 0 (f1, W2) := fun v hv => by rw [hv]
    rw [top2 _ rfl]
    by_cases hm : ms T1 R9 n c = 0
    · have hU : gdU false R9 (n + 1) g (some n) c := gdU_of (Nat.lt_succ_self n) hc (by omega) hm
      have hS9 : gdS (n + 1) T1.length (T1, []) := ⟨g1, Nat.le_refl _, by show T1.length ≤ 390; omega, fun j L hj => by have h9 : ([] : List (List En))[j]? = some L := hj; simp at h9⟩
      obtain ⟨-, x1, x2, E, x3, x4⟩ := mk_ok m1 20 (some n) c (T1, []) (by omega) hU hS9 (by show T1.length + _ ≤ 390; omega) (by show n + 1 + 0 + _ + 1 < 2 ^ 30; omega)
      have hlen : (mk false (n + 1) R9 20 (some n) c (T1, [])).2.length = pOf R c + 1 := by rw [x3, ← p3]; exact x4
      obtain ⟨f3, W3, R3, y1, y2, y3, y4⟩ := makes_r (how := 0) (vw := false) (st := (T1, [])) m1 m2 ⟨fun h => absurd h (by decide), fun h => by cases h⟩ rfl hU hS9 (by show T1.length + _ ≤ 390; omega) (by omega) d2 (fun _ _ => rfl)
      have h170 : fX7_apply_b170 (nI i) 1 (nI (30 * i + s)) (nI T.length) (nI n) (nI n) 1 (f1, W2) = fX7_apply_b196 1 (nI (30 * i + s)) (nI T.length) (nI n) 1 (nI (n + (mk false (n + 1) R9 20 (some n) c (T1, [])).2.length)) (f3, W3) := by
        unfold fX7_apply_b170
        rw [if_neg i10, a26 d2, Option.bind_some, e9]
        have y5 : fX7_makes 0 (nI n) (nI c) (f1, W2) = some (nI (n + 1 + (mk false (n + 1) R9 20 (some n) c (T1, [])).2.length - 1), f3, W3) := y1
        rw [y5, Option.bind_some, show n + 1 + (mk false (n + 1) R9 20 (some n) c (T1, [])).2.length - 1 = n + (mk false (n + 1) R9 20 (some n) c (T1, [])).2.length by omega]
        rfl
      rw [if_pos hm, h170]
      by_cases hfit : (mk false (n + 1) R9 20 (some n) c (T1, [])).1.length ≤ 200 ∧ n + 1 + (mk false (n + 1) R9 20 (some n) c (T1, [])).2.length ≤ 30
      · exact ⟨f3, W3, Or.inl ⟨⟨fun c2 h => by cases h; exact hm, hfit⟩, b196_ok y2 (by omega) hfit.1 hfit.2, y2.sub (newR_sub (fun j L hj => y3 j L hj) (fun j hj => y4 j (by omega)))⟩⟩
      · exact ⟨_, W3, Or.inr ⟨fun h => hfit h.2, b196_no y2 (Or.inr hfit), cut y2 (g2'.trans x1) (fun j hj => by rw [y4 j (by omega)]; exact hR9j j hj)⟩⟩
    · rw [if_neg hm]
      refine ⟨_, W2, Or.inr ⟨fun h => hm (h.1 c rfl), ?_, cut d2 g2' hR9j⟩⟩
      unfold fX7_apply_b170
      rw [if_pos rfl]
      exact b196_no d2 (Or.inl rfl)
end Apply2
