/-! MAKING A STRUCT BY A SIGNATURE: the class -/
def gdX (R : Nat → Option RowD) (n0 g : Nat) : Prop := (∀ s, s < n0 → ∃ w p, R s = some (stR R s, w, p)) ∧ ∀ i, i < g → ∃ w, R (200 + i) = some (sgL R i, w, pOf R i)
def agr (R R1 : Nat → Option RowD) (n0 : Nat) : Prop := ∀ j, (j < n0 ∨ 200 ≤ j) → R1 j = R j
def remOK (o b n0 g : Nat) (F : List FuD) (Q : List (Int32 × Int32)) (U : List UnD) (P : Nat → Nat → Option Nat) (R1 : Nat → Option RowD) (st st' : MkS) (B : Nat) (ans : Int32) (res : Option (Int32 × cS × Nat × Nat)) : Prop :=
  ∃ K2 I2 P2 N2 ka kb, (∀ j c, ptr b P j = some c → ptr b P2 j = some c) ∧ ka ≤ 2 * B ∧ kb ≤ 184 * B ∧ ((st'.1.length ≤ 200 ∧ res = some (ans, (K2, I2, P2, N2), ka, kb) ∧ ∃ R2, CR o b K2 I2 P2 N2 st'.1 n0 g R2 F Q U ∧ (∀ (j : Nat) (L : List En), st.2.length ≤ j → st'.2[j]? = some L → R2 (n0 + j) = some (L, 0, 0)) ∧ ∀ j, (j < n0 + st.2.length ∨ n0 + st'.2.length ≤ j) → R2 j = R1 j) ∨ (200 < st'.1.length ∧ res = some (-1, (K2, I2, P2, N2), ka, kb) ∧ ∃ T2 R2, CR o b K2 I2 P2 N2 T2 n0 g R2 F Q U ∧ st.1 <+: T2 ∧ ∀ j, (j < n0 ∨ 30 ≤ j) → R2 j = R1 j))
section Remake
variable {o b n0 g m : Nat} {K : Nat → Option (Nat × Nat)} {I J : Nat → Nat → Int32} {P P2 : Nat → Nat → Option Nat} {N a c w wh : Nat} {T : List TyD} {R R1 R2 : Nat → Option RowD} {F : List FuD} {Q : List (Int32 × Int32)} {U : List UnD} {X Y L : List En} {vw : Bool}
theorem CR.rowAt {k : Nat} {d : RowD} (h : CR o b K I P N T n0 g R F Q U) (hk : R k = some d) (ha : ptr b P k = some a) : RowOK K P a ∧ RowIs I a d ∧ k < 400 := by
  obtain ⟨a2, h1, h2, h3, h4⟩ := h.row hk
  rw [ha] at h2
  cases h2
  exact ⟨h3, h4, h1⟩
theorem mkX_some {x e : En} (h : mkX (some X) e = some x) : ∃ p, plc X e.1 e.2.1 = some p ∧ X[p]? = some x := by
  have h1 : (match plc X e.1 e.2.1 with
    | none => none
    | some p => X[p]?) = some x := h
  cases hp : plc X e.1 e.2.1 with
  | none => rw [hp] at h1; cases h1
  | some p => rw [hp] at h1; exact ⟨p, rfl, h1⟩
theorem remOK.after {st st1 st' : MkS} {B1 B2 ka kb : Nat} {ans : Int32} {res : Option (Int32 × cS × Nat × Nat)} {E E2 : List (List En)} (hP : ∀ j c, ptr b P j = some c → ptr b P2 j = some c) (hka : ka ≤ 2 * B1) (hkb : kb ≤ 184 * B1) (hpre : st.1 <+: st1.1) (hE : st1.2 = st.2 ++ E) (hE2 : st'.2 = st1.2 ++ E2) (h30 : n0 + st1.2.length ≤ 30) (hrows : ∀ (j : Nat) (L : List En), st.2.length ≤ j → st1.2[j]? = some L → R2 (n0 + j) = some (L, 0, 0)) (hoth : ∀ j, (j < n0 + st.2.length ∨ n0 + st1.2.length ≤ j) → R2 j = R1 j) (h : remOK o b n0 g F Q U P2 R2 st1 st' B2 ans res) : remOK o b n0 g F Q U P R1 st st' (B1 + B2) ans (ause ka kb res) := by
  have hl1 : st.2.length ≤ st1.2.length := by rw [hE, List.length_append]; omega
  have hl2 : st1.2.length ≤ st'.2.length := by rw [hE2, List.length_append]; omega
  obtain ⟨K3, I3, P3, N3, k1, k2, h1, h2, h3, h4⟩ := h
  refine ⟨K3, I3, P3, N3, ka + k1, kb + k2, fun j c hj => h1 j c (hP j c hj), by omega, by omega, ?_⟩
  rcases h4 with ⟨h5, h6, R3, h7, h8, h9⟩ | ⟨h5, h6, T3, R3, h7, h8, h9⟩
  · refine Or.inl ⟨h5, by rw [h6]; rfl, R3, h7, fun j L hj hL => ?_, fun j hj => ?_⟩
    · by_cases hj1 : st1.2.length ≤ j
      · exact h8 j L hj1 hL
      · rw [h9 _ (by omega)]
        exact hrows j L hj (by rw [hE2, List.getElem?_append_left (by omega)] at hL; exact hL)
    · rw [h9 j (by omega), hoth j (by omega)]
  · exact Or.inr ⟨h5, by rw [h6]; rfl, T3, R3, h7, hpre.trans h8, fun j hj => by rw [h9 j hj, hoth j (by omega)]⟩
theorem b223_c {s : Nat} {w1 p1 : Nat} (hC : CR o b K I P N T n0 g R1 F Q U) (ha : ptr b P s = some a) (hs : R1 s = some (X, w1, p1)) (hw : ptr b P wh = some w) (hL : R1 wh = some (L, 0, 0)) (hl : L.length < 30) {p : Nat} {x : En} (hx : X[p]? = some x) {cN : Nat} (hc : cN < 2 ^ 30) {self : Nat → Int32 → Int32 → Int32 → Int32 → Int32 → cS → Option (Int32 × cS × Nat × Nat)} {rec : Int32 → Int32 → Option Nat → Option Nat → Int32 → Option Nat → Int32 → Int32 → cS → Option (Int32 × cS × Nat × Nat)} {l4 l5 l8 l10 l11 kd nm : Int32} {l7 : Option Nat} : ∃ J, fX6_remake_b223 self o rec l4 l5 (some a) l7 l8 (some w) l10 l11 kd nm (nI p) (nI cN) (K, I, P, N) = rec l4 l5 (some a) l7 l8 (some w) l10 (l11 + 1) (K, J, P, N) ∧ CR o b K J P N T n0 g (aup R1 wh (some (L ++ [(kd, nm, nI cN, -100, x.2.2.2.2.1, -1)], 0, 0))) F Q U := by
  obtain ⟨a1, a2, -⟩ := hC.rowAt hs ha
  obtain ⟨w2, w3, w4⟩ := hC.rowAt hL hw
  obtain ⟨J, j1, j2, j3, j4, j5⟩ := add_r (N := N) w2 w3.1 hl kd nm (nI cN) (-100) x.2.2.2.2.1 (-1)
  refine ⟨J, ?_, hC.upRow w4 hw j3 ⟨j2, by rw [j4]; exact w3.2.1, by rw [j5]; exact w3.2.2⟩⟩
  unfold fX6_remake_b223
  rw [if_pos (show (0 : Int32) ≤ nI cN from nI_pos' (by omega)), e_rc a1.1, Option.bind_some, get_r4 a1 a2.1 hx, Option.bind_some, e_rc w2.1, Option.bind_some, j1, Option.bind_some]
theorem typeTold_ok (hC : CR o b K I P N T n0 g R1 F Q U) (hT : TyW T) {wL pL : Nat} (hw : ptr b P wh = some w) (hL : R1 wh = some (L, wL, pL)) {td to : Int32} {j : Nat} (hj : j < T.length) (htd : tyO L td = nI j) (hto : to = -100 ∨ (to ≠ -100 ∧ ∃ l, l < T.length ∧ tyO L to = nI l)) : (∃ J, ((if to = -100 then T else arT T (tyO L td) (tyO L to)).length ≤ 200 ∧ fX6_typeTold o (some w) td to (K, I, P, N) = some (nI (if to = -100 then j else arN T (tyO L td) (tyO L to)), K, J, P, N) ∧ CR o b K J P N (if to = -100 then T else arT T (tyO L td) (tyO L to)) n0 g R1 F Q U)) ∨ (200 < (if to = -100 then T else arT T (tyO L td) (tyO L to)).length ∧ fX6_typeTold o (some w) td to (K, I, P, N) = some (-1, K, I, P, N)) := by
  obtain ⟨w2, w3, -⟩ := hC.rowAt hL hw
  unfold fX6_typeTold
  rcases hto with h | ⟨h, l, h1, h2⟩
  · rw [if_pos h, if_pos h, if_pos h, e_rc w2.1, Option.bind_some, typeOf_r w2 w3.1, Option.bind_some, htd]
    exact Or.inl ⟨I, hC.ty.2.1, rfl, hC⟩
  · rw [if_neg h, if_neg h, if_neg h, g60 hC, Option.bind_some, e_rc w2.1, Option.bind_some, typeOf_r w2 w3.1, Option.bind_some, htd, h2]
    have e1 : Option.bind (crc (K, I, P, N) (some w) 2) (fun c25 => Option.bind (fX2_typeOf c25 to (K, I, P, N)) fun q25 => Option.bind (crc q25.2 (some b) 4) fun c28 => Option.bind (fX4_arrowOf c28 (nI j) q25.1 q25.2) fun q28 => fX6_typeTold_b31 o q28.1 q28.2) = Option.bind (fX4_arrowOf b (nI j) (nI l) (K, I, P, N)) fun q28 => fX6_typeTold_b31 o q28.1 q28.2 := by
      rw [e_rc w2.1, Option.bind_some, typeOf_r w2 w3.1, Option.bind_some, h2, r4 hC, Option.bind_some]
    by_cases hl : (arT T (nI j) (nI l)).length ≤ 200
    · obtain ⟨J, j1, j2⟩ := arrowOf_ok hC hT hj h1 hl
      refine Or.inl ⟨J, hl, ?_, j2⟩
      refine e1.trans ?_
      rw [j1]
      rfl
    · refine Or.inr ⟨by omega, ?_⟩
      refine e1.trans ?_
      rw [arrowOf_no hC hT hj h1 (by omega)]
      rfl
theorem remL_c (hR : gdR R n0 g m) (hX : gdX R n0 g) {s u d k : Nat} (huk : u ≤ k) (hu : gdU vw R n0 g (some s) u) {v : Int32} (hv : v = if vw = true then 0 else 1) {self : Nat → Int32 → Int32 → Int32 → Int32 → Int32 → cS → Option (Int32 × cS × Nat × Nat)} (hself : ∀ s' j st K I P N R1, j < u → gdU vw R n0 g (some s') j → gdS n0 m st → st.1.length + wOf R j ≤ 390 → n0 + st.2.length + pOf R j + 1 ≤ 30 → CR o b K I P N st.1 n0 g R1 F Q U → agr R R1 n0 → remOK o b n0 g F Q U P R1 st (mk vw n0 R k (some s') j st) (pOf R j + 1) (nI (n0 + (mk vw n0 R k (some s') j st).2.length - 1)) (self o (nI s') (nI j) (nI (n0 + st.2.length)) v (nI (d + 1)) (K, I, P, N))) (hwh : wh < 30) : ∀ cnt lf q L st K I P N R1, q + cnt = (sgL R u).length → cnt < lf → gdS n0 m st → gdL (sgL R u) L n0 q st → st.1.length + sumW R ((sgL R u).drop q) ≤ 390 → n0 + st.2.length + sumP R ((sgL R u).drop q) = wh → CR o b K I P N st.1 n0 g R1 F Q U → agr R R1 n0 → R1 wh = some (L, 0, 0) → ptr b P s = some a → ptr b P (200 + u) = some c → ptr b P wh = some w → remOK o b n0 g F Q U P R1 st ((mkL (mk vw n0 R k) vw n0 (Option.map (stR R) (some s)) ((sgL R u).drop q) L st).2.1, (mkL (mk vw n0 R k) vw n0 (Option.map (stR R) (some s)) ((sgL R u).drop q) L st).2.2 ++ [(mkL (mk vw n0 R k) vw n0 (Option.map (stR R) (some s)) ((sgL R u).drop q) L st).1]) (sumP R ((sgL R u).drop q)) (nI wh) (fX6_remake_b72 self o lf v (nI d) (some a) (some c) (nI wh) (some w) (nI (n0 + st.2.length)) (nI q) (K, I, P, N)) := by
  obtain ⟨w1, p1, hs⟩ := hX.1 s (hu.2.2 s rfl).1
  obtain ⟨w2, hyu⟩ := hX.2 u hu.1
  have hs0 := (hu.2.2 s rfl).1
  have h20 := hR.1
  have hY30 := (hR.2.2.2 u hu.1).1.len
  have hg20 := hu.1
  intro cnt
  induction cnt with
  | zero =>
    intro lf q L st K I P N R1 hq hlf hst hL h1 h2 hC hag hRw pa pc pw
    cases lf with
    | zero => omega
    | succ lf =>
      obtain ⟨c1, c2, -⟩ := hC.rowAt ((hag _ (Or.inr (by omega))).trans hyu) pc
      rw [List.drop_eq_nil_of_le (show (sgL R u).length ≤ q by omega)] at h2 ⊢
      refine ⟨K, I, P, N, 0, 0, fun j c hj => hj, by omega, by omega, Or.inl ⟨hC.ty.2.1, ?_, R1, hC, fun j L' hj hj2 => ?_, fun j hj => rfl⟩⟩
      · show fX6_remake_b72_body self o _ v (nI d) (some a) (some c) (nI wh) (some w) (nI (n0 + st.2.length)) (nI q) (K, I, P, N) = _
        unfold fX6_remake_b72_body
        rw [Option.bind_some, e_gI c1.1, Option.bind_some, c2.1.1, if_pos (nI_le (show (sgL R u).length ≤ q by omega) (by omega))]
      · have hj3 : (st.2 ++ [L])[j]? = some L' := hj2
        have hj4 := (List.getElem?_eq_some_iff.mp hj3).1
        have hj5 : j = st.2.length := by simp at hj4; omega
        subst hj5
        rw [List.getElem?_append_right (Nat.le_refl _), Nat.sub_self] at hj3
        cases hj3
        have h3 : sumP R [] = 0 := rfl
        rw [show n0 + st.2.length = wh by omega]
        exact hRw
  | succ cnt ih =>
    intro lf q L st K I P N R1 hq hlf hst hL h1 h2 hC hag hRw pa pc pw
    cases lf with
    | zero => omega
    | succ lf =>
      have hql : q < (sgL R u).length := by omega
      have hg := List.getElem?_eq_getElem hql
      obtain ⟨x, hE⟩ := mk_E hR hu hst hL hql
      obtain ⟨d1, d2⟩ := sumW_drop (R := R) hql
      rw [d1] at h1
      rw [d2] at h2
      have hrec : ∀ s' j st, j < u → gdU vw R n0 g s' j → gdS n0 m st → st.1.length + wOf R j ≤ 390 → n0 + st.2.length + pOf R j + 1 < 2 ^ 30 → gdS n0 m (mk vw n0 R k s' j st) ∧ gdW st (mk vw n0 R k s' j st) (wOf R j) (pOf R j + 1) := fun s' j st hj => mk_ok hR k s' j st (by omega)
      obtain ⟨g1, g2, g3, g4⟩ := mk_step hR hu.1 hrec hst hL hg hE (by omega) (by omega)
      have em : mkL (mk vw n0 R k) vw n0 (Option.map (stR R) (some s)) ((sgL R u).drop q) L st = mkL (mk vw n0 R k) vw n0 (Option.map (stR R) (some s)) ((sgL R u).drop (q + 1)) (L ++ [((sgL R u)[q].1, (sgL R u)[q].2.1, nI (mkN (mk vw n0 R k) vw n0 (Option.map (stR R) (some s)) x (sgL R u)[q] L st).1, -100, x.2.2.2.2.1, -1)]) (mkN (mk vw n0 R k) vw n0 (Option.map (stR R) (some s)) x (sgL R u)[q] L st).2 := by
        rw [List.drop_eq_getElem_cons hql]
        show (match mkX (Option.map (stR R) (some s)) (sgL R u)[q] with
          | none => (L, st)
          | some x => mkL (mk vw n0 R k) vw n0 (Option.map (stR R) (some s)) ((sgL R u).drop (q + 1)) (L ++ [((sgL R u)[q].1, (sgL R u)[q].2.1, nI (mkN (mk vw n0 R k) vw n0 (Option.map (stR R) (some s)) x (sgL R u)[q] L st).1, -100, x.2.2.2.2.1, -1)]) (mkN (mk vw n0 R k) vw n0 (Option.map (stR R) (some s)) x (sgL R u)[q] L st).2) = _
        rw [hE.1]
      have wt1 := g2.2.1
      have s5 : (mkN (mk vw n0 R k) vw n0 (Option.map (stR R) (some s)) x (sgL R u)[q] L st).2.2.length = st.2.length + pt R (sgL R u)[q] := by
        obtain ⟨-, -, E, a3, a4⟩ := g2
        rw [a3, List.length_append, a4]
      obtain ⟨z1, z2, z3⟩ := mkL_ok hR hu hrec cnt (q + 1) _ _ (by omega) g1 g3 (by omega) (by omega)
      have ihx := ih lf (q + 1) (L ++ [((sgL R u)[q].1, (sgL R u)[q].2.1, nI (mkN (mk vw n0 R k) vw n0 (Option.map (stR R) (some s)) x (sgL R u)[q] L st).1, -100, x.2.2.2.2.1, -1)]) (mkN (mk vw n0 R k) vw n0 (Option.map (stR R) (some s)) x (sgL R u)[q] L st).2
      rw [d2, em]
      obtain ⟨p, hp, hx⟩ := mkX_some hE.1
      obtain ⟨a1, a2, -⟩ := hC.rowAt ((hag _ (Or.inl hs0)).trans hs) pa
      obtain ⟨c1, c2, -⟩ := hC.rowAt ((hag _ (Or.inr (by omega))).trans hyu) pc
      have hstp : fX6_remake_b72 self o (lf + 1) v (nI d) (some a) (some c) (nI wh) (some w) (nI (n0 + st.2.length)) (nI q) (K, I, P, N) = if (sgL R u)[q].1 = 2 then abind (self o x.2.2.1 (sgL R u)[q].2.2.1 (nI (n0 + st.2.length)) v (nI d + 1) (K, I, P, N)) (fun v144 z144 => fX6_remake_b223 self o (fX6_remake_b72 self o lf) v (nI d) (some a) (some c) (nI wh) (some w) (v144 + 1) (nI q) (sgL R u)[q].1 (sgL R u)[q].2.1 (nI p) v144 z144)
          else if (sgL R u)[q].2.2.1 = -100 then (if v = 0 then fX6_remake_b223 self o (fX6_remake_b72 self o lf) v (nI d) (some a) (some c) (nI wh) (some w) (nI (n0 + st.2.length)) (nI q) (sgL R u)[q].1 (sgL R u)[q].2.1 (nI p) x.2.2.1 (K, I, P, N) else Option.bind (fX4_newOne b (K, I, P, N)) fun q180 => fX6_remake_b223 self o (fX6_remake_b72 self o lf) v (nI d) (some a) (some c) (nI wh) (some w) (nI (n0 + st.2.length)) (nI q) (sgL R u)[q].1 (sgL R u)[q].2.1 (nI p) q180.1 q180.2)
          else Option.bind (fX6_typeTold o (some w) (sgL R u)[q].2.2.1 (sgL R u)[q].2.2.2.1 (K, I, P, N)) fun q218 => fX6_remake_b223 self o (fX6_remake_b72 self o lf) v (nI d) (some a) (some c) (nI wh) (some w) (nI (n0 + st.2.length)) (nI q) (sgL R u)[q].1 (sgL R u)[q].2.1 (nI p) q218.1 q218.2 := by
        show fX6_remake_b72_body self o _ v (nI d) (some a) (some c) (nI wh) (some w) (nI (n0 + st.2.length)) (nI q) (K, I, P, N) = _
        unfold fX6_remake_b72_body
        rw [Option.bind_some, e_gI c1.1, Option.bind_some, c2.1.1, if_neg (nI_ge (show q < (sgL R u).length from hql) (show (sgL R u).length < 2 ^ 31 by omega)), e_rc c1.1, Option.bind_some, get_r0 c1 c2.1 hg, Option.bind_some]
        show Option.bind (crc (K, I, P, N) (some c) 2) _ = _
        rw [e_rc c1.1, Option.bind_some, get_r1 c1 c2.1 hg, Option.bind_some]
        show Option.bind (crc (K, I, P, N) (some a) 2) _ = _
        rw [e_rc a1.1, Option.bind_some, placeOf_r a1 a2.1, Option.bind_some, hp, plI_some, Nat.zero_add]
        show (if (sgL R u)[q].1 = 2 then Option.bind (crc (K, I, P, N) (some a) 2) _ else Option.bind (crc (K, I, P, N) (some c) 2) _) = _
        by_cases h2 : (sgL R u)[q].1 = 2
        · rw [if_pos h2, if_pos h2, e_rc a1.1, Option.bind_some, get_r2 a1 a2.1 hx, Option.bind_some]
          show Option.bind (crc (K, I, P, N) (some c) 2) _ = _
          rw [e_rc c1.1, Option.bind_some, get_r2 c1 c2.1 hg, Option.bind_some]
          show Option.bind (crc (K, I, P, N) (some o) 6) _ = _
          rw [ro hC, Option.bind_some]
        · rw [if_neg h2, if_neg h2, e_rc c1.1, Option.bind_some, get_r2 c1 c2.1 hg, Option.bind_some]
          show (if (sgL R u)[q].2.2.1 = -100 then (if v = 0 then Option.bind (crc (K, I, P, N) (some a) 2) _ else Option.bind (cgR (K, I, P, N) o 6 0) _) else Option.bind (crc (K, I, P, N) (some c) 2) _) = _
          by_cases h3 : (sgL R u)[q].2.2.1 = -100
          · rw [if_pos h3, if_pos h3]
            by_cases h4 : v = 0
            · rw [if_pos h4, if_pos h4, e_rc a1.1, Option.bind_some, get_r2 a1 a2.1 hx, Option.bind_some]
              rfl
            · rw [if_neg h4, if_neg h4, g60 hC, Option.bind_some, r4 hC, Option.bind_some]
              rfl
          · rw [if_neg h3, if_neg h3, e_rc c1.1, Option.bind_some, get_r2 c1 c2.1 hg, Option.bind_some]
            show Option.bind (crc (K, I, P, N) (some c) 2) _ = _
            rw [e_rc c1.1, Option.bind_some, get_r3 c1 c2.1 hg, Option.bind_some]
            show Option.bind (crc (K, I, P, N) (some o) 6) _ = _
            rw [ro hC, Option.bind_some]
      rw [hstp]
      generalize (sgL R u)[q] = e at *
      generalize hst1 : mkN (mk vw n0 R k) vw n0 (Option.map (stR R) (some s)) x e L st = r1 at *
      generalize hfin : mkL (mk vw n0 R k) vw n0 (Option.map (stR R) (some s)) ((sgL R u).drop (q + 1)) (L ++ [(e.1, e.2.1, nI r1.1, -100, x.2.2.2.2.1, -1)]) r1.2 = r2 at *
      have hq30 : L.length < 30 := by have := hL.1; omega
      obtain ⟨y1, y2, E1, y3, y4⟩ := g2
      obtain ⟨x1, x2, E2, x3, x4⟩ := z2
      have x5 : r2.2.2.length = r1.2.2.length + sumP R ((sgL R u).drop (q + 1)) := by rw [x3, List.length_append, x4]
      have xl := x1.length_le
      -- what is left, once the content is known
      have fin : ∀ K I P N R1, CR o b K I P N r1.2.1 n0 g R1 F Q U → agr R R1 n0 → R1 wh = some (L, 0, 0) → ptr b P s = some a → ptr b P (200 + u) = some c → ptr b P wh = some w → remOK o b n0 g F Q U P R1 r1.2 (r2.2.1, r2.2.2 ++ [r2.1]) (sumP R ((sgL R u).drop (q + 1))) (nI wh) (fX6_remake_b223 self o (fX6_remake_b72 self o lf) v (nI d) (some a) (some c) (nI wh) (some w) (nI (n0 + r1.2.2.length)) (nI q) e.1 e.2.1 (nI p) (nI r1.1) (K, I, P, N)) := by
        intro K I P N R1 hC hag hRw pa pc pw
        obtain ⟨J, j1, j2⟩ := b223_c (self := self) (rec := fX6_remake_b72 self o lf) (l4 := v) (l5 := nI d) (l7 := some c) (l8 := nI wh) (l10 := nI (n0 + r1.2.2.length)) (l11 := nI q) (kd := e.1) (nm := e.2.1) hC pa ((hag _ (Or.inl hs0)).trans hs) pw hRw hq30 hx g4
        rw [j1, nI_1]
        obtain ⟨K3, I3, P3, N3, k1, k2, h1, h2, h3, h4⟩ := ihx K J P N _ (by omega) (by omega) g1 g3 (by omega) (by omega) j2 (fun j hj => by rw [aup_n (by omega)]; exact hag j hj) aup_s pa pc pw
        refine ⟨K3, I3, P3, N3, k1, k2, h1, h2, h3, ?_⟩
        rcases h4 with ⟨h5, h6, R3, h7, h8, h9⟩ | ⟨h5, h6, T3, R3, h7, h8, h9⟩
        · refine Or.inl ⟨h5, h6, R3, h7, h8, fun j hj => ?_⟩
          have hlen : (r2.2.2 ++ [r2.1]).length = r2.2.2.length + 1 := by simp
          rw [h9 j hj, aup_n (by
            have hj2 : j < n0 + r1.2.2.length ∨ n0 + (r2.2.2 ++ [r2.1]).length ≤ j := hj
            omega)]
        · exact Or.inr ⟨h5, h6, T3, R3, h7, h8, fun j hj => by rw [h9 j hj, aup_n (by omega)]⟩
      have bad : ∀ (l10 : Int32) (z : cS), fX6_remake_b223 self o (fX6_remake_b72 self o lf) v (nI d) (some a) (some c) (nI wh) (some w) l10 (nI q) e.1 e.2.1 (nI p) (-1) z = some (-1, z, 0, 0) := fun l10 z => by
        unfold fX6_remake_b223
        rw [if_neg (by decide)]
      -- contents that are no parts
      have plain : ∀ (res : Option (Int32 × cS)), e.1 ≠ 2 → r1.2.2 = st.2 → (∃ J, r1.2.1.length ≤ 200 ∧ res = some (nI r1.1, K, J, P, N) ∧ CR o b K J P N r1.2.1 n0 g R1 F Q U) ∨ (200 < r1.2.1.length ∧ res = some (-1, K, I, P, N)) → remOK o b n0 g F Q U P R1 st (r2.2.1, r2.2.2 ++ [r2.1]) (pt R e + sumP R ((sgL R u).drop (q + 1))) (nI wh) (Option.bind res fun q180 => fX6_remake_b223 self o (fX6_remake_b72 self o lf) v (nI d) (some a) (some c) (nI wh) (some w) (nI (n0 + st.2.length)) (nI q) e.1 e.2.1 (nI p) q180.1 q180.2) := by
        intro res hn2 hD hcase
        have hpt : pt R e = 0 := if_neg hn2
        rcases hcase with ⟨J, i1, i2, i3⟩ | ⟨i1, i2⟩
        · rw [i2, Option.bind_some]
          have h3 := fin K J P N R1 i3 hag hRw pa pc pw
          rw [show r1.2.2.length = st.2.length by rw [hD]] at h3
          have h4 := h3.after (B1 := 0) (ka := 0) (kb := 0) (P := P) (R1 := R1) (E := []) (E2 := E2 ++ [r2.1]) (fun j c hj => hj) (by omega) (by omega) y1 (by rw [hD, List.append_nil]) (by show r2.2.2 ++ [r2.1] = _; rw [x3, List.append_assoc]) (by rw [hD]; omega) (fun j L hj hj2 => by
            have := (List.getElem?_eq_some_iff.mp hj2).1
            rw [hD] at this
            omega) (fun j _ => rfl)
          rw [ause_0] at h4
          rw [hpt]
          exact h4
        · rw [i2, Option.bind_some]
          refine ⟨K, I, P, N, 0, 0, fun j c hj => hj, by omega, by omega, Or.inr ⟨?_, bad _ _, st.1, R1, hC, List.prefix_refl _, fun j _ => rfl⟩⟩
          show 200 < r2.2.1.length
          omega
      rcases hE.2.2.2.2 with ⟨k2, j, j1, j2, j3, j4⟩ | ⟨k0, k1, k2, k3⟩ | ⟨k0, k1, ⟨j, j1, j2, -⟩, k3⟩
      · obtain ⟨i, i1, i2⟩ := j4 _ rfl
        have hmk : r1 = (n0 + (mk vw n0 R k (some i) j st).2.length - 1, mk vw n0 R k (some i) j st) := by
          rw [← hst1]
          unfold mkN
          rw [if_pos k2, j2, iN_nI (by omega)]
          show (n0 + (mk vw n0 R k (some (iN x.2.2.1)) j st).2.length - 1, mk vw n0 R k (some (iN x.2.2.1)) j st) = _
          rw [i2, iN_nI (by have := hR.2.1; omega)]
        have j3b : gdU vw R n0 g (some i) j := by
          have : mkU (Option.map (stR R) (some s)) x = some i := by
            show some (iN x.2.2.1) = _
            rw [i2, iN_nI (by have := hR.2.1; omega)]
          rw [← this]
          exact j3
        have hpt : pt R e = 1 + pOf R j := by unfold pt; rw [if_pos k2, j2, iN_nI (by omega)]
        have hwt : wt R e = 1 + wOf R j := by unfold wt; rw [if_pos k2, j2, iN_nI (by omega)]
        have r12 : r1.2 = mk vw n0 R k (some i) j st := by rw [hmk]
        have r11 : r1.1 = n0 + r1.2.2.length - 1 := by rw [hmk]
        have hs2 := hself i j st K I P N R1 j1 j3b hst (by omega) (by omega) hC hag
        rw [← r12] at hs2
        obtain ⟨K2, I2, P2, N2, ka, kb, hP, hka, hkb, hcase⟩ := hs2
        rw [if_pos k2, i2, j2, nI_1]
        rcases hcase with ⟨i5, i6, R2, hC2, rows, oth⟩ | ⟨i5, i6, T2, R2, hC2, pre, oth⟩
        · rw [i6]
          show remOK o b n0 g F Q U P R1 st (r2.2.1, r2.2.2 ++ [r2.1]) (pt R e + sumP R ((sgL R u).drop (q + 1))) (nI wh) (ause ka kb (fX6_remake_b223 self o (fX6_remake_b72 self o lf) v (nI d) (some a) (some c) (nI wh) (some w) (nI (n0 + r1.2.2.length - 1) + 1) (nI q) e.1 e.2.1 (nI p) (nI (n0 + r1.2.2.length - 1)) (K2, I2, P2, N2)))
          rw [nI_1, show n0 + r1.2.2.length - 1 + 1 = n0 + r1.2.2.length by omega, ← r11]
          have h4 := (fin K2 I2 P2 N2 R2 hC2 (fun k hk => (oth k (by omega)).trans (hag k hk)) ((oth wh (Or.inr (by omega))).trans hRw) (hP _ _ pa) (hP _ _ pc) (hP _ _ pw)).after (B1 := pOf R j + 1) (P := P) (R1 := R1) (E := E1) (E2 := E2 ++ [r2.1]) hP hka hkb y1 y3 (by show r2.2.2 ++ [r2.1] = _; rw [x3, List.append_assoc]) (by omega) rows oth
          rw [show pt R e = pOf R j + 1 by omega]
          exact h4
        · rw [i6]
          refine ⟨K2, I2, P2, N2, ka + 0, kb + 0, hP, by omega, by omega, Or.inr ⟨?_, ?_, T2, R2, hC2, pre, oth⟩⟩
          · show 200 < r2.2.1.length
            omega
          · show ause ka kb (fX6_remake_b223 self o (fX6_remake_b72 self o lf) v (nI d) (some a) (some c) (nI wh) (some w) (-1 + 1) (nI q) e.1 e.2.1 (nI p) (-1) (K2, I2, P2, N2)) = _
            rw [bad]
            rfl
      · have n2 : e.1 ≠ 2 := by rw [k0]; exact i02
        have hmk : r1 = ((mkT vw L x e st.1).1, (mkT vw L x e st.1).2, st.2) := by rw [← hst1]; exact if_neg n2
        unfold mkT at hmk
        rw [if_pos k1] at hmk
        rw [if_neg n2, if_pos k1]
        by_cases hvw : vw = true
        · rw [if_pos hvw] at hv hmk
          obtain ⟨i, i1, i2⟩ := k3 hvw
          have hm390 := hst.2.2.1
          have hm2 := hst.2.1
          rw [if_pos hv]
          have h4 := plain (some (x.2.2.1, K, I, P, N)) n2 (by rw [hmk]) (Or.inl ⟨I, by rw [hmk]; exact hC.ty.2.1, by rw [hmk, i2]; show _ = some (nI (iN (nI i)), _); rw [iN_nI (by omega)], by rw [hmk]; exact hC⟩)
          exact h4
        · rw [if_neg hvw] at hv hmk
          rw [if_neg (by rw [hv]; decide)]
          refine plain _ n2 (by rw [hmk]) ?_
          by_cases hl : st.1.length < 200
          · obtain ⟨J, j1, j2⟩ := newOne_ok hC hl
            exact Or.inl ⟨J, by rw [hmk]; show (st.1 ++ [none]).length ≤ 200; simp; omega, by rw [hmk]; exact j1, by rw [hmk]; exact j2⟩
          · exact Or.inr ⟨by rw [hmk]; show 200 < (st.1 ++ [none]).length; simp; omega, newOne_no hC (by omega)⟩
      · have n2 : e.1 ≠ 2 := by rcases k0 with h | h <;> rw [h] <;> decide
        have hmk : r1 = ((mkT vw L x e st.1).1, (mkT vw L x e st.1).2, st.2) := by rw [← hst1]; exact if_neg n2
        unfold mkT at hmk
        rw [if_neg k1] at hmk
        rw [if_neg n2, if_neg k1]
        refine plain _ n2 (by rw [hmk]) ?_
        have h4 := typeTold_ok (N := N) hC hst.1 pw hRw j1 j2 (k3.imp id (fun h => ⟨h.2.1, let ⟨l, l1, l2, _⟩ := h.2.2; ⟨l, l1, l2⟩⟩))
        have hj31 : j < 2 ^ 31 := by have := hst.2.2.1; omega
        by_cases hto : e.2.2.2.1 = -100
        · rw [if_pos hto] at hmk
          rw [if_pos hto, if_pos hto] at h4
          rw [hmk]
          show (∃ J, st.1.length ≤ 200 ∧ _ = some (nI (iN (tyO L e.2.2.1)), K, J, P, N) ∧ CR o b K J P N st.1 n0 g R1 F Q U) ∨ (200 < st.1.length ∧ _)
          rw [j2, iN_nI hj31]
          exact h4
        · rw [if_neg hto] at hmk
          rw [if_neg hto, if_neg hto] at h4
          rw [hmk]
          exact h4
end Remake
