/-! MAKING A STRUCT BY A SIGNATURE: the class, the call -/
section Remake2
variable {o b n0 g m : Nat} {K : Nat → Option (Nat × Nat)} {I J : Nat → Nat → Int32} {P P2 : Nat → Nat → Option Nat} {N a c w wh : Nat} {T : List TyD} {R R1 R2 : Nat → Option RowD} {F : List FuD} {Q : List (Int32 × Int32)} {U : List UnD} {X Y L : List En} {vw : Bool}
theorem remake_top (hX : gdX R n0 g) {s u d fu f0 : Nat} {v : Int32} (hs : s < n0) (hu : u < g) (hd : d ≤ 20) (hf0 : f0 + pOf R u < 2 ^ 30) (hC : CR o b K I P N T n0 g R1 F Q U) (hag : agr R R1 n0) : ∃ a c, ptr b P s = some a ∧ ptr b P (200 + u) = some c ∧ fX6_remake (fu + 1) o (nI s) (nI u) (nI f0) v (nI d) (K, I, P, N) = abind (fX3_blank (b + 3) (nI (f0 + pOf R u)) (K, I, P, N)) fun v54 z54 => if v54 = none then some (-1, z54, 0, 0) else fX6_remake_b72 (fX6_remake fu) o rFuel v (nI d) (some a) (some c) (nI (f0 + pOf R u)) v54 (nI f0) 0 z54 := by
  obtain ⟨w1, p1, rs⟩ := hX.1 s hs
  obtain ⟨w2, ru⟩ := hX.2 u hu
  obtain ⟨a, a1, a2, a3, a4⟩ := atS hC hs ((hag _ (Or.inl hs)).trans rs)
  obtain ⟨c, c1, c2, c3, c4⟩ := atG hC hu ((hag _ (Or.inr (by omega))).trans ru)
  refine ⟨a, c, a1, c1, ?_⟩
  show fX6_remake_fun (fX6_remake fu) o (nI s) (nI u) (nI f0) v (nI d) (K, I, P, N) = _
  unfold fX6_remake_fun
  rw [g61 hC, Option.bind_some, r3 hC, Option.bind_some, a4, Option.bind_some]
  show Option.bind (cgR (K, I, P, N) o 6 2) _ = _
  rw [g62 hC, Option.bind_some, r5 hC, Option.bind_some, c4, Option.bind_some]
  show (if some a = none then _ else if some c = none then _ else if nI d ≤ (20 : Int32) then Option.bind (some c) _ else _) = _
  rw [if_neg (fun e => by cases e), if_neg (fun e => by cases e), show (20 : Int32) = nI 20 from rfl, if_pos (nI_le hd (by omega)), Option.bind_some]
  show Option.bind (cgI (K, I, P, N) c 2 3) _ = _
  rw [e_gI c2.1, Option.bind_some, c3.2.2]
  show Option.bind (cgR (K, I, P, N) o 6 1) _ = _
  rw [g61 hC, Option.bind_some]
  show Option.bind (crc (K, I, P, N) (some (b + 3)) 3) _ = _
  rw [r3 hC, Option.bind_some]
  show abind (fX3_blank (b + 3) (nI f0 + nI (pOf R u)) (K, I, P, N)) _ = _
  rw [nI_add]
theorem remake_no (hX : gdX R n0 g) {s u d fu f0 : Nat} {v : Int32} (hs : s < n0) (hu : u < g) (hd : d ≤ 20) (hf0 : f0 + pOf R u < 2 ^ 30) (hC : CR o b K I P N T n0 g R1 F Q U) (hag : agr R R1 n0) (h30 : 30 ≤ f0 + pOf R u) : fX6_remake (fu + 1) o (nI s) (nI u) (nI f0) v (nI d) (K, I, P, N) = some (-1, (K, I, P, N), 0, 0) := by
  obtain ⟨a, c, -, -, h⟩ := remake_top (fu := fu) (v := v) hX hs hu hd hf0 hC hag
  rw [h, blank_no hC.shS (Or.inr (Or.inr (nI_nlt h30 (by omega))))]
  rfl
theorem remake_c (hR : gdR R n0 g m) (hX : gdX R n0 g) {v : Int32} (hv : v = if vw = true then 0 else 1) : ∀ k s u d fu st K I P N R1, u < k → u < fu → u + d ≤ 19 → gdU vw R n0 g (some s) u → gdS n0 m st → st.1.length + wOf R u ≤ 390 → n0 + st.2.length + pOf R u + 1 ≤ 30 → CR o b K I P N st.1 n0 g R1 F Q U → agr R R1 n0 → remOK o b n0 g F Q U P R1 st (mk vw n0 R k (some s) u st) (pOf R u + 1) (nI (n0 + (mk vw n0 R k (some s) u st).2.length - 1)) (fX6_remake fu o (nI s) (nI u) (nI (n0 + st.2.length)) v (nI d) (K, I, P, N)) := by
  intro k
  induction k with
  | zero => intro s u d fu st K I P N R1 h; omega
  | succ k ih =>
    intro s u d fu st K I P N R1 hk hf hd hu hst h1 h2 hC hag
    cases fu with
    | zero => omega
    | succ fu =>
      obtain ⟨hY, ew, ep, -⟩ := hR.2.2.2 u hu.1
      have hY30 := hY.len
      have hs0 := (hu.2.2 s rfl).1
      have hu0 := hu.1
      have h20 := hR.1
      obtain ⟨a, c, pa, pc, htop⟩ := remake_top (fu := fu) (v := v) (f0 := n0 + st.2.length) hX hs0 hu0 (show d ≤ 20 by omega) (by omega) hC hag
      obtain ⟨w, K2, I2, P2, N2, ka, kb, e1, e2, e3, e4, e5, e6⟩ := blank_ok hC hC.shS (Or.inl rfl) (k := n0 + st.2.length + pOf R u) (by omega) (by omega)
      rw [Nat.zero_add] at e4 e5
      have hl := remL_c (o := o) (b := b) (F := F) (Q := Q) (U := U) (d := d) (k := k) (self := fX6_remake fu) (wh := n0 + st.2.length + pOf R u) (a := a) (c := c) (w := w) hR hX (show u ≤ k by omega) hu hv (fun s' j st K I P N R1 hj q1 q2 q3 q4 q5 q6 => ih s' j (d + 1) fu st K I P N R1 (by omega) (by omega) (by omega) q1 q2 q3 q4 q5 q6) (by omega) (sgL R u).length rFuel 0 [] st K2 I2 P2 N2 _ (by omega) (by show (sgL R u).length < 100000; omega) hst ⟨rfl, fun r e y h => by simp at h, WfS.nil⟩ (by rw [List.drop_zero]; omega) (by rw [List.drop_zero]; omega) e5 (fun j hj => by rw [aup_n (by omega)]; exact hag j hj) aup_s (e6 _ _ pa) (e6 _ _ pc) e4
      rw [List.drop_zero] at hl
      rw [htop, e1]
      show remOK o b n0 g F Q U P R1 st ((mkL (mk vw n0 R k) vw n0 (Option.map (stR R) (some s)) (sgL R u) [] st).2.1, (mkL (mk vw n0 R k) vw n0 (Option.map (stR R) (some s)) (sgL R u) [] st).2.2 ++ [(mkL (mk vw n0 R k) vw n0 (Option.map (stR R) (some s)) (sgL R u) [] st).1]) (pOf R u + 1) (nI (n0 + ((mkL (mk vw n0 R k) vw n0 (Option.map (stR R) (some s)) (sgL R u) [] st).2.2 ++ [(mkL (mk vw n0 R k) vw n0 (Option.map (stR R) (some s)) (sgL R u) [] st).1]).length - 1)) (ause ka kb (if some w = none then some (-1, (K2, I2, P2, N2), 0, 0) else fX6_remake_b72 (fX6_remake fu) o rFuel v (nI d) (some a) (some c) (nI (n0 + st.2.length + pOf R u)) (some w) (nI (n0 + st.2.length)) (nI 0) (K2, I2, P2, N2)))
      rw [if_neg (fun e => by cases e)]
      obtain ⟨-, z2, -⟩ := mkL_ok hR hu (rec := mk vw n0 R k) (fun s' j st hj => mk_ok hR k s' j st (by omega)) (sgL R u).length 0 [] st (by omega) hst ⟨rfl, fun r e y h => by simp at h, WfS.nil⟩ (by rw [List.drop_zero]; omega) (by rw [List.drop_zero]; omega)
      rw [List.drop_zero] at z2
      generalize mkL (mk vw n0 R k) vw n0 (Option.map (stR R) (some s)) (sgL R u) [] st = r at *
      obtain ⟨x1, x2, E2, x3, x4⟩ := z2
      have hlen : (r.2.2 ++ [r.1]).length = st.2.length + pOf R u + 1 := by rw [x3, List.length_append, List.length_append, x4, ← ep]; rfl
      rw [hlen, show n0 + (st.2.length + pOf R u + 1) - 1 = n0 + st.2.length + pOf R u by omega]
      obtain ⟨K3, I3, P3, N3, k1, k2, h5, h6, h7, h8⟩ := hl
      rw [← ep] at h6 h7
      refine ⟨K3, I3, P3, N3, ka + k1, kb + k2, fun j q hj => h5 j q (e6 j q hj), by omega, by omega, ?_⟩
      rcases h8 with ⟨i1, i2, R3, i3, i4, i5⟩ | ⟨i1, i2, T3, R3, i3, i4, i5⟩
      · refine Or.inl ⟨i1, by rw [i2]; rfl, R3, i3, i4, fun j hj => ?_⟩
        have hj2 : j < n0 + st.2.length ∨ n0 + (r.2.2 ++ [r.1]).length ≤ j := hj
        rw [i5 j hj, aup_n (by omega)]
      · exact Or.inr ⟨i1, by rw [i2]; rfl, T3, R3, i3, i4, fun j hj => by rw [i5 j hj, aup_n (by omega)]⟩
end Remake2
