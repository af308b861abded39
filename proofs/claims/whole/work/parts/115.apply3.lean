/-! APPLYING: the call -/
section Apply3
variable {o b t : Nat} {K : Nat → Option (Nat × Nat)} {I J : Nat → Nat → Int32} {P : Nat → Nat → Option Nat} {N a : Nat} {f : Nat → Int32} {M W : Nat → Nat → Int32} {T T1 T2 : List TyD} {n n2 g : Nat} {R R1 R2 : Nat → Option RowD} {F F2 : List FuD} {Q : List (Int32 × Int32)} {U : List UnD} {s i : Nat} {x y : FuD} {B L1 : List En} {wB pB : Nat} {rc : Option Nat}
theorem functorAt_ok (hC : CR o b K I P N T n g R F Q U) {i : Nat} (hi : i < 8) : fX6_functorAt o (nI i) (K, I, P, N) = some (ptr b P (400 + i), K, I, P, N) := by
  obtain ⟨⟨s1, s2, s3, s4, s5, s6, s7, s8, s9, s10, s11⟩, t1, t2, t3, t4, t5, t6, t7, -⟩ := hC.sf
  unfold fX6_functorAt
  rw [if_neg (nI_pos (by omega)), e_gR s1, Option.bind_some, t7, Option.bind_some, e_len s9, Option.bind_some, if_neg (nI_ge hi (by omega)), Option.bind_some, Option.bind_some, e_ldR s9 hi (by omega), Option.bind_some, ptr4 hi]
  rfl
theorem functorAt_no (hC : CR o b K I P N T n g R F Q U) {x : Int32} (hx : x < 0 ∨ nI F.length ≤ x) : fX6_functorAt o x (K, I, P, N) = some (none, K, I, P, N) := by
  obtain ⟨⟨s1, s2, s3, s4, s5, s6, s7, s8, s9, s10, s11⟩, t1, t2, t3, t4, t5, t6, t7, -⟩ := hC.sf
  have h8 := hC.fu.2.1
  rcases pk_ix x (n := 8) (by omega) with h | h | ⟨j, hj, rfl⟩
  · unfold fX6_functorAt
    rw [if_pos h]
    rfl
  · unfold fX6_functorAt
    by_cases h0 : x < 0
    · rw [if_pos h0]
      rfl
    · rw [if_neg h0, e_gR s1, Option.bind_some, t7, Option.bind_some, e_len s9, Option.bind_some, if_pos h]
      rfl
  · rw [functorAt_ok hC hj]
    have hjl : F.length ≤ j := by
      rcases hx with h | h
      · exact absurd h (nI_pos (by omega))
      · exact Classical.byContradiction (fun h9 => nI_ge (show j < F.length by omega) (by omega) h)
    rw [hC.fu.2.2.2 j hjl hj]
/-- the class, to where it makes something new -/
theorem apply_top (hW : WF t T n g R F Q U) (hC : CR o b K I P N T n g R F Q U) (hF : F[i]? = some x) (ha : ptr b P (400 + i) = some a) (hs : s < n) {ar : Nat} (har : ar < g) (hx1 : x.1 = nI ar) : fX6_apply o (nI i) (nI s) (K, I, P, N) = if (if x.2.2.1 = 0 then (-1 : Int32) else x.2.2.2 s) = -1 then (if ms T R s ar = 0 then (abind (fX6_applyAnew o (some a) (nI s) (K, I, P, N)) fun v95 z95 =>
            if (v95) = ((-1)) then
              Option.bind (cgR z95 o 6 0) fun x107 =>
              Option.bind x107 fun q112 =>
              Option.bind (cpI z95 q112 4 2 (nI T.length)) fun z112 =>
              Option.bind (cgR z112 o 6 1) fun x116 =>
              Option.bind x116 fun q121 =>
              Option.bind (cpI z112 q121 3 1 (nI n)) fun z121 =>
              some ((.inr 2 : Int32 ⊕ Nat), z121, 1, 6)
            else
              Option.bind (crc z95 (some a) 0) fun c139 =>
              Option.bind (fX0_note c139 (nI s) v95 z95) fun q139 =>
              some (.inl v95, q139.2, 0, 0)) else some (.inr 2, (K, I, P, N), 1, 6)) else some (.inl (x.2.2.2 s), (K, I, P, N), 0, 0) := by
  have h30 := hW.1.2.2.1
  obtain ⟨hi8, k0, ⟨q1, q2, q3, q4⟩, k3, k4, k5, k6⟩ := fuAt hC hF ha
  obtain ⟨wX, pX, rX, hX⟩ := hW.stAt hs
  obtain ⟨d, d1, d2, d3, hd⟩ := atS hC hs rX
  have hres : fX0_resultOf a (nI s) (K, I, P, N) = some (if x.2.2.1 = 0 then (-1 : Int32) else x.2.2.2 s, K, I, P, N) := by
    unfold fX0_resultOf
    rw [e_gI k0, Option.bind_some, q3]
    by_cases hp : x.2.2.1 = 0
    · rw [if_pos hp, if_pos hp]
      rfl
    · rw [if_neg hp, if_neg hp, e_gR k0, Option.bind_some, k4, e_read k5 (by omega) (by omega), Option.bind_some, q4 s (by omega)]
      rfl
  unfold fX6_apply
  rw [ro hC, Option.bind_some, functorAt_ok hC hi8, ha, Option.bind_some]
  show (if some a = none then _ else Option.bind (cgR (K, I, P, N) o 6 1) _) = _
  rw [if_neg (fun e => by cases e), g61 hC, Option.bind_some, r3 hC, Option.bind_some, hd, Option.bind_some]
  show (if some d = none then _ else Option.bind (crc (K, I, P, N) (some a) 0) _) = _
  rw [if_neg (fun e => by cases e), e_rc k0, Option.bind_some, hres, Option.bind_some]
  generalize hr : (if x.2.2.1 = 0 then (-1 : Int32) else x.2.2.2 s) = r
  show (if r = -1 then Option.bind (cgR (K, I, P, N) o 6 1) _ else some ((.inl r : Int32 ⊕ Nat), (K, I, P, N), 0, 0)) = _
  by_cases hr1 : r = -1
  · rw [if_pos hr1, if_pos hr1, g61 hC, Option.bind_some, Option.bind_some, e_gI k0, Option.bind_some, q1, hx1, ro hC, Option.bind_some, misfit_S hC hW.1.1 hW.wfSt (Nat.le_refl _) hW.wfGm hs har, Option.bind_some]
    show (if ms T R s ar = 0 then Option.bind (cgR (K, I, P, N) o 6 0) _ else _) = _
    by_cases hm : ms T R s ar = 0
    · rw [if_pos hm, if_pos hm, g60 hC, Option.bind_some, Option.bind_some, e_gI hC.K0, Option.bind_some, hC.ty.1]
      show Option.bind (cgR (K, I, P, N) o 6 1) _ = _
      rw [g61 hC, Option.bind_some, Option.bind_some, e_gI hC.shS.1, Option.bind_some, hC.cn.1]
      show Option.bind (crc (K, I, P, N) (some o) 6) _ = _
      rw [ro hC, Option.bind_some]
    · rw [if_neg hm, if_neg hm]
  · have hp : ¬ x.2.2.1 = 0 := fun h => hr1 (by rw [← hr, if_pos h])
    rw [if_neg hr1, if_neg hr1, ← hr, if_neg hp]
theorem apply_rtop (hR : RR f M T n g R F Q U) (hW : WF t T n g R F Q U) (hF : F[i]? = some x) (hs : s < n) {ar : Nat} (har : ar < g) (hx1 : x.1 = nI ar) : ∃ W, RR f W T n g R F Q U ∧ fX7_apply (nI i) (nI s) (f, M) = if (if x.2.2.1 = 0 then (-1 : Int32) else x.2.2.2 s) = -1 then (if ms T R s ar = 0 then fX7_apply_b116 (nI i) (nI s) 1 (nI (30 * i + s)) (nI T.length) (nI n) 1 (f, W) else some (0, upd f 54 2, W)) else some (x.2.2.2 s, upd f 54 0, M) := by
  have h30 := hW.1.2.2.1
  have h8 := hR.fu.2.1
  have hi := (List.getElem?_eq_some_iff.mp hF).1
  obtain ⟨a1, a2, a3, a4⟩ := hR.fu.2.2.1 i x hF
  obtain ⟨W, d1, d2, -⟩ := matchOf_r hR hW.1.1 hW.wfSt (Nat.le_refl _) hW.wfGm hs har
  refine ⟨W, d2, ?_⟩
  have b25 : rd (f, M) 25 (nI i) = some (nI ar) := by rw [r_rd 8 rfl (by omega) (by omega), a1, hx1]
  have b27 : rd (f, M) 27 (nI i) = some x.2.2.1 := by rw [r_rd 8 rfl (by omega) (by omega), a3]
  have e30 : (30 : Int32) * nI i + nI s = nI (30 * i + s) := by rw [show (30 : Int32) = nI 30 from rfl, pk_mul, nI_add]
  have b28 : ∀ h : Nat → Int32, rd (h, M) 28 (nI (30 * i + s)) = some (x.2.2.2 s) := fun h => by rw [r_rd 240 rfl (by omega) (by omega), a4 s (by omega)]
  have hn : ¬ (nI i < 0 ∨ nI F.length - 1 < nI i) := fun hh => ((lt_cnt (by omega)).mp hh).elim (nI_pos (by omega)) (nI_ge hi (by omega))
  have b81 : fX7_apply_b81 (nI i) (nI s) 1 (nI (30 * i + s)) (f, M) = if ms T R s ar = 0 then fX7_apply_b116 (nI i) (nI s) 1 (nI (30 * i + s)) (nI T.length) (nI n) 1 (f, W) else some (0, upd f 54 2, W) := by
    unfold fX7_apply_b81
    show (if (1 : Int32) = 0 then _ else Option.bind (rd (f, M) 25 (nI i)) fun x104 => Option.bind (fX7_matchOf (nI s) x104 (f, M)) fun q105 => if (q105.1) = 0 then fX7_apply_b116 (nI i) (nI s) 1 (nI (30 * i + s)) (f 0) (f 4) 1 (q105.2) else fX7_apply_b115 (nI i) (nI s) 1 (nI (30 * i + s)) (f 0) (f 4) (q105.2)) = _
    rw [if_neg i10, b25, Option.bind_some, d1, Option.bind_some, hR.ty.1, hR.cn.1]
    show (if ms T R s ar = 0 then fX7_apply_b116 (nI i) (nI s) 1 (nI (30 * i + s)) (nI T.length) (nI n) 1 (f, W) else fX7_apply_b115 (nI i) (nI s) 1 (nI (30 * i + s)) (nI T.length) (nI n) (f, W)) = _
    by_cases hm : ms T R s ar = 0
    · rw [if_pos hm, if_pos hm]
    · rw [if_neg hm, if_neg hm]
      unfold fX7_apply_b115 fX7_apply_b116
      rw [if_pos rfl]
      unfold fX7_apply_b133
      rw [if_pos rfl, b196_no d2 (Or.inl rfl), upd_id (f := f) hR.ty.1, upd_id (f := f) hR.cn.1]
  unfold fX7_apply
  show Option.bind (fX7_isIn (nI i) 0 (f 17 - 1) (f, M)) _ = _
  rw [hR.fu.1, isIn_t (fun hh => hn (Or.inl hh)) (fun hh => hn (Or.inr hh)), Option.bind_some]
  show (if (1 : Int32) = 0 then _ else Option.bind (fX7_isStructure (nI s) (f, M)) _) = _
  rw [if_neg i10, isStr_t hR hs, Option.bind_some]
  show (if (1 : Int32) = 0 then _ else fX7_apply_b27 (nI i) (nI s) 1 (f, M)) = _
  rw [if_neg i10]
  unfold fX7_apply_b27
  rw [if_neg i10, e30]
  unfold fX7_apply_b42
  rw [if_neg i10, b27, Option.bind_some]
  by_cases hp : x.2.2.1 = 0
  · rw [if_pos hp, if_pos (show (if x.2.2.1 = 0 then (-1 : Int32) else x.2.2.2 s) = -1 from if_pos hp)]
    exact b81
  · rw [if_neg hp, b28, Option.bind_some]
    by_cases hr : x.2.2.2 s = -1
    · rw [if_pos hr, if_pos (show (if x.2.2.1 = 0 then (-1 : Int32) else x.2.2.2 s) = -1 by rw [if_neg hp]; exact hr)]
      exact b81
    · rw [if_neg hr, if_neg (show ¬ (if x.2.2.1 = 0 then (-1 : Int32) else x.2.2.2 s) = -1 by rw [if_neg hp]; exact hr)]
      show Option.bind (rd (upd f 54 0, M) 28 (nI (30 * i + s))) _ = _
      rw [b28, Option.bind_some]
      rfl
theorem apply_bad (hR : RR f M T n g R F Q U) {p q : Int32} (h : (p < 0 ∨ nI F.length ≤ p) ∨ ∃ i, i < F.length ∧ p = nI i ∧ (q < 0 ∨ nI n ≤ q)) : fX7_apply p q (f, M) = some (0, upd f 54 1, M) := by
  have h8 := hR.fu.2.1
  have bad : fX7_apply_b26 p q (f, M) = some (0, upd f 54 1, M) := by
    unfold fX7_apply_b26 fX7_apply_b27
    rw [if_pos rfl]
    unfold fX7_apply_b42
    rw [if_pos rfl]
    unfold fX7_apply_b81
    show (if (0 : Int32) = 0 then fX7_apply_b115 p q 0 0 (f 0) (f 4) (f, M) else _) = _
    rw [if_pos rfl]
    unfold fX7_apply_b115 fX7_apply_b116
    rw [if_pos rfl]
    unfold fX7_apply_b133
    rw [if_pos rfl]
    unfold fX7_apply_b196
    rw [if_pos rfl]
    exact b224_bad rfl rfl
  unfold fX7_apply
  show Option.bind (fX7_isIn p 0 (f 17 - 1) (f, M)) _ = _
  rw [hR.fu.1]
  rcases h with h | ⟨i, hi, rfl, h⟩
  · rw [isIn_f ((lt_cnt (by omega)).mpr h), Option.bind_some, if_pos rfl]
    exact bad
  · have hn : ¬ (nI i < 0 ∨ nI F.length - 1 < nI i) := fun hh => ((lt_cnt (by omega)).mp hh).elim (nI_pos (by omega)) (nI_ge hi (by omega))
    rw [isIn_t (fun hh => hn (Or.inl hh)) (fun hh => hn (Or.inr hh)), Option.bind_some, if_neg i10, isStr_f hR h, Option.bind_some, if_pos rfl]
    exact bad
theorem s_apply (o t : Nat) : sim_apply o (Inv o t) (Inv o (t + 1)) := by
  intro z S p0 p1 hI
  obtain ⟨K, I, P, N0⟩ := z
  obtain ⟨f, M⟩ := S
  refine sim_core (fun e => e = 0 ∨ e = 2) (fun e => if e = 0 then 1 else (if e = 2 then 2 else 0)) hI (fun b T n g R F Q U hR hW => ?_)
  have h20 := hW.1.2.2.2
  have h30 := hW.1.2.2.1
  have h200 := hW.1.2.1
  have h8 := hR.fu.2.1
  rcases ix_em p0 (n := F.length) (by omega) with ⟨i, hi, rfl⟩ | h1
  · rcases ix_em p1 (n := n) (by omega) with ⟨s, hs, rfl⟩ | h2
    · have hF := List.getElem?_eq_getElem hi
      generalize F[i] = x at hF
      obtain ⟨⟨ar, har, hx1, LA, wa, pa, LB, wb, pb, rA, rB, hfrom⟩, hx2, hx3, hx4⟩ := hW.2.2.2.2.1 i x hF
      obtain ⟨rc, hrc, hrg⟩ : ∃ rc : Option Nat, x.2.1 = sI rc ∧ ∀ c, rc = some c → c < g := by
        rcases hx2 with h | ⟨c, hc, h⟩
        · exact ⟨none, h, fun c h => by cases h⟩
        · exact ⟨some c, h, fun c2 h => by cases h; exact hc⟩
      obtain ⟨LB2, wb2, pb2, rB2, hWB⟩ := hW.2.2.2.1 i (Or.inl hi)
      rw [rB] at rB2
      cases rB2
      obtain ⟨wX, pX, rX, hX⟩ := hW.stAt hs
      have ptrF : ∀ N, CR o b K I P N T n g R F Q U → ∃ a, ptr b P (400 + i) = some a := fun N hC => let ⟨a, a1, _⟩ := hC.fu.2.2.1 i x hF; ⟨a, a1⟩
      obtain ⟨W, hRW, hrt⟩ := apply_rtop hR hW hF hs har hx1
      by_cases hknown : (if x.2.2.1 = 0 then (-1 : Int32) else x.2.2.2 s) = -1
      · rw [if_pos hknown] at hrt
        by_cases hm : ms T R s ar = 0
        · rw [if_pos hm] at hrt
          have hok : glOK LB (stR R s) T.length n := by
            refine ⟨hWB, hX, fun p e he hne hnone => ?_⟩
            have h9 := hfrom p e he hne
            cases hp : plc LA e.1 e.2.2.2.2.2 with
            | none => exact h9 hp
            | some p' =>
              obtain ⟨y, y1, y2, y3⟩ := plc_some hp
              obtain ⟨r1, r2, r3⟩ := hW.sgAt har
              rw [rA] at r1
              cases r1
              obtain ⟨p2, m, m1, -⟩ := mfL_0 (sgL R ar) (fun e he => by
                obtain ⟨p, hp⟩ := List.mem_iff_getElem?.mp he
                exact (r3.2 p e hp).kind) (fun p kd nm h => let ⟨y, a, _⟩ := plc_some h; ⟨y, a⟩) (show mfL (mf (fitS T) (stR R) R 29) (fitS T (stR R s)) (stR R s) (sgL R ar) = 0 from hm) y (List.mem_of_getElem? y1)
              rw [y2, y3, hnone] at m1
              cases m1
          obtain ⟨L1, T1, hgl⟩ : ∃ L1 T1, glL (stR R s) LB [] T = (L1, T1) := ⟨_, _, rfl⟩
          have hB20 := hok.1.len
          obtain ⟨g1, g2, g3, g4⟩ := gl_ok hok LB.length 0 [] T (by omega) hW.1.1 (Nat.le_refl _) (by omega) ⟨rfl, fun r e y h => by simp at h, WfS.nil⟩
          rw [List.drop_zero, hgl] at g1 g2 g3 g4
          have hT1 : T1.length ≤ T.length + LB.length := g3
          have g2' : T <+: T1 := g2
          have hpl := g2'.length_le
          obtain ⟨f2, V, hrr⟩ := apply2_r hRW hW hF hs hrc hrg rB hok hgl
          by_cases hap : apOK n (newR R n [L1]) T1 rc
          · rcases hrr with ⟨-, r2, r3⟩ | ⟨r1, -⟩
            · have hfin : WF t (apS n (newR R n [L1]) T1 rc).1 (n + 1 + (apS n (newR R n [L1]) T1 rc).2.length) g (newR (newR R n [L1]) (n + 1) (apS n (newR R n [L1]) T1 rc).2) F Q U := by
                obtain ⟨ap1, ap2, ap3⟩ := hap
                have hpre : T1 <+: (apS n (newR R n [L1]) T1 rc).1 ∧ gdS (n + 1) T1.length (apS n (newR R n [L1]) T1 rc) := by
                  have hS9 : gdS (n + 1) T1.length (T1, []) := ⟨g1, Nat.le_refl _, by show T1.length ≤ 390; omega, fun j L hj => by have h9 : ([] : List (List En))[j]? = some L := hj; simp at h9⟩
                  cases rc with
                  | none => exact ⟨List.prefix_refl _, hS9⟩
                  | some c =>
                    have hc := hrg c rfl
                    obtain ⟨m1, m2, m3, m4, m5⟩ := mid_R (T1 := T1) hW hpl (by omega) g4
                    obtain ⟨p1, p2⟩ := hW.pw c hc
                    obtain ⟨p3, p4⟩ := m5 c hc
                    have hU : gdU false (newR R n [L1]) (n + 1) g (some n) c := gdU_of (Nat.lt_succ_self n) hc (by omega) (ap1 c rfl)
                    obtain ⟨x0, x1, -⟩ := mk_ok m1 20 (some n) c (T1, []) (by omega) hU hS9 (by show T1.length + _ ≤ 390; omega) (by show n + 1 + 0 + _ + 1 < 2 ^ 30; omega)
                    exact ⟨x1, x0⟩
                have hl := hpre.1.length_le
                have hW1 : WF t T1 (n + 1) g (newR R n [L1]) F Q U := hW.made (st' := (T1, [L1])) ⟨g1, hpl, by show T1.length ≤ 390; omega, fun j L hj => by
                  have h9 : [L1][j]? = some L := hj
                  have h10 := (List.getElem?_eq_some_iff.mp h9).1
                  have h11 : j = 0 := by simp at h10; omega
                  subst h11
                  cases h9
                  exact g4⟩ (by show T1.length ≤ 200; omega) (by show n + 1 ≤ 30; omega)
                exact hW1.made hpre.2 ap2 ap3
              have hxF := hfin.2.2.2.2.1 i x hF
              have hfu : wFun (newR (newR R n [L1]) (n + 1) (apS n (newR R n [L1]) T1 rc).2) (n + 1 + (apS n (newR R n [L1]) T1 rc).2.length) g i (x.1, x.2.1, x.2.2.1, fun k => if k = s then nI (n + (apS n (newR R n [L1]) T1 rc).2.length) else x.2.2.2 k) := by
                refine ⟨hxF.1, hxF.2.1, hxF.2.2.1, fun k hk => ?_⟩
                show (if k = s then _ else x.2.2.2 k) = -1 ∨ ∃ v, v < _ ∧ (if k = s then _ else x.2.2.2 k) = nI v
                by_cases hks : k = s
                · rw [if_pos hks]
                  exact Or.inr ⟨_, by omega, rfl⟩
                · rw [if_neg hks]
                  exact hxF.2.2.2 k hk
              refine sim_do (nI (n + (apS n (newR R n [L1]) T1 rc).2.length)) (hfin.setF hfu).step (fun N hC => ?_) ⟨_, _, hrt.trans r2, ((r3.thr 0).note hF (by omega) _), upd_s⟩
              obtain ⟨a, ha⟩ := ptrF N hC
              obtain ⟨K2, I2, P2, N2, ka, kb, c1, c2, c3, c4⟩ := applyAnew_c hW hC hF ha hs hrc hrg rB hok hgl
              rcases c4 with ⟨-, c5, c6⟩ | ⟨c5, -⟩
              · have ha2 := c3 _ _ ha
                obtain ⟨-, k0, ⟨q1, q2, q3, q4⟩, k3, k4, k5, -⟩ := fuAt c6 hF ha2
                refine ⟨K2, cup I2 (a + 3) s (nI (n + (apS n (newR R n [L1]) T1 rc).2.length)), P2, N2, ka, kb, ?_, by omega, by omega, c6.upFu hF ha2 (fun q hq => cup_q hq) ⟨?_, ?_, ?_, fun k hk => ?_⟩⟩
                · rw [apply_top hW hC hF ha hs har hx1, if_pos hknown, if_pos hm, c5]
                  show ause ka kb (if nI (n + (apS n (newR R n [L1]) T1 rc).2.length) = -1 then _ else Option.bind (crc (K2, I2, P2, N2) (some a) 0) _) = _
                  have ap3 := hap.2.2
                  rw [if_neg (nI_nm1 (by omega)), e_rc k0, Option.bind_some]
                  unfold fX0_note
                  rw [e_gR k0, Option.bind_some, k4, e_write k5 (by omega) (by omega), Option.bind_some]
                  rfl
                · rw [cup_q (by omega)]; exact q1
                · rw [cup_q (by omega)]; exact q2
                · rw [cup_q (by omega)]; exact q3
                · show _ = if k = s then _ else x.2.2.2 k
                  by_cases hks : k = s
                  · rw [hks, cup_s, if_pos rfl]
                  · rw [cup_j hks, if_neg hks]
                    exact q4 k hk
              · exact absurd hap c5
            · exact absurd hap r1
          · rcases hrr with ⟨r1, -⟩ | ⟨-, r2, r3⟩
            · exact absurd r1 hap
            · refine ⟨.inr 2, T, n, g, _, F, Q, U, fun N hC => ?_, ⟨_, _, V, hrt.trans r2, r3.thr 2, upd_s⟩, hW.cut.step, fun e h => by cases h; exact Or.inr rfl⟩
              obtain ⟨a, ha⟩ := ptrF N hC
              obtain ⟨K2, I2, P2, N2, ka, kb, c1, c2, c3, c4⟩ := applyAnew_c hW hC hF ha hs hrc hrg rB hok hgl
              rcases c4 with ⟨c5, -⟩ | ⟨-, c5, T2, n2, R3, c6, c7, c8⟩
              · exact absurd c5 hap
              · have hC2 := c6.backTy c7
                refine ⟨K2, cup (cup I2 b 2 (nI T.length)) (b + 3) 1 (nI n), P2, N2, ka + 1, kb + 6, ?_, by omega, by omega, (hC2.upN (n2 := n) h30).sub (newR_sub (fun j L h => by simp at h) c8)⟩
                rw [apply_top hW hC hF ha hs har hx1, if_pos hknown, if_pos hm, c5]
                show ause ka kb (if (-1 : Int32) = -1 then Option.bind (cgR (K2, I2, P2, N2) o 6 0) _ else _) = _
                rw [if_pos rfl, g60 c6, Option.bind_some, Option.bind_some, e_pI c6.K0, Option.bind_some, g61 hC2, Option.bind_some, Option.bind_some, e_pI hC2.shS.1, Option.bind_some]
                rfl
        · rw [if_neg hm] at hrt
          refine ⟨.inr 2, T, n, g, R, F, Q, U, fun N hC => ⟨K, I, P, N, 1, 6, ?_, by omega, by omega, hC⟩, ⟨0, _, W, hrt, hRW.thr 2, upd_s⟩, hW.step, fun e h => by cases h; exact Or.inr rfl⟩
          obtain ⟨a, ha⟩ := ptrF N hC
          rw [apply_top hW hC hF ha hs har hx1, if_pos hknown, if_neg hm]
      · rw [if_neg hknown] at hrt
        refine sim_get (x.2.2.2 s) hR hW (fun N hC => ?_) hrt
        obtain ⟨a, ha⟩ := ptrF N hC
        rw [apply_top hW hC hF ha hs har hx1, if_neg hknown]
    · refine sim_thr 0 0 hR hW (Or.inl rfl) (fun N hC => ?_) (apply_bad hR (Or.inr ⟨i, hi, rfl, h2⟩))
      have hF := List.getElem?_eq_getElem hi
      obtain ⟨a, a1, -⟩ := hC.fu.2.2.1 i _ hF
      unfold fX6_apply
      rw [ro hC, Option.bind_some, functorAt_ok hC (by omega), a1, Option.bind_some]
      show (if some a = none then _ else Option.bind (cgR (K, I, P, N) o 6 1) _) = _
      rw [if_neg (fun e => by cases e), g61 hC, Option.bind_some, r3 hC, Option.bind_some, at_no hC.shS h2, Option.bind_some]
      show (if (none : Option Nat) = none then _ else _) = _
      rw [if_pos rfl]
      rfl
  · refine sim_thr 0 0 hR hW (Or.inl rfl) (fun N hC => ?_) (apply_bad hR (Or.inl h1))
    unfold fX6_apply
    rw [ro hC, Option.bind_some, functorAt_no hC h1, Option.bind_some]
    show (if (none : Option Nat) = none then _ else _) = _
    rw [if_pos rfl]
    rfl
end Apply3
