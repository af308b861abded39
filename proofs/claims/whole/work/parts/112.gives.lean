/-! APPLYING: what a body gives, the reference's way to it -/
section Gives
variable {n g m wB pB wX pX fN s q : Nat} {f : Nat → Int32} {M W V : Nat → Nat → Int32} {T : List TyD} {R R1 R2 : Nat → Option RowD} {F : List FuD} {Q : List (Int32 × Int32)} {U : List UnD} {X Y B L : List En} {e : En}
theorem cut_r (x : Int32) {S : rS} : fX7_cut x S = some (cutI x, S) := by
  unfold fX7_cut fX7_cut_b27 cutI
  by_cases h1 : x ≤ 10000
  · rw [if_pos h1, if_pos h1]
    by_cases h2 : -10000 ≤ x
    · rw [if_pos h2, if_pos h2]
    · rw [if_neg h2, if_neg h2]
  · rw [if_neg h1, if_neg h1]
theorem put_fin (hR : RQ 0 f M T n g R1 F Q U) (hn : n ≤ 100) (hRw : R1 n = some (L, 0, 0)) (hl : L.length < 60) (kd nm t num : Int32) : ∃ W, fX7_puts (nI n) kd nm t num (f, M) = some (f, W) ∧ RQ 0 f W T n g (aup R1 n (some (L ++ [(kd, nm, t, -100, num, -1)], 0, 0))) F Q U := by
  obtain ⟨W, h1, h2, h3⟩ := puts_r (f := f) ((hR.rw n _ hRw).1 hn) hn hl kd nm t num (-100) (-1)
  exact ⟨W, h1, hR.upIt hn h3 h2⟩
theorem valB_r (hR : RQ 0 f M T n g R1 F Q U) (hw : TyW T) (hl : T.length < 390) (hn : n ≤ 100) (hRw : R1 n = some (L, 0, 0)) (hu : Uq L) (hbo : rBo M fN B) (hfN : fN ≤ 7) (he : B[q]? = some e) (hP : glP X L m T e) (h1 : e.1 = 1) : ∃ f2 V, (∀ (β : Type) (kk : Int32 → rS → Option β), Option.bind (fX7_meant (f 4) e.2.2.1 (f, M)) (fun q125 => Option.bind (rd (q125.2) 22 (nI (20 * fN + q))) fun x135 => if (x135) = ((-100)) then kk (q125.1) (q125.2) else Option.bind (rd (q125.2) 22 (nI (20 * fN + q))) fun x159 => Option.bind (fX7_meant (q125.2.1 4) x159 (q125.2)) fun q160 => Option.bind (fX7_arrowOf (q125.1) (q160.1) (q160.2)) fun q163 => kk (q163.1) (q163.2)) = kk (nI (glT X L e T).1) (f2, V)) ∧ RQ 0 f2 V (glT X L e T).2 n g R1 F Q U ∧ ∀ j, 3 < j → V j = M j := by
  have hit := (hR.rw n _ hRw).1 hn
  have hq := (List.getElem?_eq_some_iff.mp he).1
  have hB := hbo.2.1
  have hf4 : f 4 = nI n := hR.cn.1
  obtain ⟨v1, v2, v3, v4, v5, v6⟩ := hbo.2.2 q e he
  have a22 : rd (f, M) 22 (nI (20 * fN + q)) = some e.2.2.2.1 := by rw [r_rd 180 rfl (by omega) (by omega), v4]
  have mea := fun x => meant_r (f := f) hit hn hu x
  obtain ⟨p1, p2, p3, p4⟩ := hP
  unfold glT
  rcases p4 with ⟨k0, -⟩ | ⟨-, j, j1, j2, j3, k3⟩
  · rw [h1] at k0; exact absurd k0 (by decide)
  · rw [if_neg (show ¬ e.1 = 0 by rw [h1]; decide)]
    rcases k3 with k3 | ⟨k4, l, l4, l5, l6⟩
    · rw [if_pos k3]
      refine ⟨f, M, fun β kk => ?_, hR, fun _ _ => rfl⟩
      rw [hf4, mea, Option.bind_some]
      show Option.bind (rd (f, M) 22 (nI (20 * fN + q))) _ = _
      rw [a22, Option.bind_some, if_pos k3]
      show kk (mnt L e.2.2.1) (f, M) = kk (nI (iN (tyO L e.2.2.1))) (f, M)
      rw [j3, j2, iN_nI (by omega)]
    · rw [if_neg k4]
      obtain ⟨f2, W, d1, d2, -, d4⟩ := arrowOf_rrQ hR hw hl (nI j) (nI l)
      refine ⟨f2, W, fun β kk => ?_, by rw [j2, l5]; exact d2, d4⟩
      rw [hf4, mea, Option.bind_some]
      show Option.bind (rd (f, M) 22 (nI (20 * fN + q))) _ = _
      rw [a22, Option.bind_some, if_neg k4, Option.bind_some]
      show Option.bind (fX7_meant (f 4) e.2.2.2.1 (f, M)) _ = _
      rw [hf4, mea, Option.bind_some]
      show Option.bind (fX7_arrowOf (mnt L e.2.2.1) (mnt L e.2.2.2.1) (f, M)) _ = _
      rw [j3, l6, d1, Option.bind_some, j2, l5]
theorem gives_loop (hok : glOK B X m n) (hB : R (300 + fN) = some (B, wB, pB)) (hfN : fN ≤ 7) (hX : R s = some (X, wX, pX)) (hs : s < n) (hn : n < 95) : ∀ cnt fu q L T f M R1, q + cnt = B.length → cnt < fu → TyW T → m ≤ T.length → T.length + cnt ≤ 390 → glW B L n q T → RQ 0 f M T n g R1 F Q U → (∀ j, j ≠ n → R1 j = R j) → R1 n = some (L, 0, 0) → ∃ f2 W R2, fX7_gives_b15 fu (nI fN) (nI s) (nI (20 * fN + q)) (f, M) = some (nI n, f2, W) ∧ RQ 0 f2 W (glL X (B.drop q) L T).2 (n + 1) g R2 F Q U ∧ (∀ j, j ≠ n → R2 j = R j) ∧ R2 n = some ((glL X (B.drop q) L T).1, 0, 0) := by
  have hB20 := hok.1.len
  intro cnt
  induction cnt with
  | zero =>
    intro fu q L T f M R1 hq hfu hw hm h390 hL hR hag hRw
    cases fu with
    | zero => omega
    | succ fu =>
      have hbo : rBo M fN B := by
        have := (hR.rw _ _ ((hag _ (by omega)).trans hB)).2.2 (by omega) (by omega)
        rw [Nat.add_sub_cancel_left] at this
        exact this
      rw [List.drop_eq_nil_of_le (show B.length ≤ q by omega)]
      refine ⟨upd f 4 (nI (n + 1)), M, R1, ?_, hR.upN (by omega), hag, hRw⟩
      show fX7_gives_b15_body _ (nI fN) (nI s) (nI (20 * fN + q)) (f, M) = _
      unfold fX7_gives_b15_body
      rw [r_rd 9 rfl (by omega) (by omega), Option.bind_some, hbo.1, show (20 : Int32) = nI 20 from rfl, pk_mul, nI_add, if_pos (nI_le (by omega) (by omega))]
      show some (upd f 4 (f 4 + 1) 4 - 1, upd f 4 (f 4 + 1), M) = _
      rw [upd_s, hR.cn.1, nI_1, nI_pred]
  | succ cnt ih =>
    intro fu q L T f M R1 hq hfu hw hm h390 hL hR hag hRw
    cases fu with
    | zero => omega
    | succ fu =>
      have hql : q < B.length := by omega
      have hg := List.getElem?_eq_getElem hql
      obtain ⟨s1, s2, s3, s4, s5⟩ := gl_step hw hok hm (by omega) hL hg
      have hP := gl_E hok hm (by omega) hL hg
      have hP9 := hP
      obtain ⟨p1, p2, p3, p4⟩ := hP9
      have hpre := s2.length_le
      have hbo : rBo M fN B := by
        have := (hR.rw _ _ ((hag _ (by omega)).trans hB)).2.2 (by omega) (by omega)
        rw [Nat.add_sub_cancel_left] at this
        exact this
      have hitX : rIt M s X := (hR.rw _ _ ((hag s (by omega)).trans hX)).1 (by omega)
      have hXU : Uq X := hok.2.1.1
      have h60 := hitX.2.1
      have hl60 : L.length < 60 := by have := hL.1; omega
      have hf4 : f 4 = nI n := hR.cn.1
      rw [List.drop_eq_getElem_cons hql]
      show ∃ f2 W R2, fX7_gives_b15 (fu + 1) (nI fN) (nI s) (nI (20 * fN + q)) (f, M) = some (nI n, f2, W) ∧ RQ 0 f2 W (glL X (B.drop (q + 1)) (L ++ [glE X L B[q] T]) (glT X L B[q] T).2).2 (n + 1) g R2 F Q U ∧ (∀ j, j ≠ n → R2 j = R j) ∧ R2 n = some ((glL X (B.drop (q + 1)) (L ++ [glE X L B[q] T]) (glT X L B[q] T).2).1, 0, 0)
      obtain ⟨v1, v2, v3, v4, v5, v6⟩ := hbo.2.2 q _ hg
      generalize B[q] = e at *
      have a18 : rd (f, M) 18 (nI fN) = some (nI B.length) := by rw [r_rd 9 rfl (by omega) (by omega), hbo.1]
      have a19 : rd (f, M) 19 (nI (20 * fN + q)) = some e.1 := by rw [r_rd 180 rfl (by omega) (by omega), v1]
      have a20 : rd (f, M) 20 (nI (20 * fN + q)) = some e.2.1 := by rw [r_rd 180 rfl (by omega) (by omega), v2]
      have a23 : rd (f, M) 23 (nI (20 * fN + q)) = some e.2.2.2.2.2 := by rw [r_rd 180 rfl (by omega) (by omega), v5]
      have c1 : ¬ 20 * nI fN + nI B.length ≤ nI (20 * fN + q) := by rw [show (20 : Int32) = nI 20 from rfl, pk_mul, nI_add]; exact nI_ge (by omega) (by omega)
      have fin : ∀ f2 V t num, t = nI (glT X L e T).1 → num = (if e.1 = 1 then cutI (e.2.2.2.2.1 + glM X e) else 0) → RQ 0 f2 V (glT X L e T).2 n g R1 F Q U → ∃ f3 W R2, (Option.bind (fX7_puts (nI n) e.1 e.2.1 t num (f2, V)) fun q209 => fX7_gives_b212 (fX7_gives_b15 fu) (nI fN) (nI s) (nI (20 * fN + q)) q209) = some (nI n, f3, W) ∧ RQ 0 f3 W (glL X (B.drop (q + 1)) (L ++ [glE X L e T]) (glT X L e T).2).2 (n + 1) g R2 F Q U ∧ (∀ j, j ≠ n → R2 j = R j) ∧ R2 n = some ((glL X (B.drop (q + 1)) (L ++ [glE X L e T]) (glT X L e T).2).1, 0, 0) := by
        intro f2 V t num ht hnum hR2
        obtain ⟨W, d1, d2⟩ := put_fin hR2 (by omega) hRw hl60 e.1 e.2.1 t num
        have hE : (e.1, e.2.1, t, -100, num, -1) = glE X L e T := by rw [ht, hnum]; rfl
        rw [hE] at d2
        obtain ⟨f3, W3, R3, x1, x2, x3, x4⟩ := ih fu (q + 1) _ _ f2 W _ (by omega) (by omega) s1 (by omega) (by omega) s5 d2 (fun j hj => by rw [aup_n hj]; exact hag j hj) aup_s
        refine ⟨f3, W3, R3, ?_, x2, x3, x4⟩
        rw [d1, Option.bind_some]
        unfold fX7_gives_b212
        rw [nI_1]
        exact x1
      have hb15 : fX7_gives_b15 (fu + 1) (nI fN) (nI s) (nI (20 * fN + q)) (f, M) = if e.2.2.2.2.2 = -1 then fX7_gives_b61 (fX7_gives_b15 fu) (nI fN) (nI s) (nI (20 * fN + q)) (-1) (f, M) else Option.bind (fX7_findsItem (nI s) e.1 e.2.2.2.2.2 (f, M)) fun q58 => fX7_gives_b61 (fX7_gives_b15 fu) (nI fN) (nI s) (nI (20 * fN + q)) (q58.1) (q58.2) := by
        show fX7_gives_b15_body _ (nI fN) (nI s) (nI (20 * fN + q)) (f, M) = _
        unfold fX7_gives_b15_body
        simp only [a18, Option.bind_some, if_neg c1, a23, a19]
      have hfi : ∀ p, plc X e.1 e.2.2.2.2.2 = some p → fX7_findsItem (nI s) e.1 e.2.2.2.2.2 (f, M) = some (nI (60 * s + p), f, M) := fun p hp => by rw [fi_it hitX (by omega) hXU, hp]; rfl
      rw [hb15]
      rcases p4 with ⟨k0, k1, k2⟩ | ⟨k0, j, j1, j2, j3, k3⟩
      · have n1 : ¬ e.1 = 1 := by rw [k0]; decide
        by_cases hf : e.2.2.2.2.2 = -1
        · have hgl : glT X L e T = (T.length, T ++ [none]) := by unfold glT; rw [if_pos k0, if_pos hf]
          rw [if_pos hf]
          unfold fX7_gives_b61
          rw [a19, Option.bind_some, if_pos k0, a20, Option.bind_some, if_pos rfl]
          obtain ⟨V, d1, d2, d3⟩ := makesType_rQ hR (by omega) hw.1 none 1 (by show (1 : Int32) = if T.length < 2 then 0 else 1; rw [if_neg (by have := hw.1; omega)]) (-1) (-1) (fun p q h => by cases h)
          rw [d1, Option.bind_some]
          have h9 := fin _ V (nI T.length) 0 (by rw [hgl]) (by rw [if_neg n1]) (by rw [hgl]; exact d2)
          rw [k0] at h9
          show ∃ f2 W R2, Option.bind (fX7_puts (f 4) 0 e.2.1 (nI T.length) 0 (_, V)) _ = _ ∧ _
          rw [hf4]
          exact h9
        · rw [if_neg hf]
          obtain ⟨i, i1, i2, i3⟩ := k2 hf
          obtain ⟨p, x, hp, hx⟩ := p3 hf
          have hpl := plc_lt hp
          have hgl : glT X L e T = (i, T) := by unfold glT; rw [if_pos k0, if_neg hf, i2, iN_nI (by omega)]
          have hx2 : x.2.2.1 = nI i := by
            rw [← i2]
            unfold glI glX
            rw [hp]
            show x.2.2.1 = match X[p]? with
              | none => (-1 : Int32)
              | some x => x.2.2.1
            rw [hx]
          rw [hfi p hp, Option.bind_some]
          show ∃ f2 W R2, fX7_gives_b61 (fX7_gives_b15 fu) (nI fN) (nI s) (nI (20 * fN + q)) (nI (60 * s + p)) (f, M) = _ ∧ _
          unfold fX7_gives_b61
          rw [a19, Option.bind_some, if_pos k0, a20, Option.bind_some, if_neg (nI_nm1 (by omega)), r_rd 6060 rfl (by omega) (by omega), (hitX.2.2 p x hx).2.2.1, hx2, Option.bind_some]
          have h9 := fin f M (nI i) 0 (by rw [hgl]) (by rw [if_neg n1]) (by rw [hgl]; exact hR)
          rw [k0] at h9
          show ∃ f2 W R2, Option.bind (fX7_puts (f 4) 0 e.2.1 (nI i) 0 (f, M)) _ = _ ∧ _
          rw [hf4]
          exact h9
      · have n0 : ¬ e.1 = 0 := by rw [k0]; decide
        have v21 := v3 n0
        have a21 : rd (f, M) 21 (nI (20 * fN + q)) = some e.2.2.1 := by rw [r_rd 180 rfl (by omega) (by omega), v21]
        obtain ⟨f2, V, d1, d2, d3⟩ := valB_r hR hw (by omega) (by omega) hRw hL.2.2.1 hbo hfN hg hP k0
        have b20 : rd (f2, V) 20 (nI (20 * fN + q)) = some e.2.1 := by rw [r_rd 180 rfl (by omega) (by omega), d3 20 (by omega), v2]
        have b24 : rd (f2, V) 24 (nI (20 * fN + q)) = some e.2.2.2.2.1 := by rw [r_rd 180 rfl (by omega) (by omega), d3 24 (by omega), v6]
        have hf42 : f2 4 = nI n := d2.cn.1
        have h61 : ∀ l4, fX7_gives_b61 (fX7_gives_b15 fu) (nI fN) (nI s) (nI (20 * fN + q)) l4 (f, M) = fX7_gives_b166 (fX7_gives_b15 fu) (nI fN) (nI s) (nI (20 * fN + q)) l4 (nI (glT X L e T).1) (f2, V) := fun l4 => by
          unfold fX7_gives_b61
          rw [a19, Option.bind_some, if_neg n0, a21, Option.bind_some]
          exact d1 _ (fun v S => fX7_gives_b166 (fX7_gives_b15 fu) (nI fN) (nI s) (nI (20 * fN + q)) l4 v S)
        have h9 := fin f2 V (nI (glT X L e T).1) (cutI (e.2.2.2.2.1 + glM X e)) rfl (by rw [if_pos k0]) d2
        rw [k0] at h9
        by_cases hf : e.2.2.2.2.2 = -1
        · rw [if_pos hf, h61]
          unfold fX7_gives_b166
          rw [b20, Option.bind_some, b24, Option.bind_some, if_pos rfl]
          unfold fX7_gives_b205
          rw [cut_r, Option.bind_some]
          have hM : glM X e = 0 := by unfold glM; rw [if_pos hf]
          rw [hM] at h9
          show ∃ f2 W R2, Option.bind (fX7_puts (_ : Int32) 1 e.2.1 (nI (glT X L e T).1) (cutI (e.2.2.2.2.1 + 0)) (_, V)) _ = _ ∧ _
          rw [show ((f2, V).1 4 : Int32) = nI n from hf42]
          exact h9
        · rw [if_neg hf]
          obtain ⟨p, x, hp, hx⟩ := p3 hf
          have hpl := plc_lt hp
          rw [hfi p hp, Option.bind_some]
          show ∃ f2 W R2, fX7_gives_b61 (fX7_gives_b15 fu) (nI fN) (nI s) (nI (20 * fN + q)) (nI (60 * s + p)) (f, M) = _ ∧ _
          rw [h61]
          unfold fX7_gives_b166
          rw [b20, Option.bind_some, b24, Option.bind_some, if_neg (nI_nm1 (by omega)), r_rd 6060 rfl (by omega) (by omega), d3 9 (by omega), (hitX.2.2 p x hx).2.2.2, Option.bind_some]
          unfold fX7_gives_b205
          rw [cut_r, Option.bind_some]
          have hM : glM X e = x.2.2.2.2.1 := by
            unfold glM glX
            rw [if_neg hf, hp]
            show (match X[p]? with
              | none => 0
              | some x => x.2.2.2.2.1) = _
            rw [hx]
          rw [hM] at h9
          rw [show ((f2, V).1 4 : Int32) = nI n from hf42]
          exact h9
theorem gives_r (hok : glOK B X m n) (hB : R (300 + fN) = some (B, wB, pB)) (hfN : fN ≤ 7) (hX : R s = some (X, wX, pX)) (hs : s < n) (hn : n < 95) (hw : TyW T) (hm : m ≤ T.length) (h390 : T.length + B.length ≤ 390) (hR : RR f M T n g R F Q U) : ∃ f2 W R2, fX7_gives (nI fN) (nI s) (f, M) = some (nI n, f2, W) ∧ RR f2 W (glL X B [] T).2 (n + 1) g R2 F Q U ∧ (∀ j, j ≠ n → R2 j = R j) ∧ R2 n = some ((glL X B [] T).1, 0, 0) := by
  have hB20 := hok.1.len
  have hit : itF M (mup M 5 n 0) n := ⟨fun j hj => mup_k (by omega), fun i hi => mup_i hi, fun j i h1 h3 h4 => by rw [mup_k (by omega)]⟩
  have hR1 : RQ 0 f (mup M 5 n 0) T n g (aup R n (some ([], 0, 0))) F Q U := (RQ.of hR).upIt (d := ([], 0, 0)) (by omega) hit ⟨by rw [mup_s]; rfl, by simp, fun p e he => by simp at he⟩
  obtain ⟨f2, W, R2, h1, h2, h3, h4⟩ := gives_loop hok hB hfN hX hs hn B.length rFuel 0 [] T f _ _ (by omega) (by show B.length < 100000; omega) hw hm h390 ⟨rfl, fun r e y h => by simp at h, WfS.nil⟩ hR1 (fun j hj => aup_n hj) aup_s
  refine ⟨f2, W, R2, ?_, h2, h3, h4⟩
  unfold fX7_gives
  show Option.bind (rwr (f, M) 5 (f 4) 0) (fun S9 => fX7_gives_b15 rFuel (nI fN) (nI s) (20 * nI fN) S9) = _
  rw [hR.cn.1, r_wr 101 rfl (by omega) (by omega), Option.bind_some, show (20 : Int32) = nI 20 from rfl, pk_mul]
  exact h1
end Gives
