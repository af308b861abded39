/-! MAKING A STRUCT BY A SIGNATURE: the reference, its steps -/
section MakesR
variable {D : Nat} {D9 : Int32} {f h : Nat → Int32} {M W V : Nat → Nat → Int32} {T : List TyD} {n g u q n0 m : Nat} {s : Option Nat} {R R1 : Nat → Option RowD} {F : List FuD} {Q : List (Int32 × Int32)} {U : List UnD} {k : Nat} {L : List En} {vw : Bool}
theorem RQ.spAt (hR : RQ D9 f M T n g R1 F Q U) (hX : gdX R n0 g) (hag : agr R R1 n0) (hu : u < g) : rSp M u (sgL R u) := by
  have h20 := hR.cn.2.2.2.1
  obtain ⟨w', hru⟩ := hX.2 u hu
  rw [← hag _ (Or.inr (by omega))] at hru
  have := ((hR.rw _ _ hru).2.1 (by omega) (by omega)).1
  rw [Nat.add_sub_cancel_left] at this
  exact this
theorem RQ.itAt (hR : RQ D9 f M T n g R1 F Q U) (hX : gdX R n0 g) (hag : agr R R1 n0) {s : Nat} (hs : s < n0) (h100 : n0 ≤ 100) : rIt M s (stR R s) := by
  obtain ⟨w', p', hru⟩ := hX.1 s hs
  rw [← hag _ (Or.inl hs)] at hru
  exact (hR.rw _ _ hru).1 (by omega)
theorem enters_r (hf : f 41 = nI D) (hD : D ≤ 21) : ∃ W, fX7_enters (nI u) (sI s) (f, M) = some (upd f 41 (nI (D + 1)), W) ∧ FrM W D u s 0 [] ∧ lowF M W D ∧ ∀ j, j ≤ 41 ∨ 52 ≤ j → W j = M j := by
  refine ⟨mup (mup (mup (mup M 42 D (nI u)) 43 D (sI s)) 44 D (nI (60 * u))) 47 D 0, ?_, ⟨?_, ?_, ?_, mup_s, fun p e he => by simp at he, fun p e he => by simp at he⟩, fun j i hj => ?_, fun j hj => ?_⟩
  · unfold fX7_enters
    show Option.bind (rwr (f, M) 42 (f 41) (nI u)) _ = _
    rw [hf, r_wr 22 rfl (by omega) (by omega), Option.bind_some]
    show Option.bind (rwr (f, _) 43 (f 41) (sI s)) _ = _
    rw [hf, r_wr 22 rfl (by omega) (by omega), Option.bind_some]
    show Option.bind (rwr (f, _) 44 (f 41) (60 * nI u)) _ = _
    rw [hf, show (60 : Int32) = nI 60 from rfl, pk_mul, r_wr 22 rfl (by omega) (by omega), Option.bind_some]
    show Option.bind (rwr (f, _) 47 (f 41) 0) _ = _
    rw [hf, r_wr 22 rfl (by omega) (by omega), Option.bind_some]
    show some (upd f 41 (f 41 + 1), _) = _
    rw [hf, nI_1]
  · rw [mup_k (by omega), mup_k (by omega), mup_k (by omega), mup_s]
  · rw [mup_k (by omega), mup_k (by omega), mup_s]
  · rw [mup_k (by omega), mup_s]; rfl
  · by_cases h47 : j = 47
    · subst h47
      rw [mup_i (by omega), mup_k (by omega), mup_k (by omega), mup_k (by omega)]
    · rw [mup_k h47]
      by_cases h44 : j = 44
      · subst h44
        rw [mup_i (by omega), mup_k (by omega), mup_k (by omega)]
      · rw [mup_k h44]
        by_cases h43 : j = 43
        · subst h43
          rw [mup_i (by omega), mup_k (by omega)]
        · rw [mup_k h43]
          by_cases h42 : j = 42
          · subst h42
            rw [mup_i (by omega)]
          · rw [mup_k h42]
  · rw [mup_k (by omega), mup_k (by omega), mup_k (by omega), mup_k (by omega)]
theorem mk_head (hR : RQ (nI (D + 1)) f M T n g R1 F Q U) (hsp : rSp M u (sgL R u)) (hD : D ≤ 21) (hu : u ≤ 20) (hF : FrM M D u s q L) {e : En} (he : (sgL R u)[q]? = some e) (how l4 : Int32) (fu : Nat) : fX7_makes_b9 (fu + 1) how l4 (f, M) = if e.1 = 2 then (if sI s = -1 then fX7_makes_b130 (fX7_makes_b9 fu) how l4 (-1) e.2.2.1 (f, M) else Option.bind (fX7_findsItem (sI s) 2 e.2.1 (f, M)) fun q126 => Option.bind (rd (q126.2) 8 (q126.1)) fun x129 => fX7_makes_b130 (fX7_makes_b9 fu) how l4 x129 e.2.2.1 (q126.2)) else if e.1 = 0 then Option.bind (fX7_typeNow how (sI s) (nI (60 * u + q)) (f, M)) (fun q152 => Option.bind (rd (q152.2) 14 (nI (60 * u + q))) fun x176 => Option.bind (rwr (q152.2) 46 ((10 * ((q152.2.1 41) - 1)) + x176) (q152.1)) fun S180 => Option.bind (rd S180 14 (nI (60 * u + q))) fun x189 => Option.bind (fX7_lays 0 x189 (q152.1) 0 S180) fun q193 => Option.bind (rd q193 44 ((q193.1 41) - 1)) fun x207 => Option.bind (rwr q193 44 ((q193.1 41) - 1) (x207 + 1)) fun S210 => fX7_makes_b305 (fX7_makes_b9 fu) how l4 S210) else Option.bind (fX7_meansNow e.2.2.1 (f, M)) (fun q222 => Option.bind (rd (q222.2) 16 (nI (60 * u + q))) fun x233 => if (x233) = ((-100)) then fX7_makes_b261 (fX7_makes_b9 fu) how l4 (sI s) (nI (60 * u + q)) (q222.1) (q222.2) else Option.bind (rd (q222.2) 16 (nI (60 * u + q))) fun x254 => Option.bind (fX7_meansNow x254 (q222.2)) fun q255 => Option.bind (fX7_arrowOf (q222.1) (q255.1) (q255.2)) fun q258 => fX7_makes_b261 (fX7_makes_b9 fu) how l4 (sI s) (nI (60 * u + q)) (q258.1) (q258.2)) := by
  have hf := hR.dp
  obtain ⟨h1, h2, h3, -⟩ := hF
  obtain ⟨p1, p2, p3⟩ := hsp
  obtain ⟨v1, v2, v3, v4⟩ := p3 q e he
  have hq := (List.getElem?_eq_some_iff.mp he).1
  have a42 : rd (f, M) 42 (nI D) = some (nI u) := by rw [r_rd 22 rfl (by omega) (by omega), h1]
  have a43 : rd (f, M) 43 (nI D) = some (sI s) := by rw [r_rd 22 rfl (by omega) (by omega), h2]
  have a44 : rd (f, M) 44 (nI D) = some (nI (60 * u + q)) := by rw [r_rd 22 rfl (by omega) (by omega), h3]
  have a11 : rd (f, M) 11 (nI u) = some (nI (sgL R u).length) := by rw [r_rd 21 rfl (by omega) (by omega), p1]
  have a13 : rd (f, M) 13 (nI (60 * u + q)) = some e.1 := by rw [r_rd 1260 rfl (by omega) (by omega), v1]
  have a14 : rd (f, M) 14 (nI (60 * u + q)) = some e.2.1 := by rw [r_rd 1260 rfl (by omega) (by omega), v2]
  have a15 : rd (f, M) 15 (nI (60 * u + q)) = some e.2.2.1 := by rw [r_rd 1260 rfl (by omega) (by omega), v3]
  have c0 : ¬ f 41 ≤ 0 := by rw [hf]; exact nI_nle (by omega) (by omega)
  have c1 : ¬ nI (60 * u + q) = 60 * nI u + nI (sgL R u).length := by rw [show (60 : Int32) = nI 60 from rfl, pk_mul, nI_add]; exact nI_ne (by omega) (by omega) (by omega)
  have e41 : f 41 - 1 = nI D := f41 hf
  show fX7_makes_b9_body (fX7_makes_b9 fu) how l4 (f, M) = _
  unfold fX7_makes_b9_body
  simp only [if_neg c0, e41, a42, a43, a44, a11, a13, a14, a15, Option.bind_some, if_neg c1]
theorem mk_done (hR : RQ (nI (D + 1)) f M T n g R1 F Q U) (hsp : rSp M u (sgL R u)) (hD : D ≤ 21) (hu : u ≤ 20) (hF : FrM M D u s (sgL R u).length L) (how l4 : Int32) (fu : Nat) : fX7_makes_b9 (fu + 1) how l4 (f, M) = Option.bind (fX7_leaves (f, M)) fun q74 => fX7_makes_b9 fu how q74.1 q74.2 := by
  have hf := hR.dp
  obtain ⟨h1, h2, h3, -⟩ := hF
  obtain ⟨p1, p2, p3⟩ := hsp
  have a42 : rd (f, M) 42 (nI D) = some (nI u) := by rw [r_rd 22 rfl (by omega) (by omega), h1]
  have a43 : rd (f, M) 43 (nI D) = some (sI s) := by rw [r_rd 22 rfl (by omega) (by omega), h2]
  have a44 : rd (f, M) 44 (nI D) = some (nI (60 * u + (sgL R u).length)) := by rw [r_rd 22 rfl (by omega) (by omega), h3]
  have a11 : rd (f, M) 11 (nI u) = some (nI (sgL R u).length) := by rw [r_rd 21 rfl (by omega) (by omega), p1]
  have c0 : ¬ f 41 ≤ 0 := by rw [hf]; exact nI_nle (by omega) (by omega)
  have c1 : nI (60 * u + (sgL R u).length) = 60 * nI u + nI (sgL R u).length := by rw [show (60 : Int32) = nI 60 from rfl, pk_mul, nI_add]
  have e41 : f 41 - 1 = nI D := f41 hf
  show fX7_makes_b9_body (fX7_makes_b9 fu) how l4 (f, M) = _
  unfold fX7_makes_b9_body
  simp only [if_neg c0, e41, a42, a43, a44, a11, Option.bind_some, if_pos c1]
  rfl
/-- what is read of the struct that a frame is made of -/
theorem findX (hit : ∀ s', s = some s' → s' ≤ 100 ∧ Uq (stR R s') ∧ rIt M s' (stR R s')) {x e : En} (hx : mkX (s.map (stR R)) e = some x) (hs : s ≠ none) : ∃ s' p, s = some s' ∧ fX7_findsItem (sI s) e.1 e.2.1 (f, M) = some (nI (60 * s' + p), f, M) ∧ rd (f, M) 8 (nI (60 * s' + p)) = some x.2.2.1 ∧ rd (f, M) 9 (nI (60 * s' + p)) = some x.2.2.2.2.1 := by
  cases s with
  | none => exact absurd rfl hs
  | some s' =>
    obtain ⟨h1, h2, h3⟩ := hit s' rfl
    obtain ⟨p, hp, hx2⟩ := mkX_some hx
    have hpl := plc_lt hp
    have h60 := h3.2.1
    obtain ⟨u1, u2, u3, u4⟩ := h3.2.2 p x hx2
    refine ⟨s', p, rfl, ?_, ?_, ?_⟩
    · show fX7_findsItem (nI s') e.1 e.2.1 (f, M) = _
      rw [fi_it h3 h1 h2, hp]
      rfl
    · rw [r_rd 6060 rfl (by omega) (by omega), u3]
    · rw [r_rd 6060 rfl (by omega) (by omega), u4]
theorem sI_ne {s : Option Nat} (h : s ≠ none) (hs : ∀ s', s = some s' → s' ≤ 100) : ¬ sI s = -1 := by
  cases s with
  | none => exact absurd rfl h
  | some s' =>
    have := hs s' rfl
    exact nI_nm1 (by omega)
theorem numOf_r (hit : ∀ s', s = some s' → s' ≤ 100 ∧ Uq (stR R s') ∧ rIt M s' (stR R s')) {x e : En} (hx : mkX (s.map (stR R)) e = some x) (h1 : e.1 = 1) : fX7_numberOf (sI s) e.2.1 (f, M) = some (x.2.2.2.2.1, f, M) := by
  unfold fX7_numberOf
  cases hs : s with
  | none =>
    subst hs
    rw [if_pos (show sI (none : Option Nat) = -1 from rfl)]
    have h9 : some (e.1, e.2.1, -1, -100, 0, -1) = some x := hx
    cases h9
    rfl
  | some s' =>
    have hne : s ≠ none := by rw [hs]; exact fun h => by cases h
    obtain ⟨s2, p, -, c1, -, c3⟩ := findX (f := f) hit hx hne
    rw [← hs, if_neg (sI_ne hne (fun s' h => (hit s' h).1)), ← h1, c1, Option.bind_some, c3, Option.bind_some]
    rfl
/-- the type that is laid for a type's spec -/
theorem typeNow_r (hR : RQ (nI (D + 1)) f M T n g R1 F Q U) (hw : TyW T) (hl : T.length < 390) (hsp : rSp M u (sgL R u)) (hD : D ≤ 21) (hu : u ≤ 20) (hF : FrM M D u s q L) {m2 k2 : Nat} (hL : WfS m2 k2 L) (hit : ∀ s', s = some s' → s' ≤ 100 ∧ Uq (stR R s') ∧ rIt M s' (stR R s')) {x e : En} (he : (sgL R u)[q]? = some e) (hm : m ≤ T.length) (hE : gdE vw R n0 g m u (s.map (stR R)) x e L T) (h0 : e.1 = 0) (hv : vw = true → s ≠ none) {how : Int32} (hh : how = 1 ↔ vw = true) : ∃ f2 W, fX7_typeNow how (sI s) (nI (60 * u + q)) (f, M) = some (nI (mkT vw L x e T).1, f2, W) ∧ RQ (nI (D + 1)) f2 W (mkT vw L x e T).2 n g R1 F Q U ∧ (∀ j, 3 < j → W j = M j) ∧ f2 54 = f 54 := by
  obtain ⟨p1, p2, p3⟩ := hsp
  obtain ⟨v1, v2, v3, v4⟩ := p3 q e he
  have hq := (List.getElem?_eq_some_iff.mp he).1
  have a14 : rd (f, M) 14 (nI (60 * u + q)) = some e.2.1 := by rw [r_rd 1260 rfl (by omega) (by omega), v2]
  have a15 : rd (f, M) 15 (nI (60 * u + q)) = some e.2.2.1 := by rw [r_rd 1260 rfl (by omega) (by omega), v3]
  obtain ⟨e1, -, -, -, e5⟩ := hE
  unfold fX7_typeNow mkT
  rcases e5 with ⟨k2, -⟩ | ⟨-, k1, -, k3⟩ | ⟨-, k1, ⟨j, j1, j2, j3⟩, k3⟩
  · rw [h0] at k2; exact absurd k2 (by decide)
  · rw [a15, Option.bind_some, if_pos k1, if_pos k1]
    by_cases hvw : vw = true
    · obtain ⟨i, i1, i2⟩ := k3 hvw
      obtain ⟨s2, p, -, c1, c2, -⟩ := findX (f := f) hit e1 (hv hvw)
      rw [h0] at c1
      rw [if_pos (hh.mpr hvw), if_pos hvw, a14, Option.bind_some, c1, Option.bind_some, c2, Option.bind_some]
      refine ⟨f, M, ?_, hR, fun _ _ => rfl, rfl⟩
      unfold fX7_typeNow_b54
      show some (x.2.2.1, f, M) = some (nI (iN x.2.2.1), f, M)
      rw [i2, iN_nI (by omega)]
    · rw [if_neg (fun h => hvw (hh.mp h)), if_neg hvw]
      obtain ⟨W, d1, d2, d3⟩ := makesType_rQ hR hl hw.1 none 1 (by show (1 : Int32) = if T.length < 2 then 0 else 1; rw [if_neg (by have := hw.1; omega)]) (-1) (-1) (fun p q h => by cases h)
      rw [d1]
      exact ⟨_, W, rfl, d2, d3, upd_n (by omega)⟩
  · rw [a15, Option.bind_some, if_neg k1, if_neg k1, Option.bind_some, meansNow_r hR.dp hD hF hL j3 (by omega), Option.bind_some]
    rcases k3 with k3 | ⟨k3, -⟩
    · rw [if_pos k3]
      refine ⟨f, M, ?_, hR, fun _ _ => rfl, rfl⟩
      show some (nI j, f, M) = some (nI (iN (tyO L e.2.2.1)), f, M)
      rw [j2, iN_nI (by omega)]
    · rw [h0] at k3; exact absurd k3 (by decide)
/-- the type that is laid for a value's spec -/
theorem valNow_r (hR : RQ (nI (D + 1)) f M T n g R1 F Q U) (hw : TyW T) (hl : T.length < 390) (hsp : rSp M u (sgL R u)) (hD : D ≤ 21) (hu : u ≤ 20) (hF : FrM M D u s q L) {m2 k2 : Nat} (hL : WfS m2 k2 L) {X : Option (List En)} {x e : En} (he : (sgL R u)[q]? = some e) (hE : gdE vw R n0 g m u X x e L T) (h0 : e.1 = 1) : ∃ f2 W, (∀ (β : Type) (kk : Int32 → rS → Option β), Option.bind (fX7_meansNow e.2.2.1 (f, M)) (fun q222 => Option.bind (rd (q222.2) 16 (nI (60 * u + q))) fun x233 => if (x233) = ((-100)) then kk (q222.1) (q222.2) else Option.bind (rd (q222.2) 16 (nI (60 * u + q))) fun x254 => Option.bind (fX7_meansNow x254 (q222.2)) fun q255 => Option.bind (fX7_arrowOf (q222.1) (q255.1) (q255.2)) fun q258 => kk (q258.1) (q258.2)) = kk (nI (mkT vw L x e T).1) (f2, W)) ∧ RQ (nI (D + 1)) f2 W (mkT vw L x e T).2 n g R1 F Q U ∧ (∀ j, 3 < j → W j = M j) ∧ f2 54 = f 54 := by
  obtain ⟨p1, p2, p3⟩ := hsp
  obtain ⟨v1, v2, v3, v4⟩ := p3 q e he
  have hq := (List.getElem?_eq_some_iff.mp he).1
  have a16 : rd (f, M) 16 (nI (60 * u + q)) = some e.2.2.2.1 := by rw [r_rd 1260 rfl (by omega) (by omega), v4]
  obtain ⟨e1, -, -, -, e5⟩ := hE
  unfold mkT
  rcases e5 with ⟨k2, -⟩ | ⟨k0, -⟩ | ⟨-, k1, ⟨j, j1, j2, j3⟩, k3⟩
  · rw [h0] at k2; exact absurd k2 (by decide)
  · rw [h0] at k0; exact absurd k0 (by decide)
  · have hlen := hR.ty.2.1
    rcases k3 with k3 | ⟨k3, k4, l, l4, l5, l6⟩
    · rw [if_neg k1, if_pos k3]
      refine ⟨f, M, fun β kk => ?_, hR, fun _ _ => rfl, rfl⟩
      rw [meansNow_r hR.dp hD hF hL j3 (by omega), Option.bind_some]
      show Option.bind (rd (f, M) 16 (nI (60 * u + q))) _ = _
      rw [a16, Option.bind_some, if_pos k3]
      show kk (nI j) (f, M) = kk (nI (iN (tyO L e.2.2.1))) (f, M)
      rw [j2, iN_nI (by omega)]
    · rw [if_neg k1, if_neg k4]
      obtain ⟨f2, W, d1, d2, d54, d4⟩ := arrowOf_rrQ hR hw hl (nI j) (nI l)
      refine ⟨f2, W, fun β kk => ?_, by rw [j2, l5]; exact d2, d4, d54 54 (by omega)⟩
      rw [meansNow_r hR.dp hD hF hL j3 (by omega), Option.bind_some]
      show Option.bind (rd (f, M) 16 (nI (60 * u + q))) _ = _
      rw [a16, Option.bind_some, if_neg k4, Option.bind_some]
      show Option.bind (fX7_meansNow e.2.2.2.1 (f, M)) _ = _
      rw [meansNow_r hR.dp hD hF hL l6 (by omega), Option.bind_some]
      show Option.bind (fX7_arrowOf (nI j) (nI l) (f, M)) _ = _
      rw [d1, Option.bind_some, j2, l5]
/-- a spec of a type or a value -/
theorem mk_tv (hR : RQ (nI (D + 1)) f M T n g R1 F Q U) (hw : TyW T) (hl : T.length < 390) (hsp : rSp M u (sgL R u)) (hD : D ≤ 21) (hu : u ≤ 20) (hF : FrM M D u s q L) {m2 k2 : Nat} (hL : WfS m2 k2 L) (hit : ∀ s', s = some s' → s' ≤ 100 ∧ Uq (stR R s') ∧ rIt M s' (stR R s')) {x e : En} (he : (sgL R u)[q]? = some e) (hm : m ≤ T.length) (hE : gdE vw R n0 g m u (s.map (stR R)) x e L T) (h2 : e.1 ≠ 2) (hv : vw = true → s ≠ none) {how : Int32} (hh : how = 1 ↔ vw = true) : ∃ f2 W, (∀ fu l4, fX7_makes_b9 (fu + 1) how l4 (f, M) = fX7_makes_b9 fu how l4 (f2, W)) ∧ RQ (nI (D + 1)) f2 W (mkT vw L x e T).2 n g R1 F Q U ∧ FrM W D u s (q + 1) (L ++ [(e.1, e.2.1, nI (mkT vw L x e T).1, -100, x.2.2.2.2.1, -1)]) ∧ lowF M W D ∧ f2 54 = f 54 := by
  have hq := (List.getElem?_eq_some_iff.mp he).1
  have h30 := hL.len
  have hE9 := hE
  obtain ⟨e1, ⟨i, i1, i2⟩, e3, e4, e5⟩ := hE9
  by_cases h0 : e.1 = 0
  · obtain ⟨f2, V, d1, d2, d3, d54⟩ := typeNow_r hR hw hl hsp hD hu hF hL hit he hm hE h0 hv hh
    have hf2 := d2.dp
    have v14 : V 14 (60 * u + q) = e.2.1 := by rw [d3 14 (by omega)]; exact (hsp.2.2 q e he).2.1
    have h60 := hsp.2.1
    generalize hV : mup V 46 (10 * D + i) (nI (mkT vw L x e T).1) = V2
    have vo : ∀ j, j ≠ 46 → V2 j = V j := fun j hj => by rw [← hV, mup_k hj]
    have hF1 : FrM V D u s q L := hF.other (fun j hj => d3 j (by omega))
    have hF2 : FrM V2 D u s q L := by
      obtain ⟨q1, q2, q3, q4, q5, q6⟩ := hF1
      refine ⟨by rw [vo 42 (by omega)]; exact q1, by rw [vo 43 (by omega)]; exact q2, by rw [vo 44 (by omega)]; exact q3, by rw [vo 47 (by omega)]; exact q4, fun p y hy => by rw [vo 48 (by omega), vo 49 (by omega), vo 50 (by omega), vo 51 (by omega)]; exact q5 p y hy, fun p y hy y0 => ?_⟩
      obtain ⟨i', i3, i4⟩ := (hL.2 p y hy).2.1
      have hne : i' ≠ i := fun h => plc_none e3 y (List.mem_of_getElem? hy) ⟨y0.trans h0.symm, by rw [i4, i2, h]⟩
      have := q6 p y hy y0
      rw [i4, iN_nI (by omega)] at this ⊢
      rw [← hV, mup_i (by omega)]
      exact this
    obtain ⟨W, c1, c2, c3, c4⟩ := laysN (f := f2) (a := 0) (b := e.2.1) (c := nI (mkT vw L x e T).1) (d := 0) hf2 hD hF2 (by omega) (fun _ => by rw [i2, iN_nI (by omega), ← hV, mup_s])
    have e10 : (10 : Int32) * nI D + e.2.1 = nI (10 * D + i) := by rw [i2, show (10 : Int32) = nI 10 from rfl, pk_mul, nI_add]
    refine ⟨f2, W, fun fu l4 => ?_, (d2.tmp (W := V2) (fun j hj => vo j (by omega))).tmp (fun j hj => c4 j (by omega)), by rw [h0, e4 (by rw [h0]; decide)]; exact c2, ?_, d54⟩
    · rw [mk_head hR hsp hD hu hF he, if_neg h2, if_pos h0, d1, Option.bind_some]
      show Option.bind (rd (f2, V) 14 (nI (60 * u + q))) _ = _
      rw [r_rd 1260 rfl (by omega) (by omega), v14, Option.bind_some]
      show Option.bind (rwr (f2, V) 46 (10 * (f2 41 - 1) + e.2.1) (nI (mkT vw L x e T).1)) _ = _
      rw [f41 hf2, e10, r_wr 220 rfl (by omega) (by omega), Option.bind_some, hV]
      show Option.bind (rd (f2, V2) 14 (nI (60 * u + q))) _ = _
      rw [r_rd 1260 rfl (by omega) (by omega), vo 14 (by omega), v14, Option.bind_some]
      exact c1 _ _
    · refine lowF.tr (lowF.tr (lowF.other (fun j hj => d3 j (by omega))) ?_) c3
      intro j y hj
      by_cases h46 : j = 46
      · subst h46
        rw [← hV, mup_i (by omega)]
      · rw [vo j h46]
  · have h1 : e.1 = 1 := by
      rcases e5 with ⟨k2, -⟩ | ⟨k0, -⟩ | ⟨k0, -⟩
      · exact absurd k2 h2
      · exact absurd k0 h0
      · exact k0.resolve_left h0
    obtain ⟨f2, V, d1, d2, d3, d54⟩ := valNow_r hR hw hl hsp hD hu hF hL he hE h1
    have hf2 := d2.dp
    have h60 := hsp.2.1
    have v14 : V 14 (60 * u + q) = e.2.1 := by rw [d3 14 (by omega)]; exact (hsp.2.2 q e he).2.1
    have a14 : rd (f2, V) 14 (nI (60 * u + q)) = some e.2.1 := by rw [r_rd 1260 rfl (by omega) (by omega), v14]
    have hit2 : ∀ s', s = some s' → s' ≤ 100 ∧ Uq (stR R s') ∧ rIt V s' (stR R s') := fun s' h => ⟨(hit s' h).1, (hit s' h).2.1, (hit s' h).2.2.congr (fun j h1 h2 => d3 j (by omega))⟩
    obtain ⟨W, c1, c2, c3, c4⟩ := laysN (f := f2) (a := 1) (b := e.2.1) (c := nI (mkT vw L x e T).1) (d := x.2.2.2.2.1) hf2 hD (hF.other (fun j hj => d3 j (by omega))) (by omega) (fun h => absurd h (by decide))
    refine ⟨f2, W, fun fu l4 => ?_, d2.tmp (fun j hj => c4 j (by omega)), by rw [h1]; exact c2, lowF.tr (lowF.other (fun j hj => d3 j (by omega))) c3, d54⟩
    rw [mk_head hR hsp hD hu hF he, if_neg h2, if_neg h0]
    refine (d1 _ (fun v S => fX7_makes_b261 (fX7_makes_b9 fu) how l4 (sI s) (nI (60 * u + q)) v S)).trans ?_
    show fX7_makes_b261 (fX7_makes_b9 fu) how l4 (sI s) (nI (60 * u + q)) (nI (mkT vw L x e T).1) (f2, V) = _
    unfold fX7_makes_b261
    rw [a14, Option.bind_some, Option.bind_some, numOf_r hit2 e1 h1, Option.bind_some]
    exact c1 _ _
end MakesR
