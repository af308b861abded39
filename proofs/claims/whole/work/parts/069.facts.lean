/-! what holds at the law's entry -/
theorem tN6 : Cond.instantiable RX6 12 ∈ rgT := rgT_of 96 (by decide +kernel) (by decide +kernel)
theorem tN7 : Cond.instantiable RX7 55 ∈ rgT := rgT_of 826 (by decide +kernel) (by decide +kernel)
theorem tAL : Cond.arrayClass .long ∈ rgT := rgT_of 1281 (by decide +kernel) (by decide +kernel)
theorem st_cls {args : Array Value} {s : State} (hts : ∀ w ∈ lw_tbl, w.before args s = true) : ∃ D : va_G, va_K D vwCl [] s := by
  have hg : ∀ w ∈ rgT, w.before args s = true := fun w h => hts w (List.mem_filter.mp h).1
  obtain ⟨c0, i0, h0⟩ := u_known (C := RX0) (T := TX0) (N := 5) hg rX0_in (hg _ tN0)
  obtain ⟨c1, i1, h1⟩ := u_known (C := RX1) (T := TX1) (N := 2) hg rX1_in (hg _ tN1)
  obtain ⟨c2, i2, h2⟩ := u_known (C := RX2) (T := TX2) (N := 4) hg rX2_in (hg _ tN2)
  obtain ⟨c3, i3, h3⟩ := u_known (C := RX3) (T := TX3) (N := 2) hg rX3_in (hg _ tN3)
  obtain ⟨c4, i4, h4⟩ := u_known (C := RX4) (T := TX4) (N := 3) hg rX4_in (hg _ tN4)
  obtain ⟨c5, i5, h5⟩ := u_known (C := RX5) (T := TX5) (N := 7) hg rX5_in (hg _ tN5)
  obtain ⟨c6, i6, h6⟩ := u_known (C := RX6) (T := TX6) (N := 12) hg rX6_in (hg _ tN6)
  obtain ⟨c7, i7, h7⟩ := u_known (C := RX7) (T := TX7) (N := 55) hg rX7_in (hg _ tN7)
  refine ⟨(fun k => match k with
    | 0 => c0
    | 1 => c1
    | 2 => c2
    | 3 => c3
    | 4 => c4
    | 5 => c5
    | 6 => c6
    | _ => c7, fun k => match k with
    | 0 => i0
    | 1 => i1
    | 2 => i2
    | 3 => i3
    | 4 => i4
    | 5 => i5
    | 6 => i6
    | _ => i7), fun k q hq => ?_, fun k q h => by simp at h⟩
  match k, hq with
  | 0, hq => cases hq; exact h0
  | 1, hq => cases hq; exact h1
  | 2, hq => cases hq; exact h2
  | 3, hq => cases hq; exact h3
  | 4, hq => cases hq; exact h4
  | 5, hq => cases hq; exact h5
  | 6, hq => cases hq; exact h6
  | 7, hq => cases hq; exact h7
  | k + 8, hq => simp at hq
theorem st_arrP {args : Array Value} {s : State} {ty : FieldType} (h : (Cond.arrayClass ty).before args s = true) : ∃ cA, ArrOfT s cA ty ∧ s.vm.findClass ("[" ++ ty.toString) = some cA := by
  obtain ⟨cA', kA, comp, h1, h2, h3⟩ := Cond.arrayClass_spec h
  exact ⟨cA', fun n z => ⟨fun k h => (by cases h), kA, h2, comp, h3⟩, h1⟩
theorem st_arrO {args : Array Value} {s : State} {C : String} (h : (Cond.arrayOver (.object C)).before args s = true) : ∃ cA, ArrOfT s cA (.object C) ∧ va_RA s cA (.object C) := by
  obtain ⟨comp, cA', kA, h1, -, h2, h3, h4⟩ := Cond.arrayOver_spec h
  exact ⟨cA', fun n z => ⟨fun k h => (by cases h), kA, h2, comp, h3⟩, kA, comp, h2, h3, h1, h4⟩
theorem st_G {args : Array Value} {s : State} (hts : ∀ w ∈ lw_tbl, w.before args s = true) : ∃ (G : cG) (cL : ClassId), va_K G.1 vwCl (cTys G) s ∧ va_K G.1 vwCl [(cL, .long)] s ∧ va_K G.1 vwCl [(G.2 8, .int), (G.2 9, .boolean)] s := by
  have hg : ∀ w ∈ rgT, w.before args s = true := fun w h => hts w (List.mem_filter.mp h).1
  have hn : ∀ w ∈ cNl, w.before args s = true := fun w h => hts w (List.mem_filter.mp h).1
  obtain ⟨D, hD⟩ := st_cls hts
  obtain ⟨aI, a1, a2⟩ := st_arrP (hg _ tAI)
  obtain ⟨aZ, b1, b2⟩ := st_arrP (hg _ tAZ)
  obtain ⟨aL, l1, l2⟩ := st_arrP (hg _ tAL)
  obtain ⟨aF, f1, f2⟩ := st_arrO (hn _ tAO0)
  obtain ⟨aP, p1, p2⟩ := st_arrO (hn _ tAO1)
  obtain ⟨aR, r1, r2⟩ := st_arrO (hn _ tAO2)
  obtain ⟨aU, u1, u2⟩ := st_arrO (hn _ tAO5)
  refine ⟨(D, fun k => match k with
    | 8 => aI
    | 9 => aZ
    | 10 => aF
    | 11 => aP
    | 12 => aR
    | _ => aU), aL, ⟨hD.1, fun k q hq => ?_⟩, ⟨hD.1, fun k q hq => ?_⟩, ⟨hD.1, fun k q hq => ?_⟩⟩
  · match k, hq with
    | 0, hq => cases hq; exact ⟨a1, a2⟩
    | 1, hq => cases hq; exact ⟨f1, f2⟩
    | 2, hq => cases hq; exact ⟨p1, p2⟩
    | 3, hq => cases hq; exact ⟨r1, r2⟩
    | 4, hq => cases hq; exact ⟨u1, u2⟩
    | 5, hq => cases hq; exact ⟨b1, b2⟩
    | k + 6, hq => simp at hq
  · match k, hq with
    | 0, hq => cases hq; exact ⟨l1, l2⟩
    | k + 1, hq => simp at hq
  · match k, hq with
    | 0, hq => cases hq; exact ⟨a1, a2⟩
    | 1, hq => cases hq; exact ⟨b1, b2⟩
    | k + 2, hq => simp at hq
theorem st_Nw {args : Array Value} {s : State} (hts : ∀ w ∈ lw_tbl, w.before args s = true) : cNw s := by
  intro w hw
  have h1 := hts w (List.mem_filter.mp hw).1
  have h2 := (List.mem_filter.mp hw).2
  cases w <;> first | exact va_Nw.of rfl h1 | (rename_i ty; cases ty <;> first | exact va_AO.of h1 | (cases h2)) | (cases h2)
theorem st_St {args : Array Value} {s : State} {D : va_G} {tys : List (ClassId × FieldType)} (hts : ∀ w ∈ lw_tbl, w.before args s = true) (hK : va_K D vwCl tys s) : cSt s := by
  intro k tx hw
  have h := hts _ hw
  have hcl : s.vm.findClass RX6 = some (D.1 6) := ((hK.1 6 _ vw6).2).1
  obtain ⟨-, -, -, a, -, -, -, -, -, hev⟩ := Cond.stringRef_spec hcl h
  exact ⟨a, vk_R.of h hev⟩
set_option maxRecDepth 100000 in
theorem st_Nc {args : Array Value} {s : State} (hgv : (Jvm.Cond.and given_1 narrow_1).before args s = true) : cNc s := by
  have hs := flat_of_before _ hgv
  intro i j hi hj hij
  rcases (show i = 0 ∨ i = 1 ∨ i = 2 by omega) with rfl | rfl | rfl <;> rcases (show j = 0 ∨ j = 1 ∨ j = 2 by omega) with rfl | rfl | rfl <;> first | exact absurd rfl hij | exact va_Nc.of (args := args) (hs _ (by decide +kernel))
set_option maxRecDepth 100000 in
theorem st_Z {args : Array Value} {s : State} (hts : ∀ w ∈ lw_tbl, w.before args s = true) (hgv : (Jvm.Cond.and given_1 narrow_1).before args s = true) : cZ (lA s.heap.size) s s.heap := by
  have hs := flat_of_before _ hgv
  exact ⟨vx_Zqof (hts _ (by decide +kernel)) (hts _ (by decide +kernel)) (hs _ (by decide +kernel)) (fun a ha => Nat.not_le.mpr ha), vx_Zqof (hts _ (by decide +kernel)) (hts _ (by decide +kernel)) (hs _ (by decide +kernel)) (fun a ha => Nat.not_le.mpr ha)⟩
