/-! UNPACKING -/
theorem s_unpack (o t : Nat) : sim_unpack o (Inv o t) (Inv o (t + 1)) := by
  intro z S p0 hI
  obtain ⟨K, I, P, N0⟩ := z
  obtain ⟨f, M⟩ := S
  refine sim_core (fun e => e = 0 ∨ e = 2) (fun e => if e = 0 then 1 else (if e = 2 then 2 else 0)) hI (fun b T n g R F Q U hR hW => ?_)
  have h20 := hW.1.2.2.2
  have h30 := hW.1.2.2.1
  have h10 := hR.pk.2.1
  rcases ix_em p0 (n := Q.length) (by omega) with ⟨i, hi, rfl⟩ | h1
  · have hQ := List.getElem?_eq_getElem hi
    obtain ⟨s, u, hs, hu, hx⟩ := hW.2.2.2.2.2.1 i _ hQ
    obtain ⟨y1, y2⟩ := hR.pk.2.2 i _ hQ
    refine seals_core (vw := false) (v := 1) (how := 0) hR hW hs hu rfl ⟨fun h => absurd h (by decide), fun h => by cases h⟩ (fun N hC => ?_) ?_
    · obtain ⟨⟨s1, s2, s3, s4, s5, s6, s7, s8, s9, s10, s11⟩, t1, t2, t3, t4, t5, t6, t7, t8, t9, -⟩ := hC.sf
      obtain ⟨a, a1, a2, a3⟩ := hC.pk.2.2.1 i _ hQ
      have a4 := hC.sd.1 _ _ a1
      rw [pkd1 (by omega) (by omega)] at a4
      rw [ptr5 (by omega)] at a1
      rw [hx] at a2 a3
      unfold fX6_unpack
      rw [if_neg (nI_pos (by omega)), e_gR s1, Option.bind_some, t8, Option.bind_some, e_len s10, Option.bind_some, if_neg (nI_ge (by omega) (by omega)), Option.bind_some, Option.bind_some, e_ldR s10 (by omega) (by omega), Option.bind_some, a1]
      unfold fX6_unpack_b23
      rw [if_neg (fun e => by cases e), Option.bind_some, e_gI a4, Option.bind_some, Option.bind_some, e_gI a4, Option.bind_some, ro hC, Option.bind_some, a2, a3]
      exact tb_inl
    · unfold fX7_unpack
      have hn : ¬ (nI i < 0 ∨ nI Q.length - 1 < nI i) := fun hh => ((lt_cnt (by omega)).mp hh).elim (nI_pos (by omega)) (nI_ge hi (by omega))
      show Option.bind (fX7_isIn (nI i) 0 (f 29 - 1) (f, M)) _ = _
      rw [hR.pk.1, isIn_t (fun hh => hn (Or.inl hh)) (fun hh => hn (Or.inr hh)), Option.bind_some]
      show (if (1 : Int32) = 0 then _ else Option.bind (rd (f, M) 30 (nI i)) _) = _
      rw [if_neg i10, r_rd 10 rfl (by omega) (by omega), Option.bind_some]
      show Option.bind (rd (f, M) 31 (nI i)) _ = _
      rw [r_rd 10 rfl (by omega) (by omega), Option.bind_some, y1, y2, hx]
      show Option.bind (fX7_seals 0 (nI s) (nI u) (f, M)) _ = _
      cases fX7_seals 0 (nI s) (nI u) (f, M) with
      | none => rfl
      | some q => rfl
  · refine sim_thr 0 0 hR hW (Or.inl rfl) (fun N hC => ?_) ?_
    · obtain ⟨⟨s1, s2, s3, s4, s5, s6, s7, s8, s9, s10, s11⟩, t1, t2, t3, t4, t5, t6, t7, t8, t9, -⟩ := hC.sf
      have b23 : fX6_unpack_b23 o none (K, I, P, N) = some (.inr 0, (K, I, P, N), 1, 6) := if_pos rfl
      unfold fX6_unpack fX6_unpack_b22
      rcases pk_ix p0 (n := 10) (by omega) with h2 | h2 | ⟨j, hj, rfl⟩
      · rw [if_pos h2, b23]
      · by_cases h3 : p0 < 0
        · rw [if_pos h3, b23]
        · rw [if_neg h3, e_gR s1, Option.bind_some, t8, Option.bind_some, e_len s10, Option.bind_some, if_pos h2, b23]
      · rw [if_neg (nI_pos (by omega)), e_gR s1, Option.bind_some, t8, Option.bind_some, e_len s10, Option.bind_some, if_neg (nI_ge hj (by omega)), Option.bind_some, Option.bind_some, e_ldR s10 hj (by omega), Option.bind_some]
        have hjl : Q.length ≤ j := by
          rcases h1 with h | h
          · exact absurd h (nI_pos (by omega))
          · exact Classical.byContradiction (fun h9 => nI_ge (show j < Q.length by omega) (by omega) h)
        have := hC.pk.2.2.2 j hjl hj
        rw [ptr5 hj] at this
        rw [this, b23]
    · unfold fX7_unpack
      show Option.bind (fX7_isIn p0 0 (f 29 - 1) (f, M)) _ = _
      rw [hR.pk.1, isIn_f ((lt_cnt (by omega)).mpr h1), Option.bind_some]
      show (if (0 : Int32) = 0 then Option.bind (fX7_seals 0 (-1) (-1) (f, M)) _ else _) = _
      rw [if_pos rfl, seals_bad hR (Or.inl (Or.inl (by decide))), Option.bind_some]
      rfl
