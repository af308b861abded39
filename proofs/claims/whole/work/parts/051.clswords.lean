theorem cNl_of (i : Nat) {w : Cond} (h : lw_tbl[i]? = some w) (hg : cNest w = true) : w ∈ cNl := List.mem_filter.mpr ⟨List.mem_of_getElem? h, hg⟩
theorem vw0 : vwCl[0]? = some (RX0, TX0, 5) := rfl
theorem rX0_in : ∀ w ∈ u_ws RX0 TX0 5, w ∈ rgT := fun w h => List.mem_filter.mpr ⟨(by decide +kernel : ∀ w ∈ u_ws RX0 TX0 5, w ∈ lw_tbl) w h, List.all_eq_true.mp (by decide +kernel : (u_ws RX0 TX0 5).all goodWord = true) w h⟩
theorem tZ0 : Cond.initialized RX0 ∈ rgT := rgT_of 91 (by decide +kernel) (by decide +kernel)
theorem dfX0 : ∀ j, j < 5 → defaultValue (tyX0 j) = vp_V (cObj 0 (fun _ => 0) (fun _ => none)) j := by
  intro j hj
  rcases (show j = 0 ∨ j = 1 ∨ j = 2 ∨ j = 3 ∨ j = 4 by omega) with rfl | rfl | rfl | rfl | rfl <;> rfl
theorem vw1 : vwCl[1]? = some (RX1, TX1, 2) := rfl
theorem rX1_in : ∀ w ∈ u_ws RX1 TX1 2, w ∈ rgT := fun w h => List.mem_filter.mpr ⟨(by decide +kernel : ∀ w ∈ u_ws RX1 TX1 2, w ∈ lw_tbl) w h, List.all_eq_true.mp (by decide +kernel : (u_ws RX1 TX1 2).all goodWord = true) w h⟩
theorem tZ1 : Cond.initialized RX1 ∈ rgT := rgT_of 93 (by decide +kernel) (by decide +kernel)
theorem dfX1 : ∀ j, j < 2 → defaultValue (tyX1 j) = vp_V (cObj 1 (fun _ => 0) (fun _ => none)) j := by
  intro j hj
  rcases (show j = 0 ∨ j = 1 by omega) with rfl | rfl <;> rfl
theorem vw2 : vwCl[2]? = some (RX2, TX2, 4) := rfl
theorem rX2_in : ∀ w ∈ u_ws RX2 TX2 4, w ∈ rgT := fun w h => List.mem_filter.mpr ⟨(by decide +kernel : ∀ w ∈ u_ws RX2 TX2 4, w ∈ lw_tbl) w h, List.all_eq_true.mp (by decide +kernel : (u_ws RX2 TX2 4).all goodWord = true) w h⟩
theorem tZ2 : Cond.initialized RX2 ∈ rgT := rgT_of 83 (by decide +kernel) (by decide +kernel)
theorem dfX2 : ∀ j, j < 4 → defaultValue (tyX2 j) = vp_V (cObj 2 (fun _ => 0) (fun _ => none)) j := by
  intro j hj
  rcases (show j = 0 ∨ j = 1 ∨ j = 2 ∨ j = 3 by omega) with rfl | rfl | rfl | rfl <;> rfl
theorem vw3 : vwCl[3]? = some (RX3, TX3, 2) := rfl
theorem rX3_in : ∀ w ∈ u_ws RX3 TX3 2, w ∈ rgT := fun w h => List.mem_filter.mpr ⟨(by decide +kernel : ∀ w ∈ u_ws RX3 TX3 2, w ∈ lw_tbl) w h, List.all_eq_true.mp (by decide +kernel : (u_ws RX3 TX3 2).all goodWord = true) w h⟩
theorem tZ3 : Cond.initialized RX3 ∈ rgT := rgT_of 82 (by decide +kernel) (by decide +kernel)
theorem dfX3 : ∀ j, j < 2 → defaultValue (tyX3 j) = vp_V (cObj 3 (fun _ => 0) (fun _ => none)) j := by
  intro j hj
  rcases (show j = 0 ∨ j = 1 by omega) with rfl | rfl <;> rfl
theorem vw4 : vwCl[4]? = some (RX4, TX4, 3) := rfl
theorem rX4_in : ∀ w ∈ u_ws RX4 TX4 3, w ∈ rgT := fun w h => List.mem_filter.mpr ⟨(by decide +kernel : ∀ w ∈ u_ws RX4 TX4 3, w ∈ lw_tbl) w h, List.all_eq_true.mp (by decide +kernel : (u_ws RX4 TX4 3).all goodWord = true) w h⟩
theorem tZ4 : Cond.initialized RX4 ∈ rgT := rgT_of 81 (by decide +kernel) (by decide +kernel)
theorem dfX4 : ∀ j, j < 3 → defaultValue (tyX4 j) = vp_V (cObj 4 (fun _ => 0) (fun _ => none)) j := by
  intro j hj
  rcases (show j = 0 ∨ j = 1 ∨ j = 2 by omega) with rfl | rfl | rfl <;> rfl
theorem vw5 : vwCl[5]? = some (RX5, TX5, 7) := rfl
theorem rX5_in : ∀ w ∈ u_ws RX5 TX5 7, w ∈ rgT := fun w h => List.mem_filter.mpr ⟨(by decide +kernel : ∀ w ∈ u_ws RX5 TX5 7, w ∈ lw_tbl) w h, List.all_eq_true.mp (by decide +kernel : (u_ws RX5 TX5 7).all goodWord = true) w h⟩
theorem tZ5 : Cond.initialized RX5 ∈ rgT := rgT_of 94 (by decide +kernel) (by decide +kernel)
theorem dfX5 : ∀ j, j < 7 → defaultValue (tyX5 j) = vp_V (cObj 5 (fun _ => 0) (fun _ => none)) j := by
  intro j hj
  rcases (show j = 0 ∨ j = 1 ∨ j = 2 ∨ j = 3 ∨ j = 4 ∨ j = 5 ∨ j = 6 by omega) with rfl | rfl | rfl | rfl | rfl | rfl | rfl <;> rfl
theorem vw6 : vwCl[6]? = some (RX6, TX6, 12) := rfl
theorem rX6_in : ∀ w ∈ u_ws RX6 TX6 12, w ∈ rgT := fun w h => List.mem_filter.mpr ⟨(by decide +kernel : ∀ w ∈ u_ws RX6 TX6 12, w ∈ lw_tbl) w h, List.all_eq_true.mp (by decide +kernel : (u_ws RX6 TX6 12).all goodWord = true) w h⟩
theorem tZ6 : Cond.initialized RX6 ∈ rgT := rgT_of 80 (by decide +kernel) (by decide +kernel)
theorem dfX6 : ∀ j, j < 12 → defaultValue (tyX6 j) = vp_V (cObj 6 (fun _ => 0) (fun _ => none)) j := by
  intro j hj
  rcases (show j = 0 ∨ j = 1 ∨ j = 2 ∨ j = 3 ∨ j = 4 ∨ j = 5 ∨ j = 6 ∨ j = 7 ∨ j = 8 ∨ j = 9 ∨ j = 10 ∨ j = 11 by omega) with rfl | rfl | rfl | rfl | rfl | rfl | rfl | rfl | rfl | rfl | rfl | rfl <;> rfl
theorem vw7 : vwCl[7]? = some (RX7, TX7, 55) := rfl
theorem tZ7 : Cond.initialized RX7 ∈ rgT := rgT_of 84 (by decide +kernel) (by decide +kernel)
theorem dfX7 : ∀ j, j < 55 → defaultValue (tyX7 j) = vp_V (cObj 7 (fun _ => 0) (fun _ => none)) j := by
  intro j hj
  rcases (show j = 0 ∨ j = 1 ∨ j = 2 ∨ j = 3 ∨ j = 4 ∨ j = 5 ∨ j = 6 ∨ j = 7 ∨ j = 8 ∨ j = 9 ∨ j = 10 ∨ j = 11 ∨ j = 12 ∨ j = 13 ∨ j = 14 ∨ j = 15 ∨ j = 16 ∨ j = 17 ∨ j = 18 ∨ j = 19 ∨ j = 20 ∨ j = 21 ∨ j = 22 ∨ j = 23 ∨ j = 24 ∨ j = 25 ∨ j = 26 ∨ j = 27 ∨ j = 28 ∨ j = 29 ∨ j = 30 ∨ j = 31 ∨ j = 32 ∨ j = 33 ∨ j = 34 ∨ j = 35 ∨ j = 36 ∨ j = 37 ∨ j = 38 ∨ j = 39 ∨ j = 40 ∨ j = 41 ∨ j = 42 ∨ j = 43 ∨ j = 44 ∨ j = 45 ∨ j = 46 ∨ j = 47 ∨ j = 48 ∨ j = 49 ∨ j = 50 ∨ j = 51 ∨ j = 52 ∨ j = 53 ∨ j = 54 by omega) with rfl | rfl | rfl | rfl | rfl | rfl | rfl | rfl | rfl | rfl | rfl | rfl | rfl | rfl | rfl | rfl | rfl | rfl | rfl | rfl | rfl | rfl | rfl | rfl | rfl | rfl | rfl | rfl | rfl | rfl | rfl | rfl | rfl | rfl | rfl | rfl | rfl | rfl | rfl | rfl | rfl | rfl | rfl | rfl | rfl | rfl | rfl | rfl | rfl | rfl | rfl | rfl | rfl | rfl | rfl <;> rfl
theorem tN0 : Cond.instantiable RX0 5 ∈ rgT := rgT_of 682 (by decide +kernel) (by decide +kernel)
theorem tN1 : Cond.instantiable RX1 2 ∈ rgT := rgT_of 757 (by decide +kernel) (by decide +kernel)
theorem tN2 : Cond.instantiable RX2 4 ∈ rgT := rgT_of 144 (by decide +kernel) (by decide +kernel)
theorem tN3 : Cond.instantiable RX3 2 ∈ rgT := rgT_of 129 (by decide +kernel) (by decide +kernel)
theorem tN4 : Cond.instantiable RX4 3 ∈ rgT := rgT_of 104 (by decide +kernel) (by decide +kernel)
theorem tN5 : Cond.instantiable RX5 7 ∈ rgT := rgT_of 223 (by decide +kernel) (by decide +kernel)
theorem tX0_k22 : Cond.classLink RX0 22 RX2 ∈ rgT := rgT_of 687 (by decide +kernel) (by decide +kernel)
theorem tX3_k19 : Cond.classLink RX3 19 RX2 ∈ rgT := rgT_of 491 (by decide +kernel) (by decide +kernel)
theorem tX6_k9 : Cond.classLink RX6 9 RX4 ∈ rgT := rgT_of 103 (by decide +kernel) (by decide +kernel)
theorem tX6_k16 : Cond.classLink RX6 16 RX3 ∈ rgT := rgT_of 128 (by decide +kernel) (by decide +kernel)
theorem tX6_k18 : Cond.classLink RX6 18 RX2 ∈ rgT := rgT_of 130 (by decide +kernel) (by decide +kernel)
theorem tX6_k41 : Cond.classLink RX6 41 RX0 ∈ rgT := rgT_of 165 (by decide +kernel) (by decide +kernel)
theorem tX6_k47 : Cond.classLink RX6 47 RX1 ∈ rgT := rgT_of 167 (by decide +kernel) (by decide +kernel)
theorem tX6_k53 : Cond.classLink RX6 53 RX5 ∈ rgT := rgT_of 169 (by decide +kernel) (by decide +kernel)
theorem ck10 : cKok 10 := by unfold cKok; decide
theorem ck11 : cKok 11 := by unfold cKok; decide
theorem ck12 : cKok 12 := by unfold cKok; decide
theorem ck13 : cKok 13 := by unfold cKok; decide
theorem tAI : Cond.arrayClass .int ∈ rgT := rgT_of 127 (by decide +kernel) (by decide +kernel)
theorem tAZ : Cond.arrayClass .boolean ∈ rgT := rgT_of 997 (by decide +kernel) (by decide +kernel)
theorem tAO0 : Cond.arrayOver (.object RX0) ∈ cNl := cNl_of 166 (by decide +kernel) rfl
theorem tAO1 : Cond.arrayOver (.object RX1) ∈ cNl := cNl_of 168 (by decide +kernel) rfl
theorem tAO2 : Cond.arrayOver (.object RX2) ∈ cNl := cNl_of 131 (by decide +kernel) rfl
theorem tAO5 : Cond.arrayOver (.object RX5) ∈ cNl := cNl_of 170 (by decide +kernel) rfl
theorem tO_i : Cond.instanceMethod objectInit ∈ rgT := rgT_of 101 (by decide +kernel) (by decide +kernel)
theorem tO_c : Cond.code objectInit ⟨#[0xb1]⟩ 1 none ∈ rgT := rgT_of 102 (by decide +kernel) (by decide +kernel)
theorem tX0_l3 : Cond.methodLink RX0 3 objectInit ∈ rgT := rgT_of 686 (by decide +kernel) (by decide +kernel)
theorem tX1_l1 : Cond.methodLink RX1 1 objectInit ∈ rgT := rgT_of 761 (by decide +kernel) (by decide +kernel)
theorem tX2_l3 : Cond.methodLink RX2 3 objectInit ∈ rgT := rgT_of 148 (by decide +kernel) (by decide +kernel)
theorem tX3_l3 : Cond.methodLink RX3 3 objectInit ∈ rgT := rgT_of 135 (by decide +kernel) (by decide +kernel)
theorem tX4_l3 : Cond.methodLink RX4 3 objectInit ∈ rgT := rgT_of 108 (by decide +kernel) (by decide +kernel)
theorem tX5_l3 : Cond.methodLink RX5 3 objectInit ∈ rgT := rgT_of 791 (by decide +kernel) (by decide +kernel)
theorem tX6_l3 : Cond.methodLink RX6 3 objectInit ∈ rgT := rgT_of 100 (by decide +kernel) (by decide +kernel)
theorem tX7_l1 : Cond.methodLink RX7 1 objectInit ∈ rgT := rgT_of 830 (by decide +kernel) (by decide +kernel)
theorem tX6_l284 : Cond.methodLink RX6 284 Lib.Math.min.name ∈ rgT := rgT_of 738 (by decide +kernel) (by decide +kernel)
theorem tM_smin : Cond.static Lib.Math.min.name ∈ rgT := rgT_of 739 (by decide +kernel) (by decide +kernel)
theorem tM_cmin : Cond.code Lib.Math.min.name Lib.Math.min.code 2 (some .int) ∈ rgT := rgT_of 740 (by decide +kernel) (by decide +kernel)
theorem tX6_l289 : Cond.methodLink RX6 289 Lib.Math.max.name ∈ rgT := rgT_of 741 (by decide +kernel) (by decide +kernel)
theorem tM_smax : Cond.static Lib.Math.max.name ∈ rgT := rgT_of 742 (by decide +kernel) (by decide +kernel)
theorem tM_cmax : Cond.code Lib.Math.max.name Lib.Math.max.code 2 (some .int) ∈ rgT := rgT_of 743 (by decide +kernel) (by decide +kernel)
theorem tM_i : Cond.initialized "java/lang/Math" ∈ rgT := rgT_of 92 (by decide +kernel) (by decide +kernel)
theorem tcX0_f9 : cFL RX0 9 0 0 := ⟨RX0, TX0, 5, rfl, rX0_in, by decide, rfl, by decide, ⟨tyX0, tyX0_ok, nmX0, fun h => absurd h (by decide), fun _ => Or.inl rfl⟩, Or.inl (rgT_of 690 (by decide +kernel) (by decide +kernel))⟩
theorem tcX0_f15 : cFL RX0 15 0 1 := ⟨RX0, TX0, 5, rfl, rX0_in, by decide, rfl, by decide, ⟨tyX0, tyX0_ok, nmX0, fun h => absurd h (by decide), fun _ => Or.inl rfl⟩, Or.inl (rgT_of 692 (by decide +kernel) (by decide +kernel))⟩
theorem tcX0_f18 : cFL RX0 18 0 2 := ⟨RX0, TX0, 5, rfl, rX0_in, by decide, rfl, by decide, ⟨tyX0, tyX0_ok, nmX0, fun h => absurd h (by decide), fun _ => Or.inr rfl⟩, Or.inl (rgT_of 694 (by decide +kernel) (by decide +kernel))⟩
theorem tcX0_f25 : cFL RX0 25 0 3 := ⟨RX0, TX0, 5, rfl, rX0_in, by decide, rfl, by decide, ⟨tyX0, tyX0_ok, nmX0, fun _ => Or.inl ⟨_, rfl⟩, fun h => absurd h (by decide)⟩, Or.inl (rgT_of 695 (by decide +kernel) (by decide +kernel))⟩
theorem tcX0_f29 : cFL RX0 29 0 4 := ⟨RX0, TX0, 5, rfl, rX0_in, by decide, rfl, by decide, ⟨tyX0, tyX0_ok, nmX0, fun _ => Or.inr ⟨_, rfl⟩, fun h => absurd h (by decide)⟩, Or.inl (rgT_of 697 (by decide +kernel) (by decide +kernel))⟩
theorem tcX1_f7 : cFL RX1 7 1 0 := ⟨RX1, TX1, 2, rfl, rX1_in, by decide, rfl, by decide, ⟨tyX1, tyX1_ok, nmX1, fun h => absurd h (by decide), fun _ => Or.inl rfl⟩, Or.inl (rgT_of 762 (by decide +kernel) (by decide +kernel))⟩
theorem tcX1_f13 : cFL RX1 13 1 1 := ⟨RX1, TX1, 2, rfl, rX1_in, by decide, rfl, by decide, ⟨tyX1, tyX1_ok, nmX1, fun h => absurd h (by decide), fun _ => Or.inl rfl⟩, Or.inl (rgT_of 764 (by decide +kernel) (by decide +kernel))⟩
theorem tcX2_f9 : cFL RX2 9 2 0 := ⟨RX2, TX2, 4, rfl, rX2_in, by decide, rfl, by decide, ⟨tyX2, tyX2_ok, nmX2, fun _ => Or.inr ⟨_, rfl⟩, fun h => absurd h (by decide)⟩, Or.inl (rgT_of 149 (by decide +kernel) (by decide +kernel))⟩
theorem tcX2_f15 : cFL RX2 15 2 1 := ⟨RX2, TX2, 4, rfl, rX2_in, by decide, rfl, by decide, ⟨tyX2, tyX2_ok, nmX2, fun h => absurd h (by decide), fun _ => Or.inl rfl⟩, Or.inl (rgT_of 150 (by decide +kernel) (by decide +kernel))⟩
theorem tcX2_f31 : cFL RX2 31 2 2 := ⟨RX2, TX2, 4, rfl, rX2_in, by decide, rfl, by decide, ⟨tyX2, tyX2_ok, nmX2, fun h => absurd h (by decide), fun _ => Or.inl rfl⟩, Or.inl (rgT_of 152 (by decide +kernel) (by decide +kernel))⟩
theorem tcX2_f34 : cFL RX2 34 2 3 := ⟨RX2, TX2, 4, rfl, rX2_in, by decide, rfl, by decide, ⟨tyX2, tyX2_ok, nmX2, fun h => absurd h (by decide), fun _ => Or.inl rfl⟩, Or.inl (rgT_of 154 (by decide +kernel) (by decide +kernel))⟩
theorem tcX3_f9 : cFL RX3 9 3 0 := ⟨RX3, TX3, 2, rfl, rX3_in, by decide, rfl, by decide, ⟨tyX3, tyX3_ok, nmX3, fun _ => Or.inr ⟨_, rfl⟩, fun h => absurd h (by decide)⟩, Or.inl (rgT_of 136 (by decide +kernel) (by decide +kernel))⟩
theorem tcX3_f15 : cFL RX3 15 3 1 := ⟨RX3, TX3, 2, rfl, rX3_in, by decide, rfl, by decide, ⟨tyX3, tyX3_ok, nmX3, fun h => absurd h (by decide), fun _ => Or.inl rfl⟩, Or.inl (rgT_of 137 (by decide +kernel) (by decide +kernel))⟩
theorem tcX4_f9 : cFL RX4 9 4 0 := ⟨RX4, TX4, 3, rfl, rX4_in, by decide, rfl, by decide, ⟨tyX4, tyX4_ok, nmX4, fun _ => Or.inr ⟨_, rfl⟩, fun h => absurd h (by decide)⟩, Or.inl (rgT_of 116 (by decide +kernel) (by decide +kernel))⟩
theorem tcX4_f15 : cFL RX4 15 4 1 := ⟨RX4, TX4, 3, rfl, rX4_in, by decide, rfl, by decide, ⟨tyX4, tyX4_ok, nmX4, fun _ => Or.inr ⟨_, rfl⟩, fun h => absurd h (by decide)⟩, Or.inl (rgT_of 117 (by decide +kernel) (by decide +kernel))⟩
theorem tcX4_f22 : cFL RX4 22 4 2 := ⟨RX4, TX4, 3, rfl, rX4_in, by decide, rfl, by decide, ⟨tyX4, tyX4_ok, nmX4, fun h => absurd h (by decide), fun _ => Or.inl rfl⟩, Or.inl (rgT_of 118 (by decide +kernel) (by decide +kernel))⟩
theorem tcX5_f9 : cFL RX5 9 5 4 := ⟨RX5, TX5, 7, rfl, rX5_in, by decide, rfl, by decide, ⟨tyX5, tyX5_ok, nmX5, fun h => absurd h (by decide), fun _ => Or.inl rfl⟩, Or.inl (rgT_of 798 (by decide +kernel) (by decide +kernel))⟩
theorem tcX5_f15 : cFL RX5 15 5 5 := ⟨RX5, TX5, 7, rfl, rX5_in, by decide, rfl, by decide, ⟨tyX5, tyX5_ok, nmX5, fun _ => Or.inr ⟨_, rfl⟩, fun h => absurd h (by decide)⟩, Or.inl (rgT_of 800 (by decide +kernel) (by decide +kernel))⟩
theorem tcX5_f19 : cFL RX5 19 5 6 := ⟨RX5, TX5, 7, rfl, rX5_in, by decide, rfl, by decide, ⟨tyX5, tyX5_ok, nmX5, fun _ => Or.inr ⟨_, rfl⟩, fun h => absurd h (by decide)⟩, Or.inl (rgT_of 801 (by decide +kernel) (by decide +kernel))⟩
theorem tcX5_f22 : cFL RX5 22 5 2 := ⟨RX5, TX5, 7, rfl, rX5_in, by decide, rfl, by decide, ⟨tyX5, tyX5_ok, nmX5, fun h => absurd h (by decide), fun _ => Or.inl rfl⟩, Or.inl (rgT_of 795 (by decide +kernel) (by decide +kernel))⟩
theorem tcX5_f25 : cFL RX5 25 5 0 := ⟨RX5, TX5, 7, rfl, rX5_in, by decide, rfl, by decide, ⟨tyX5, tyX5_ok, nmX5, fun h => absurd h (by decide), fun _ => Or.inl rfl⟩, Or.inl (rgT_of 792 (by decide +kernel) (by decide +kernel))⟩
theorem tcX5_f28 : cFL RX5 28 5 1 := ⟨RX5, TX5, 7, rfl, rX5_in, by decide, rfl, by decide, ⟨tyX5, tyX5_ok, nmX5, fun h => absurd h (by decide), fun _ => Or.inr rfl⟩, Or.inl (rgT_of 793 (by decide +kernel) (by decide +kernel))⟩
theorem tcX6_f12 : cFL RX6 12 6 0 := ⟨RX6, TX6, 12, rfl, rX6_in, by decide, rfl, by decide, ⟨tyX6, tyX6_ok, nmX6, fun _ => Or.inl ⟨_, rfl⟩, fun h => absurd h (by decide)⟩, Or.inl (rgT_of 171 (by decide +kernel) (by decide +kernel))⟩
theorem tcX6_f23 : cFL RX6 23 6 1 := ⟨RX6, TX6, 12, rfl, rX6_in, by decide, rfl, by decide, ⟨tyX6, tyX6_ok, nmX6, fun _ => Or.inl ⟨_, rfl⟩, fun h => absurd h (by decide)⟩, Or.inl (rgT_of 172 (by decide +kernel) (by decide +kernel))⟩
theorem tcX6_f27 : cFL RX6 27 6 2 := ⟨RX6, TX6, 12, rfl, rX6_in, by decide, rfl, by decide, ⟨tyX6, tyX6_ok, nmX6, fun _ => Or.inl ⟨_, rfl⟩, fun h => absurd h (by decide)⟩, Or.inl (rgT_of 173 (by decide +kernel) (by decide +kernel))⟩
theorem tcX6_f31 : cFL RX6 31 6 3 := ⟨RX6, TX6, 12, rfl, rX6_in, by decide, rfl, by decide, ⟨tyX6, tyX6_ok, nmX6, fun _ => Or.inl ⟨_, rfl⟩, fun h => absurd h (by decide)⟩, Or.inl (rgT_of 174 (by decide +kernel) (by decide +kernel))⟩
theorem tcX6_f35 : cFL RX6 35 6 4 := ⟨RX6, TX6, 12, rfl, rX6_in, by decide, rfl, by decide, ⟨tyX6, tyX6_ok, nmX6, fun _ => Or.inl ⟨_, rfl⟩, fun h => absurd h (by decide)⟩, Or.inl (rgT_of 175 (by decide +kernel) (by decide +kernel))⟩
theorem tcX6_f38 : cFL RX6 38 6 5 := ⟨RX6, TX6, 12, rfl, rX6_in, by decide, rfl, by decide, ⟨tyX6, tyX6_ok, nmX6, fun _ => Or.inl ⟨_, rfl⟩, fun h => absurd h (by decide)⟩, Or.inl (rgT_of 176 (by decide +kernel) (by decide +kernel))⟩
theorem tcX6_f43 : cFL RX6 43 6 6 := ⟨RX6, TX6, 12, rfl, rX6_in, by decide, rfl, by decide, ⟨tyX6, tyX6_ok, nmX6, fun _ => Or.inr ⟨_, rfl⟩, fun h => absurd h (by decide)⟩, Or.inl (rgT_of 177 (by decide +kernel) (by decide +kernel))⟩
theorem tcX6_f49 : cFL RX6 49 6 8 := ⟨RX6, TX6, 12, rfl, rX6_in, by decide, rfl, by decide, ⟨tyX6, tyX6_ok, nmX6, fun _ => Or.inr ⟨_, rfl⟩, fun h => absurd h (by decide)⟩, Or.inl (rgT_of 179 (by decide +kernel) (by decide +kernel))⟩
theorem tcX6_f55 : cFL RX6 55 6 10 := ⟨RX6, TX6, 12, rfl, rX6_in, by decide, rfl, by decide, ⟨tyX6, tyX6_ok, nmX6, fun _ => Or.inr ⟨_, rfl⟩, fun h => absurd h (by decide)⟩, Or.inl (rgT_of 181 (by decide +kernel) (by decide +kernel))⟩
theorem tcX6_f116 : cFL RX6 116 2 1 := ⟨RX2, TX2, 4, rfl, rX2_in, by decide, rfl, by decide, ⟨tyX2, tyX2_ok, nmX2, fun h => absurd h (by decide), fun _ => Or.inl rfl⟩, Or.inr ⟨"ModuleLoft", cNl_of 151 (by decide +kernel) rfl⟩⟩
theorem tcX6_f154 : cFL RX6 154 2 2 := ⟨RX2, TX2, 4, rfl, rX2_in, by decide, rfl, by decide, ⟨tyX2, tyX2_ok, nmX2, fun h => absurd h (by decide), fun _ => Or.inl rfl⟩, Or.inr ⟨"ModuleLoft", cNl_of 153 (by decide +kernel) rfl⟩⟩
theorem tcX6_f159 : cFL RX6 159 2 3 := ⟨RX2, TX2, 4, rfl, rX2_in, by decide, rfl, by decide, ⟨tyX2, tyX2_ok, nmX2, fun h => absurd h (by decide), fun _ => Or.inl rfl⟩, Or.inr ⟨"ModuleLoft", cNl_of 155 (by decide +kernel) rfl⟩⟩
theorem tcX6_f169 : cFL RX6 169 3 1 := ⟨RX3, TX3, 2, rfl, rX3_in, by decide, rfl, by decide, ⟨tyX3, tyX3_ok, nmX3, fun h => absurd h (by decide), fun _ => Or.inl rfl⟩, Or.inr ⟨"ModuleLoft", cNl_of 138 (by decide +kernel) rfl⟩⟩
theorem tcX6_f211 : cFL RX6 211 4 2 := ⟨RX4, TX4, 3, rfl, rX4_in, by decide, rfl, by decide, ⟨tyX4, tyX4_ok, nmX4, fun h => absurd h (by decide), fun _ => Or.inl rfl⟩, Or.inr ⟨"ModuleLoft", cNl_of 119 (by decide +kernel) rfl⟩⟩
theorem tcX6_f222 : cFL RX6 222 6 7 := ⟨RX6, TX6, 12, rfl, rX6_in, by decide, rfl, by decide, ⟨tyX6, tyX6_ok, nmX6, fun h => absurd h (by decide), fun _ => Or.inl rfl⟩, Or.inl (rgT_of 178 (by decide +kernel) (by decide +kernel))⟩
theorem tcX6_f232 : cFL RX6 232 0 3 := ⟨RX0, TX0, 5, rfl, rX0_in, by decide, rfl, by decide, ⟨tyX0, tyX0_ok, nmX0, fun _ => Or.inl ⟨_, rfl⟩, fun h => absurd h (by decide)⟩, Or.inr ⟨"ModuleLoft", cNl_of 696 (by decide +kernel) rfl⟩⟩
theorem tcX6_f247 : cFL RX6 247 0 0 := ⟨RX0, TX0, 5, rfl, rX0_in, by decide, rfl, by decide, ⟨tyX0, tyX0_ok, nmX0, fun h => absurd h (by decide), fun _ => Or.inl rfl⟩, Or.inr ⟨"ModuleLoft", cNl_of 691 (by decide +kernel) rfl⟩⟩
theorem tcX6_f259 : cFL RX6 259 6 9 := ⟨RX6, TX6, 12, rfl, rX6_in, by decide, rfl, by decide, ⟨tyX6, tyX6_ok, nmX6, fun h => absurd h (by decide), fun _ => Or.inl rfl⟩, Or.inl (rgT_of 180 (by decide +kernel) (by decide +kernel))⟩
theorem tcX6_f268 : cFL RX6 268 1 0 := ⟨RX1, TX1, 2, rfl, rX1_in, by decide, rfl, by decide, ⟨tyX1, tyX1_ok, nmX1, fun h => absurd h (by decide), fun _ => Or.inl rfl⟩, Or.inr ⟨"ModuleLoft", cNl_of 763 (by decide +kernel) rfl⟩⟩
theorem tcX6_f271 : cFL RX6 271 1 1 := ⟨RX1, TX1, 2, rfl, rX1_in, by decide, rfl, by decide, ⟨tyX1, tyX1_ok, nmX1, fun h => absurd h (by decide), fun _ => Or.inl rfl⟩, Or.inr ⟨"ModuleLoft", cNl_of 765 (by decide +kernel) rfl⟩⟩
theorem tcX6_f278 : cFL RX6 278 0 1 := ⟨RX0, TX0, 5, rfl, rX0_in, by decide, rfl, by decide, ⟨tyX0, tyX0_ok, nmX0, fun h => absurd h (by decide), fun _ => Or.inl rfl⟩, Or.inr ⟨"ModuleLoft", cNl_of 693 (by decide +kernel) rfl⟩⟩
theorem tcX6_f292 : cFL RX6 292 6 11 := ⟨RX6, TX6, 12, rfl, rX6_in, by decide, rfl, by decide, ⟨tyX6, tyX6_ok, nmX6, fun h => absurd h (by decide), fun _ => Or.inl rfl⟩, Or.inl (rgT_of 182 (by decide +kernel) (by decide +kernel))⟩
theorem tcX6_f306 : cFL RX6 306 5 2 := ⟨RX5, TX5, 7, rfl, rX5_in, by decide, rfl, by decide, ⟨tyX5, tyX5_ok, nmX5, fun h => absurd h (by decide), fun _ => Or.inl rfl⟩, Or.inr ⟨"ModuleLoft", cNl_of 796 (by decide +kernel) rfl⟩⟩
theorem tcX6_f309 : cFL RX6 309 5 3 := ⟨RX5, TX5, 7, rfl, rX5_in, by decide, rfl, by decide, ⟨tyX5, tyX5_ok, nmX5, fun h => absurd h (by decide), fun _ => Or.inl rfl⟩, Or.inr ⟨"ModuleLoft", cNl_of 797 (by decide +kernel) rfl⟩⟩
theorem tcX6_f320 : cFL RX6 320 5 4 := ⟨RX5, TX5, 7, rfl, rX5_in, by decide, rfl, by decide, ⟨tyX5, tyX5_ok, nmX5, fun h => absurd h (by decide), fun _ => Or.inl rfl⟩, Or.inr ⟨"ModuleLoft", cNl_of 799 (by decide +kernel) rfl⟩⟩
theorem tcX6_f329 : cFL RX6 329 5 1 := ⟨RX5, TX5, 7, rfl, rX5_in, by decide, rfl, by decide, ⟨tyX5, tyX5_ok, nmX5, fun h => absurd h (by decide), fun _ => Or.inr rfl⟩, Or.inr ⟨"ModuleLoft", cNl_of 794 (by decide +kernel) rfl⟩⟩
theorem tcX7_f7 : cFL RX7 7 7 0 := ⟨RX7, TX7, 55, rfl, rX7_in, by decide, rfl, by decide, ⟨tyX7, tyX7_ok, nmX7, fun h => absurd h (by decide), fun _ => Or.inl rfl⟩, Or.inl (rgT_of 831 (by decide +kernel) (by decide +kernel))⟩
theorem tcX7_f13 : cFL RX7 13 7 1 := ⟨RX7, TX7, 55, rfl, rX7_in, by decide, rfl, by decide, ⟨tyX7, tyX7_ok, nmX7, fun _ => Or.inr ⟨_, rfl⟩, fun h => absurd h (by decide)⟩, Or.inl (rgT_of 832 (by decide +kernel) (by decide +kernel))⟩
theorem tcX7_f17 : cFL RX7 17 7 2 := ⟨RX7, TX7, 55, rfl, rX7_in, by decide, rfl, by decide, ⟨tyX7, tyX7_ok, nmX7, fun _ => Or.inr ⟨_, rfl⟩, fun h => absurd h (by decide)⟩, Or.inl (rgT_of 833 (by decide +kernel) (by decide +kernel))⟩
theorem tcX7_f20 : cFL RX7 20 7 3 := ⟨RX7, TX7, 55, rfl, rX7_in, by decide, rfl, by decide, ⟨tyX7, tyX7_ok, nmX7, fun _ => Or.inr ⟨_, rfl⟩, fun h => absurd h (by decide)⟩, Or.inl (rgT_of 834 (by decide +kernel) (by decide +kernel))⟩
theorem tcX7_f23 : cFL RX7 23 7 5 := ⟨RX7, TX7, 55, rfl, rX7_in, by decide, rfl, by decide, ⟨tyX7, tyX7_ok, nmX7, fun _ => Or.inr ⟨_, rfl⟩, fun h => absurd h (by decide)⟩, Or.inl (rgT_of 836 (by decide +kernel) (by decide +kernel))⟩
theorem tcX7_f26 : cFL RX7 26 7 6 := ⟨RX7, TX7, 55, rfl, rX7_in, by decide, rfl, by decide, ⟨tyX7, tyX7_ok, nmX7, fun _ => Or.inr ⟨_, rfl⟩, fun h => absurd h (by decide)⟩, Or.inl (rgT_of 837 (by decide +kernel) (by decide +kernel))⟩
theorem tcX7_f29 : cFL RX7 29 7 7 := ⟨RX7, TX7, 55, rfl, rX7_in, by decide, rfl, by decide, ⟨tyX7, tyX7_ok, nmX7, fun _ => Or.inr ⟨_, rfl⟩, fun h => absurd h (by decide)⟩, Or.inl (rgT_of 838 (by decide +kernel) (by decide +kernel))⟩
theorem tcX7_f32 : cFL RX7 32 7 8 := ⟨RX7, TX7, 55, rfl, rX7_in, by decide, rfl, by decide, ⟨tyX7, tyX7_ok, nmX7, fun _ => Or.inr ⟨_, rfl⟩, fun h => absurd h (by decide)⟩, Or.inl (rgT_of 839 (by decide +kernel) (by decide +kernel))⟩
theorem tcX7_f35 : cFL RX7 35 7 9 := ⟨RX7, TX7, 55, rfl, rX7_in, by decide, rfl, by decide, ⟨tyX7, tyX7_ok, nmX7, fun _ => Or.inr ⟨_, rfl⟩, fun h => absurd h (by decide)⟩, Or.inl (rgT_of 840 (by decide +kernel) (by decide +kernel))⟩
theorem tcX7_f38 : cFL RX7 38 7 11 := ⟨RX7, TX7, 55, rfl, rX7_in, by decide, rfl, by decide, ⟨tyX7, tyX7_ok, nmX7, fun _ => Or.inr ⟨_, rfl⟩, fun h => absurd h (by decide)⟩, Or.inl (rgT_of 842 (by decide +kernel) (by decide +kernel))⟩
theorem tcX7_f41 : cFL RX7 41 7 12 := ⟨RX7, TX7, 55, rfl, rX7_in, by decide, rfl, by decide, ⟨tyX7, tyX7_ok, nmX7, fun _ => Or.inr ⟨_, rfl⟩, fun h => absurd h (by decide)⟩, Or.inl (rgT_of 843 (by decide +kernel) (by decide +kernel))⟩
theorem tcX7_f44 : cFL RX7 44 7 13 := ⟨RX7, TX7, 55, rfl, rX7_in, by decide, rfl, by decide, ⟨tyX7, tyX7_ok, nmX7, fun _ => Or.inr ⟨_, rfl⟩, fun h => absurd h (by decide)⟩, Or.inl (rgT_of 844 (by decide +kernel) (by decide +kernel))⟩
theorem tcX7_f47 : cFL RX7 47 7 14 := ⟨RX7, TX7, 55, rfl, rX7_in, by decide, rfl, by decide, ⟨tyX7, tyX7_ok, nmX7, fun _ => Or.inr ⟨_, rfl⟩, fun h => absurd h (by decide)⟩, Or.inl (rgT_of 845 (by decide +kernel) (by decide +kernel))⟩
theorem tcX7_f50 : cFL RX7 50 7 15 := ⟨RX7, TX7, 55, rfl, rX7_in, by decide, rfl, by decide, ⟨tyX7, tyX7_ok, nmX7, fun _ => Or.inr ⟨_, rfl⟩, fun h => absurd h (by decide)⟩, Or.inl (rgT_of 846 (by decide +kernel) (by decide +kernel))⟩
theorem tcX7_f53 : cFL RX7 53 7 16 := ⟨RX7, TX7, 55, rfl, rX7_in, by decide, rfl, by decide, ⟨tyX7, tyX7_ok, nmX7, fun _ => Or.inr ⟨_, rfl⟩, fun h => absurd h (by decide)⟩, Or.inl (rgT_of 847 (by decide +kernel) (by decide +kernel))⟩
theorem tcX7_f56 : cFL RX7 56 7 18 := ⟨RX7, TX7, 55, rfl, rX7_in, by decide, rfl, by decide, ⟨tyX7, tyX7_ok, nmX7, fun _ => Or.inr ⟨_, rfl⟩, fun h => absurd h (by decide)⟩, Or.inl (rgT_of 849 (by decide +kernel) (by decide +kernel))⟩
theorem tcX7_f59 : cFL RX7 59 7 19 := ⟨RX7, TX7, 55, rfl, rX7_in, by decide, rfl, by decide, ⟨tyX7, tyX7_ok, nmX7, fun _ => Or.inr ⟨_, rfl⟩, fun h => absurd h (by decide)⟩, Or.inl (rgT_of 850 (by decide +kernel) (by decide +kernel))⟩
theorem tcX7_f62 : cFL RX7 62 7 20 := ⟨RX7, TX7, 55, rfl, rX7_in, by decide, rfl, by decide, ⟨tyX7, tyX7_ok, nmX7, fun _ => Or.inr ⟨_, rfl⟩, fun h => absurd h (by decide)⟩, Or.inl (rgT_of 851 (by decide +kernel) (by decide +kernel))⟩
theorem tcX7_f65 : cFL RX7 65 7 21 := ⟨RX7, TX7, 55, rfl, rX7_in, by decide, rfl, by decide, ⟨tyX7, tyX7_ok, nmX7, fun _ => Or.inr ⟨_, rfl⟩, fun h => absurd h (by decide)⟩, Or.inl (rgT_of 852 (by decide +kernel) (by decide +kernel))⟩
theorem tcX7_f68 : cFL RX7 68 7 22 := ⟨RX7, TX7, 55, rfl, rX7_in, by decide, rfl, by decide, ⟨tyX7, tyX7_ok, nmX7, fun _ => Or.inr ⟨_, rfl⟩, fun h => absurd h (by decide)⟩, Or.inl (rgT_of 853 (by decide +kernel) (by decide +kernel))⟩
theorem tcX7_f71 : cFL RX7 71 7 23 := ⟨RX7, TX7, 55, rfl, rX7_in, by decide, rfl, by decide, ⟨tyX7, tyX7_ok, nmX7, fun _ => Or.inr ⟨_, rfl⟩, fun h => absurd h (by decide)⟩, Or.inl (rgT_of 854 (by decide +kernel) (by decide +kernel))⟩
theorem tcX7_f74 : cFL RX7 74 7 24 := ⟨RX7, TX7, 55, rfl, rX7_in, by decide, rfl, by decide, ⟨tyX7, tyX7_ok, nmX7, fun _ => Or.inr ⟨_, rfl⟩, fun h => absurd h (by decide)⟩, Or.inl (rgT_of 855 (by decide +kernel) (by decide +kernel))⟩
theorem tcX7_f77 : cFL RX7 77 7 25 := ⟨RX7, TX7, 55, rfl, rX7_in, by decide, rfl, by decide, ⟨tyX7, tyX7_ok, nmX7, fun _ => Or.inr ⟨_, rfl⟩, fun h => absurd h (by decide)⟩, Or.inl (rgT_of 856 (by decide +kernel) (by decide +kernel))⟩
theorem tcX7_f80 : cFL RX7 80 7 26 := ⟨RX7, TX7, 55, rfl, rX7_in, by decide, rfl, by decide, ⟨tyX7, tyX7_ok, nmX7, fun _ => Or.inr ⟨_, rfl⟩, fun h => absurd h (by decide)⟩, Or.inl (rgT_of 857 (by decide +kernel) (by decide +kernel))⟩
theorem tcX7_f83 : cFL RX7 83 7 27 := ⟨RX7, TX7, 55, rfl, rX7_in, by decide, rfl, by decide, ⟨tyX7, tyX7_ok, nmX7, fun _ => Or.inr ⟨_, rfl⟩, fun h => absurd h (by decide)⟩, Or.inl (rgT_of 858 (by decide +kernel) (by decide +kernel))⟩
theorem tcX7_f87 : cFL RX7 87 7 28 := ⟨RX7, TX7, 55, rfl, rX7_in, by decide, rfl, by decide, ⟨tyX7, tyX7_ok, nmX7, fun _ => Or.inr ⟨_, rfl⟩, fun h => absurd h (by decide)⟩, Or.inl (rgT_of 859 (by decide +kernel) (by decide +kernel))⟩
theorem tcX7_f90 : cFL RX7 90 7 30 := ⟨RX7, TX7, 55, rfl, rX7_in, by decide, rfl, by decide, ⟨tyX7, tyX7_ok, nmX7, fun _ => Or.inr ⟨_, rfl⟩, fun h => absurd h (by decide)⟩, Or.inl (rgT_of 861 (by decide +kernel) (by decide +kernel))⟩
theorem tcX7_f93 : cFL RX7 93 7 31 := ⟨RX7, TX7, 55, rfl, rX7_in, by decide, rfl, by decide, ⟨tyX7, tyX7_ok, nmX7, fun _ => Or.inr ⟨_, rfl⟩, fun h => absurd h (by decide)⟩, Or.inl (rgT_of 862 (by decide +kernel) (by decide +kernel))⟩
theorem tcX7_f96 : cFL RX7 96 7 33 := ⟨RX7, TX7, 55, rfl, rX7_in, by decide, rfl, by decide, ⟨tyX7, tyX7_ok, nmX7, fun _ => Or.inr ⟨_, rfl⟩, fun h => absurd h (by decide)⟩, Or.inl (rgT_of 864 (by decide +kernel) (by decide +kernel))⟩
theorem tcX7_f99 : cFL RX7 99 7 34 := ⟨RX7, TX7, 55, rfl, rX7_in, by decide, rfl, by decide, ⟨tyX7, tyX7_ok, nmX7, fun _ => Or.inr ⟨_, rfl⟩, fun h => absurd h (by decide)⟩, Or.inl (rgT_of 865 (by decide +kernel) (by decide +kernel))⟩
theorem tcX7_f102 : cFL RX7 102 7 35 := ⟨RX7, TX7, 55, rfl, rX7_in, by decide, rfl, by decide, ⟨tyX7, tyX7_ok, nmX7, fun _ => Or.inr ⟨_, rfl⟩, fun h => absurd h (by decide)⟩, Or.inl (rgT_of 866 (by decide +kernel) (by decide +kernel))⟩
theorem tcX7_f105 : cFL RX7 105 7 36 := ⟨RX7, TX7, 55, rfl, rX7_in, by decide, rfl, by decide, ⟨tyX7, tyX7_ok, nmX7, fun _ => Or.inr ⟨_, rfl⟩, fun h => absurd h (by decide)⟩, Or.inl (rgT_of 867 (by decide +kernel) (by decide +kernel))⟩
theorem tcX7_f108 : cFL RX7 108 7 37 := ⟨RX7, TX7, 55, rfl, rX7_in, by decide, rfl, by decide, ⟨tyX7, tyX7_ok, nmX7, fun _ => Or.inr ⟨_, rfl⟩, fun h => absurd h (by decide)⟩, Or.inl (rgT_of 868 (by decide +kernel) (by decide +kernel))⟩
theorem tcX7_f111 : cFL RX7 111 7 38 := ⟨RX7, TX7, 55, rfl, rX7_in, by decide, rfl, by decide, ⟨tyX7, tyX7_ok, nmX7, fun _ => Or.inr ⟨_, rfl⟩, fun h => absurd h (by decide)⟩, Or.inl (rgT_of 869 (by decide +kernel) (by decide +kernel))⟩
theorem tcX7_f114 : cFL RX7 114 7 39 := ⟨RX7, TX7, 55, rfl, rX7_in, by decide, rfl, by decide, ⟨tyX7, tyX7_ok, nmX7, fun _ => Or.inr ⟨_, rfl⟩, fun h => absurd h (by decide)⟩, Or.inl (rgT_of 870 (by decide +kernel) (by decide +kernel))⟩
theorem tcX7_f117 : cFL RX7 117 7 40 := ⟨RX7, TX7, 55, rfl, rX7_in, by decide, rfl, by decide, ⟨tyX7, tyX7_ok, nmX7, fun _ => Or.inr ⟨_, rfl⟩, fun h => absurd h (by decide)⟩, Or.inl (rgT_of 871 (by decide +kernel) (by decide +kernel))⟩
theorem tcX7_f120 : cFL RX7 120 7 42 := ⟨RX7, TX7, 55, rfl, rX7_in, by decide, rfl, by decide, ⟨tyX7, tyX7_ok, nmX7, fun _ => Or.inr ⟨_, rfl⟩, fun h => absurd h (by decide)⟩, Or.inl (rgT_of 873 (by decide +kernel) (by decide +kernel))⟩
theorem tcX7_f123 : cFL RX7 123 7 43 := ⟨RX7, TX7, 55, rfl, rX7_in, by decide, rfl, by decide, ⟨tyX7, tyX7_ok, nmX7, fun _ => Or.inr ⟨_, rfl⟩, fun h => absurd h (by decide)⟩, Or.inl (rgT_of 874 (by decide +kernel) (by decide +kernel))⟩
theorem tcX7_f126 : cFL RX7 126 7 44 := ⟨RX7, TX7, 55, rfl, rX7_in, by decide, rfl, by decide, ⟨tyX7, tyX7_ok, nmX7, fun _ => Or.inr ⟨_, rfl⟩, fun h => absurd h (by decide)⟩, Or.inl (rgT_of 875 (by decide +kernel) (by decide +kernel))⟩
theorem tcX7_f129 : cFL RX7 129 7 45 := ⟨RX7, TX7, 55, rfl, rX7_in, by decide, rfl, by decide, ⟨tyX7, tyX7_ok, nmX7, fun _ => Or.inr ⟨_, rfl⟩, fun h => absurd h (by decide)⟩, Or.inl (rgT_of 876 (by decide +kernel) (by decide +kernel))⟩
theorem tcX7_f132 : cFL RX7 132 7 46 := ⟨RX7, TX7, 55, rfl, rX7_in, by decide, rfl, by decide, ⟨tyX7, tyX7_ok, nmX7, fun _ => Or.inr ⟨_, rfl⟩, fun h => absurd h (by decide)⟩, Or.inl (rgT_of 877 (by decide +kernel) (by decide +kernel))⟩
theorem tcX7_f135 : cFL RX7 135 7 47 := ⟨RX7, TX7, 55, rfl, rX7_in, by decide, rfl, by decide, ⟨tyX7, tyX7_ok, nmX7, fun _ => Or.inr ⟨_, rfl⟩, fun h => absurd h (by decide)⟩, Or.inl (rgT_of 878 (by decide +kernel) (by decide +kernel))⟩
theorem tcX7_f138 : cFL RX7 138 7 48 := ⟨RX7, TX7, 55, rfl, rX7_in, by decide, rfl, by decide, ⟨tyX7, tyX7_ok, nmX7, fun _ => Or.inr ⟨_, rfl⟩, fun h => absurd h (by decide)⟩, Or.inl (rgT_of 879 (by decide +kernel) (by decide +kernel))⟩
theorem tcX7_f141 : cFL RX7 141 7 49 := ⟨RX7, TX7, 55, rfl, rX7_in, by decide, rfl, by decide, ⟨tyX7, tyX7_ok, nmX7, fun _ => Or.inr ⟨_, rfl⟩, fun h => absurd h (by decide)⟩, Or.inl (rgT_of 880 (by decide +kernel) (by decide +kernel))⟩
theorem tcX7_f144 : cFL RX7 144 7 50 := ⟨RX7, TX7, 55, rfl, rX7_in, by decide, rfl, by decide, ⟨tyX7, tyX7_ok, nmX7, fun _ => Or.inr ⟨_, rfl⟩, fun h => absurd h (by decide)⟩, Or.inl (rgT_of 881 (by decide +kernel) (by decide +kernel))⟩
theorem tcX7_f147 : cFL RX7 147 7 51 := ⟨RX7, TX7, 55, rfl, rX7_in, by decide, rfl, by decide, ⟨tyX7, tyX7_ok, nmX7, fun _ => Or.inr ⟨_, rfl⟩, fun h => absurd h (by decide)⟩, Or.inl (rgT_of 882 (by decide +kernel) (by decide +kernel))⟩
theorem tcX7_f150 : cFL RX7 150 7 52 := ⟨RX7, TX7, 55, rfl, rX7_in, by decide, rfl, by decide, ⟨tyX7, tyX7_ok, nmX7, fun _ => Or.inr ⟨_, rfl⟩, fun h => absurd h (by decide)⟩, Or.inl (rgT_of 883 (by decide +kernel) (by decide +kernel))⟩
theorem tcX7_f153 : cFL RX7 153 7 53 := ⟨RX7, TX7, 55, rfl, rX7_in, by decide, rfl, by decide, ⟨tyX7, tyX7_ok, nmX7, fun _ => Or.inr ⟨_, rfl⟩, fun h => absurd h (by decide)⟩, Or.inl (rgT_of 884 (by decide +kernel) (by decide +kernel))⟩
theorem nX2_1 : ∀ (Cn : String) (T : u_T) (N : Nat), vwCl[2]? = some (Cn, T, N) → (T 1).2.2.2 = false := by
  intro Cn T N h
  rw [vw2] at h
  cases h
  rfl
theorem nX2_2 : ∀ (Cn : String) (T : u_T) (N : Nat), vwCl[2]? = some (Cn, T, N) → (T 2).2.2.2 = false := by
  intro Cn T N h
  rw [vw2] at h
  cases h
  rfl
theorem nX2_3 : ∀ (Cn : String) (T : u_T) (N : Nat), vwCl[2]? = some (Cn, T, N) → (T 3).2.2.2 = false := by
  intro Cn T N h
  rw [vw2] at h
  cases h
  rfl
theorem nX3_1 : ∀ (Cn : String) (T : u_T) (N : Nat), vwCl[3]? = some (Cn, T, N) → (T 1).2.2.2 = false := by
  intro Cn T N h
  rw [vw3] at h
  cases h
  rfl
theorem nX4_2 : ∀ (Cn : String) (T : u_T) (N : Nat), vwCl[4]? = some (Cn, T, N) → (T 2).2.2.2 = false := by
  intro Cn T N h
  rw [vw4] at h
  cases h
  rfl
theorem nX5_2 : ∀ (Cn : String) (T : u_T) (N : Nat), vwCl[5]? = some (Cn, T, N) → (T 2).2.2.2 = false := by
  intro Cn T N h
  rw [vw5] at h
  cases h
  rfl
theorem nX5_3 : ∀ (Cn : String) (T : u_T) (N : Nat), vwCl[5]? = some (Cn, T, N) → (T 3).2.2.2 = false := by
  intro Cn T N h
  rw [vw5] at h
  cases h
  rfl
theorem nX5_4 : ∀ (Cn : String) (T : u_T) (N : Nat), vwCl[5]? = some (Cn, T, N) → (T 4).2.2.2 = false := by
  intro Cn T N h
  rw [vw5] at h
  cases h
  rfl
theorem nX6_7 : ∀ (Cn : String) (T : u_T) (N : Nat), vwCl[6]? = some (Cn, T, N) → (T 7).2.2.2 = false := by
  intro Cn T N h
  rw [vw6] at h
  cases h
  rfl
theorem nX6_9 : ∀ (Cn : String) (T : u_T) (N : Nat), vwCl[6]? = some (Cn, T, N) → (T 9).2.2.2 = false := by
  intro Cn T N h
  rw [vw6] at h
  cases h
  rfl
theorem nX6_11 : ∀ (Cn : String) (T : u_T) (N : Nat), vwCl[6]? = some (Cn, T, N) → (T 11).2.2.2 = false := by
  intro Cn T N h
  rw [vw6] at h
  cases h
  rfl
theorem nX7_0 : ∀ (Cn : String) (T : u_T) (N : Nat), vwCl[7]? = some (Cn, T, N) → (T 0).2.2.2 = false := by
  intro Cn T N h
  rw [vw7] at h
  cases h
  rfl
theorem uX0_f9 : ∀ (Cn : String) (T : u_T) (N : Nat), vwCl[0]? = some (Cn, T, N) → (T 0).2.2.2 = true ∧ (T 0).1 = RX0 ∧ Cond.fieldLink RX0 9 (T 0).1 (T 0).2.1 (T 0).2.2.1 ∈ rgT := by
  intro Cn T N h
  rw [vw0] at h
  cases h
  exact ⟨rfl, rfl, rgT_of 690 (by decide +kernel) (by decide +kernel)⟩
theorem uX0_f15 : ∀ (Cn : String) (T : u_T) (N : Nat), vwCl[0]? = some (Cn, T, N) → (T 1).2.2.2 = true ∧ (T 1).1 = RX0 ∧ Cond.fieldLink RX0 15 (T 1).1 (T 1).2.1 (T 1).2.2.1 ∈ rgT := by
  intro Cn T N h
  rw [vw0] at h
  cases h
  exact ⟨rfl, rfl, rgT_of 692 (by decide +kernel) (by decide +kernel)⟩
theorem uX0_f18 : ∀ (Cn : String) (T : u_T) (N : Nat), vwCl[0]? = some (Cn, T, N) → (T 2).2.2.2 = true ∧ (T 2).1 = RX0 ∧ Cond.fieldLink RX0 18 (T 2).1 (T 2).2.1 (T 2).2.2.1 ∈ rgT := by
  intro Cn T N h
  rw [vw0] at h
  cases h
  exact ⟨rfl, rfl, rgT_of 694 (by decide +kernel) (by decide +kernel)⟩
theorem uX0_f25 : ∀ (Cn : String) (T : u_T) (N : Nat), vwCl[0]? = some (Cn, T, N) → (T 3).2.2.2 = true ∧ (T 3).1 = RX0 ∧ Cond.fieldLink RX0 25 (T 3).1 (T 3).2.1 (T 3).2.2.1 ∈ rgT := by
  intro Cn T N h
  rw [vw0] at h
  cases h
  exact ⟨rfl, rfl, rgT_of 695 (by decide +kernel) (by decide +kernel)⟩
theorem uX0_f29 : ∀ (Cn : String) (T : u_T) (N : Nat), vwCl[0]? = some (Cn, T, N) → (T 4).2.2.2 = true ∧ (T 4).1 = RX0 ∧ Cond.fieldLink RX0 29 (T 4).1 (T 4).2.1 (T 4).2.2.1 ∈ rgT := by
  intro Cn T N h
  rw [vw0] at h
  cases h
  exact ⟨rfl, rfl, rgT_of 697 (by decide +kernel) (by decide +kernel)⟩
theorem uX1_f7 : ∀ (Cn : String) (T : u_T) (N : Nat), vwCl[1]? = some (Cn, T, N) → (T 0).2.2.2 = true ∧ (T 0).1 = RX1 ∧ Cond.fieldLink RX1 7 (T 0).1 (T 0).2.1 (T 0).2.2.1 ∈ rgT := by
  intro Cn T N h
  rw [vw1] at h
  cases h
  exact ⟨rfl, rfl, rgT_of 762 (by decide +kernel) (by decide +kernel)⟩
theorem uX1_f13 : ∀ (Cn : String) (T : u_T) (N : Nat), vwCl[1]? = some (Cn, T, N) → (T 1).2.2.2 = true ∧ (T 1).1 = RX1 ∧ Cond.fieldLink RX1 13 (T 1).1 (T 1).2.1 (T 1).2.2.1 ∈ rgT := by
  intro Cn T N h
  rw [vw1] at h
  cases h
  exact ⟨rfl, rfl, rgT_of 764 (by decide +kernel) (by decide +kernel)⟩
theorem uX2_f9 : ∀ (Cn : String) (T : u_T) (N : Nat), vwCl[2]? = some (Cn, T, N) → (T 0).2.2.2 = true ∧ (T 0).1 = RX2 ∧ Cond.fieldLink RX2 9 (T 0).1 (T 0).2.1 (T 0).2.2.1 ∈ rgT := by
  intro Cn T N h
  rw [vw2] at h
  cases h
  exact ⟨rfl, rfl, rgT_of 149 (by decide +kernel) (by decide +kernel)⟩
theorem uX3_f9 : ∀ (Cn : String) (T : u_T) (N : Nat), vwCl[3]? = some (Cn, T, N) → (T 0).2.2.2 = true ∧ (T 0).1 = RX3 ∧ Cond.fieldLink RX3 9 (T 0).1 (T 0).2.1 (T 0).2.2.1 ∈ rgT := by
  intro Cn T N h
  rw [vw3] at h
  cases h
  exact ⟨rfl, rfl, rgT_of 136 (by decide +kernel) (by decide +kernel)⟩
theorem uX4_f9 : ∀ (Cn : String) (T : u_T) (N : Nat), vwCl[4]? = some (Cn, T, N) → (T 0).2.2.2 = true ∧ (T 0).1 = RX4 ∧ Cond.fieldLink RX4 9 (T 0).1 (T 0).2.1 (T 0).2.2.1 ∈ rgT := by
  intro Cn T N h
  rw [vw4] at h
  cases h
  exact ⟨rfl, rfl, rgT_of 116 (by decide +kernel) (by decide +kernel)⟩
theorem uX4_f15 : ∀ (Cn : String) (T : u_T) (N : Nat), vwCl[4]? = some (Cn, T, N) → (T 1).2.2.2 = true ∧ (T 1).1 = RX4 ∧ Cond.fieldLink RX4 15 (T 1).1 (T 1).2.1 (T 1).2.2.1 ∈ rgT := by
  intro Cn T N h
  rw [vw4] at h
  cases h
  exact ⟨rfl, rfl, rgT_of 117 (by decide +kernel) (by decide +kernel)⟩
theorem uX5_f15 : ∀ (Cn : String) (T : u_T) (N : Nat), vwCl[5]? = some (Cn, T, N) → (T 5).2.2.2 = true ∧ (T 5).1 = RX5 ∧ Cond.fieldLink RX5 15 (T 5).1 (T 5).2.1 (T 5).2.2.1 ∈ rgT := by
  intro Cn T N h
  rw [vw5] at h
  cases h
  exact ⟨rfl, rfl, rgT_of 800 (by decide +kernel) (by decide +kernel)⟩
theorem uX5_f19 : ∀ (Cn : String) (T : u_T) (N : Nat), vwCl[5]? = some (Cn, T, N) → (T 6).2.2.2 = true ∧ (T 6).1 = RX5 ∧ Cond.fieldLink RX5 19 (T 6).1 (T 6).2.1 (T 6).2.2.1 ∈ rgT := by
  intro Cn T N h
  rw [vw5] at h
  cases h
  exact ⟨rfl, rfl, rgT_of 801 (by decide +kernel) (by decide +kernel)⟩
theorem uX5_f25 : ∀ (Cn : String) (T : u_T) (N : Nat), vwCl[5]? = some (Cn, T, N) → (T 0).2.2.2 = true ∧ (T 0).1 = RX5 ∧ Cond.fieldLink RX5 25 (T 0).1 (T 0).2.1 (T 0).2.2.1 ∈ rgT := by
  intro Cn T N h
  rw [vw5] at h
  cases h
  exact ⟨rfl, rfl, rgT_of 792 (by decide +kernel) (by decide +kernel)⟩
theorem uX5_f28 : ∀ (Cn : String) (T : u_T) (N : Nat), vwCl[5]? = some (Cn, T, N) → (T 1).2.2.2 = true ∧ (T 1).1 = RX5 ∧ Cond.fieldLink RX5 28 (T 1).1 (T 1).2.1 (T 1).2.2.1 ∈ rgT := by
  intro Cn T N h
  rw [vw5] at h
  cases h
  exact ⟨rfl, rfl, rgT_of 793 (by decide +kernel) (by decide +kernel)⟩
theorem uX6_f12 : ∀ (Cn : String) (T : u_T) (N : Nat), vwCl[6]? = some (Cn, T, N) → (T 0).2.2.2 = true ∧ (T 0).1 = RX6 ∧ Cond.fieldLink RX6 12 (T 0).1 (T 0).2.1 (T 0).2.2.1 ∈ rgT := by
  intro Cn T N h
  rw [vw6] at h
  cases h
  exact ⟨rfl, rfl, rgT_of 171 (by decide +kernel) (by decide +kernel)⟩
theorem uX6_f23 : ∀ (Cn : String) (T : u_T) (N : Nat), vwCl[6]? = some (Cn, T, N) → (T 1).2.2.2 = true ∧ (T 1).1 = RX6 ∧ Cond.fieldLink RX6 23 (T 1).1 (T 1).2.1 (T 1).2.2.1 ∈ rgT := by
  intro Cn T N h
  rw [vw6] at h
  cases h
  exact ⟨rfl, rfl, rgT_of 172 (by decide +kernel) (by decide +kernel)⟩
theorem uX6_f27 : ∀ (Cn : String) (T : u_T) (N : Nat), vwCl[6]? = some (Cn, T, N) → (T 2).2.2.2 = true ∧ (T 2).1 = RX6 ∧ Cond.fieldLink RX6 27 (T 2).1 (T 2).2.1 (T 2).2.2.1 ∈ rgT := by
  intro Cn T N h
  rw [vw6] at h
  cases h
  exact ⟨rfl, rfl, rgT_of 173 (by decide +kernel) (by decide +kernel)⟩
theorem uX6_f31 : ∀ (Cn : String) (T : u_T) (N : Nat), vwCl[6]? = some (Cn, T, N) → (T 3).2.2.2 = true ∧ (T 3).1 = RX6 ∧ Cond.fieldLink RX6 31 (T 3).1 (T 3).2.1 (T 3).2.2.1 ∈ rgT := by
  intro Cn T N h
  rw [vw6] at h
  cases h
  exact ⟨rfl, rfl, rgT_of 174 (by decide +kernel) (by decide +kernel)⟩
theorem uX6_f35 : ∀ (Cn : String) (T : u_T) (N : Nat), vwCl[6]? = some (Cn, T, N) → (T 4).2.2.2 = true ∧ (T 4).1 = RX6 ∧ Cond.fieldLink RX6 35 (T 4).1 (T 4).2.1 (T 4).2.2.1 ∈ rgT := by
  intro Cn T N h
  rw [vw6] at h
  cases h
  exact ⟨rfl, rfl, rgT_of 175 (by decide +kernel) (by decide +kernel)⟩
theorem uX6_f38 : ∀ (Cn : String) (T : u_T) (N : Nat), vwCl[6]? = some (Cn, T, N) → (T 5).2.2.2 = true ∧ (T 5).1 = RX6 ∧ Cond.fieldLink RX6 38 (T 5).1 (T 5).2.1 (T 5).2.2.1 ∈ rgT := by
  intro Cn T N h
  rw [vw6] at h
  cases h
  exact ⟨rfl, rfl, rgT_of 176 (by decide +kernel) (by decide +kernel)⟩
theorem uX6_f43 : ∀ (Cn : String) (T : u_T) (N : Nat), vwCl[6]? = some (Cn, T, N) → (T 6).2.2.2 = true ∧ (T 6).1 = RX6 ∧ Cond.fieldLink RX6 43 (T 6).1 (T 6).2.1 (T 6).2.2.1 ∈ rgT := by
  intro Cn T N h
  rw [vw6] at h
  cases h
  exact ⟨rfl, rfl, rgT_of 177 (by decide +kernel) (by decide +kernel)⟩
theorem uX6_f49 : ∀ (Cn : String) (T : u_T) (N : Nat), vwCl[6]? = some (Cn, T, N) → (T 8).2.2.2 = true ∧ (T 8).1 = RX6 ∧ Cond.fieldLink RX6 49 (T 8).1 (T 8).2.1 (T 8).2.2.1 ∈ rgT := by
  intro Cn T N h
  rw [vw6] at h
  cases h
  exact ⟨rfl, rfl, rgT_of 179 (by decide +kernel) (by decide +kernel)⟩
theorem uX6_f55 : ∀ (Cn : String) (T : u_T) (N : Nat), vwCl[6]? = some (Cn, T, N) → (T 10).2.2.2 = true ∧ (T 10).1 = RX6 ∧ Cond.fieldLink RX6 55 (T 10).1 (T 10).2.1 (T 10).2.2.1 ∈ rgT := by
  intro Cn T N h
  rw [vw6] at h
  cases h
  exact ⟨rfl, rfl, rgT_of 181 (by decide +kernel) (by decide +kernel)⟩
theorem uX7_f13 : ∀ (Cn : String) (T : u_T) (N : Nat), vwCl[7]? = some (Cn, T, N) → (T 1).2.2.2 = true ∧ (T 1).1 = RX7 ∧ Cond.fieldLink RX7 13 (T 1).1 (T 1).2.1 (T 1).2.2.1 ∈ rgT := by
  intro Cn T N h
  rw [vw7] at h
  cases h
  exact ⟨rfl, rfl, rgT_of 832 (by decide +kernel) (by decide +kernel)⟩
theorem uX7_f17 : ∀ (Cn : String) (T : u_T) (N : Nat), vwCl[7]? = some (Cn, T, N) → (T 2).2.2.2 = true ∧ (T 2).1 = RX7 ∧ Cond.fieldLink RX7 17 (T 2).1 (T 2).2.1 (T 2).2.2.1 ∈ rgT := by
  intro Cn T N h
  rw [vw7] at h
  cases h
  exact ⟨rfl, rfl, rgT_of 833 (by decide +kernel) (by decide +kernel)⟩
theorem uX7_f20 : ∀ (Cn : String) (T : u_T) (N : Nat), vwCl[7]? = some (Cn, T, N) → (T 3).2.2.2 = true ∧ (T 3).1 = RX7 ∧ Cond.fieldLink RX7 20 (T 3).1 (T 3).2.1 (T 3).2.2.1 ∈ rgT := by
  intro Cn T N h
  rw [vw7] at h
  cases h
  exact ⟨rfl, rfl, rgT_of 834 (by decide +kernel) (by decide +kernel)⟩
theorem uX7_f23 : ∀ (Cn : String) (T : u_T) (N : Nat), vwCl[7]? = some (Cn, T, N) → (T 5).2.2.2 = true ∧ (T 5).1 = RX7 ∧ Cond.fieldLink RX7 23 (T 5).1 (T 5).2.1 (T 5).2.2.1 ∈ rgT := by
  intro Cn T N h
  rw [vw7] at h
  cases h
  exact ⟨rfl, rfl, rgT_of 836 (by decide +kernel) (by decide +kernel)⟩
theorem uX7_f26 : ∀ (Cn : String) (T : u_T) (N : Nat), vwCl[7]? = some (Cn, T, N) → (T 6).2.2.2 = true ∧ (T 6).1 = RX7 ∧ Cond.fieldLink RX7 26 (T 6).1 (T 6).2.1 (T 6).2.2.1 ∈ rgT := by
  intro Cn T N h
  rw [vw7] at h
  cases h
  exact ⟨rfl, rfl, rgT_of 837 (by decide +kernel) (by decide +kernel)⟩
theorem uX7_f29 : ∀ (Cn : String) (T : u_T) (N : Nat), vwCl[7]? = some (Cn, T, N) → (T 7).2.2.2 = true ∧ (T 7).1 = RX7 ∧ Cond.fieldLink RX7 29 (T 7).1 (T 7).2.1 (T 7).2.2.1 ∈ rgT := by
  intro Cn T N h
  rw [vw7] at h
  cases h
  exact ⟨rfl, rfl, rgT_of 838 (by decide +kernel) (by decide +kernel)⟩
theorem uX7_f32 : ∀ (Cn : String) (T : u_T) (N : Nat), vwCl[7]? = some (Cn, T, N) → (T 8).2.2.2 = true ∧ (T 8).1 = RX7 ∧ Cond.fieldLink RX7 32 (T 8).1 (T 8).2.1 (T 8).2.2.1 ∈ rgT := by
  intro Cn T N h
  rw [vw7] at h
  cases h
  exact ⟨rfl, rfl, rgT_of 839 (by decide +kernel) (by decide +kernel)⟩
theorem uX7_f35 : ∀ (Cn : String) (T : u_T) (N : Nat), vwCl[7]? = some (Cn, T, N) → (T 9).2.2.2 = true ∧ (T 9).1 = RX7 ∧ Cond.fieldLink RX7 35 (T 9).1 (T 9).2.1 (T 9).2.2.1 ∈ rgT := by
  intro Cn T N h
  rw [vw7] at h
  cases h
  exact ⟨rfl, rfl, rgT_of 840 (by decide +kernel) (by decide +kernel)⟩
theorem uX7_f38 : ∀ (Cn : String) (T : u_T) (N : Nat), vwCl[7]? = some (Cn, T, N) → (T 11).2.2.2 = true ∧ (T 11).1 = RX7 ∧ Cond.fieldLink RX7 38 (T 11).1 (T 11).2.1 (T 11).2.2.1 ∈ rgT := by
  intro Cn T N h
  rw [vw7] at h
  cases h
  exact ⟨rfl, rfl, rgT_of 842 (by decide +kernel) (by decide +kernel)⟩
theorem uX7_f41 : ∀ (Cn : String) (T : u_T) (N : Nat), vwCl[7]? = some (Cn, T, N) → (T 12).2.2.2 = true ∧ (T 12).1 = RX7 ∧ Cond.fieldLink RX7 41 (T 12).1 (T 12).2.1 (T 12).2.2.1 ∈ rgT := by
  intro Cn T N h
  rw [vw7] at h
  cases h
  exact ⟨rfl, rfl, rgT_of 843 (by decide +kernel) (by decide +kernel)⟩
theorem uX7_f44 : ∀ (Cn : String) (T : u_T) (N : Nat), vwCl[7]? = some (Cn, T, N) → (T 13).2.2.2 = true ∧ (T 13).1 = RX7 ∧ Cond.fieldLink RX7 44 (T 13).1 (T 13).2.1 (T 13).2.2.1 ∈ rgT := by
  intro Cn T N h
  rw [vw7] at h
  cases h
  exact ⟨rfl, rfl, rgT_of 844 (by decide +kernel) (by decide +kernel)⟩
theorem uX7_f47 : ∀ (Cn : String) (T : u_T) (N : Nat), vwCl[7]? = some (Cn, T, N) → (T 14).2.2.2 = true ∧ (T 14).1 = RX7 ∧ Cond.fieldLink RX7 47 (T 14).1 (T 14).2.1 (T 14).2.2.1 ∈ rgT := by
  intro Cn T N h
  rw [vw7] at h
  cases h
  exact ⟨rfl, rfl, rgT_of 845 (by decide +kernel) (by decide +kernel)⟩
theorem uX7_f50 : ∀ (Cn : String) (T : u_T) (N : Nat), vwCl[7]? = some (Cn, T, N) → (T 15).2.2.2 = true ∧ (T 15).1 = RX7 ∧ Cond.fieldLink RX7 50 (T 15).1 (T 15).2.1 (T 15).2.2.1 ∈ rgT := by
  intro Cn T N h
  rw [vw7] at h
  cases h
  exact ⟨rfl, rfl, rgT_of 846 (by decide +kernel) (by decide +kernel)⟩
theorem uX7_f53 : ∀ (Cn : String) (T : u_T) (N : Nat), vwCl[7]? = some (Cn, T, N) → (T 16).2.2.2 = true ∧ (T 16).1 = RX7 ∧ Cond.fieldLink RX7 53 (T 16).1 (T 16).2.1 (T 16).2.2.1 ∈ rgT := by
  intro Cn T N h
  rw [vw7] at h
  cases h
  exact ⟨rfl, rfl, rgT_of 847 (by decide +kernel) (by decide +kernel)⟩
theorem uX7_f56 : ∀ (Cn : String) (T : u_T) (N : Nat), vwCl[7]? = some (Cn, T, N) → (T 18).2.2.2 = true ∧ (T 18).1 = RX7 ∧ Cond.fieldLink RX7 56 (T 18).1 (T 18).2.1 (T 18).2.2.1 ∈ rgT := by
  intro Cn T N h
  rw [vw7] at h
  cases h
  exact ⟨rfl, rfl, rgT_of 849 (by decide +kernel) (by decide +kernel)⟩
theorem uX7_f59 : ∀ (Cn : String) (T : u_T) (N : Nat), vwCl[7]? = some (Cn, T, N) → (T 19).2.2.2 = true ∧ (T 19).1 = RX7 ∧ Cond.fieldLink RX7 59 (T 19).1 (T 19).2.1 (T 19).2.2.1 ∈ rgT := by
  intro Cn T N h
  rw [vw7] at h
  cases h
  exact ⟨rfl, rfl, rgT_of 850 (by decide +kernel) (by decide +kernel)⟩
theorem uX7_f62 : ∀ (Cn : String) (T : u_T) (N : Nat), vwCl[7]? = some (Cn, T, N) → (T 20).2.2.2 = true ∧ (T 20).1 = RX7 ∧ Cond.fieldLink RX7 62 (T 20).1 (T 20).2.1 (T 20).2.2.1 ∈ rgT := by
  intro Cn T N h
  rw [vw7] at h
  cases h
  exact ⟨rfl, rfl, rgT_of 851 (by decide +kernel) (by decide +kernel)⟩
theorem uX7_f65 : ∀ (Cn : String) (T : u_T) (N : Nat), vwCl[7]? = some (Cn, T, N) → (T 21).2.2.2 = true ∧ (T 21).1 = RX7 ∧ Cond.fieldLink RX7 65 (T 21).1 (T 21).2.1 (T 21).2.2.1 ∈ rgT := by
  intro Cn T N h
  rw [vw7] at h
  cases h
  exact ⟨rfl, rfl, rgT_of 852 (by decide +kernel) (by decide +kernel)⟩
theorem uX7_f68 : ∀ (Cn : String) (T : u_T) (N : Nat), vwCl[7]? = some (Cn, T, N) → (T 22).2.2.2 = true ∧ (T 22).1 = RX7 ∧ Cond.fieldLink RX7 68 (T 22).1 (T 22).2.1 (T 22).2.2.1 ∈ rgT := by
  intro Cn T N h
  rw [vw7] at h
  cases h
  exact ⟨rfl, rfl, rgT_of 853 (by decide +kernel) (by decide +kernel)⟩
theorem uX7_f71 : ∀ (Cn : String) (T : u_T) (N : Nat), vwCl[7]? = some (Cn, T, N) → (T 23).2.2.2 = true ∧ (T 23).1 = RX7 ∧ Cond.fieldLink RX7 71 (T 23).1 (T 23).2.1 (T 23).2.2.1 ∈ rgT := by
  intro Cn T N h
  rw [vw7] at h
  cases h
  exact ⟨rfl, rfl, rgT_of 854 (by decide +kernel) (by decide +kernel)⟩
theorem uX7_f74 : ∀ (Cn : String) (T : u_T) (N : Nat), vwCl[7]? = some (Cn, T, N) → (T 24).2.2.2 = true ∧ (T 24).1 = RX7 ∧ Cond.fieldLink RX7 74 (T 24).1 (T 24).2.1 (T 24).2.2.1 ∈ rgT := by
  intro Cn T N h
  rw [vw7] at h
  cases h
  exact ⟨rfl, rfl, rgT_of 855 (by decide +kernel) (by decide +kernel)⟩
theorem uX7_f77 : ∀ (Cn : String) (T : u_T) (N : Nat), vwCl[7]? = some (Cn, T, N) → (T 25).2.2.2 = true ∧ (T 25).1 = RX7 ∧ Cond.fieldLink RX7 77 (T 25).1 (T 25).2.1 (T 25).2.2.1 ∈ rgT := by
  intro Cn T N h
  rw [vw7] at h
  cases h
  exact ⟨rfl, rfl, rgT_of 856 (by decide +kernel) (by decide +kernel)⟩
theorem uX7_f80 : ∀ (Cn : String) (T : u_T) (N : Nat), vwCl[7]? = some (Cn, T, N) → (T 26).2.2.2 = true ∧ (T 26).1 = RX7 ∧ Cond.fieldLink RX7 80 (T 26).1 (T 26).2.1 (T 26).2.2.1 ∈ rgT := by
  intro Cn T N h
  rw [vw7] at h
  cases h
  exact ⟨rfl, rfl, rgT_of 857 (by decide +kernel) (by decide +kernel)⟩
theorem uX7_f83 : ∀ (Cn : String) (T : u_T) (N : Nat), vwCl[7]? = some (Cn, T, N) → (T 27).2.2.2 = true ∧ (T 27).1 = RX7 ∧ Cond.fieldLink RX7 83 (T 27).1 (T 27).2.1 (T 27).2.2.1 ∈ rgT := by
  intro Cn T N h
  rw [vw7] at h
  cases h
  exact ⟨rfl, rfl, rgT_of 858 (by decide +kernel) (by decide +kernel)⟩
theorem uX7_f87 : ∀ (Cn : String) (T : u_T) (N : Nat), vwCl[7]? = some (Cn, T, N) → (T 28).2.2.2 = true ∧ (T 28).1 = RX7 ∧ Cond.fieldLink RX7 87 (T 28).1 (T 28).2.1 (T 28).2.2.1 ∈ rgT := by
  intro Cn T N h
  rw [vw7] at h
  cases h
  exact ⟨rfl, rfl, rgT_of 859 (by decide +kernel) (by decide +kernel)⟩
theorem uX7_f90 : ∀ (Cn : String) (T : u_T) (N : Nat), vwCl[7]? = some (Cn, T, N) → (T 30).2.2.2 = true ∧ (T 30).1 = RX7 ∧ Cond.fieldLink RX7 90 (T 30).1 (T 30).2.1 (T 30).2.2.1 ∈ rgT := by
  intro Cn T N h
  rw [vw7] at h
  cases h
  exact ⟨rfl, rfl, rgT_of 861 (by decide +kernel) (by decide +kernel)⟩
theorem uX7_f93 : ∀ (Cn : String) (T : u_T) (N : Nat), vwCl[7]? = some (Cn, T, N) → (T 31).2.2.2 = true ∧ (T 31).1 = RX7 ∧ Cond.fieldLink RX7 93 (T 31).1 (T 31).2.1 (T 31).2.2.1 ∈ rgT := by
  intro Cn T N h
  rw [vw7] at h
  cases h
  exact ⟨rfl, rfl, rgT_of 862 (by decide +kernel) (by decide +kernel)⟩
theorem uX7_f96 : ∀ (Cn : String) (T : u_T) (N : Nat), vwCl[7]? = some (Cn, T, N) → (T 33).2.2.2 = true ∧ (T 33).1 = RX7 ∧ Cond.fieldLink RX7 96 (T 33).1 (T 33).2.1 (T 33).2.2.1 ∈ rgT := by
  intro Cn T N h
  rw [vw7] at h
  cases h
  exact ⟨rfl, rfl, rgT_of 864 (by decide +kernel) (by decide +kernel)⟩
theorem uX7_f99 : ∀ (Cn : String) (T : u_T) (N : Nat), vwCl[7]? = some (Cn, T, N) → (T 34).2.2.2 = true ∧ (T 34).1 = RX7 ∧ Cond.fieldLink RX7 99 (T 34).1 (T 34).2.1 (T 34).2.2.1 ∈ rgT := by
  intro Cn T N h
  rw [vw7] at h
  cases h
  exact ⟨rfl, rfl, rgT_of 865 (by decide +kernel) (by decide +kernel)⟩
theorem uX7_f102 : ∀ (Cn : String) (T : u_T) (N : Nat), vwCl[7]? = some (Cn, T, N) → (T 35).2.2.2 = true ∧ (T 35).1 = RX7 ∧ Cond.fieldLink RX7 102 (T 35).1 (T 35).2.1 (T 35).2.2.1 ∈ rgT := by
  intro Cn T N h
  rw [vw7] at h
  cases h
  exact ⟨rfl, rfl, rgT_of 866 (by decide +kernel) (by decide +kernel)⟩
theorem uX7_f105 : ∀ (Cn : String) (T : u_T) (N : Nat), vwCl[7]? = some (Cn, T, N) → (T 36).2.2.2 = true ∧ (T 36).1 = RX7 ∧ Cond.fieldLink RX7 105 (T 36).1 (T 36).2.1 (T 36).2.2.1 ∈ rgT := by
  intro Cn T N h
  rw [vw7] at h
  cases h
  exact ⟨rfl, rfl, rgT_of 867 (by decide +kernel) (by decide +kernel)⟩
theorem uX7_f108 : ∀ (Cn : String) (T : u_T) (N : Nat), vwCl[7]? = some (Cn, T, N) → (T 37).2.2.2 = true ∧ (T 37).1 = RX7 ∧ Cond.fieldLink RX7 108 (T 37).1 (T 37).2.1 (T 37).2.2.1 ∈ rgT := by
  intro Cn T N h
  rw [vw7] at h
  cases h
  exact ⟨rfl, rfl, rgT_of 868 (by decide +kernel) (by decide +kernel)⟩
theorem uX7_f111 : ∀ (Cn : String) (T : u_T) (N : Nat), vwCl[7]? = some (Cn, T, N) → (T 38).2.2.2 = true ∧ (T 38).1 = RX7 ∧ Cond.fieldLink RX7 111 (T 38).1 (T 38).2.1 (T 38).2.2.1 ∈ rgT := by
  intro Cn T N h
  rw [vw7] at h
  cases h
  exact ⟨rfl, rfl, rgT_of 869 (by decide +kernel) (by decide +kernel)⟩
theorem uX7_f114 : ∀ (Cn : String) (T : u_T) (N : Nat), vwCl[7]? = some (Cn, T, N) → (T 39).2.2.2 = true ∧ (T 39).1 = RX7 ∧ Cond.fieldLink RX7 114 (T 39).1 (T 39).2.1 (T 39).2.2.1 ∈ rgT := by
  intro Cn T N h
  rw [vw7] at h
  cases h
  exact ⟨rfl, rfl, rgT_of 870 (by decide +kernel) (by decide +kernel)⟩
theorem uX7_f117 : ∀ (Cn : String) (T : u_T) (N : Nat), vwCl[7]? = some (Cn, T, N) → (T 40).2.2.2 = true ∧ (T 40).1 = RX7 ∧ Cond.fieldLink RX7 117 (T 40).1 (T 40).2.1 (T 40).2.2.1 ∈ rgT := by
  intro Cn T N h
  rw [vw7] at h
  cases h
  exact ⟨rfl, rfl, rgT_of 871 (by decide +kernel) (by decide +kernel)⟩
theorem uX7_f120 : ∀ (Cn : String) (T : u_T) (N : Nat), vwCl[7]? = some (Cn, T, N) → (T 42).2.2.2 = true ∧ (T 42).1 = RX7 ∧ Cond.fieldLink RX7 120 (T 42).1 (T 42).2.1 (T 42).2.2.1 ∈ rgT := by
  intro Cn T N h
  rw [vw7] at h
  cases h
  exact ⟨rfl, rfl, rgT_of 873 (by decide +kernel) (by decide +kernel)⟩
theorem uX7_f123 : ∀ (Cn : String) (T : u_T) (N : Nat), vwCl[7]? = some (Cn, T, N) → (T 43).2.2.2 = true ∧ (T 43).1 = RX7 ∧ Cond.fieldLink RX7 123 (T 43).1 (T 43).2.1 (T 43).2.2.1 ∈ rgT := by
  intro Cn T N h
  rw [vw7] at h
  cases h
  exact ⟨rfl, rfl, rgT_of 874 (by decide +kernel) (by decide +kernel)⟩
theorem uX7_f126 : ∀ (Cn : String) (T : u_T) (N : Nat), vwCl[7]? = some (Cn, T, N) → (T 44).2.2.2 = true ∧ (T 44).1 = RX7 ∧ Cond.fieldLink RX7 126 (T 44).1 (T 44).2.1 (T 44).2.2.1 ∈ rgT := by
  intro Cn T N h
  rw [vw7] at h
  cases h
  exact ⟨rfl, rfl, rgT_of 875 (by decide +kernel) (by decide +kernel)⟩
theorem uX7_f129 : ∀ (Cn : String) (T : u_T) (N : Nat), vwCl[7]? = some (Cn, T, N) → (T 45).2.2.2 = true ∧ (T 45).1 = RX7 ∧ Cond.fieldLink RX7 129 (T 45).1 (T 45).2.1 (T 45).2.2.1 ∈ rgT := by
  intro Cn T N h
  rw [vw7] at h
  cases h
  exact ⟨rfl, rfl, rgT_of 876 (by decide +kernel) (by decide +kernel)⟩
theorem uX7_f132 : ∀ (Cn : String) (T : u_T) (N : Nat), vwCl[7]? = some (Cn, T, N) → (T 46).2.2.2 = true ∧ (T 46).1 = RX7 ∧ Cond.fieldLink RX7 132 (T 46).1 (T 46).2.1 (T 46).2.2.1 ∈ rgT := by
  intro Cn T N h
  rw [vw7] at h
  cases h
  exact ⟨rfl, rfl, rgT_of 877 (by decide +kernel) (by decide +kernel)⟩
theorem uX7_f135 : ∀ (Cn : String) (T : u_T) (N : Nat), vwCl[7]? = some (Cn, T, N) → (T 47).2.2.2 = true ∧ (T 47).1 = RX7 ∧ Cond.fieldLink RX7 135 (T 47).1 (T 47).2.1 (T 47).2.2.1 ∈ rgT := by
  intro Cn T N h
  rw [vw7] at h
  cases h
  exact ⟨rfl, rfl, rgT_of 878 (by decide +kernel) (by decide +kernel)⟩
theorem uX7_f138 : ∀ (Cn : String) (T : u_T) (N : Nat), vwCl[7]? = some (Cn, T, N) → (T 48).2.2.2 = true ∧ (T 48).1 = RX7 ∧ Cond.fieldLink RX7 138 (T 48).1 (T 48).2.1 (T 48).2.2.1 ∈ rgT := by
  intro Cn T N h
  rw [vw7] at h
  cases h
  exact ⟨rfl, rfl, rgT_of 879 (by decide +kernel) (by decide +kernel)⟩
theorem uX7_f141 : ∀ (Cn : String) (T : u_T) (N : Nat), vwCl[7]? = some (Cn, T, N) → (T 49).2.2.2 = true ∧ (T 49).1 = RX7 ∧ Cond.fieldLink RX7 141 (T 49).1 (T 49).2.1 (T 49).2.2.1 ∈ rgT := by
  intro Cn T N h
  rw [vw7] at h
  cases h
  exact ⟨rfl, rfl, rgT_of 880 (by decide +kernel) (by decide +kernel)⟩
theorem uX7_f144 : ∀ (Cn : String) (T : u_T) (N : Nat), vwCl[7]? = some (Cn, T, N) → (T 50).2.2.2 = true ∧ (T 50).1 = RX7 ∧ Cond.fieldLink RX7 144 (T 50).1 (T 50).2.1 (T 50).2.2.1 ∈ rgT := by
  intro Cn T N h
  rw [vw7] at h
  cases h
  exact ⟨rfl, rfl, rgT_of 881 (by decide +kernel) (by decide +kernel)⟩
theorem uX7_f147 : ∀ (Cn : String) (T : u_T) (N : Nat), vwCl[7]? = some (Cn, T, N) → (T 51).2.2.2 = true ∧ (T 51).1 = RX7 ∧ Cond.fieldLink RX7 147 (T 51).1 (T 51).2.1 (T 51).2.2.1 ∈ rgT := by
  intro Cn T N h
  rw [vw7] at h
  cases h
  exact ⟨rfl, rfl, rgT_of 882 (by decide +kernel) (by decide +kernel)⟩
theorem uX7_f150 : ∀ (Cn : String) (T : u_T) (N : Nat), vwCl[7]? = some (Cn, T, N) → (T 52).2.2.2 = true ∧ (T 52).1 = RX7 ∧ Cond.fieldLink RX7 150 (T 52).1 (T 52).2.1 (T 52).2.2.1 ∈ rgT := by
  intro Cn T N h
  rw [vw7] at h
  cases h
  exact ⟨rfl, rfl, rgT_of 883 (by decide +kernel) (by decide +kernel)⟩
theorem uX7_f153 : ∀ (Cn : String) (T : u_T) (N : Nat), vwCl[7]? = some (Cn, T, N) → (T 53).2.2.2 = true ∧ (T 53).1 = RX7 ∧ Cond.fieldLink RX7 153 (T 53).1 (T 53).2.1 (T 53).2.2.1 ∈ rgT := by
  intro Cn T N h
  rw [vw7] at h
  cases h
  exact ⟨rfl, rfl, rgT_of 884 (by decide +kernel) (by decide +kernel)⟩
theorem tI0_0 : cIsI 0 0 := ⟨RX0, TX0, 5, rfl, tyX0_ok 0 (by decide)⟩
theorem tI0_1 : cIsI 0 1 := ⟨RX0, TX0, 5, rfl, tyX0_ok 1 (by decide)⟩
theorem tI1_0 : cIsI 1 0 := ⟨RX1, TX1, 2, rfl, tyX1_ok 0 (by decide)⟩
theorem tI1_1 : cIsI 1 1 := ⟨RX1, TX1, 2, rfl, tyX1_ok 1 (by decide)⟩
theorem tI2_1 : cIsI 2 1 := ⟨RX2, TX2, 4, rfl, tyX2_ok 1 (by decide)⟩
theorem tI2_2 : cIsI 2 2 := ⟨RX2, TX2, 4, rfl, tyX2_ok 2 (by decide)⟩
theorem tI2_3 : cIsI 2 3 := ⟨RX2, TX2, 4, rfl, tyX2_ok 3 (by decide)⟩
theorem tI3_1 : cIsI 3 1 := ⟨RX3, TX3, 2, rfl, tyX3_ok 1 (by decide)⟩
theorem tI4_2 : cIsI 4 2 := ⟨RX4, TX4, 3, rfl, tyX4_ok 2 (by decide)⟩
theorem tI5_0 : cIsI 5 0 := ⟨RX5, TX5, 7, rfl, tyX5_ok 0 (by decide)⟩
theorem tI5_2 : cIsI 5 2 := ⟨RX5, TX5, 7, rfl, tyX5_ok 2 (by decide)⟩
theorem tI5_3 : cIsI 5 3 := ⟨RX5, TX5, 7, rfl, tyX5_ok 3 (by decide)⟩
theorem tI5_4 : cIsI 5 4 := ⟨RX5, TX5, 7, rfl, tyX5_ok 4 (by decide)⟩
theorem tI6_7 : cIsI 6 7 := ⟨RX6, TX6, 12, rfl, tyX6_ok 7 (by decide)⟩
theorem tI6_9 : cIsI 6 9 := ⟨RX6, TX6, 12, rfl, tyX6_ok 9 (by decide)⟩
theorem tI6_11 : cIsI 6 11 := ⟨RX6, TX6, 12, rfl, tyX6_ok 11 (by decide)⟩
theorem tI7_0 : cIsI 7 0 := ⟨RX7, TX7, 55, rfl, tyX7_ok 0 (by decide)⟩
theorem cfit0 : Bundle.fit (cEx 0) = true := by decide +kernel
theorem tX6_e0 : Cond.initialized (cEx 0) ∈ rgT := rgT_of 88 (by decide +kernel) (by decide +kernel)
theorem cfit1 : Bundle.fit (cEx 1) = true := by decide +kernel
theorem tX6_e1 : Cond.initialized (cEx 1) ∈ rgT := rgT_of 90 (by decide +kernel) (by decide +kernel)
theorem cfit2 : Bundle.fit (cEx 2) = true := by decide +kernel
theorem tX6_e2 : Cond.initialized (cEx 2) ∈ rgT := rgT_of 89 (by decide +kernel) (by decide +kernel)
theorem tX6_k67 : Cond.classLink RX6 67 (cEx 2) ∈ rgT := rgT_of 360 (by decide +kernel) (by decide +kernel)
theorem tX6_k84 : Cond.classLink RX6 84 (cEx 1) ∈ rgT := rgT_of 394 (by decide +kernel) (by decide +kernel)
theorem tX6_k111 : Cond.classLink RX6 111 (cEx 0) ∈ rgT := rgT_of 278 (by decide +kernel) (by decide +kernel)
theorem tX6_w71 : ∀ w ∈ vx_atS RX6 71 (cEx 2) cThr, w ∈ lw_tbl ∧ (goodWord w = true ∨ cNest w = true) := by decide +kernel
theorem tX6_w88 : ∀ w ∈ vx_atS RX6 88 (cEx 1) cThr, w ∈ lw_tbl ∧ (goodWord w = true ∨ cNest w = true) := by decide +kernel
theorem tX6_w115 : ∀ w ∈ vx_atS RX6 115 (cEx 0) cThr, w ∈ lw_tbl ∧ (goodWord w = true ∨ cNest w = true) := by decide +kernel
theorem tX6_g67_71 : ∀ w ∈ Cond.classLink RX6 67 (cEx 2) :: Cond.initialized (cEx 2) :: vx_atS RX6 71 (cEx 2) cThr, vx_ot w = true := by decide +kernel
theorem tX6_g84_88 : ∀ w ∈ Cond.classLink RX6 84 (cEx 1) :: Cond.initialized (cEx 1) :: vx_atS RX6 88 (cEx 1) cThr, vx_ot w = true := by decide +kernel
theorem tX6_g111_115 : ∀ w ∈ Cond.classLink RX6 111 (cEx 0) :: Cond.initialized (cEx 0) :: vx_atS RX6 115 (cEx 0) cThr, vx_ot w = true := by decide +kernel
theorem tX6_t69 : Cond.stringRef RX6 69 "no room for another type" ∈ lw_tbl := List.mem_of_getElem? (i := 369) (by decide +kernel)
theorem tX6_t86 : Cond.stringRef RX6 86 "what is 0 to 2" ∈ lw_tbl := List.mem_of_getElem? (i := 403) (by decide +kernel)
theorem tX6_t113 : Cond.stringRef RX6 113 "no such structure" ∈ lw_tbl := List.mem_of_getElem? (i := 475) (by decide +kernel)
theorem tX6_t127 : Cond.stringRef RX6 127 "no room for another structure" ∈ lw_tbl := List.mem_of_getElem? (i := 502) (by decide +kernel)
theorem tX6_t129 : Cond.stringRef RX6 129 "kind is 0 to 2" ∈ lw_tbl := List.mem_of_getElem? (i := 510) (by decide +kernel)
theorem tX6_t134 : Cond.stringRef RX6 134 "no such item" ∈ lw_tbl := List.mem_of_getElem? (i := 511) (by decide +kernel)
theorem tX6_t157 : Cond.stringRef RX6 157 "no such signature" ∈ lw_tbl := List.mem_of_getElem? (i := 554) (by decide +kernel)
theorem tX6_t165 : Cond.stringRef RX6 165 "no room for another signature" ∈ lw_tbl := List.mem_of_getElem? (i := 570) (by decide +kernel)
theorem tX6_t167 : Cond.stringRef RX6 167 "no such abstract type" ∈ lw_tbl := List.mem_of_getElem? (i := 578) (by decide +kernel)
theorem tX6_t181 : Cond.stringRef RX6 181 "no room for more specs" ∈ lw_tbl := List.mem_of_getElem? (i := 539) (by decide +kernel)
theorem tX6_t209 : Cond.stringRef RX6 209 "the structure is not matched" ∈ lw_tbl := List.mem_of_getElem? (i := 628) (by decide +kernel)
theorem tX6_t216 : Cond.stringRef RX6 216 "no room for more types or structures" ∈ lw_tbl := List.mem_of_getElem? (i := 637) (by decide +kernel)
theorem tX6_t225 : Cond.stringRef RX6 225 "no room for another functor" ∈ lw_tbl := List.mem_of_getElem? (i := 680) (by decide +kernel)
theorem tX6_t227 : Cond.stringRef RX6 227 "the argument does not have what the body means" ∈ lw_tbl := List.mem_of_getElem? (i := 681) (by decide +kernel)
theorem tX6_t242 : Cond.stringRef RX6 242 "no such functor or structure" ∈ lw_tbl := List.mem_of_getElem? (i := 721) (by decide +kernel)
theorem tX6_t254 : Cond.stringRef RX6 254 "what comes of the body is not matched, or finds no room" ∈ lw_tbl := List.mem_of_getElem? (i := 744) (by decide +kernel)
theorem tX6_t262 : Cond.stringRef RX6 262 "no room for another pack" ∈ lw_tbl := List.mem_of_getElem? (i := 756) (by decide +kernel)
theorem tX6_t266 : Cond.stringRef RX6 266 "no such pack" ∈ lw_tbl := List.mem_of_getElem? (i := 778) (by decide +kernel)
theorem tX6_t295 : Cond.stringRef RX6 295 "no such unit" ∈ lw_tbl := List.mem_of_getElem? (i := 786) (by decide +kernel)
theorem tX6_t297 : Cond.stringRef RX6 297 "no room for another unit" ∈ lw_tbl := List.mem_of_getElem? (i := 787) (by decide +kernel)
theorem tX6_t304 : Cond.stringRef RX6 304 "no such unit or signature" ∈ lw_tbl := List.mem_of_getElem? (i := 824) (by decide +kernel)
theorem tX6_t341 : Cond.stringRef RX6 341 "no such type" ∈ lw_tbl := List.mem_of_getElem? (i := 319) (by decide +kernel)
theorem tX6_t343 : Cond.stringRef RX6 343 "no such structure or signature" ∈ lw_tbl := List.mem_of_getElem? (i := 467) (by decide +kernel)
theorem tX6_t345 : Cond.stringRef RX6 345 "no such type or type name" ∈ lw_tbl := List.mem_of_getElem? (i := 530) (by decide +kernel)
theorem tX6_t347 : Cond.stringRef RX6 347 "a name is 0 to 9" ∈ lw_tbl := List.mem_of_getElem? (i := 420) (by decide +kernel)
theorem tX6_t349 : Cond.stringRef RX6 349 "a number is -10000 to 10000" ∈ lw_tbl := List.mem_of_getElem? (i := 456) (by decide +kernel)
theorem tX6_t351 : Cond.stringRef RX6 351 "the name is there already" ∈ lw_tbl := List.mem_of_getElem? (i := 534) (by decide +kernel)
theorem tX0_l24 : cML RX0 24 yX2_init := Or.inr ⟨"ModuleLoft", cNl_of 688 (by decide +kernel) rfl⟩
theorem tX0_l33 : cML RX0 33 yX6_write := Or.inr ⟨"ModuleLoft", cNl_of 689 (by decide +kernel) rfl⟩
theorem tX0_l37 : cML RX0 37 yX6_read := Or.inr ⟨"ModuleLoft", cNl_of 726 (by decide +kernel) rfl⟩
theorem tX2_l19 : cML RX2 19 yX2_get := Or.inl (rgT_of 433 (by decide +kernel) (by decide +kernel))
theorem tX2_l23 : cML RX2 23 yX2_set := Or.inl (rgT_of 438 (by decide +kernel) (by decide +kernel))
theorem tX2_l27 : cML RX2 27 yX2_add := Or.inl (rgT_of 501 (by decide +kernel) (by decide +kernel))
theorem tX2_l37 : cML RX2 37 yX2_placeOf := Or.inl (rgT_of 611 (by decide +kernel) (by decide +kernel))
theorem tX3_l21 : cML RX3 21 yX2_init := Or.inr ⟨"ModuleLoft", cNl_of 492 (by decide +kernel) rfl⟩
theorem tX3_l22 : cML RX3 22 yX2_clear := Or.inr ⟨"ModuleLoft", cNl_of 493 (by decide +kernel) rfl⟩
theorem tX3_l25 : cML RX3 25 yX3_blank := Or.inl (rgT_of 487 (by decide +kernel) (by decide +kernel))
theorem tX3_l29 : cML RX3 29 yX2_addAll := Or.inr ⟨"ModuleLoft", cNl_of 497 (by decide +kernel) rfl⟩
theorem tX4_l18 : cML RX4 18 yX4_append := Or.inl (rgT_of 109 (by decide +kernel) (by decide +kernel))
theorem tX4_l26 : cML RX4 26 yX4_has := Or.inl (rgT_of 350 (by decide +kernel) (by decide +kernel))
theorem tX4_l30 : cML RX4 30 yX6_read := Or.inr ⟨"ModuleLoft", cNl_of 355 (by decide +kernel) rfl⟩
theorem tX4_l34 : cML RX4 34 yX4_isArrow := Or.inl (rgT_of 388 (by decide +kernel) (by decide +kernel))
theorem tX4_l37 : cML RX4 37 yX4_fromOf := Or.inl (rgT_of 351 (by decide +kernel) (by decide +kernel))
theorem tX4_l41 : cML RX4 41 yX4_toOf := Or.inl (rgT_of 356 (by decide +kernel) (by decide +kernel))
theorem tX4_l44 : cML RX4 44 yX6_write := Or.inr ⟨"ModuleLoft", cNl_of 113 (by decide +kernel) rfl⟩
theorem tX5_l32 : cML RX5 32 yX6_write := Or.inr ⟨"ModuleLoft", cNl_of 260 (by decide +kernel) rfl⟩
theorem tX5_l36 : cML RX5 36 yX6_read := Or.inr ⟨"ModuleLoft", cNl_of 229 (by decide +kernel) rfl⟩
theorem tX6_l11 : cML RX6 11 yX4_init := Or.inr ⟨"ModuleLoft", cNl_of 105 (by decide +kernel) rfl⟩
theorem tX6_l20 : cML RX6 20 yX3_init := Or.inr ⟨"ModuleLoft", cNl_of 132 (by decide +kernel) rfl⟩
theorem tX6_l30 : cML RX6 30 yX2_init := Or.inr ⟨"ModuleLoft", cNl_of 145 (by decide +kernel) rfl⟩
theorem tX6_m59 : Cond.methodLink RX6 59 yX6_needType ∈ rgT := rgT_of 270 (by decide +kernel) (by decide +kernel)
theorem tX6_l63 : cML RX6 63 yX4_arrowOf := Or.inr ⟨"ModuleLoft", cNl_of 346 (by decide +kernel) rfl⟩
theorem tX6_l74 : cML RX6 74 yX4_kindOf := Or.inr ⟨"ModuleLoft", cNl_of 384 (by decide +kernel) rfl⟩
theorem tX6_l78 : cML RX6 78 yX4_fromOf := Or.inr ⟨"ModuleLoft", cNl_of 392 (by decide +kernel) rfl⟩
theorem tX6_l81 : cML RX6 81 yX4_toOf := Or.inr ⟨"ModuleLoft", cNl_of 393 (by decide +kernel) rfl⟩
theorem tX6_m89 : Cond.methodLink RX6 89 yX6_needName ∈ rgT := rgT_of 417 (by decide +kernel) (by decide +kernel)
theorem tX6_l92 : cML RX6 92 yX4_newOne := Or.inr ⟨"ModuleLoft", cNl_of 421 (by decide +kernel) rfl⟩
theorem tX6_l96 : cML RX6 96 yX6_addHiding := Or.inl (rgT_of 425 (by decide +kernel) (by decide +kernel))
theorem tX6_m100 : Cond.methodLink RX6 100 yX6_needNumber ∈ rgT := rgT_of 453 (by decide +kernel) (by decide +kernel)
theorem tX6_l103 : cML RX6 103 yX3_at := Or.inr ⟨"ModuleLoft", cNl_of 236 (by decide +kernel) rfl⟩
theorem tX6_m107 : Cond.methodLink RX6 107 yX6_needRow ∈ rgT := rgT_of 464 (by decide +kernel) (by decide +kernel)
theorem tX6_l120 : cML RX6 120 yX2_get := Or.inr ⟨"ModuleLoft", cNl_of 240 (by decide +kernel) rfl⟩
theorem tX6_l123 : cML RX6 123 yX3_keep := Or.inr ⟨"ModuleLoft", cNl_of 483 (by decide +kernel) rfl⟩
theorem tX6_l131 : cML RX6 131 yX2_placeOf := Or.inr ⟨"ModuleLoft", cNl_of 429 (by decide +kernel) rfl⟩
theorem tX6_l136 : cML RX6 136 yX2_takeOut := Or.inr ⟨"ModuleLoft", cNl_of 434 (by decide +kernel) rfl⟩
theorem tX6_l139 : cML RX6 139 yX2_add := Or.inr ⟨"ModuleLoft", cNl_of 442 (by decide +kernel) rfl⟩
theorem tX6_m143 : Cond.methodLink RX6 143 yX6_needTold ∈ rgT := rgT_of 526 (by decide +kernel) (by decide +kernel)
theorem tX6_m147 : Cond.methodLink RX6 147 yX6_needPlace ∈ rgT := rgT_of 531 (by decide +kernel) (by decide +kernel)
theorem tX6_m151 : Cond.methodLink RX6 151 yX6_needRoomForSpecs ∈ rgT := rgT_of 535 (by decide +kernel) (by decide +kernel)
theorem tX6_l162 : cML RX6 162 yX2_addAll := Or.inr ⟨"ModuleLoft", cNl_of 562 (by decide +kernel) rfl⟩
theorem tX6_l170 : cML RX6 170 yX3_blank := Or.inr ⟨"ModuleLoft", cNl_of 579 (by decide +kernel) rfl⟩
theorem tX6_l173 : cML RX6 173 yX2_tellEverywhere := Or.inr ⟨"ModuleLoft", cNl_of 580 (by decide +kernel) rfl⟩
theorem tX6_l177 : cML RX6 177 yX2_set := Or.inr ⟨"ModuleLoft", cNl_of 584 (by decide +kernel) rfl⟩
theorem tX6_l183 : cML RX6 183 yX6_firstMisfit := Or.inl (rgT_of 599 (by decide +kernel) (by decide +kernel))
theorem tX6_m187 : Cond.methodLink RX6 187 yX6_remade ∈ rgT := rgT_of 624 (by decide +kernel) (by decide +kernel)
theorem tX6_l191 : cML RX6 191 yX6_areAlike := Or.inl (rgT_of 232 (by decide +kernel) (by decide +kernel))
theorem tX6_l195 : cML RX6 195 yX6_fitsType := Or.inl (rgT_of 603 (by decide +kernel) (by decide +kernel))
theorem tX6_l199 : cML RX6 199 yX2_typeOf := Or.inr ⟨"ModuleLoft", cNl_of 607 (by decide +kernel) rfl⟩
theorem tX6_l202 : cML RX6 202 yX6_isSameType := Or.inl (rgT_of 612 (by decide +kernel) (by decide +kernel))
theorem tX6_l205 : cML RX6 205 yX4_isArrow := Or.inr ⟨"ModuleLoft", cNl_of 616 (by decide +kernel) rfl⟩
theorem tX6_l212 : cML RX6 212 yX6_remake := Or.inl (rgT_of 629 (by decide +kernel) (by decide +kernel))
theorem tX6_l218 : cML RX6 218 yX6_typeTold := Or.inl (rgT_of 633 (by decide +kernel) (by decide +kernel))
theorem tX6_l229 : cML RX6 229 yX0_init := Or.inr ⟨"ModuleLoft", cNl_of 683 (by decide +kernel) rfl⟩
theorem tX6_l235 : cML RX6 235 yX2_clear := Or.inr ⟨"ModuleLoft", cNl_of 709 (by decide +kernel) rfl⟩
theorem tX6_l238 : cML RX6 238 yX6_functorAt := Or.inl (rgT_of 717 (by decide +kernel) (by decide +kernel))
theorem tX6_l244 : cML RX6 244 yX0_resultOf := Or.inr ⟨"ModuleLoft", cNl_of 722 (by decide +kernel) rfl⟩
theorem tX6_l250 : cML RX6 250 yX6_applyAnew := Or.inl (rgT_of 727 (by decide +kernel) (by decide +kernel))
theorem tX6_l256 : cML RX6 256 yX0_note := Or.inr ⟨"ModuleLoft", cNl_of 745 (by decide +kernel) rfl⟩
theorem tX6_l264 : cML RX6 264 yX1_init := Or.inr ⟨"ModuleLoft", cNl_of 758 (by decide +kernel) rfl⟩
theorem tX6_l274 : cML RX6 274 yX6_fill := Or.inl (rgT_of 731 (by decide +kernel) (by decide +kernel))
theorem tX6_l281 : cML RX6 281 yX6_cut := Or.inl (rgT_of 735 (by decide +kernel) (by decide +kernel))
theorem tX6_l299 : cML RX6 299 yX5_init := Or.inr ⟨"ModuleLoft", cNl_of 788 (by decide +kernel) rfl⟩
theorem tX6_l300 : cML RX6 300 yX6_unitAt := Or.inl (rgT_of 212 (by decide +kernel) (by decide +kernel))
theorem tX6_l312 : cML RX6 312 yX6_isStale := Or.inl (rgT_of 216 (by decide +kernel) (by decide +kernel))
theorem tX6_l316 : cML RX6 316 yX6_noteAllUsed := Or.inl (rgT_of 252 (by decide +kernel) (by decide +kernel))
theorem tX6_l323 : cML RX6 323 yX5_isUsing := Or.inr ⟨"ModuleLoft", cNl_of 220 (by decide +kernel) rfl⟩
theorem tX6_l326 : cML RX6 326 yX5_notedFace := Or.inr ⟨"ModuleLoft", cNl_of 225 (by decide +kernel) rfl⟩
theorem tX6_l333 : cML RX6 333 yX5_notedChanges := Or.inr ⟨"ModuleLoft", cNl_of 244 (by decide +kernel) rfl⟩
theorem tX6_l336 : cML RX6 336 yX5_note := Or.inr ⟨"ModuleLoft", cNl_of 256 (by decide +kernel) rfl⟩
theorem tX6_l338 : cML RX6 338 yX4_has := Or.inr ⟨"ModuleLoft", cNl_of 274 (by decide +kernel) rfl⟩
theorem tI_X0_init : Cond.instanceMethod yX0_init ∈ rgT := rgT_of 684 (by decide +kernel) (by decide +kernel)
theorem tC_X0_init : Cond.code yX0_init cX0_init 5 none ∈ rgT := rgT_of 685 (by decide +kernel) (by decide +kernel)
theorem tH_X0_init : cHd yX0_init 3 := by unfold cHd; decide +kernel
theorem tI_X0_note : Cond.instanceMethod yX0_note ∈ rgT := rgT_of 747 (by decide +kernel) (by decide +kernel)
theorem tS_X0_note : Cond.selects RX0 yX0_note yX0_note ∈ rgT := rgT_of 43 (by decide +kernel) (by decide +kernel)
theorem tC_X0_note : Cond.code yX0_note cX0_note 3 none ∈ rgT := rgT_of 748 (by decide +kernel) (by decide +kernel)
theorem tH_X0_note : cHd yX0_note 2 := by unfold cHd; decide +kernel
theorem tI_X0_resultOf : Cond.instanceMethod yX0_resultOf ∈ rgT := rgT_of 724 (by decide +kernel) (by decide +kernel)
theorem tS_X0_resultOf : Cond.selects RX0 yX0_resultOf yX0_resultOf ∈ rgT := rgT_of 40 (by decide +kernel) (by decide +kernel)
theorem tC_X0_resultOf : Cond.code yX0_resultOf cX0_resultOf 2 (some .int) ∈ rgT := rgT_of 725 (by decide +kernel) (by decide +kernel)
theorem tH_X0_resultOf : cHd yX0_resultOf 1 := by unfold cHd; decide +kernel
theorem tI_X1_init : Cond.instanceMethod yX1_init ∈ rgT := rgT_of 759 (by decide +kernel) (by decide +kernel)
theorem tC_X1_init : Cond.code yX1_init cX1_init 3 none ∈ rgT := rgT_of 760 (by decide +kernel) (by decide +kernel)
theorem tH_X1_init : cHd yX1_init 2 := by unfold cHd; decide +kernel
theorem tI_X2_add : Cond.instanceMethod yX2_add ∈ rgT := rgT_of 444 (by decide +kernel) (by decide +kernel)
theorem tS_X2_add : Cond.selects RX2 yX2_add yX2_add ∈ rgT := rgT_of 24 (by decide +kernel) (by decide +kernel)
theorem tC_X2_add : Cond.code yX2_add cX2_add 8 none ∈ rgT := rgT_of 445 (by decide +kernel) (by decide +kernel)
theorem tH_X2_add : cHd yX2_add 6 := by unfold cHd; decide +kernel
theorem tI_X2_addAll : Cond.instanceMethod yX2_addAll ∈ rgT := rgT_of 499 (by decide +kernel) (by decide +kernel)
theorem tS_X2_addAll : Cond.selects RX2 yX2_addAll yX2_addAll ∈ rgT := rgT_of 28 (by decide +kernel) (by decide +kernel)
theorem tC_X2_addAll : Cond.code yX2_addAll cX2_addAll 3 none ∈ rgT := rgT_of 500 (by decide +kernel) (by decide +kernel)
theorem tH_X2_addAll : cHd yX2_addAll 1 := by unfold cHd; decide +kernel
theorem tI_X2_clear : Cond.instanceMethod yX2_clear ∈ rgT := rgT_of 495 (by decide +kernel) (by decide +kernel)
theorem tS_X2_clear : Cond.selects RX2 yX2_clear yX2_clear ∈ rgT := rgT_of 27 (by decide +kernel) (by decide +kernel)
theorem tC_X2_clear : Cond.code yX2_clear cX2_clear 1 none ∈ rgT := rgT_of 496 (by decide +kernel) (by decide +kernel)
theorem tH_X2_clear : cHd yX2_clear 0 := by unfold cHd; decide +kernel
theorem tI_X2_get : Cond.instanceMethod yX2_get ∈ rgT := rgT_of 242 (by decide +kernel) (by decide +kernel)
theorem tS_X2_get : Cond.selects RX2 yX2_get yX2_get ∈ rgT := rgT_of 7 (by decide +kernel) (by decide +kernel)
theorem tC_X2_get : Cond.code yX2_get cX2_get 4 (some .int) ∈ rgT := rgT_of 243 (by decide +kernel) (by decide +kernel)
theorem tH_X2_get : cHd yX2_get 2 := by unfold cHd; decide +kernel
theorem tI_X2_init : Cond.instanceMethod yX2_init ∈ rgT := rgT_of 146 (by decide +kernel) (by decide +kernel)
theorem tC_X2_init : Cond.code yX2_init cX2_init 1 none ∈ rgT := rgT_of 147 (by decide +kernel) (by decide +kernel)
theorem tH_X2_init : cHd yX2_init 0 := by unfold cHd; decide +kernel
theorem tI_X2_placeOf : Cond.instanceMethod yX2_placeOf ∈ rgT := rgT_of 431 (by decide +kernel) (by decide +kernel)
theorem tS_X2_placeOf : Cond.selects RX2 yX2_placeOf yX2_placeOf ∈ rgT := rgT_of 21 (by decide +kernel) (by decide +kernel)
theorem tC_X2_placeOf : Cond.code yX2_placeOf cX2_placeOf 4 (some .int) ∈ rgT := rgT_of 432 (by decide +kernel) (by decide +kernel)
theorem tH_X2_placeOf : cHd yX2_placeOf 2 := by unfold cHd; decide +kernel
theorem tI_X2_set : Cond.instanceMethod yX2_set ∈ rgT := rgT_of 440 (by decide +kernel) (by decide +kernel)
theorem tS_X2_set : Cond.selects RX2 yX2_set yX2_set ∈ rgT := rgT_of 23 (by decide +kernel) (by decide +kernel)
theorem tC_X2_set : Cond.code yX2_set cX2_set 5 none ∈ rgT := rgT_of 441 (by decide +kernel) (by decide +kernel)
theorem tH_X2_set : cHd yX2_set 3 := by unfold cHd; decide +kernel
theorem tI_X2_takeOut : Cond.instanceMethod yX2_takeOut ∈ rgT := rgT_of 436 (by decide +kernel) (by decide +kernel)
theorem tS_X2_takeOut : Cond.selects RX2 yX2_takeOut yX2_takeOut ∈ rgT := rgT_of 22 (by decide +kernel) (by decide +kernel)
theorem tC_X2_takeOut : Cond.code yX2_takeOut cX2_takeOut 4 none ∈ rgT := rgT_of 437 (by decide +kernel) (by decide +kernel)
theorem tH_X2_takeOut : cHd yX2_takeOut 1 := by unfold cHd; decide +kernel
theorem tI_X2_tellEverywhere : Cond.instanceMethod yX2_tellEverywhere ∈ rgT := rgT_of 582 (by decide +kernel) (by decide +kernel)
theorem tS_X2_tellEverywhere : Cond.selects RX2 yX2_tellEverywhere yX2_tellEverywhere ∈ rgT := rgT_of 31 (by decide +kernel) (by decide +kernel)
theorem tC_X2_tellEverywhere : Cond.code yX2_tellEverywhere cX2_tellEverywhere 4 none ∈ rgT := rgT_of 583 (by decide +kernel) (by decide +kernel)
theorem tH_X2_tellEverywhere : cHd yX2_tellEverywhere 2 := by unfold cHd; decide +kernel
theorem tI_X2_typeOf : Cond.instanceMethod yX2_typeOf ∈ rgT := rgT_of 609 (by decide +kernel) (by decide +kernel)
theorem tS_X2_typeOf : Cond.selects RX2 yX2_typeOf yX2_typeOf ∈ rgT := rgT_of 34 (by decide +kernel) (by decide +kernel)
theorem tC_X2_typeOf : Cond.code yX2_typeOf cX2_typeOf 5 (some .int) ∈ rgT := rgT_of 610 (by decide +kernel) (by decide +kernel)
theorem tH_X2_typeOf : cHd yX2_typeOf 1 := by unfold cHd; decide +kernel
theorem tI_X3_at : Cond.instanceMethod yX3_at ∈ rgT := rgT_of 238 (by decide +kernel) (by decide +kernel)
theorem tS_X3_at : Cond.selects RX3 yX3_at yX3_at ∈ rgT := rgT_of 6 (by decide +kernel) (by decide +kernel)
theorem tC_X3_at : Cond.code yX3_at cX3_at 2 (some (.object "ModuleLoft$Row")) ∈ rgT := rgT_of 239 (by decide +kernel) (by decide +kernel)
theorem tH_X3_at : cHd yX3_at 1 := by unfold cHd; decide +kernel
theorem tI_X3_blank : Cond.instanceMethod yX3_blank ∈ rgT := rgT_of 489 (by decide +kernel) (by decide +kernel)
theorem tS_X3_blank : Cond.selects RX3 yX3_blank yX3_blank ∈ rgT := rgT_of 26 (by decide +kernel) (by decide +kernel)
theorem tC_X3_blank : Cond.code yX3_blank cX3_blank 3 (some (.object "ModuleLoft$Row")) ∈ rgT := rgT_of 490 (by decide +kernel) (by decide +kernel)
theorem tH_X3_blank : cHd yX3_blank 1 := by unfold cHd; decide +kernel
theorem tI_X3_init : Cond.instanceMethod yX3_init ∈ rgT := rgT_of 133 (by decide +kernel) (by decide +kernel)
theorem tC_X3_init : Cond.code yX3_init cX3_init 2 none ∈ rgT := rgT_of 134 (by decide +kernel) (by decide +kernel)
theorem tH_X3_init : cHd yX3_init 1 := by unfold cHd; decide +kernel
theorem tI_X3_keep : Cond.instanceMethod yX3_keep ∈ rgT := rgT_of 485 (by decide +kernel) (by decide +kernel)
theorem tS_X3_keep : Cond.selects RX3 yX3_keep yX3_keep ∈ rgT := rgT_of 25 (by decide +kernel) (by decide +kernel)
theorem tC_X3_keep : Cond.code yX3_keep cX3_keep 3 (some .int) ∈ rgT := rgT_of 486 (by decide +kernel) (by decide +kernel)
theorem tH_X3_keep : cHd yX3_keep 1 := by unfold cHd; decide +kernel
theorem tI_X4_append : Cond.instanceMethod yX4_append ∈ rgT := rgT_of 111 (by decide +kernel) (by decide +kernel)
theorem tS_X4_append : Cond.selects RX4 yX4_append yX4_append ∈ rgT := rgT_of 0 (by decide +kernel) (by decide +kernel)
theorem tC_X4_append : Cond.code yX4_append cX4_append 3 (some .int) ∈ rgT := rgT_of 112 (by decide +kernel) (by decide +kernel)
theorem tH_X4_append : cHd yX4_append 2 := by unfold cHd; decide +kernel
theorem tI_X4_arrowOf : Cond.instanceMethod yX4_arrowOf ∈ rgT := rgT_of 348 (by decide +kernel) (by decide +kernel)
theorem tS_X4_arrowOf : Cond.selects RX4 yX4_arrowOf yX4_arrowOf ∈ rgT := rgT_of 14 (by decide +kernel) (by decide +kernel)
theorem tC_X4_arrowOf : Cond.code yX4_arrowOf cX4_arrowOf 4 (some .int) ∈ rgT := rgT_of 349 (by decide +kernel) (by decide +kernel)
theorem tH_X4_arrowOf : cHd yX4_arrowOf 2 := by unfold cHd; decide +kernel
theorem tI_X4_fromOf : Cond.instanceMethod yX4_fromOf ∈ rgT := rgT_of 353 (by decide +kernel) (by decide +kernel)
theorem tS_X4_fromOf : Cond.selects RX4 yX4_fromOf yX4_fromOf ∈ rgT := rgT_of 15 (by decide +kernel) (by decide +kernel)
theorem tC_X4_fromOf : Cond.code yX4_fromOf cX4_fromOf 2 (some .int) ∈ rgT := rgT_of 354 (by decide +kernel) (by decide +kernel)
theorem tH_X4_fromOf : cHd yX4_fromOf 1 := by unfold cHd; decide +kernel
theorem tI_X4_has : Cond.instanceMethod yX4_has ∈ rgT := rgT_of 276 (by decide +kernel) (by decide +kernel)
theorem tS_X4_has : Cond.selects RX4 yX4_has yX4_has ∈ rgT := rgT_of 12 (by decide +kernel) (by decide +kernel)
theorem tC_X4_has : Cond.code yX4_has cX4_has 2 (some .boolean) ∈ rgT := rgT_of 277 (by decide +kernel) (by decide +kernel)
theorem tH_X4_has : cHd yX4_has 1 := by unfold cHd; decide +kernel
theorem tI_X4_init : Cond.instanceMethod yX4_init ∈ rgT := rgT_of 106 (by decide +kernel) (by decide +kernel)
theorem tC_X4_init : Cond.code yX4_init cX4_init 1 none ∈ rgT := rgT_of 107 (by decide +kernel) (by decide +kernel)
theorem tH_X4_init : cHd yX4_init 0 := by unfold cHd; decide +kernel
theorem tI_X4_isArrow : Cond.instanceMethod yX4_isArrow ∈ rgT := rgT_of 390 (by decide +kernel) (by decide +kernel)
theorem tS_X4_isArrow : Cond.selects RX4 yX4_isArrow yX4_isArrow ∈ rgT := rgT_of 18 (by decide +kernel) (by decide +kernel)
theorem tC_X4_isArrow : Cond.code yX4_isArrow cX4_isArrow 2 (some .boolean) ∈ rgT := rgT_of 391 (by decide +kernel) (by decide +kernel)
theorem tH_X4_isArrow : cHd yX4_isArrow 1 := by unfold cHd; decide +kernel
theorem tI_X4_kindOf : Cond.instanceMethod yX4_kindOf ∈ rgT := rgT_of 386 (by decide +kernel) (by decide +kernel)
theorem tS_X4_kindOf : Cond.selects RX4 yX4_kindOf yX4_kindOf ∈ rgT := rgT_of 17 (by decide +kernel) (by decide +kernel)
theorem tC_X4_kindOf : Cond.code yX4_kindOf cX4_kindOf 2 (some .int) ∈ rgT := rgT_of 387 (by decide +kernel) (by decide +kernel)
theorem tH_X4_kindOf : cHd yX4_kindOf 1 := by unfold cHd; decide +kernel
theorem tI_X4_newOne : Cond.instanceMethod yX4_newOne ∈ rgT := rgT_of 423 (by decide +kernel) (by decide +kernel)
theorem tS_X4_newOne : Cond.selects RX4 yX4_newOne yX4_newOne ∈ rgT := rgT_of 19 (by decide +kernel) (by decide +kernel)
theorem tC_X4_newOne : Cond.code yX4_newOne cX4_newOne 1 (some .int) ∈ rgT := rgT_of 424 (by decide +kernel) (by decide +kernel)
theorem tH_X4_newOne : cHd yX4_newOne 0 := by unfold cHd; decide +kernel
theorem tI_X4_toOf : Cond.instanceMethod yX4_toOf ∈ rgT := rgT_of 358 (by decide +kernel) (by decide +kernel)
theorem tS_X4_toOf : Cond.selects RX4 yX4_toOf yX4_toOf ∈ rgT := rgT_of 16 (by decide +kernel) (by decide +kernel)
theorem tC_X4_toOf : Cond.code yX4_toOf cX4_toOf 2 (some .int) ∈ rgT := rgT_of 359 (by decide +kernel) (by decide +kernel)
theorem tH_X4_toOf : cHd yX4_toOf 1 := by unfold cHd; decide +kernel
theorem tI_X5_init : Cond.instanceMethod yX5_init ∈ rgT := rgT_of 789 (by decide +kernel) (by decide +kernel)
theorem tC_X5_init : Cond.code yX5_init cX5_init 4 none ∈ rgT := rgT_of 790 (by decide +kernel) (by decide +kernel)
theorem tH_X5_init : cHd yX5_init 3 := by unfold cHd; decide +kernel
theorem tI_X5_isUsing : Cond.instanceMethod yX5_isUsing ∈ rgT := rgT_of 222 (by decide +kernel) (by decide +kernel)
theorem tS_X5_isUsing : Cond.selects RX5 yX5_isUsing yX5_isUsing ∈ rgT := rgT_of 3 (by decide +kernel) (by decide +kernel)
theorem tC_X5_isUsing : Cond.code yX5_isUsing cX5_isUsing 2 (some .boolean) ∈ rgT := rgT_of 224 (by decide +kernel) (by decide +kernel)
theorem tH_X5_isUsing : cHd yX5_isUsing 1 := by unfold cHd; decide +kernel
theorem tI_X5_note : Cond.instanceMethod yX5_note ∈ rgT := rgT_of 258 (by decide +kernel) (by decide +kernel)
theorem tS_X5_note : Cond.selects RX5 yX5_note yX5_note ∈ rgT := rgT_of 10 (by decide +kernel) (by decide +kernel)
theorem tC_X5_note : Cond.code yX5_note cX5_note 4 none ∈ rgT := rgT_of 259 (by decide +kernel) (by decide +kernel)
theorem tH_X5_note : cHd yX5_note 3 := by unfold cHd; decide +kernel
theorem tI_X5_notedChanges : Cond.instanceMethod yX5_notedChanges ∈ rgT := rgT_of 246 (by decide +kernel) (by decide +kernel)
theorem tS_X5_notedChanges : Cond.selects RX5 yX5_notedChanges yX5_notedChanges ∈ rgT := rgT_of 8 (by decide +kernel) (by decide +kernel)
theorem tC_X5_notedChanges : Cond.code yX5_notedChanges cX5_notedChanges 2 (some .int) ∈ rgT := rgT_of 247 (by decide +kernel) (by decide +kernel)
theorem tH_X5_notedChanges : cHd yX5_notedChanges 1 := by unfold cHd; decide +kernel
theorem tI_X5_notedFace : Cond.instanceMethod yX5_notedFace ∈ rgT := rgT_of 227 (by decide +kernel) (by decide +kernel)
theorem tS_X5_notedFace : Cond.selects RX5 yX5_notedFace yX5_notedFace ∈ rgT := rgT_of 4 (by decide +kernel) (by decide +kernel)
theorem tC_X5_notedFace : Cond.code yX5_notedFace cX5_notedFace 2 (some .int) ∈ rgT := rgT_of 228 (by decide +kernel) (by decide +kernel)
theorem tH_X5_notedFace : cHd yX5_notedFace 1 := by unfold cHd; decide +kernel
theorem tI_X6_addHiding : Cond.instanceMethod yX6_addHiding ∈ rgT := rgT_of 427 (by decide +kernel) (by decide +kernel)
theorem tS_X6_addHiding : Cond.selects RX6 yX6_addHiding yX6_addHiding ∈ rgT := rgT_of 20 (by decide +kernel) (by decide +kernel)
theorem tC_X6_addHiding : Cond.code yX6_addHiding cX6_addHiding 6 (some .boolean) ∈ rgT := rgT_of 428 (by decide +kernel) (by decide +kernel)
theorem tH_X6_addHiding : cHd yX6_addHiding 4 := by unfold cHd; decide +kernel
theorem tI_X6_applyAnew : Cond.instanceMethod yX6_applyAnew ∈ rgT := rgT_of 729 (by decide +kernel) (by decide +kernel)
theorem tS_X6_applyAnew : Cond.selects RX6 yX6_applyAnew yX6_applyAnew ∈ rgT := rgT_of 41 (by decide +kernel) (by decide +kernel)
theorem tC_X6_applyAnew : Cond.code yX6_applyAnew cX6_applyAnew 7 (some .int) ∈ rgT := rgT_of 730 (by decide +kernel) (by decide +kernel)
theorem tH_X6_applyAnew : cHd yX6_applyAnew 2 := by unfold cHd; decide +kernel
theorem tI_X6_areAlike : Cond.instanceMethod yX6_areAlike ∈ rgT := rgT_of 234 (by decide +kernel) (by decide +kernel)
theorem tS_X6_areAlike : Cond.selects RX6 yX6_areAlike yX6_areAlike ∈ rgT := rgT_of 5 (by decide +kernel) (by decide +kernel)
theorem tC_X6_areAlike : Cond.code yX6_areAlike cX6_areAlike 11 (some .boolean) ∈ rgT := rgT_of 235 (by decide +kernel) (by decide +kernel)
theorem tH_X6_areAlike : cHd yX6_areAlike 3 := by unfold cHd; decide +kernel
theorem tT_X6_cut : Cond.static yX6_cut ∈ rgT := rgT_of 736 (by decide +kernel) (by decide +kernel)
theorem tC_X6_cut : Cond.code yX6_cut cX6_cut 1 (some .int) ∈ rgT := rgT_of 737 (by decide +kernel) (by decide +kernel)
theorem tH_X6_cut : cHd yX6_cut 1 := by unfold cHd; decide +kernel
theorem tI_X6_fill : Cond.instanceMethod yX6_fill ∈ rgT := rgT_of 733 (by decide +kernel) (by decide +kernel)
theorem tS_X6_fill : Cond.selects RX6 yX6_fill yX6_fill ∈ rgT := rgT_of 42 (by decide +kernel) (by decide +kernel)
theorem tC_X6_fill : Cond.code yX6_fill cX6_fill 9 (some .boolean) ∈ rgT := rgT_of 734 (by decide +kernel) (by decide +kernel)
theorem tH_X6_fill : cHd yX6_fill 3 := by unfold cHd; decide +kernel
theorem tI_X6_firstMisfit : Cond.instanceMethod yX6_firstMisfit ∈ rgT := rgT_of 601 (by decide +kernel) (by decide +kernel)
theorem tS_X6_firstMisfit : Cond.selects RX6 yX6_firstMisfit yX6_firstMisfit ∈ rgT := rgT_of 32 (by decide +kernel) (by decide +kernel)
theorem tC_X6_firstMisfit : Cond.code yX6_firstMisfit cX6_firstMisfit 12 (some .int) ∈ rgT := rgT_of 602 (by decide +kernel) (by decide +kernel)
theorem tH_X6_firstMisfit : cHd yX6_firstMisfit 4 := by unfold cHd; decide +kernel
theorem tI_X6_fitsType : Cond.instanceMethod yX6_fitsType ∈ rgT := rgT_of 605 (by decide +kernel) (by decide +kernel)
theorem tS_X6_fitsType : Cond.selects RX6 yX6_fitsType yX6_fitsType ∈ rgT := rgT_of 33 (by decide +kernel) (by decide +kernel)
theorem tC_X6_fitsType : Cond.code yX6_fitsType cX6_fitsType 6 (some .boolean) ∈ rgT := rgT_of 606 (by decide +kernel) (by decide +kernel)
theorem tH_X6_fitsType : cHd yX6_fitsType 4 := by unfold cHd; decide +kernel
theorem tI_X6_functorAt : Cond.instanceMethod yX6_functorAt ∈ rgT := rgT_of 719 (by decide +kernel) (by decide +kernel)
theorem tS_X6_functorAt : Cond.selects RX6 yX6_functorAt yX6_functorAt ∈ rgT := rgT_of 39 (by decide +kernel) (by decide +kernel)
theorem tC_X6_functorAt : Cond.code yX6_functorAt cX6_functorAt 2 (some (.object "ModuleLoft$Functor")) ∈ rgT := rgT_of 720 (by decide +kernel) (by decide +kernel)
theorem tH_X6_functorAt : cHd yX6_functorAt 1 := by unfold cHd; decide +kernel
theorem tI_X6_isSameType : Cond.instanceMethod yX6_isSameType ∈ rgT := rgT_of 614 (by decide +kernel) (by decide +kernel)
theorem tS_X6_isSameType : Cond.selects RX6 yX6_isSameType yX6_isSameType ∈ rgT := rgT_of 35 (by decide +kernel) (by decide +kernel)
theorem tC_X6_isSameType : Cond.code yX6_isSameType cX6_isSameType 11 (some .boolean) ∈ rgT := rgT_of 615 (by decide +kernel) (by decide +kernel)
theorem tH_X6_isSameType : cHd yX6_isSameType 4 := by unfold cHd; decide +kernel
theorem tI_X6_isStale : Cond.instanceMethod yX6_isStale ∈ rgT := rgT_of 218 (by decide +kernel) (by decide +kernel)
theorem tS_X6_isStale : Cond.selects RX6 yX6_isStale yX6_isStale ∈ rgT := rgT_of 2 (by decide +kernel) (by decide +kernel)
theorem tC_X6_isStale : Cond.code yX6_isStale cX6_isStale 4 (some .boolean) ∈ rgT := rgT_of 219 (by decide +kernel) (by decide +kernel)
theorem tH_X6_isStale : cHd yX6_isStale 1 := by unfold cHd; decide +kernel
theorem tT_X6_needName : Cond.static yX6_needName ∈ rgT := rgT_of 418 (by decide +kernel) (by decide +kernel)
theorem tC_X6_needName : Cond.code yX6_needName cX6_needName 1 none ∈ rgT := rgT_of 419 (by decide +kernel) (by decide +kernel)
theorem tH_X6_needName : cHd yX6_needName 1 := by unfold cHd; decide +kernel
theorem tT_X6_needNumber : Cond.static yX6_needNumber ∈ rgT := rgT_of 454 (by decide +kernel) (by decide +kernel)
theorem tC_X6_needNumber : Cond.code yX6_needNumber cX6_needNumber 1 none ∈ rgT := rgT_of 455 (by decide +kernel) (by decide +kernel)
theorem tH_X6_needNumber : cHd yX6_needNumber 1 := by unfold cHd; decide +kernel
theorem tT_X6_needPlace : Cond.static yX6_needPlace ∈ rgT := rgT_of 532 (by decide +kernel) (by decide +kernel)
theorem tC_X6_needPlace : Cond.code yX6_needPlace cX6_needPlace 3 none ∈ rgT := rgT_of 533 (by decide +kernel) (by decide +kernel)
theorem tH_X6_needPlace : cHd yX6_needPlace 3 := by unfold cHd; decide +kernel
theorem tI_X6_needRoomForSpecs : Cond.instanceMethod yX6_needRoomForSpecs ∈ rgT := rgT_of 537 (by decide +kernel) (by decide +kernel)
theorem tS_X6_needRoomForSpecs : Cond.selects RX6 yX6_needRoomForSpecs yX6_needRoomForSpecs ∈ rgT := rgT_of 30 (by decide +kernel) (by decide +kernel)
theorem tC_X6_needRoomForSpecs : Cond.code yX6_needRoomForSpecs cX6_needRoomForSpecs 2 none ∈ rgT := rgT_of 538 (by decide +kernel) (by decide +kernel)
theorem tH_X6_needRoomForSpecs : cHd yX6_needRoomForSpecs 1 := by unfold cHd; decide +kernel
theorem tT_X6_needRow : Cond.static yX6_needRow ∈ rgT := rgT_of 465 (by decide +kernel) (by decide +kernel)
theorem tC_X6_needRow : Cond.code yX6_needRow cX6_needRow 1 none ∈ rgT := rgT_of 466 (by decide +kernel) (by decide +kernel)
theorem tH_X6_needRow : cHd yX6_needRow 1 := by unfold cHd; decide +kernel
theorem tI_X6_needTold : Cond.instanceMethod yX6_needTold ∈ rgT := rgT_of 528 (by decide +kernel) (by decide +kernel)
theorem tS_X6_needTold : Cond.selects RX6 yX6_needTold yX6_needTold ∈ rgT := rgT_of 29 (by decide +kernel) (by decide +kernel)
theorem tC_X6_needTold : Cond.code yX6_needTold cX6_needTold 4 none ∈ rgT := rgT_of 529 (by decide +kernel) (by decide +kernel)
theorem tH_X6_needTold : cHd yX6_needTold 2 := by unfold cHd; decide +kernel
theorem tI_X6_needType : Cond.instanceMethod yX6_needType ∈ rgT := rgT_of 272 (by decide +kernel) (by decide +kernel)
theorem tS_X6_needType : Cond.selects RX6 yX6_needType yX6_needType ∈ rgT := rgT_of 11 (by decide +kernel) (by decide +kernel)
theorem tC_X6_needType : Cond.code yX6_needType cX6_needType 2 none ∈ rgT := rgT_of 273 (by decide +kernel) (by decide +kernel)
theorem tH_X6_needType : cHd yX6_needType 1 := by unfold cHd; decide +kernel
theorem tI_X6_noteAllUsed : Cond.instanceMethod yX6_noteAllUsed ∈ rgT := rgT_of 254 (by decide +kernel) (by decide +kernel)
theorem tS_X6_noteAllUsed : Cond.selects RX6 yX6_noteAllUsed yX6_noteAllUsed ∈ rgT := rgT_of 9 (by decide +kernel) (by decide +kernel)
theorem tC_X6_noteAllUsed : Cond.code yX6_noteAllUsed cX6_noteAllUsed 4 none ∈ rgT := rgT_of 255 (by decide +kernel) (by decide +kernel)
theorem tH_X6_noteAllUsed : cHd yX6_noteAllUsed 1 := by unfold cHd; decide +kernel
theorem tT_X6_read : Cond.static yX6_read ∈ rgT := rgT_of 230 (by decide +kernel) (by decide +kernel)
theorem tC_X6_read : Cond.code yX6_read cX6_read 2 (some .int) ∈ rgT := rgT_of 231 (by decide +kernel) (by decide +kernel)
theorem tH_X6_read : cHd yX6_read 2 := by unfold cHd; decide +kernel
theorem tI_X6_remade : Cond.instanceMethod yX6_remade ∈ rgT := rgT_of 626 (by decide +kernel) (by decide +kernel)
theorem tS_X6_remade : Cond.selects RX6 yX6_remade yX6_remade ∈ rgT := rgT_of 36 (by decide +kernel) (by decide +kernel)
theorem tC_X6_remade : Cond.code yX6_remade cX6_remade 6 (some .int) ∈ rgT := rgT_of 627 (by decide +kernel) (by decide +kernel)
theorem tH_X6_remade : cHd yX6_remade 3 := by unfold cHd; decide +kernel
theorem tI_X6_remake : Cond.instanceMethod yX6_remake ∈ rgT := rgT_of 631 (by decide +kernel) (by decide +kernel)
theorem tS_X6_remake : Cond.selects RX6 yX6_remake yX6_remake ∈ rgT := rgT_of 37 (by decide +kernel) (by decide +kernel)
theorem tC_X6_remake : Cond.code yX6_remake cX6_remake 16 (some .int) ∈ rgT := rgT_of 632 (by decide +kernel) (by decide +kernel)
theorem tH_X6_remake : cHd yX6_remake 5 := by unfold cHd; decide +kernel
theorem tI_X6_typeTold : Cond.instanceMethod yX6_typeTold ∈ rgT := rgT_of 635 (by decide +kernel) (by decide +kernel)
theorem tS_X6_typeTold : Cond.selects RX6 yX6_typeTold yX6_typeTold ∈ rgT := rgT_of 38 (by decide +kernel) (by decide +kernel)
theorem tC_X6_typeTold : Cond.code yX6_typeTold cX6_typeTold 4 (some .int) ∈ rgT := rgT_of 636 (by decide +kernel) (by decide +kernel)
theorem tH_X6_typeTold : cHd yX6_typeTold 3 := by unfold cHd; decide +kernel
theorem tI_X6_unitAt : Cond.instanceMethod yX6_unitAt ∈ rgT := rgT_of 214 (by decide +kernel) (by decide +kernel)
theorem tS_X6_unitAt : Cond.selects RX6 yX6_unitAt yX6_unitAt ∈ rgT := rgT_of 1 (by decide +kernel) (by decide +kernel)
theorem tC_X6_unitAt : Cond.code yX6_unitAt cX6_unitAt 2 (some (.object "ModuleLoft$Unit")) ∈ rgT := rgT_of 215 (by decide +kernel) (by decide +kernel)
theorem tH_X6_unitAt : cHd yX6_unitAt 1 := by unfold cHd; decide +kernel
theorem tT_X6_write : Cond.static yX6_write ∈ rgT := rgT_of 114 (by decide +kernel) (by decide +kernel)
theorem tC_X6_write : Cond.code yX6_write cX6_write 3 none ∈ rgT := rgT_of 115 (by decide +kernel) (by decide +kernel)
theorem tH_X6_write : cHd yX6_write 3 := by unfold cHd; decide +kernel
def cOi : Int32 ⊕ Nat → Option Value ⊕ Nat
  | .inl v => .inl (some (.int v))
  | .inr e => .inr e
def cOr : Option Nat ⊕ Nat → Option Value ⊕ Nat
  | .inl v => .inl (some (va_rf v))
  | .inr e => .inr e
def cOv : Unit ⊕ Nat → Option Value ⊕ Nat
  | .inl _ => .inl none
  | .inr e => .inr e
def ause {β : Type} (k n : Nat) (x : Option (β × cS × Nat × Nat)) : Option (β × cS × Nat × Nat) := match x with
  | none => none
  | some (o, z, a, b) => some (o, z, k + a, n + b)
def abind {α β : Type} (x : Option (α × cS × Nat × Nat)) (f : α → cS → Option (β × cS × Nat × Nat)) : Option (β × cS × Nat × Nat) := match x with
  | none => none
  | some (v, z, a, b) => ause a b (f v z)
def tbind {α β : Type} (x : Option ((α ⊕ Nat) × cS × Nat × Nat)) (f : α → cS → Option ((β ⊕ Nat) × cS × Nat × Nat)) : Option ((β ⊕ Nat) × cS × Nat × Nat) := match x with
  | none => none
  | some (.inl v, z, a, b) => ause a b (f v z)
  | some (.inr e, z, a, b) => some (.inr e, z, a, b)
def cbo {β : Type} (v : Int32) (x : Option β) : Option β := if narrow .boolean (.int v) = .int v then x else none
theorem ause_spec {β : Type} {k n : Nat} {x : Option (β × cS × Nat × Nat)} {o : β} {z : cS} {a b : Nat} (h : ause k n x = some (o, z, a, b)) : ∃ a' b', x = some (o, z, a', b') ∧ a = k + a' ∧ b = n + b' := by
  cases x with
  | none => cases h
  | some y => obtain ⟨o', z', a', b'⟩ := y; cases h; exact ⟨a', b', rfl, rfl, rfl⟩
theorem abind_spec {α β : Type} {x : Option (α × cS × Nat × Nat)} {f : α → cS → Option (β × cS × Nat × Nat)} {o : β} {z : cS} {a b : Nat} (h : abind x f = some (o, z, a, b)) : ∃ v z1 a1 b1 a2 b2, x = some (v, z1, a1, b1) ∧ f v z1 = some (o, z, a2, b2) ∧ a = a1 + a2 ∧ b = b1 + b2 := by
  cases x with
  | none => cases h
  | some y =>
    obtain ⟨v, z1, a1, b1⟩ := y
    obtain ⟨a2, b2, h1, h2, h3⟩ := ause_spec h
    exact ⟨v, z1, a1, b1, a2, b2, rfl, h1, h2, h3⟩
theorem tbind_spec {α β : Type} {x : Option ((α ⊕ Nat) × cS × Nat × Nat)} {f : α → cS → Option ((β ⊕ Nat) × cS × Nat × Nat)} {o : β ⊕ Nat} {z : cS} {a b : Nat} (h : tbind x f = some (o, z, a, b)) : (∃ e, x = some (.inr e, z, a, b) ∧ o = .inr e) ∨ ∃ v z1 a1 b1 a2 b2, x = some (.inl v, z1, a1, b1) ∧ f v z1 = some (o, z, a2, b2) ∧ a = a1 + a2 ∧ b = b1 + b2 := by
  cases x with
  | none => cases h
  | some y =>
    obtain ⟨v, z1, a1, b1⟩ := y
    cases v with
    | inr e => cases h; exact Or.inl ⟨e, rfl, rfl⟩
    | inl v =>
      obtain ⟨a2, b2, h1, h2, h3⟩ := ause_spec h
      exact Or.inr ⟨v, z1, a1, b1, a2, b2, rfl, h1, h2, h3⟩
theorem cbo_spec {β : Type} {v : Int32} {x : Option β} {r : β} (h : cbo v x = some r) : narrow .boolean (.int v) = .int v ∧ x = some r := by
  unfold cbo at h
  split at h
  · rename_i hn
    exact ⟨hn, h⟩
  · cases h
