/-! THE WORDS that the code uses; layouts -/
theorem tw {w : Cond} (k : Nat) (h : tables_1[k]? = some w) : w ∈ lw_tbl := List.mem_append_right _ (List.mem_of_getElem? h)
theorem tp {y : MethodName} {n : Nat} (k : Nat) (h : lw_privs[k]? = some (y, n)) : Cond.selects y.cls y y ∈ lw_tbl := List.mem_append_left _ (List.mem_map.mpr ⟨(y, n), List.mem_of_getElem? h, rfl⟩)
theorem cl0 : am_cl 0 RX0 TX0 9 := ⟨rfl, rfl, by
  intro w hw
  have h : (u_ws RX0 TX0 9).all (fun w => decide (w ∈ lw_tbl) && am_good w) = true := by decide +kernel
  have h1 := List.all_eq_true.mp h w hw
  simp only [Bool.and_eq_true, decide_eq_true_eq] at h1
  exact h1, tyX0_ok, nmX0⟩
theorem cl1 : am_cl 1 RX1 TX1 4 := ⟨rfl, rfl, by
  intro w hw
  have h : (u_ws RX1 TX1 4).all (fun w => decide (w ∈ lw_tbl) && am_good w) = true := by decide +kernel
  have h1 := List.all_eq_true.mp h w hw
  simp only [Bool.and_eq_true, decide_eq_true_eq] at h1
  exact h1, tyX1_ok, nmX1⟩
theorem cl2 : am_cl 2 RX2 TX2 6 := ⟨rfl, rfl, by
  intro w hw
  have h : (u_ws RX2 TX2 6).all (fun w => decide (w ∈ lw_tbl) && am_good w) = true := by decide +kernel
  have h1 := List.all_eq_true.mp h w hw
  simp only [Bool.and_eq_true, decide_eq_true_eq] at h1
  exact h1, tyX2_ok, nmX2⟩
theorem cl3 : am_cl 3 RX3 TX3 6 := ⟨rfl, rfl, by
  intro w hw
  have h : (u_ws RX3 TX3 6).all (fun w => decide (w ∈ lw_tbl) && am_good w) = true := by decide +kernel
  have h1 := List.all_eq_true.mp h w hw
  simp only [Bool.and_eq_true, decide_eq_true_eq] at h1
  exact h1, tyX3_ok, nmX3⟩
theorem cl4 : am_cl 4 RX4 TX4 6 := ⟨rfl, rfl, by
  intro w hw
  have h : (u_ws RX4 TX4 6).all (fun w => decide (w ∈ lw_tbl) && am_good w) = true := by decide +kernel
  have h1 := List.all_eq_true.mp h w hw
  simp only [Bool.and_eq_true, decide_eq_true_eq] at h1
  exact h1, tyX4_ok, nmX4⟩
theorem cl5 : am_cl 5 RX5 TX5 2 := ⟨rfl, rfl, by
  intro w hw
  have h : (u_ws RX5 TX5 2).all (fun w => decide (w ∈ lw_tbl) && am_good w) = true := by decide +kernel
  have h1 := List.all_eq_true.mp h w hw
  simp only [Bool.and_eq_true, decide_eq_true_eq] at h1
  exact h1, tyX5_ok, nmX5⟩
theorem cl6 : am_cl 6 RX6 TX6 5 := ⟨rfl, rfl, by
  intro w hw
  have h : (u_ws RX6 TX6 5).all (fun w => decide (w ∈ lw_tbl) && am_good w) = true := by decide +kernel
  have h1 := List.all_eq_true.mp h w hw
  simp only [Bool.and_eq_true, decide_eq_true_eq] at h1
  exact h1, tyX6_ok, nmX6⟩
theorem cl7 : am_cl 7 RX7 TX7 13 := ⟨rfl, rfl, by
  intro w hw
  have h : (u_ws RX7 TX7 13).all (fun w => decide (w ∈ lw_tbl) && am_good w) = true := by decide +kernel
  have h1 := List.all_eq_true.mp h w hw
  simp only [Bool.and_eq_true, decide_eq_true_eq] at h1
  exact h1, tyX7_ok, nmX7⟩
theorem fs_X1_9 : am_fl RX1 9 "PurseAuction" (am_sn 1000002) "[I" := Or.inr ⟨"PurseAuction", tw 26 (by decide +kernel)⟩
theorem fd_X4_9 : am_fld RX4 9 4 0 := ⟨RX4, TX4, _, cl4, by decide, Or.inl (tw 41 (by decide +kernel)), rfl⟩
theorem fg_X4_9 : am_fldG RX4 9 4 0 := fd_X4_9.G
theorem fd_X6_49 : am_fld RX6 49 4 0 := ⟨RX4, TX4, _, cl4, by decide, (Or.inr ⟨"PurseAuction", tw 42 (by decide +kernel)⟩), rfl⟩
theorem fg_X6_49 : am_fldG RX6 49 4 0 := fd_X6_49.G
theorem fd_X5_45 : am_fld RX5 45 4 0 := ⟨RX4, TX4, _, cl4, by decide, (Or.inr ⟨"PurseAuction", tw 43 (by decide +kernel)⟩), rfl⟩
theorem fg_X5_45 : am_fldG RX5 45 4 0 := fd_X5_45.G
theorem fd_X1_82 : am_fld RX1 82 4 0 := ⟨RX4, TX4, _, cl4, by decide, (Or.inr ⟨"PurseAuction", tw 44 (by decide +kernel)⟩), rfl⟩
theorem fg_X1_82 : am_fldG RX1 82 4 0 := fd_X1_82.G
theorem fF_X4_15 : am_fldF RX4 15 4 1 := ⟨RX4, TX4, _, cl4, by decide, tw 45 (by decide +kernel), rfl, rfl⟩
theorem fg_X4_15 : am_fldG RX4 15 4 1 := fF_X4_15.G
theorem fF_X4_19 : am_fldF RX4 19 4 2 := ⟨RX4, TX4, _, cl4, by decide, tw 46 (by decide +kernel), rfl, rfl⟩
theorem fg_X4_19 : am_fldG RX4 19 4 2 := fF_X4_19.G
theorem fF_X4_22 : am_fldF RX4 22 4 3 := ⟨RX4, TX4, _, cl4, by decide, tw 47 (by decide +kernel), rfl, rfl⟩
theorem fg_X4_22 : am_fldG RX4 22 4 3 := fF_X4_22.G
theorem fF_X4_25 : am_fldF RX4 25 4 4 := ⟨RX4, TX4, _, cl4, by decide, tw 48 (by decide +kernel), rfl, rfl⟩
theorem fg_X4_25 : am_fldG RX4 25 4 4 := fF_X4_25.G
theorem fF_X4_28 : am_fldF RX4 28 4 5 := ⟨RX4, TX4, _, cl4, by decide, tw 49 (by decide +kernel), rfl, rfl⟩
theorem fg_X4_28 : am_fldG RX4 28 4 5 := fF_X4_28.G
theorem fd_X2_24 : am_fld RX2 24 2 0 := ⟨RX2, TX2, _, cl2, by decide, Or.inl (tw 70 (by decide +kernel)), rfl⟩
theorem fg_X2_24 : am_fldG RX2 24 2 0 := fd_X2_24.G
theorem fd_X6_172 : am_fld RX6 172 2 0 := ⟨RX2, TX2, _, cl2, by decide, (Or.inr ⟨"PurseAuction", tw 71 (by decide +kernel)⟩), rfl⟩
theorem fg_X6_172 : am_fldG RX6 172 2 0 := fd_X6_172.G
theorem fd_X2_28 : am_fld RX2 28 2 1 := ⟨RX2, TX2, _, cl2, by decide, Or.inl (tw 72 (by decide +kernel)), rfl⟩
theorem fg_X2_28 : am_fldG RX2 28 2 1 := fd_X2_28.G
theorem fd_X1_74 : am_fld RX1 74 2 1 := ⟨RX2, TX2, _, cl2, by decide, (Or.inr ⟨"PurseAuction", tw 73 (by decide +kernel)⟩), rfl⟩
theorem fg_X1_74 : am_fldG RX1 74 2 1 := fd_X1_74.G
theorem fd_X6_294 : am_fld RX6 294 2 1 := ⟨RX2, TX2, _, cl2, by decide, (Or.inr ⟨"PurseAuction", tw 74 (by decide +kernel)⟩), rfl⟩
theorem fg_X6_294 : am_fldG RX6 294 2 1 := fd_X6_294.G
theorem fF_X2_9 : am_fldF RX2 9 2 2 := ⟨RX2, TX2, _, cl2, by decide, tw 75 (by decide +kernel), rfl, rfl⟩
theorem fg_X2_9 : am_fldG RX2 9 2 2 := fF_X2_9.G
theorem fF_X2_15 : am_fldF RX2 15 2 3 := ⟨RX2, TX2, _, cl2, by decide, tw 76 (by decide +kernel), rfl, rfl⟩
theorem fg_X2_15 : am_fldG RX2 15 2 3 := fF_X2_15.G
theorem fF_X2_18 : am_fldF RX2 18 2 4 := ⟨RX2, TX2, _, cl2, by decide, tw 77 (by decide +kernel), rfl, rfl⟩
theorem fg_X2_18 : am_fldG RX2 18 2 4 := fF_X2_18.G
theorem fF_X2_21 : am_fldF RX2 21 2 5 := ⟨RX2, TX2, _, cl2, by decide, tw 78 (by decide +kernel), rfl, rfl⟩
theorem fg_X2_21 : am_fldG RX2 21 2 5 := fF_X2_21.G
theorem fd_X0_18 : am_fld RX0 18 0 0 := ⟨RX0, TX0, _, cl0, by decide, Or.inl (tw 102 (by decide +kernel)), rfl⟩
theorem fg_X0_18 : am_fldG RX0 18 0 0 := fd_X0_18.G
theorem fd_X1_108 : am_fld RX1 108 0 0 := ⟨RX0, TX0, _, cl0, by decide, (Or.inr ⟨"PurseAuction", tw 103 (by decide +kernel)⟩), rfl⟩
theorem fg_X1_108 : am_fldG RX1 108 0 0 := fd_X1_108.G
theorem fd_X6_181 : am_fld RX6 181 0 0 := ⟨RX0, TX0, _, cl0, by decide, (Or.inr ⟨"PurseAuction", tw 104 (by decide +kernel)⟩), rfl⟩
theorem fg_X6_181 : am_fldG RX6 181 0 0 := fd_X6_181.G
theorem fd_X0_22 : am_fld RX0 22 0 1 := ⟨RX0, TX0, _, cl0, by decide, Or.inl (tw 105 (by decide +kernel)), rfl⟩
theorem fg_X0_22 : am_fldG RX0 22 0 1 := fd_X0_22.G
theorem fd_X1_142 : am_fld RX1 142 0 1 := ⟨RX0, TX0, _, cl0, by decide, (Or.inr ⟨"PurseAuction", tw 106 (by decide +kernel)⟩), rfl⟩
theorem fg_X1_142 : am_fldG RX1 142 0 1 := fd_X1_142.G
theorem fd_X0_25 : am_fld RX0 25 0 2 := ⟨RX0, TX0, _, cl0, by decide, Or.inl (tw 107 (by decide +kernel)), rfl⟩
theorem fg_X0_25 : am_fldG RX0 25 0 2 := fd_X0_25.G
theorem fd_X1_151 : am_fld RX1 151 0 2 := ⟨RX0, TX0, _, cl0, by decide, (Or.inr ⟨"PurseAuction", tw 108 (by decide +kernel)⟩), rfl⟩
theorem fg_X1_151 : am_fldG RX1 151 0 2 := fd_X1_151.G
theorem fd_X6_184 : am_fld RX6 184 0 2 := ⟨RX0, TX0, _, cl0, by decide, (Or.inr ⟨"PurseAuction", tw 109 (by decide +kernel)⟩), rfl⟩
theorem fg_X6_184 : am_fldG RX6 184 0 2 := fd_X6_184.G
theorem fd_X0_28 : am_fld RX0 28 0 3 := ⟨RX0, TX0, _, cl0, by decide, Or.inl (tw 110 (by decide +kernel)), rfl⟩
theorem fg_X0_28 : am_fldG RX0 28 0 3 := fd_X0_28.G
theorem fd_X1_177 : am_fld RX1 177 0 3 := ⟨RX0, TX0, _, cl0, by decide, (Or.inr ⟨"PurseAuction", tw 111 (by decide +kernel)⟩), rfl⟩
theorem fg_X1_177 : am_fldG RX1 177 0 3 := fd_X1_177.G
theorem fd_X6_187 : am_fld RX6 187 0 3 := ⟨RX0, TX0, _, cl0, by decide, (Or.inr ⟨"PurseAuction", tw 112 (by decide +kernel)⟩), rfl⟩
theorem fg_X6_187 : am_fldG RX6 187 0 3 := fd_X6_187.G
theorem fd_X0_31 : am_fld RX0 31 0 4 := ⟨RX0, TX0, _, cl0, by decide, Or.inl (tw 113 (by decide +kernel)), rfl⟩
theorem fg_X0_31 : am_fldG RX0 31 0 4 := fd_X0_31.G
theorem fd_X1_133 : am_fld RX1 133 0 4 := ⟨RX0, TX0, _, cl0, by decide, (Or.inr ⟨"PurseAuction", tw 114 (by decide +kernel)⟩), rfl⟩
theorem fg_X1_133 : am_fldG RX1 133 0 4 := fd_X1_133.G
theorem fd_X6_190 : am_fld RX6 190 0 4 := ⟨RX0, TX0, _, cl0, by decide, (Or.inr ⟨"PurseAuction", tw 115 (by decide +kernel)⟩), rfl⟩
theorem fg_X6_190 : am_fldG RX6 190 0 4 := fd_X6_190.G
theorem fd_X0_34 : am_fld RX0 34 0 5 := ⟨RX0, TX0, _, cl0, by decide, Or.inl (tw 116 (by decide +kernel)), rfl⟩
theorem fg_X0_34 : am_fldG RX0 34 0 5 := fd_X0_34.G
theorem fd_X6_193 : am_fld RX6 193 0 5 := ⟨RX0, TX0, _, cl0, by decide, (Or.inr ⟨"PurseAuction", tw 117 (by decide +kernel)⟩), rfl⟩
theorem fg_X6_193 : am_fldG RX6 193 0 5 := fd_X6_193.G
theorem fd_X1_200 : am_fld RX1 200 0 5 := ⟨RX0, TX0, _, cl0, by decide, (Or.inr ⟨"PurseAuction", tw 118 (by decide +kernel)⟩), rfl⟩
theorem fg_X1_200 : am_fldG RX1 200 0 5 := fd_X1_200.G
theorem fd_X0_37 : am_fld RX0 37 0 6 := ⟨RX0, TX0, _, cl0, by decide, Or.inl (tw 119 (by decide +kernel)), rfl⟩
theorem fg_X0_37 : am_fldG RX0 37 0 6 := fd_X0_37.G
theorem fd_X0_40 : am_fld RX0 40 0 7 := ⟨RX0, TX0, _, cl0, by decide, Or.inl (tw 120 (by decide +kernel)), rfl⟩
theorem fg_X0_40 : am_fldG RX0 40 0 7 := fd_X0_40.G
theorem fd_X1_148 : am_fld RX1 148 0 7 := ⟨RX0, TX0, _, cl0, by decide, (Or.inr ⟨"PurseAuction", tw 121 (by decide +kernel)⟩), rfl⟩
theorem fg_X1_148 : am_fldG RX1 148 0 7 := fd_X1_148.G
theorem fF_X0_9 : am_fldF RX0 9 0 8 := ⟨RX0, TX0, _, cl0, by decide, tw 122 (by decide +kernel), rfl, rfl⟩
theorem fg_X0_9 : am_fldG RX0 9 0 8 := fF_X0_9.G
theorem fF_X1_18 : am_fldF RX1 18 1 0 := ⟨RX1, TX1, _, cl1, by decide, tw 142 (by decide +kernel), rfl, rfl⟩
theorem fg_X1_18 : am_fldG RX1 18 1 0 := fF_X1_18.G
theorem fF_X1_26 : am_fldF RX1 26 1 1 := ⟨RX1, TX1, _, cl1, by decide, tw 143 (by decide +kernel), rfl, rfl⟩
theorem fg_X1_26 : am_fldG RX1 26 1 1 := fF_X1_26.G
theorem fg_X6_45 : am_fldG RX6 45 1 1 := ⟨RX1, TX1, _, cl1, by decide, (Or.inr ⟨"PurseAuction", tw 144 (by decide +kernel)⟩)⟩
theorem fF_X1_33 : am_fldF RX1 33 1 2 := ⟨RX1, TX1, _, cl1, by decide, tw 145 (by decide +kernel), rfl, rfl⟩
theorem fg_X1_33 : am_fldG RX1 33 1 2 := fF_X1_33.G
theorem fg_X6_86 : am_fldG RX6 86 1 2 := ⟨RX1, TX1, _, cl1, by decide, (Or.inr ⟨"PurseAuction", tw 146 (by decide +kernel)⟩)⟩
theorem fF_X1_40 : am_fldF RX1 40 1 3 := ⟨RX1, TX1, _, cl1, by decide, tw 147 (by decide +kernel), rfl, rfl⟩
theorem fg_X1_40 : am_fldG RX1 40 1 3 := fF_X1_40.G
theorem fg_X6_59 : am_fldG RX6 59 1 3 := ⟨RX1, TX1, _, cl1, by decide, (Or.inr ⟨"PurseAuction", tw 148 (by decide +kernel)⟩)⟩
theorem fF_X5_11 : am_fldF RX5 11 5 0 := ⟨RX5, TX5, _, cl5, by decide, tw 165 (by decide +kernel), rfl, rfl⟩
theorem fg_X5_11 : am_fldG RX5 11 5 0 := fF_X5_11.G
theorem fF_X5_15 : am_fldF RX5 15 5 1 := ⟨RX5, TX5, _, cl5, by decide, tw 166 (by decide +kernel), rfl, rfl⟩
theorem fg_X5_15 : am_fldG RX5 15 5 1 := fF_X5_15.G
theorem fF_X3_9 : am_fldF RX3 9 3 0 := ⟨RX3, TX3, _, cl3, by decide, tw 179 (by decide +kernel), rfl, rfl⟩
theorem fg_X3_9 : am_fldG RX3 9 3 0 := fF_X3_9.G
theorem fd_X3_15 : am_fld RX3 15 3 1 := ⟨RX3, TX3, _, cl3, by decide, Or.inl (tw 180 (by decide +kernel)), rfl⟩
theorem fg_X3_15 : am_fldG RX3 15 3 1 := fd_X3_15.G
theorem fd_X6_202 : am_fld RX6 202 3 1 := ⟨RX3, TX3, _, cl3, by decide, (Or.inr ⟨"PurseAuction", tw 181 (by decide +kernel)⟩), rfl⟩
theorem fg_X6_202 : am_fldG RX6 202 3 1 := fd_X6_202.G
theorem fd_X3_19 : am_fld RX3 19 3 2 := ⟨RX3, TX3, _, cl3, by decide, Or.inl (tw 182 (by decide +kernel)), rfl⟩
theorem fg_X3_19 : am_fldG RX3 19 3 2 := fd_X3_19.G
theorem fd_X3_37 : am_fld RX3 37 3 3 := ⟨RX3, TX3, _, cl3, by decide, Or.inl (tw 183 (by decide +kernel)), rfl⟩
theorem fg_X3_37 : am_fldG RX3 37 3 3 := fd_X3_37.G
theorem fd_X6_282 : am_fld RX6 282 3 3 := ⟨RX3, TX3, _, cl3, by decide, (Or.inr ⟨"PurseAuction", tw 184 (by decide +kernel)⟩), rfl⟩
theorem fg_X6_282 : am_fldG RX6 282 3 3 := fd_X6_282.G
theorem fd_X3_48 : am_fld RX3 48 3 4 := ⟨RX3, TX3, _, cl3, by decide, Or.inl (tw 185 (by decide +kernel)), rfl⟩
theorem fg_X3_48 : am_fldG RX3 48 3 4 := fd_X3_48.G
theorem fd_X6_285 : am_fld RX6 285 3 4 := ⟨RX3, TX3, _, cl3, by decide, (Or.inr ⟨"PurseAuction", tw 186 (by decide +kernel)⟩), rfl⟩
theorem fg_X6_285 : am_fldG RX6 285 3 4 := fd_X6_285.G
theorem fd_X3_51 : am_fld RX3 51 3 5 := ⟨RX3, TX3, _, cl3, by decide, Or.inl (tw 187 (by decide +kernel)), rfl⟩
theorem fg_X3_51 : am_fldG RX3 51 3 5 := fd_X3_51.G
theorem fd_X6_288 : am_fld RX6 288 3 5 := ⟨RX3, TX3, _, cl3, by decide, (Or.inr ⟨"PurseAuction", tw 188 (by decide +kernel)⟩), rfl⟩
theorem fg_X6_288 : am_fldG RX6 288 3 5 := fd_X6_288.G
theorem fF_X6_10 : am_fldF RX6 10 6 0 := ⟨RX6, TX6, _, cl6, by decide, tw 223 (by decide +kernel), rfl, rfl⟩
theorem fg_X6_10 : am_fldG RX6 10 6 0 := fF_X6_10.G
theorem fF_X6_16 : am_fldF RX6 16 6 1 := ⟨RX6, TX6, _, cl6, by decide, tw 224 (by decide +kernel), rfl, rfl⟩
theorem fg_X6_16 : am_fldG RX6 16 6 1 := fF_X6_16.G
theorem fF_X6_19 : am_fldF RX6 19 6 2 := ⟨RX6, TX6, _, cl6, by decide, tw 225 (by decide +kernel), rfl, rfl⟩
theorem fg_X6_19 : am_fldG RX6 19 6 2 := fF_X6_19.G
theorem fF_X6_26 : am_fldF RX6 26 6 3 := ⟨RX6, TX6, _, cl6, by decide, tw 226 (by decide +kernel), rfl, rfl⟩
theorem fg_X6_26 : am_fldG RX6 26 6 3 := fF_X6_26.G
theorem fF_X6_33 : am_fldF RX6 33 6 4 := ⟨RX6, TX6, _, cl6, by decide, tw 227 (by decide +kernel), rfl, rfl⟩
theorem fg_X6_33 : am_fldG RX6 33 6 4 := fF_X6_33.G
theorem fs_X6_297 : am_fl RX6 297 "PurseAuction" (am_sn 1000001) "[I" := Or.inl (tw 256 (by decide +kernel))
theorem fs_X6_301 : am_fl RX6 301 "PurseAuction" (am_sn 1000003) "[I" := Or.inl (tw 258 (by decide +kernel))
theorem fF_X7_7 : am_fldF RX7 7 7 0 := ⟨RX7, TX7, _, cl7, by decide, tw 811 (by decide +kernel), rfl, rfl⟩
theorem fg_X7_7 : am_fldG RX7 7 7 0 := fF_X7_7.G
theorem fF_X7_13 : am_fldF RX7 13 7 1 := ⟨RX7, TX7, _, cl7, by decide, tw 812 (by decide +kernel), rfl, rfl⟩
theorem fg_X7_13 : am_fldG RX7 13 7 1 := fF_X7_13.G
theorem fF_X7_16 : am_fldF RX7 16 7 2 := ⟨RX7, TX7, _, cl7, by decide, tw 813 (by decide +kernel), rfl, rfl⟩
theorem fg_X7_16 : am_fldG RX7 16 7 2 := fF_X7_16.G
theorem fF_X7_19 : am_fldF RX7 19 7 3 := ⟨RX7, TX7, _, cl7, by decide, tw 814 (by decide +kernel), rfl, rfl⟩
theorem fg_X7_19 : am_fldG RX7 19 7 3 := fF_X7_19.G
theorem fF_X7_23 : am_fldF RX7 23 7 4 := ⟨RX7, TX7, _, cl7, by decide, tw 815 (by decide +kernel), rfl, rfl⟩
theorem fg_X7_23 : am_fldG RX7 23 7 4 := fF_X7_23.G
theorem fd_X7_178 : am_fld RX7 178 7 5 := ⟨RX7, TX7, _, cl7, by decide, Or.inl (tw 816 (by decide +kernel)), rfl⟩
theorem fg_X7_178 : am_fldG RX7 178 7 5 := fd_X7_178.G
theorem fF_X7_26 : am_fldF RX7 26 7 6 := ⟨RX7, TX7, _, cl7, by decide, tw 817 (by decide +kernel), rfl, rfl⟩
theorem fg_X7_26 : am_fldG RX7 26 7 6 := fF_X7_26.G
theorem fF_X7_29 : am_fldF RX7 29 7 7 := ⟨RX7, TX7, _, cl7, by decide, tw 818 (by decide +kernel), rfl, rfl⟩
theorem fg_X7_29 : am_fldG RX7 29 7 7 := fF_X7_29.G
theorem fF_X7_33 : am_fldF RX7 33 7 8 := ⟨RX7, TX7, _, cl7, by decide, tw 819 (by decide +kernel), rfl, rfl⟩
theorem fg_X7_33 : am_fldG RX7 33 7 8 := fF_X7_33.G
theorem fd_X7_211 : am_fld RX7 211 7 9 := ⟨RX7, TX7, _, cl7, by decide, Or.inl (tw 820 (by decide +kernel)), rfl⟩
theorem fg_X7_211 : am_fldG RX7 211 7 9 := fd_X7_211.G
theorem fd_X7_214 : am_fld RX7 214 7 10 := ⟨RX7, TX7, _, cl7, by decide, Or.inl (tw 821 (by decide +kernel)), rfl⟩
theorem fg_X7_214 : am_fldG RX7 214 7 10 := fd_X7_214.G
theorem fF_X7_36 : am_fldF RX7 36 7 11 := ⟨RX7, TX7, _, cl7, by decide, tw 822 (by decide +kernel), rfl, rfl⟩
theorem fg_X7_36 : am_fldG RX7 36 7 11 := fF_X7_36.G
theorem fd_X7_221 : am_fld RX7 221 7 12 := ⟨RX7, TX7, _, cl7, by decide, Or.inl (tw 823 (by decide +kernel)), rfl⟩
theorem fg_X7_221 : am_fldG RX7 221 7 12 := fd_X7_221.G
theorem mt_X6_init : am_mt yX6_init cX6_init 1 none 0 := ⟨tw 16 (by decide +kernel), tw 1 (by decide +kernel), ⟨by decide +kernel, by decide +kernel⟩, by decide +kernel⟩
theorem mo_X6_init : Cond.instanceMethod yX6_init ∈ lw_tbl := tw 15 (by decide +kernel)
theorem mt_X1_init : am_mt yX1_init cX1_init 1 none 0 := ⟨tw 24 (by decide +kernel), tw 2 (by decide +kernel), ⟨by decide +kernel, by decide +kernel⟩, by decide +kernel⟩
theorem mo_X1_init : Cond.instanceMethod yX1_init ∈ lw_tbl := tw 23 (by decide +kernel)
theorem mt_X4_init : am_mt yX4_init cX4_init 1 none 0 := ⟨tw 39 (by decide +kernel), tw 3 (by decide +kernel), ⟨by decide +kernel, by decide +kernel⟩, by decide +kernel⟩
theorem mo_X4_init : Cond.instanceMethod yX4_init ∈ lw_tbl := tw 38 (by decide +kernel)
theorem mt_X2_init : am_mt yX2_init cX2_init 1 none 0 := ⟨tw 68 (by decide +kernel), tw 4 (by decide +kernel), ⟨by decide +kernel, by decide +kernel⟩, by decide +kernel⟩
theorem mo_X2_init : Cond.instanceMethod yX2_init ∈ lw_tbl := tw 67 (by decide +kernel)
theorem mt_X0_init : am_mt yX0_init cX0_init 1 none 0 := ⟨tw 96 (by decide +kernel), tw 5 (by decide +kernel), ⟨by decide +kernel, by decide +kernel⟩, by decide +kernel⟩
theorem mo_X0_init : Cond.instanceMethod yX0_init ∈ lw_tbl := tw 95 (by decide +kernel)
theorem mt_X0_clear : am_mt yX0_clear cX0_clear 2 none 0 := ⟨tw 101 (by decide +kernel), tw 5 (by decide +kernel), ⟨by decide +kernel, by decide +kernel⟩, by decide +kernel⟩
theorem mo_X0_clear : Cond.instanceMethod yX0_clear ∈ lw_tbl := tw 100 (by decide +kernel)
theorem mi_X0_clear : Cond.instanceMethod yX0_clear ∈ lw_tbl ∧ Cond.selects yX0_clear.cls yX0_clear yX0_clear ∈ lw_tbl := ⟨mo_X0_clear, tp 0 (n := 9) (by decide +kernel)⟩
theorem mt_X5_init : am_mt yX5_init cX5_init 1 none 0 := ⟨tw 163 (by decide +kernel), tw 6 (by decide +kernel), ⟨by decide +kernel, by decide +kernel⟩, by decide +kernel⟩
theorem mo_X5_init : Cond.instanceMethod yX5_init ∈ lw_tbl := tw 162 (by decide +kernel)
theorem mt_X3_init : am_mt yX3_init cX3_init 1 none 0 := ⟨tw 177 (by decide +kernel), tw 7 (by decide +kernel), ⟨by decide +kernel, by decide +kernel⟩, by decide +kernel⟩
theorem mo_X3_init : Cond.instanceMethod yX3_init ∈ lw_tbl := tw 176 (by decide +kernel)
theorem mt_X1_startAnew : am_mt yX1_startAnew cX1_startAnew 2 none 1 := ⟨tw 206 (by decide +kernel), tw 2 (by decide +kernel), ⟨by decide +kernel, by decide +kernel⟩, by decide +kernel⟩
theorem mo_X1_startAnew : Cond.instanceMethod yX1_startAnew ∈ lw_tbl := tw 205 (by decide +kernel)
theorem mi_X1_startAnew : Cond.instanceMethod yX1_startAnew ∈ lw_tbl ∧ Cond.selects yX1_startAnew.cls yX1_startAnew yX1_startAnew ∈ lw_tbl := ⟨mo_X1_startAnew, tp 1 (n := 4) (by decide +kernel)⟩
theorem mt_X1_settingOf : am_mt yX1_settingOf cX1_settingOf 2 (some .int) 1 := ⟨tw 210 (by decide +kernel), tw 2 (by decide +kernel), ⟨by decide +kernel, by decide +kernel⟩, by decide +kernel⟩
theorem mo_X1_settingOf : Cond.instanceMethod yX1_settingOf ∈ lw_tbl := tw 209 (by decide +kernel)
theorem mi_X1_settingOf : Cond.instanceMethod yX1_settingOf ∈ lw_tbl ∧ Cond.selects yX1_settingOf.cls yX1_settingOf yX1_settingOf ∈ lw_tbl := ⟨mo_X1_settingOf, tp 2 (n := 4) (by decide +kernel)⟩
theorem mt_X4_startAnew : am_mt yX4_startAnew cX4_startAnew 4 none 2 := ⟨tw 214 (by decide +kernel), tw 3 (by decide +kernel), ⟨by decide +kernel, by decide +kernel⟩, by decide +kernel⟩
theorem mo_X4_startAnew : Cond.instanceMethod yX4_startAnew ∈ lw_tbl := tw 213 (by decide +kernel)
theorem mi_X4_startAnew : Cond.instanceMethod yX4_startAnew ∈ lw_tbl ∧ Cond.selects yX4_startAnew.cls yX4_startAnew yX4_startAnew ∈ lw_tbl := ⟨mo_X4_startAnew, tp 3 (n := 6) (by decide +kernel)⟩
theorem mt_X2_clear : am_mt yX2_clear cX2_clear 1 none 0 := ⟨tw 221 (by decide +kernel), tw 4 (by decide +kernel), ⟨by decide +kernel, by decide +kernel⟩, by decide +kernel⟩
theorem mo_X2_clear : Cond.instanceMethod yX2_clear ∈ lw_tbl := tw 220 (by decide +kernel)
theorem mi_X2_clear : Cond.instanceMethod yX2_clear ∈ lw_tbl ∧ Cond.selects yX2_clear.cls yX2_clear yX2_clear ∈ lw_tbl := ⟨mo_X2_clear, tp 4 (n := 6) (by decide +kernel)⟩
theorem mt_X6_setUp : am_mt yX6_setUp cX6_setUp 3 (some .int) 1 := ⟨tw 242 (by decide +kernel), tw 1 (by decide +kernel), ⟨by decide +kernel, by decide +kernel⟩, by decide +kernel⟩
theorem mo_X6_setUp : Cond.instanceMethod yX6_setUp ∈ lw_tbl := tw 240 (by decide +kernel)
theorem mi_X6_setUp : Cond.instanceMethod yX6_setUp ∈ lw_tbl ∧ Cond.selects yX6_setUp.cls yX6_setUp yX6_setUp ∈ lw_tbl := ⟨mo_X6_setUp, tw 241 (by decide +kernel)⟩
theorem mt_X6_within : am_mt yX6_within cX6_within 3 (some .boolean) 3 := ⟨tw 245 (by decide +kernel), tw 1 (by decide +kernel), ⟨by decide +kernel, by decide +kernel⟩, by decide +kernel⟩
theorem ms_X6_within : Cond.static yX6_within ∈ lw_tbl := tw 244 (by decide +kernel)
theorem mt_X6_set : am_mt yX6_set cX6_set 3 (some .int) 2 := ⟨tw 249 (by decide +kernel), tw 1 (by decide +kernel), ⟨by decide +kernel, by decide +kernel⟩, by decide +kernel⟩
theorem mo_X6_set : Cond.instanceMethod yX6_set ∈ lw_tbl := tw 247 (by decide +kernel)
theorem mi_X6_set : Cond.instanceMethod yX6_set ∈ lw_tbl ∧ Cond.selects yX6_set.cls yX6_set yX6_set ∈ lw_tbl := ⟨mo_X6_set, tw 248 (by decide +kernel)⟩
theorem mt_X6_isSettingValue : am_mt yX6_isSettingValue cX6_isSettingValue 2 (some .boolean) 2 := ⟨tw 252 (by decide +kernel), tw 1 (by decide +kernel), ⟨by decide +kernel, by decide +kernel⟩, by decide +kernel⟩
theorem ms_X6_isSettingValue : Cond.static yX6_isSettingValue ∈ lw_tbl := tw 251 (by decide +kernel)
theorem mt_X6_isSetting : am_mt yX6_isSetting cX6_isSetting 1 (some .boolean) 1 := ⟨tw 255 (by decide +kernel), tw 1 (by decide +kernel), ⟨by decide +kernel, by decide +kernel⟩, by decide +kernel⟩
theorem ms_X6_isSetting : Cond.static yX6_isSetting ∈ lw_tbl := tw 254 (by decide +kernel)
theorem mt_X0_goesOn : am_mt yX0_goesOn cX0_goesOn 1 (some .boolean) 0 := ⟨tw 263 (by decide +kernel), tw 5 (by decide +kernel), ⟨by decide +kernel, by decide +kernel⟩, by decide +kernel⟩
theorem mo_X0_goesOn : Cond.instanceMethod yX0_goesOn ∈ lw_tbl := tw 262 (by decide +kernel)
theorem mi_X0_goesOn : Cond.instanceMethod yX0_goesOn ∈ lw_tbl ∧ Cond.selects yX0_goesOn.cls yX0_goesOn yX0_goesOn ∈ lw_tbl := ⟨mo_X0_goesOn, tp 5 (n := 9) (by decide +kernel)⟩
theorem mt_X1_changeSetting : am_mt yX1_changeSetting cX1_changeSetting 4 (some .int) 2 := ⟨tw 267 (by decide +kernel), tw 2 (by decide +kernel), ⟨by decide +kernel, by decide +kernel⟩, by decide +kernel⟩
theorem mo_X1_changeSetting : Cond.instanceMethod yX1_changeSetting ∈ lw_tbl := tw 266 (by decide +kernel)
theorem mi_X1_changeSetting : Cond.instanceMethod yX1_changeSetting ∈ lw_tbl ∧ Cond.selects yX1_changeSetting.cls yX1_changeSetting yX1_changeSetting ∈ lw_tbl := ⟨mo_X1_changeSetting, tp 6 (n := 4) (by decide +kernel)⟩
theorem mt_X6_fill : am_mt yX6_fill cX6_fill 3 (some .int) 2 := ⟨tw 272 (by decide +kernel), tw 1 (by decide +kernel), ⟨by decide +kernel, by decide +kernel⟩, by decide +kernel⟩
theorem mo_X6_fill : Cond.instanceMethod yX6_fill ∈ lw_tbl := tw 270 (by decide +kernel)
theorem mi_X6_fill : Cond.instanceMethod yX6_fill ∈ lw_tbl ∧ Cond.selects yX6_fill.cls yX6_fill yX6_fill ∈ lw_tbl := ⟨mo_X6_fill, tw 271 (by decide +kernel)⟩
theorem mt_X4_hasSeat : am_mt yX4_hasSeat cX4_hasSeat 2 (some .boolean) 1 := ⟨tw 276 (by decide +kernel), tw 3 (by decide +kernel), ⟨by decide +kernel, by decide +kernel⟩, by decide +kernel⟩
theorem mo_X4_hasSeat : Cond.instanceMethod yX4_hasSeat ∈ lw_tbl := tw 275 (by decide +kernel)
theorem mi_X4_hasSeat : Cond.instanceMethod yX4_hasSeat ∈ lw_tbl ∧ Cond.selects yX4_hasSeat.cls yX4_hasSeat yX4_hasSeat ∈ lw_tbl := ⟨mo_X4_hasSeat, tp 7 (n := 6) (by decide +kernel)⟩
theorem mt_X1_isUnopened : am_mt yX1_isUnopened cX1_isUnopened 1 (some .boolean) 0 := ⟨tw 280 (by decide +kernel), tw 2 (by decide +kernel), ⟨by decide +kernel, by decide +kernel⟩, by decide +kernel⟩
theorem mo_X1_isUnopened : Cond.instanceMethod yX1_isUnopened ∈ lw_tbl := tw 279 (by decide +kernel)
theorem mi_X1_isUnopened : Cond.instanceMethod yX1_isUnopened ∈ lw_tbl ∧ Cond.selects yX1_isUnopened.cls yX1_isUnopened yX1_isUnopened ∈ lw_tbl := ⟨mo_X1_isUnopened, tp 8 (n := 4) (by decide +kernel)⟩
theorem mt_X4_fillAnew : am_mt yX4_fillAnew cX4_fillAnew 4 (some .int) 2 := ⟨tw 285 (by decide +kernel), tw 3 (by decide +kernel), ⟨by decide +kernel, by decide +kernel⟩, by decide +kernel⟩
theorem mo_X4_fillAnew : Cond.instanceMethod yX4_fillAnew ∈ lw_tbl := tw 284 (by decide +kernel)
theorem mi_X4_fillAnew : Cond.instanceMethod yX4_fillAnew ∈ lw_tbl ∧ Cond.selects yX4_fillAnew.cls yX4_fillAnew yX4_fillAnew ∈ lw_tbl := ⟨mo_X4_fillAnew, tp 9 (n := 6) (by decide +kernel)⟩
theorem mt_X6_embolden : am_mt yX6_embolden cX6_embolden 3 (some .int) 2 := ⟨tw 290 (by decide +kernel), tw 1 (by decide +kernel), ⟨by decide +kernel, by decide +kernel⟩, by decide +kernel⟩
theorem mo_X6_embolden : Cond.instanceMethod yX6_embolden ∈ lw_tbl := tw 288 (by decide +kernel)
theorem mi_X6_embolden : Cond.instanceMethod yX6_embolden ∈ lw_tbl ∧ Cond.selects yX6_embolden.cls yX6_embolden yX6_embolden ∈ lw_tbl := ⟨mo_X6_embolden, tw 289 (by decide +kernel)⟩
theorem mt_X4_changeBoldness : am_mt yX4_changeBoldness cX4_changeBoldness 4 (some .int) 2 := ⟨tw 294 (by decide +kernel), tw 3 (by decide +kernel), ⟨by decide +kernel, by decide +kernel⟩, by decide +kernel⟩
theorem mo_X4_changeBoldness : Cond.instanceMethod yX4_changeBoldness ∈ lw_tbl := tw 293 (by decide +kernel)
theorem mi_X4_changeBoldness : Cond.instanceMethod yX4_changeBoldness ∈ lw_tbl ∧ Cond.selects yX4_changeBoldness.cls yX4_changeBoldness yX4_changeBoldness ∈ lw_tbl := ⟨mo_X4_changeBoldness, tp 10 (n := 6) (by decide +kernel)⟩
theorem mt_X6_lot : am_mt yX6_lot cX6_lot 3 (some .int) 2 := ⟨tw 298 (by decide +kernel), tw 1 (by decide +kernel), ⟨by decide +kernel, by decide +kernel⟩, by decide +kernel⟩
theorem mo_X6_lot : Cond.instanceMethod yX6_lot ∈ lw_tbl := tw 296 (by decide +kernel)
theorem mi_X6_lot : Cond.instanceMethod yX6_lot ∈ lw_tbl ∧ Cond.selects yX6_lot.cls yX6_lot yX6_lot ∈ lw_tbl := ⟨mo_X6_lot, tw 297 (by decide +kernel)⟩
theorem mt_X2_areFull : am_mt yX2_areFull cX2_areFull 1 (some .boolean) 0 := ⟨tw 302 (by decide +kernel), tw 4 (by decide +kernel), ⟨by decide +kernel, by decide +kernel⟩, by decide +kernel⟩
theorem mo_X2_areFull : Cond.instanceMethod yX2_areFull ∈ lw_tbl := tw 301 (by decide +kernel)
theorem mi_X2_areFull : Cond.instanceMethod yX2_areFull ∈ lw_tbl ∧ Cond.selects yX2_areFull.cls yX2_areFull yX2_areFull ∈ lw_tbl := ⟨mo_X2_areFull, tp 11 (n := 6) (by decide +kernel)⟩
theorem mt_X2_add : am_mt yX2_add cX2_add 3 (some .int) 2 := ⟨tw 306 (by decide +kernel), tw 4 (by decide +kernel), ⟨by decide +kernel, by decide +kernel⟩, by decide +kernel⟩
theorem mo_X2_add : Cond.instanceMethod yX2_add ∈ lw_tbl := tw 305 (by decide +kernel)
theorem mi_X2_add : Cond.instanceMethod yX2_add ∈ lw_tbl ∧ Cond.selects yX2_add.cls yX2_add yX2_add ∈ lw_tbl := ⟨mo_X2_add, tp 12 (n := 6) (by decide +kernel)⟩
theorem mt_X6_begin : am_mt yX6_begin cX6_begin 3 (some .int) 2 := ⟨tw 311 (by decide +kernel), tw 1 (by decide +kernel), ⟨by decide +kernel, by decide +kernel⟩, by decide +kernel⟩
theorem mo_X6_begin : Cond.instanceMethod yX6_begin ∈ lw_tbl := tw 309 (by decide +kernel)
theorem mi_X6_begin : Cond.instanceMethod yX6_begin ∈ lw_tbl ∧ Cond.selects yX6_begin.cls yX6_begin yX6_begin ∈ lw_tbl := ⟨mo_X6_begin, tw 310 (by decide +kernel)⟩
theorem mt_X1_startAuction : am_mt yX1_startAuction cX1_startAuction 3 (some .int) 2 := ⟨tw 315 (by decide +kernel), tw 2 (by decide +kernel), ⟨by decide +kernel, by decide +kernel⟩, by decide +kernel⟩
theorem mo_X1_startAuction : Cond.instanceMethod yX1_startAuction ∈ lw_tbl := tw 314 (by decide +kernel)
theorem mi_X1_startAuction : Cond.instanceMethod yX1_startAuction ∈ lw_tbl ∧ Cond.selects yX1_startAuction.cls yX1_startAuction yX1_startAuction ∈ lw_tbl := ⟨mo_X1_startAuction, tp 13 (n := 4) (by decide +kernel)⟩
theorem mt_X6_isMode : am_mt yX6_isMode cX6_isMode 1 (some .boolean) 1 := ⟨tw 318 (by decide +kernel), tw 1 (by decide +kernel), ⟨by decide +kernel, by decide +kernel⟩, by decide +kernel⟩
theorem ms_X6_isMode : Cond.static yX6_isMode ∈ lw_tbl := tw 317 (by decide +kernel)
theorem mt_X6_isReserve : am_mt yX6_isReserve cX6_isReserve 1 (some .boolean) 1 := ⟨tw 321 (by decide +kernel), tw 1 (by decide +kernel), ⟨by decide +kernel, by decide +kernel⟩, by decide +kernel⟩
theorem ms_X6_isReserve : Cond.static yX6_isReserve ∈ lw_tbl := tw 320 (by decide +kernel)
theorem mt_X2_nextIsForSale : am_mt yX2_nextIsForSale cX2_nextIsForSale 1 (some .boolean) 0 := ⟨tw 325 (by decide +kernel), tw 4 (by decide +kernel), ⟨by decide +kernel, by decide +kernel⟩, by decide +kernel⟩
theorem mo_X2_nextIsForSale : Cond.instanceMethod yX2_nextIsForSale ∈ lw_tbl := tw 324 (by decide +kernel)
theorem mi_X2_nextIsForSale : Cond.instanceMethod yX2_nextIsForSale ∈ lw_tbl ∧ Cond.selects yX2_nextIsForSale.cls yX2_nextIsForSale yX2_nextIsForSale ∈ lw_tbl := ⟨mo_X2_nextIsForSale, tp 14 (n := 6) (by decide +kernel)⟩
theorem mt_X1_starter : am_mt yX1_starter cX1_starter 1 (some .int) 0 := ⟨tw 329 (by decide +kernel), tw 2 (by decide +kernel), ⟨by decide +kernel, by decide +kernel⟩, by decide +kernel⟩
theorem mo_X1_starter : Cond.instanceMethod yX1_starter ∈ lw_tbl := tw 328 (by decide +kernel)
theorem mi_X1_starter : Cond.instanceMethod yX1_starter ∈ lw_tbl ∧ Cond.selects yX1_starter.cls yX1_starter yX1_starter ∈ lw_tbl := ⟨mo_X1_starter, tp 15 (n := 4) (by decide +kernel)⟩
theorem mt_X0_start : am_mt yX0_start cX0_start 4 none 3 := ⟨tw 333 (by decide +kernel), tw 5 (by decide +kernel), ⟨by decide +kernel, by decide +kernel⟩, by decide +kernel⟩
theorem mo_X0_start : Cond.instanceMethod yX0_start ∈ lw_tbl := tw 332 (by decide +kernel)
theorem mi_X0_start : Cond.instanceMethod yX0_start ∈ lw_tbl ∧ Cond.selects yX0_start.cls yX0_start yX0_start ∈ lw_tbl := ⟨mo_X0_start, tp 16 (n := 9) (by decide +kernel)⟩
theorem mt_X2_next : am_mt yX2_next cX2_next 1 (some .int) 0 := ⟨tw 337 (by decide +kernel), tw 4 (by decide +kernel), ⟨by decide +kernel, by decide +kernel⟩, by decide +kernel⟩
theorem mo_X2_next : Cond.instanceMethod yX2_next ∈ lw_tbl := tw 336 (by decide +kernel)
theorem mi_X2_next : Cond.instanceMethod yX2_next ∈ lw_tbl ∧ Cond.selects yX2_next.cls yX2_next yX2_next ∈ lw_tbl := ⟨mo_X2_next, tp 17 (n := 6) (by decide +kernel)⟩
theorem mt_X6_bid : am_mt yX6_bid cX6_bid 3 (some .int) 2 := ⟨tw 341 (by decide +kernel), tw 1 (by decide +kernel), ⟨by decide +kernel, by decide +kernel⟩, by decide +kernel⟩
theorem mo_X6_bid : Cond.instanceMethod yX6_bid ∈ lw_tbl := tw 339 (by decide +kernel)
theorem mi_X6_bid : Cond.instanceMethod yX6_bid ∈ lw_tbl ∧ Cond.selects yX6_bid.cls yX6_bid yX6_bid ∈ lw_tbl := ⟨mo_X6_bid, tw 340 (by decide +kernel)⟩
theorem mt_X1_takeBid : am_mt yX1_takeBid cX1_takeBid 4 (some .int) 2 := ⟨tw 345 (by decide +kernel), tw 2 (by decide +kernel), ⟨by decide +kernel, by decide +kernel⟩, by decide +kernel⟩
theorem mo_X1_takeBid : Cond.instanceMethod yX1_takeBid ∈ lw_tbl := tw 344 (by decide +kernel)
theorem mi_X1_takeBid : Cond.instanceMethod yX1_takeBid ∈ lw_tbl ∧ Cond.selects yX1_takeBid.cls yX1_takeBid yX1_takeBid ∈ lw_tbl := ⟨mo_X1_takeBid, tp 18 (n := 4) (by decide +kernel)⟩
theorem mt_X1_raise : am_mt yX1_raise cX1_raise 3 (some .int) 2 := ⟨tw 350 (by decide +kernel), tw 2 (by decide +kernel), ⟨by decide +kernel, by decide +kernel⟩, by decide +kernel⟩
theorem mo_X1_raise : Cond.instanceMethod yX1_raise ∈ lw_tbl := tw 349 (by decide +kernel)
theorem mi_X1_raise : Cond.instanceMethod yX1_raise ∈ lw_tbl ∧ Cond.selects yX1_raise.cls yX1_raise yX1_raise ∈ lw_tbl := ⟨mo_X1_raise, tp 19 (n := 4) (by decide +kernel)⟩
theorem mt_X1_leastRaise : am_mt yX1_leastRaise cX1_leastRaise 1 (some .int) 0 := ⟨tw 354 (by decide +kernel), tw 2 (by decide +kernel), ⟨by decide +kernel, by decide +kernel⟩, by decide +kernel⟩
theorem mo_X1_leastRaise : Cond.instanceMethod yX1_leastRaise ∈ lw_tbl := tw 353 (by decide +kernel)
theorem mi_X1_leastRaise : Cond.instanceMethod yX1_leastRaise ∈ lw_tbl ∧ Cond.selects yX1_leastRaise.cls yX1_leastRaise yX1_leastRaise ∈ lw_tbl := ⟨mo_X1_leastRaise, tp 20 (n := 4) (by decide +kernel)⟩
theorem mt_X4_amountOf : am_mt yX4_amountOf cX4_amountOf 2 (some .int) 1 := ⟨tw 358 (by decide +kernel), tw 3 (by decide +kernel), ⟨by decide +kernel, by decide +kernel⟩, by decide +kernel⟩
theorem mo_X4_amountOf : Cond.instanceMethod yX4_amountOf ∈ lw_tbl := tw 357 (by decide +kernel)
theorem mi_X4_amountOf : Cond.instanceMethod yX4_amountOf ∈ lw_tbl ∧ Cond.selects yX4_amountOf.cls yX4_amountOf yX4_amountOf ∈ lw_tbl := ⟨mo_X4_amountOf, tp 21 (n := 6) (by decide +kernel)⟩
theorem mt_X0_noteBid : am_mt yX0_noteBid cX0_noteBid 3 none 2 := ⟨tw 363 (by decide +kernel), tw 5 (by decide +kernel), ⟨by decide +kernel, by decide +kernel⟩, by decide +kernel⟩
theorem mo_X0_noteBid : Cond.instanceMethod yX0_noteBid ∈ lw_tbl := tw 362 (by decide +kernel)
theorem mi_X0_noteBid : Cond.instanceMethod yX0_noteBid ∈ lw_tbl ∧ Cond.selects yX0_noteBid.cls yX0_noteBid yX0_noteBid ∈ lw_tbl := ⟨mo_X0_noteBid, tp 22 (n := 9) (by decide +kernel)⟩
theorem mt_X4_learnAtLeast : am_mt yX4_learnAtLeast cX4_learnAtLeast 3 none 2 := ⟨tw 368 (by decide +kernel), tw 3 (by decide +kernel), ⟨by decide +kernel, by decide +kernel⟩, by decide +kernel⟩
theorem mo_X4_learnAtLeast : Cond.instanceMethod yX4_learnAtLeast ∈ lw_tbl := tw 367 (by decide +kernel)
theorem mi_X4_learnAtLeast : Cond.instanceMethod yX4_learnAtLeast ∈ lw_tbl ∧ Cond.selects yX4_learnAtLeast.cls yX4_learnAtLeast yX4_learnAtLeast ∈ lw_tbl := ⟨mo_X4_learnAtLeast, tp 23 (n := 6) (by decide +kernel)⟩
theorem mt_X1_turnBehind : am_mt yX1_turnBehind cX1_turnBehind 2 none 1 := ⟨tw 372 (by decide +kernel), tw 2 (by decide +kernel), ⟨by decide +kernel, by decide +kernel⟩, by decide +kernel⟩
theorem mo_X1_turnBehind : Cond.instanceMethod yX1_turnBehind ∈ lw_tbl := tw 371 (by decide +kernel)
theorem mi_X1_turnBehind : Cond.instanceMethod yX1_turnBehind ∈ lw_tbl ∧ Cond.selects yX1_turnBehind.cls yX1_turnBehind yX1_turnBehind ∈ lw_tbl := ⟨mo_X1_turnBehind, tp 24 (n := 4) (by decide +kernel)⟩
theorem mt_X1_nextToAct : am_mt yX1_nextToAct cX1_nextToAct 4 (some .int) 1 := ⟨tw 376 (by decide +kernel), tw 2 (by decide +kernel), ⟨by decide +kernel, by decide +kernel⟩, by decide +kernel⟩
theorem mo_X1_nextToAct : Cond.instanceMethod yX1_nextToAct ∈ lw_tbl := tw 375 (by decide +kernel)
theorem mi_X1_nextToAct : Cond.instanceMethod yX1_nextToAct ∈ lw_tbl ∧ Cond.selects yX1_nextToAct.cls yX1_nextToAct yX1_nextToAct ∈ lw_tbl := ⟨mo_X1_nextToAct, tp 25 (n := 4) (by decide +kernel)⟩
theorem mt_X4_seatBehind : am_mt yX4_seatBehind cX4_seatBehind 4 (some .int) 2 := ⟨tw 380 (by decide +kernel), tw 3 (by decide +kernel), ⟨by decide +kernel, by decide +kernel⟩, by decide +kernel⟩
theorem mo_X4_seatBehind : Cond.instanceMethod yX4_seatBehind ∈ lw_tbl := tw 379 (by decide +kernel)
theorem mi_X4_seatBehind : Cond.instanceMethod yX4_seatBehind ∈ lw_tbl ∧ Cond.selects yX4_seatBehind.cls yX4_seatBehind yX4_seatBehind ∈ lw_tbl := ⟨mo_X4_seatBehind, tp 26 (n := 6) (by decide +kernel)⟩
theorem mt_X0_isOut : am_mt yX0_isOut cX0_isOut 2 (some .boolean) 1 := ⟨tw 384 (by decide +kernel), tw 5 (by decide +kernel), ⟨by decide +kernel, by decide +kernel⟩, by decide +kernel⟩
theorem mo_X0_isOut : Cond.instanceMethod yX0_isOut ∈ lw_tbl := tw 383 (by decide +kernel)
theorem mi_X0_isOut : Cond.instanceMethod yX0_isOut ∈ lw_tbl ∧ Cond.selects yX0_isOut.cls yX0_isOut yX0_isOut ∈ lw_tbl := ⟨mo_X0_isOut, tp 27 (n := 9) (by decide +kernel)⟩
theorem mt_X1_handIn : am_mt yX1_handIn cX1_handIn 3 (some .int) 2 := ⟨tw 388 (by decide +kernel), tw 2 (by decide +kernel), ⟨by decide +kernel, by decide +kernel⟩, by decide +kernel⟩
theorem mo_X1_handIn : Cond.instanceMethod yX1_handIn ∈ lw_tbl := tw 387 (by decide +kernel)
theorem mi_X1_handIn : Cond.instanceMethod yX1_handIn ∈ lw_tbl ∧ Cond.selects yX1_handIn.cls yX1_handIn yX1_handIn ∈ lw_tbl := ⟨mo_X1_handIn, tp 28 (n := 4) (by decide +kernel)⟩
theorem mt_X0_bidOf : am_mt yX0_bidOf cX0_bidOf 2 (some .int) 1 := ⟨tw 392 (by decide +kernel), tw 5 (by decide +kernel), ⟨by decide +kernel, by decide +kernel⟩, by decide +kernel⟩
theorem mo_X0_bidOf : Cond.instanceMethod yX0_bidOf ∈ lw_tbl := tw 391 (by decide +kernel)
theorem mi_X0_bidOf : Cond.instanceMethod yX0_bidOf ∈ lw_tbl ∧ Cond.selects yX0_bidOf.cls yX0_bidOf yX0_bidOf ∈ lw_tbl := ⟨mo_X0_bidOf, tp 29 (n := 9) (by decide +kernel)⟩
theorem mt_X1_openBids : am_mt yX1_openBids cX1_openBids 5 none 0 := ⟨tw 396 (by decide +kernel), tw 2 (by decide +kernel), ⟨by decide +kernel, by decide +kernel⟩, by decide +kernel⟩
theorem mo_X1_openBids : Cond.instanceMethod yX1_openBids ∈ lw_tbl := tw 395 (by decide +kernel)
theorem mi_X1_openBids : Cond.instanceMethod yX1_openBids ∈ lw_tbl ∧ Cond.selects yX1_openBids.cls yX1_openBids yX1_openBids ∈ lw_tbl := ⟨mo_X1_openBids, tp 30 (n := 4) (by decide +kernel)⟩
theorem mt_X1_claim : am_mt yX1_claim cX1_claim 3 (some .int) 2 := ⟨tw 400 (by decide +kernel), tw 2 (by decide +kernel), ⟨by decide +kernel, by decide +kernel⟩, by decide +kernel⟩
theorem mo_X1_claim : Cond.instanceMethod yX1_claim ∈ lw_tbl := tw 399 (by decide +kernel)
theorem mi_X1_claim : Cond.instanceMethod yX1_claim ∈ lw_tbl ∧ Cond.selects yX1_claim.cls yX1_claim yX1_claim ∈ lw_tbl := ⟨mo_X1_claim, tp 31 (n := 4) (by decide +kernel)⟩
theorem mt_X1_settle : am_mt yX1_settle cX1_settle 2 (some .int) 0 := ⟨tw 404 (by decide +kernel), tw 2 (by decide +kernel), ⟨by decide +kernel, by decide +kernel⟩, by decide +kernel⟩
theorem mo_X1_settle : Cond.instanceMethod yX1_settle ∈ lw_tbl := tw 403 (by decide +kernel)
theorem mi_X1_settle : Cond.instanceMethod yX1_settle ∈ lw_tbl ∧ Cond.selects yX1_settle.cls yX1_settle yX1_settle ∈ lw_tbl := ⟨mo_X1_settle, tp 32 (n := 4) (by decide +kernel)⟩
theorem mt_X1_collect : am_mt yX1_collect cX1_collect 9 none 2 := ⟨tw 408 (by decide +kernel), tw 2 (by decide +kernel), ⟨by decide +kernel, by decide +kernel⟩, by decide +kernel⟩
theorem mo_X1_collect : Cond.instanceMethod yX1_collect ∈ lw_tbl := tw 407 (by decide +kernel)
theorem mi_X1_collect : Cond.instanceMethod yX1_collect ∈ lw_tbl ∧ Cond.selects yX1_collect.cls yX1_collect yX1_collect ∈ lw_tbl := ⟨mo_X1_collect, tp 33 (n := 4) (by decide +kernel)⟩
theorem mt_J6_bitCount_0f7a4 : am_mt yJ6_bitCount_0f7a4 cJ6_bitCount_0f7a4 1 (some .int) 1 := ⟨tw 411 (by decide +kernel), tw 10 (by decide +kernel), ⟨by decide +kernel, by decide +kernel⟩, by decide +kernel⟩
theorem ms_J6_bitCount_0f7a4 : Cond.static yJ6_bitCount_0f7a4 ∈ lw_tbl := tw 410 (by decide +kernel)
theorem mt_X4_takeFrom : am_mt yX4_takeFrom cX4_takeFrom 3 none 2 := ⟨tw 418 (by decide +kernel), tw 3 (by decide +kernel), ⟨by decide +kernel, by decide +kernel⟩, by decide +kernel⟩
theorem mo_X4_takeFrom : Cond.instanceMethod yX4_takeFrom ∈ lw_tbl := tw 417 (by decide +kernel)
theorem mi_X4_takeFrom : Cond.instanceMethod yX4_takeFrom ∈ lw_tbl ∧ Cond.selects yX4_takeFrom.cls yX4_takeFrom yX4_takeFrom ∈ lw_tbl := ⟨mo_X4_takeFrom, tp 34 (n := 6) (by decide +kernel)⟩
theorem mt_X2_close : am_mt yX2_close cX2_close 3 none 2 := ⟨tw 425 (by decide +kernel), tw 4 (by decide +kernel), ⟨by decide +kernel, by decide +kernel⟩, by decide +kernel⟩
theorem mo_X2_close : Cond.instanceMethod yX2_close ∈ lw_tbl := tw 424 (by decide +kernel)
theorem mi_X2_close : Cond.instanceMethod yX2_close ∈ lw_tbl ∧ Cond.selects yX2_close.cls yX2_close yX2_close ∈ lw_tbl := ⟨mo_X2_close, tp 35 (n := 6) (by decide +kernel)⟩
theorem mt_X6_pass : am_mt yX6_pass cX6_pass 2 (some .int) 1 := ⟨tw 429 (by decide +kernel), tw 1 (by decide +kernel), ⟨by decide +kernel, by decide +kernel⟩, by decide +kernel⟩
theorem mo_X6_pass : Cond.instanceMethod yX6_pass ∈ lw_tbl := tw 427 (by decide +kernel)
theorem mi_X6_pass : Cond.instanceMethod yX6_pass ∈ lw_tbl ∧ Cond.selects yX6_pass.cls yX6_pass yX6_pass ∈ lw_tbl := ⟨mo_X6_pass, tw 428 (by decide +kernel)⟩
theorem mt_X1_takePass : am_mt yX1_takePass cX1_takePass 3 (some .int) 1 := ⟨tw 433 (by decide +kernel), tw 2 (by decide +kernel), ⟨by decide +kernel, by decide +kernel⟩, by decide +kernel⟩
theorem mo_X1_takePass : Cond.instanceMethod yX1_takePass ∈ lw_tbl := tw 432 (by decide +kernel)
theorem mi_X1_takePass : Cond.instanceMethod yX1_takePass ∈ lw_tbl ∧ Cond.selects yX1_takePass.cls yX1_takePass yX1_takePass ∈ lw_tbl := ⟨mo_X1_takePass, tp 36 (n := 4) (by decide +kernel)⟩
theorem mt_X1_stepOut : am_mt yX1_stepOut cX1_stepOut 2 (some .int) 1 := ⟨tw 437 (by decide +kernel), tw 2 (by decide +kernel), ⟨by decide +kernel, by decide +kernel⟩, by decide +kernel⟩
theorem mo_X1_stepOut : Cond.instanceMethod yX1_stepOut ∈ lw_tbl := tw 436 (by decide +kernel)
theorem mi_X1_stepOut : Cond.instanceMethod yX1_stepOut ∈ lw_tbl ∧ Cond.selects yX1_stepOut.cls yX1_stepOut yX1_stepOut ∈ lw_tbl := ⟨mo_X1_stepOut, tp 37 (n := 4) (by decide +kernel)⟩
theorem mt_X0_noteOut : am_mt yX0_noteOut cX0_noteOut 2 none 1 := ⟨tw 441 (by decide +kernel), tw 5 (by decide +kernel), ⟨by decide +kernel, by decide +kernel⟩, by decide +kernel⟩
theorem mo_X0_noteOut : Cond.instanceMethod yX0_noteOut ∈ lw_tbl := tw 440 (by decide +kernel)
theorem mi_X0_noteOut : Cond.instanceMethod yX0_noteOut ∈ lw_tbl ∧ Cond.selects yX0_noteOut.cls yX0_noteOut yX0_noteOut ∈ lw_tbl := ⟨mo_X0_noteOut, tp 38 (n := 9) (by decide +kernel)⟩
theorem mt_X1_letFall : am_mt yX1_letFall cX1_letFall 4 (some .int) 0 := ⟨tw 445 (by decide +kernel), tw 2 (by decide +kernel), ⟨by decide +kernel, by decide +kernel⟩, by decide +kernel⟩
theorem mo_X1_letFall : Cond.instanceMethod yX1_letFall ∈ lw_tbl := tw 444 (by decide +kernel)
theorem mi_X1_letFall : Cond.instanceMethod yX1_letFall ∈ lw_tbl ∧ Cond.selects yX1_letFall.cls yX1_letFall yX1_letFall ∈ lw_tbl := ⟨mo_X1_letFall, tp 39 (n := 4) (by decide +kernel)⟩
theorem mt_X6_move : am_mt yX6_move cX6_move 1 (some .int) 0 := ⟨tw 449 (by decide +kernel), tw 1 (by decide +kernel), ⟨by decide +kernel, by decide +kernel⟩, by decide +kernel⟩
theorem mo_X6_move : Cond.instanceMethod yX6_move ∈ lw_tbl := tw 447 (by decide +kernel)
theorem mi_X6_move : Cond.instanceMethod yX6_move ∈ lw_tbl ∧ Cond.selects yX6_move.cls yX6_move yX6_move ∈ lw_tbl := ⟨mo_X6_move, tw 448 (by decide +kernel)⟩
theorem mt_X1_moveAlone : am_mt yX1_moveAlone cX1_moveAlone 3 (some .int) 0 := ⟨tw 453 (by decide +kernel), tw 2 (by decide +kernel), ⟨by decide +kernel, by decide +kernel⟩, by decide +kernel⟩
theorem mo_X1_moveAlone : Cond.instanceMethod yX1_moveAlone ∈ lw_tbl := tw 452 (by decide +kernel)
theorem mi_X1_moveAlone : Cond.instanceMethod yX1_moveAlone ∈ lw_tbl ∧ Cond.selects yX1_moveAlone.cls yX1_moveAlone yX1_moveAlone ∈ lw_tbl := ⟨mo_X1_moveAlone, tp 40 (n := 4) (by decide +kernel)⟩
theorem mt_X1_claimAlone : am_mt yX1_claimAlone cX1_claimAlone 2 none 0 := ⟨tw 457 (by decide +kernel), tw 2 (by decide +kernel), ⟨by decide +kernel, by decide +kernel⟩, by decide +kernel⟩
theorem mo_X1_claimAlone : Cond.instanceMethod yX1_claimAlone ∈ lw_tbl := tw 456 (by decide +kernel)
theorem mi_X1_claimAlone : Cond.instanceMethod yX1_claimAlone ∈ lw_tbl ∧ Cond.selects yX1_claimAlone.cls yX1_claimAlone yX1_claimAlone ∈ lw_tbl := ⟨mo_X1_claimAlone, tp 41 (n := 4) (by decide +kernel)⟩
theorem mt_X1_limitOf : am_mt yX1_limitOf cX1_limitOf 3 (some .int) 1 := ⟨tw 461 (by decide +kernel), tw 2 (by decide +kernel), ⟨by decide +kernel, by decide +kernel⟩, by decide +kernel⟩
theorem mo_X1_limitOf : Cond.instanceMethod yX1_limitOf ∈ lw_tbl := tw 460 (by decide +kernel)
theorem mi_X1_limitOf : Cond.instanceMethod yX1_limitOf ∈ lw_tbl ∧ Cond.selects yX1_limitOf.cls yX1_limitOf yX1_limitOf ∈ lw_tbl := ⟨mo_X1_limitOf, tp 42 (n := 4) (by decide +kernel)⟩
theorem mt_X2_gainFor : am_mt yX2_gainFor cX2_gainFor 7 (some .int) 3 := ⟨tw 465 (by decide +kernel), tw 4 (by decide +kernel), ⟨by decide +kernel, by decide +kernel⟩, by decide +kernel⟩
theorem mo_X2_gainFor : Cond.instanceMethod yX2_gainFor ∈ lw_tbl := tw 464 (by decide +kernel)
theorem mi_X2_gainFor : Cond.instanceMethod yX2_gainFor ∈ lw_tbl ∧ Cond.selects yX2_gainFor.cls yX2_gainFor yX2_gainFor ∈ lw_tbl := ⟨mo_X2_gainFor, tp 43 (n := 6) (by decide +kernel)⟩
theorem mt_X2_hasLot : am_mt yX2_hasLot cX2_hasLot 2 (some .boolean) 1 := ⟨tw 469 (by decide +kernel), tw 4 (by decide +kernel), ⟨by decide +kernel, by decide +kernel⟩, by decide +kernel⟩
theorem mo_X2_hasLot : Cond.instanceMethod yX2_hasLot ∈ lw_tbl := tw 468 (by decide +kernel)
theorem mi_X2_hasLot : Cond.instanceMethod yX2_hasLot ∈ lw_tbl ∧ Cond.selects yX2_hasLot.cls yX2_hasLot yX2_hasLot ∈ lw_tbl := ⟨mo_X2_hasLot, tp 44 (n := 6) (by decide +kernel)⟩
theorem mt_X4_boldnessOf : am_mt yX4_boldnessOf cX4_boldnessOf 2 (some .int) 1 := ⟨tw 474 (by decide +kernel), tw 3 (by decide +kernel), ⟨by decide +kernel, by decide +kernel⟩, by decide +kernel⟩
theorem mo_X4_boldnessOf : Cond.instanceMethod yX4_boldnessOf ∈ lw_tbl := tw 473 (by decide +kernel)
theorem mi_X4_boldnessOf : Cond.instanceMethod yX4_boldnessOf ∈ lw_tbl ∧ Cond.selects yX4_boldnessOf.cls yX4_boldnessOf yX4_boldnessOf ∈ lw_tbl := ⟨mo_X4_boldnessOf, tp 45 (n := 6) (by decide +kernel)⟩
theorem mt_X1_firstWithoutBid : am_mt yX1_firstWithoutBid cX1_firstWithoutBid 4 (some .int) 0 := ⟨tw 479 (by decide +kernel), tw 2 (by decide +kernel), ⟨by decide +kernel, by decide +kernel⟩, by decide +kernel⟩
theorem mo_X1_firstWithoutBid : Cond.instanceMethod yX1_firstWithoutBid ∈ lw_tbl := tw 478 (by decide +kernel)
theorem mi_X1_firstWithoutBid : Cond.instanceMethod yX1_firstWithoutBid ∈ lw_tbl ∧ Cond.selects yX1_firstWithoutBid.cls yX1_firstWithoutBid yX1_firstWithoutBid ∈ lw_tbl := ⟨mo_X1_firstWithoutBid, tp 46 (n := 4) (by decide +kernel)⟩
theorem mt_X6_last : am_mt yX6_last cX6_last 1 (some .int) 0 := ⟨tw 483 (by decide +kernel), tw 1 (by decide +kernel), ⟨by decide +kernel, by decide +kernel⟩, by decide +kernel⟩
theorem mo_X6_last : Cond.instanceMethod yX6_last ∈ lw_tbl := tw 481 (by decide +kernel)
theorem mi_X6_last : Cond.instanceMethod yX6_last ∈ lw_tbl ∧ Cond.selects yX6_last.cls yX6_last yX6_last ∈ lw_tbl := ⟨mo_X6_last, tw 482 (by decide +kernel)⟩
theorem mt_X1_giveLast : am_mt yX1_giveLast cX1_giveLast 2 (some .int) 0 := ⟨tw 487 (by decide +kernel), tw 2 (by decide +kernel), ⟨by decide +kernel, by decide +kernel⟩, by decide +kernel⟩
theorem mo_X1_giveLast : Cond.instanceMethod yX1_giveLast ∈ lw_tbl := tw 486 (by decide +kernel)
theorem mi_X1_giveLast : Cond.instanceMethod yX1_giveLast ∈ lw_tbl ∧ Cond.selects yX1_giveLast.cls yX1_giveLast yX1_giveLast ∈ lw_tbl := ⟨mo_X1_giveLast, tp 47 (n := 4) (by decide +kernel)⟩
theorem mt_X2_nextIsLast : am_mt yX2_nextIsLast cX2_nextIsLast 1 (some .boolean) 0 := ⟨tw 491 (by decide +kernel), tw 4 (by decide +kernel), ⟨by decide +kernel, by decide +kernel⟩, by decide +kernel⟩
theorem mo_X2_nextIsLast : Cond.instanceMethod yX2_nextIsLast ∈ lw_tbl := tw 490 (by decide +kernel)
theorem mi_X2_nextIsLast : Cond.instanceMethod yX2_nextIsLast ∈ lw_tbl ∧ Cond.selects yX2_nextIsLast.cls yX2_nextIsLast yX2_nextIsLast ∈ lw_tbl := ⟨mo_X2_nextIsLast, tp 48 (n := 6) (by decide +kernel)⟩
theorem mt_X4_poorest : am_mt yX4_poorest cX4_poorest 5 (some .int) 1 := ⟨tw 495 (by decide +kernel), tw 3 (by decide +kernel), ⟨by decide +kernel, by decide +kernel⟩, by decide +kernel⟩
theorem mo_X4_poorest : Cond.instanceMethod yX4_poorest ∈ lw_tbl := tw 494 (by decide +kernel)
theorem mi_X4_poorest : Cond.instanceMethod yX4_poorest ∈ lw_tbl ∧ Cond.selects yX4_poorest.cls yX4_poorest yX4_poorest ∈ lw_tbl := ⟨mo_X4_poorest, tp 49 (n := 6) (by decide +kernel)⟩
theorem mt_X6_ask : am_mt yX6_ask cX6_ask 3 (some .int) 2 := ⟨tw 501 (by decide +kernel), tw 1 (by decide +kernel), ⟨by decide +kernel, by decide +kernel⟩, by decide +kernel⟩
theorem mo_X6_ask : Cond.instanceMethod yX6_ask ∈ lw_tbl := tw 499 (by decide +kernel)
theorem mi_X6_ask : Cond.instanceMethod yX6_ask ∈ lw_tbl ∧ Cond.selects yX6_ask.cls yX6_ask yX6_ask ∈ lw_tbl := ⟨mo_X6_ask, tw 500 (by decide +kernel)⟩
theorem mt_X4_question : am_mt yX4_question cX4_question 4 (some .boolean) 2 := ⟨tw 505 (by decide +kernel), tw 3 (by decide +kernel), ⟨by decide +kernel, by decide +kernel⟩, by decide +kernel⟩
theorem mo_X4_question : Cond.instanceMethod yX4_question ∈ lw_tbl := tw 504 (by decide +kernel)
theorem mi_X4_question : Cond.instanceMethod yX4_question ∈ lw_tbl ∧ Cond.selects yX4_question.cls yX4_question yX4_question ∈ lw_tbl := ⟨mo_X4_question, tp 50 (n := 6) (by decide +kernel)⟩
theorem mt_X4_learnAtMost : am_mt yX4_learnAtMost cX4_learnAtMost 3 none 2 := ⟨tw 510 (by decide +kernel), tw 3 (by decide +kernel), ⟨by decide +kernel, by decide +kernel⟩, by decide +kernel⟩
theorem mo_X4_learnAtMost : Cond.instanceMethod yX4_learnAtMost ∈ lw_tbl := tw 509 (by decide +kernel)
theorem mi_X4_learnAtMost : Cond.instanceMethod yX4_learnAtMost ∈ lw_tbl ∧ Cond.selects yX4_learnAtMost.cls yX4_learnAtMost yX4_learnAtMost ∈ lw_tbl := ⟨mo_X4_learnAtMost, tp 51 (n := 6) (by decide +kernel)⟩
theorem mt_X6_player : am_mt yX6_player cX6_player 3 (some .int) 2 := ⟨tw 514 (by decide +kernel), tw 1 (by decide +kernel), ⟨by decide +kernel, by decide +kernel⟩, by decide +kernel⟩
theorem mo_X6_player : Cond.instanceMethod yX6_player ∈ lw_tbl := tw 512 (by decide +kernel)
theorem mi_X6_player : Cond.instanceMethod yX6_player ∈ lw_tbl ∧ Cond.selects yX6_player.cls yX6_player yX6_player ∈ lw_tbl := ⟨mo_X6_player, tw 513 (by decide +kernel)⟩
theorem mt_X4_paidBy : am_mt yX4_paidBy cX4_paidBy 2 (some .int) 1 := ⟨tw 520 (by decide +kernel), tw 3 (by decide +kernel), ⟨by decide +kernel, by decide +kernel⟩, by decide +kernel⟩
theorem mo_X4_paidBy : Cond.instanceMethod yX4_paidBy ∈ lw_tbl := tw 519 (by decide +kernel)
theorem mi_X4_paidBy : Cond.instanceMethod yX4_paidBy ∈ lw_tbl ∧ Cond.selects yX4_paidBy.cls yX4_paidBy yX4_paidBy ∈ lw_tbl := ⟨mo_X4_paidBy, tp 52 (n := 6) (by decide +kernel)⟩
theorem mt_X1_valueOf : am_mt yX1_valueOf cX1_valueOf 2 (some .int) 1 := ⟨tw 524 (by decide +kernel), tw 2 (by decide +kernel), ⟨by decide +kernel, by decide +kernel⟩, by decide +kernel⟩
theorem mo_X1_valueOf : Cond.instanceMethod yX1_valueOf ∈ lw_tbl := tw 523 (by decide +kernel)
theorem mi_X1_valueOf : Cond.instanceMethod yX1_valueOf ∈ lw_tbl ∧ Cond.selects yX1_valueOf.cls yX1_valueOf yX1_valueOf ∈ lw_tbl := ⟨mo_X1_valueOf, tp 53 (n := 4) (by decide +kernel)⟩
theorem mt_X2_valueFor : am_mt yX2_valueFor cX2_valueFor 8 (some .int) 3 := ⟨tw 528 (by decide +kernel), tw 4 (by decide +kernel), ⟨by decide +kernel, by decide +kernel⟩, by decide +kernel⟩
theorem mo_X2_valueFor : Cond.instanceMethod yX2_valueFor ∈ lw_tbl := tw 527 (by decide +kernel)
theorem mi_X2_valueFor : Cond.instanceMethod yX2_valueFor ∈ lw_tbl ∧ Cond.selects yX2_valueFor.cls yX2_valueFor yX2_valueFor ∈ lw_tbl := ⟨mo_X2_valueFor, tp 54 (n := 6) (by decide +kernel)⟩
theorem mt_X2_owns : am_mt yX2_owns cX2_owns 3 (some .boolean) 2 := ⟨tw 532 (by decide +kernel), tw 4 (by decide +kernel), ⟨by decide +kernel, by decide +kernel⟩, by decide +kernel⟩
theorem mo_X2_owns : Cond.instanceMethod yX2_owns ∈ lw_tbl := tw 531 (by decide +kernel)
theorem mi_X2_owns : Cond.instanceMethod yX2_owns ∈ lw_tbl ∧ Cond.selects yX2_owns.cls yX2_owns yX2_owns ∈ lw_tbl := ⟨mo_X2_owns, tp 55 (n := 6) (by decide +kernel)⟩
theorem mt_X2_shareOf : am_mt yX2_shareOf cX2_shareOf 3 (some .int) 1 := ⟨tw 536 (by decide +kernel), tw 4 (by decide +kernel), ⟨by decide +kernel, by decide +kernel⟩, by decide +kernel⟩
theorem mo_X2_shareOf : Cond.instanceMethod yX2_shareOf ∈ lw_tbl := tw 535 (by decide +kernel)
theorem mi_X2_shareOf : Cond.instanceMethod yX2_shareOf ∈ lw_tbl ∧ Cond.selects yX2_shareOf.cls yX2_shareOf yX2_shareOf ∈ lw_tbl := ⟨mo_X2_shareOf, tp 56 (n := 6) (by decide +kernel)⟩
theorem mt_X2_ownedOfColour : am_mt yX2_ownedOfColour cX2_ownedOfColour 5 (some .int) 2 := ⟨tw 540 (by decide +kernel), tw 4 (by decide +kernel), ⟨by decide +kernel, by decide +kernel⟩, by decide +kernel⟩
theorem mo_X2_ownedOfColour : Cond.instanceMethod yX2_ownedOfColour ∈ lw_tbl := tw 539 (by decide +kernel)
theorem mi_X2_ownedOfColour : Cond.instanceMethod yX2_ownedOfColour ∈ lw_tbl ∧ Cond.selects yX2_ownedOfColour.cls yX2_ownedOfColour yX2_ownedOfColour ∈ lw_tbl := ⟨mo_X2_ownedOfColour, tp 57 (n := 6) (by decide +kernel)⟩
theorem mt_X1_scoreOf : am_mt yX1_scoreOf cX1_scoreOf 3 (some .int) 1 := ⟨tw 544 (by decide +kernel), tw 2 (by decide +kernel), ⟨by decide +kernel, by decide +kernel⟩, by decide +kernel⟩
theorem mo_X1_scoreOf : Cond.instanceMethod yX1_scoreOf ∈ lw_tbl := tw 543 (by decide +kernel)
theorem mi_X1_scoreOf : Cond.instanceMethod yX1_scoreOf ∈ lw_tbl ∧ Cond.selects yX1_scoreOf.cls yX1_scoreOf yX1_scoreOf ∈ lw_tbl := ⟨mo_X1_scoreOf, tp 58 (n := 4) (by decide +kernel)⟩
theorem mt_X1_placeOf : am_mt yX1_placeOf cX1_placeOf 6 (some .int) 1 := ⟨tw 549 (by decide +kernel), tw 2 (by decide +kernel), ⟨by decide +kernel, by decide +kernel⟩, by decide +kernel⟩
theorem mo_X1_placeOf : Cond.instanceMethod yX1_placeOf ∈ lw_tbl := tw 548 (by decide +kernel)
theorem mi_X1_placeOf : Cond.instanceMethod yX1_placeOf ∈ lw_tbl ∧ Cond.selects yX1_placeOf.cls yX1_placeOf yX1_placeOf ∈ lw_tbl := ⟨mo_X1_placeOf, tp 59 (n := 4) (by decide +kernel)⟩
theorem mt_X2_ownedBy : am_mt yX2_ownedBy cX2_ownedBy 4 (some .int) 1 := ⟨tw 554 (by decide +kernel), tw 4 (by decide +kernel), ⟨by decide +kernel, by decide +kernel⟩, by decide +kernel⟩
theorem mo_X2_ownedBy : Cond.instanceMethod yX2_ownedBy ∈ lw_tbl := tw 553 (by decide +kernel)
theorem mi_X2_ownedBy : Cond.instanceMethod yX2_ownedBy ∈ lw_tbl ∧ Cond.selects yX2_ownedBy.cls yX2_ownedBy yX2_ownedBy ∈ lw_tbl := ⟨mo_X2_ownedBy, tp 60 (n := 6) (by decide +kernel)⟩
theorem mt_X6_about : am_mt yX6_about cX6_about 4 (some .int) 2 := ⟨tw 561 (by decide +kernel), tw 1 (by decide +kernel), ⟨by decide +kernel, by decide +kernel⟩, by decide +kernel⟩
theorem mo_X6_about : Cond.instanceMethod yX6_about ∈ lw_tbl := tw 559 (by decide +kernel)
theorem mi_X6_about : Cond.instanceMethod yX6_about ∈ lw_tbl ∧ Cond.selects yX6_about.cls yX6_about yX6_about ∈ lw_tbl := ⟨mo_X6_about, tw 560 (by decide +kernel)⟩
theorem mt_X2_colourOf : am_mt yX2_colourOf cX2_colourOf 2 (some .int) 1 := ⟨tw 566 (by decide +kernel), tw 4 (by decide +kernel), ⟨by decide +kernel, by decide +kernel⟩, by decide +kernel⟩
theorem mo_X2_colourOf : Cond.instanceMethod yX2_colourOf ∈ lw_tbl := tw 565 (by decide +kernel)
theorem mi_X2_colourOf : Cond.instanceMethod yX2_colourOf ∈ lw_tbl ∧ Cond.selects yX2_colourOf.cls yX2_colourOf yX2_colourOf ∈ lw_tbl := ⟨mo_X2_colourOf, tp 61 (n := 6) (by decide +kernel)⟩
theorem mt_X2_worthOf : am_mt yX2_worthOf cX2_worthOf 2 (some .int) 1 := ⟨tw 570 (by decide +kernel), tw 4 (by decide +kernel), ⟨by decide +kernel, by decide +kernel⟩, by decide +kernel⟩
theorem mo_X2_worthOf : Cond.instanceMethod yX2_worthOf ∈ lw_tbl := tw 569 (by decide +kernel)
theorem mi_X2_worthOf : Cond.instanceMethod yX2_worthOf ∈ lw_tbl ∧ Cond.selects yX2_worthOf.cls yX2_worthOf yX2_worthOf ∈ lw_tbl := ⟨mo_X2_worthOf, tp 62 (n := 6) (by decide +kernel)⟩
theorem mt_X2_ownersOf : am_mt yX2_ownersOf cX2_ownersOf 2 (some .int) 1 := ⟨tw 574 (by decide +kernel), tw 4 (by decide +kernel), ⟨by decide +kernel, by decide +kernel⟩, by decide +kernel⟩
theorem mo_X2_ownersOf : Cond.instanceMethod yX2_ownersOf ∈ lw_tbl := tw 573 (by decide +kernel)
theorem mi_X2_ownersOf : Cond.instanceMethod yX2_ownersOf ∈ lw_tbl ∧ Cond.selects yX2_ownersOf.cls yX2_ownersOf yX2_ownersOf ∈ lw_tbl := ⟨mo_X2_ownersOf, tp 63 (n := 6) (by decide +kernel)⟩
theorem mt_X2_priceOf : am_mt yX2_priceOf cX2_priceOf 2 (some .int) 1 := ⟨tw 578 (by decide +kernel), tw 4 (by decide +kernel), ⟨by decide +kernel, by decide +kernel⟩, by decide +kernel⟩
theorem mo_X2_priceOf : Cond.instanceMethod yX2_priceOf ∈ lw_tbl := tw 577 (by decide +kernel)
theorem mi_X2_priceOf : Cond.instanceMethod yX2_priceOf ∈ lw_tbl ∧ Cond.selects yX2_priceOf.cls yX2_priceOf yX2_priceOf ∈ lw_tbl := ⟨mo_X2_priceOf, tp 64 (n := 6) (by decide +kernel)⟩
theorem mt_X2_stateOf : am_mt yX2_stateOf cX2_stateOf 2 (some .int) 1 := ⟨tw 582 (by decide +kernel), tw 4 (by decide +kernel), ⟨by decide +kernel, by decide +kernel⟩, by decide +kernel⟩
theorem mo_X2_stateOf : Cond.instanceMethod yX2_stateOf ∈ lw_tbl := tw 581 (by decide +kernel)
theorem mi_X2_stateOf : Cond.instanceMethod yX2_stateOf ∈ lw_tbl ∧ Cond.selects yX2_stateOf.cls yX2_stateOf yX2_stateOf ∈ lw_tbl := ⟨mo_X2_stateOf, tp 65 (n := 6) (by decide +kernel)⟩
theorem mt_X6_count : am_mt yX6_count cX6_count 2 (some .int) 1 := ⟨tw 587 (by decide +kernel), tw 1 (by decide +kernel), ⟨by decide +kernel, by decide +kernel⟩, by decide +kernel⟩
theorem mo_X6_count : Cond.instanceMethod yX6_count ∈ lw_tbl := tw 585 (by decide +kernel)
theorem mi_X6_count : Cond.instanceMethod yX6_count ∈ lw_tbl ∧ Cond.selects yX6_count.cls yX6_count yX6_count ∈ lw_tbl := ⟨mo_X6_count, tw 586 (by decide +kernel)⟩
theorem mt_X4_sum : am_mt yX4_sum cX4_sum 3 (some .int) 0 := ⟨tw 594 (by decide +kernel), tw 3 (by decide +kernel), ⟨by decide +kernel, by decide +kernel⟩, by decide +kernel⟩
theorem mo_X4_sum : Cond.instanceMethod yX4_sum ∈ lw_tbl := tw 593 (by decide +kernel)
theorem mi_X4_sum : Cond.instanceMethod yX4_sum ∈ lw_tbl ∧ Cond.selects yX4_sum.cls yX4_sum yX4_sum ∈ lw_tbl := ⟨mo_X4_sum, tp 66 (n := 6) (by decide +kernel)⟩
theorem mt_X4_paidByAll : am_mt yX4_paidByAll cX4_paidByAll 3 (some .int) 0 := ⟨tw 598 (by decide +kernel), tw 3 (by decide +kernel), ⟨by decide +kernel, by decide +kernel⟩, by decide +kernel⟩
theorem mo_X4_paidByAll : Cond.instanceMethod yX4_paidByAll ∈ lw_tbl := tw 597 (by decide +kernel)
theorem mi_X4_paidByAll : Cond.instanceMethod yX4_paidByAll ∈ lw_tbl ∧ Cond.selects yX4_paidByAll.cls yX4_paidByAll yX4_paidByAll ∈ lw_tbl := ⟨mo_X4_paidByAll, tp 67 (n := 6) (by decide +kernel)⟩
theorem mt_X6_known : am_mt yX6_known cX6_known 4 (some .int) 2 := ⟨tw 603 (by decide +kernel), tw 1 (by decide +kernel), ⟨by decide +kernel, by decide +kernel⟩, by decide +kernel⟩
theorem mo_X6_known : Cond.instanceMethod yX6_known ∈ lw_tbl := tw 601 (by decide +kernel)
theorem mi_X6_known : Cond.instanceMethod yX6_known ∈ lw_tbl ∧ Cond.selects yX6_known.cls yX6_known yX6_known ∈ lw_tbl := ⟨mo_X6_known, tw 602 (by decide +kernel)⟩
theorem mt_X4_leastOf : am_mt yX4_leastOf cX4_leastOf 2 (some .int) 1 := ⟨tw 607 (by decide +kernel), tw 3 (by decide +kernel), ⟨by decide +kernel, by decide +kernel⟩, by decide +kernel⟩
theorem mo_X4_leastOf : Cond.instanceMethod yX4_leastOf ∈ lw_tbl := tw 606 (by decide +kernel)
theorem mi_X4_leastOf : Cond.instanceMethod yX4_leastOf ∈ lw_tbl ∧ Cond.selects yX4_leastOf.cls yX4_leastOf yX4_leastOf ∈ lw_tbl := ⟨mo_X4_leastOf, tp 68 (n := 6) (by decide +kernel)⟩
theorem mt_X4_greatestOf : am_mt yX4_greatestOf cX4_greatestOf 2 (some .int) 1 := ⟨tw 611 (by decide +kernel), tw 3 (by decide +kernel), ⟨by decide +kernel, by decide +kernel⟩, by decide +kernel⟩
theorem mo_X4_greatestOf : Cond.instanceMethod yX4_greatestOf ∈ lw_tbl := tw 610 (by decide +kernel)
theorem mi_X4_greatestOf : Cond.instanceMethod yX4_greatestOf ∈ lw_tbl ∧ Cond.selects yX4_greatestOf.cls yX4_greatestOf yX4_greatestOf ∈ lw_tbl := ⟨mo_X4_greatestOf, tp 69 (n := 6) (by decide +kernel)⟩
theorem mt_X5_leastIn : am_mt yX5_leastIn cX5_leastIn 6 (some .int) 2 := ⟨tw 615 (by decide +kernel), tw 6 (by decide +kernel), ⟨by decide +kernel, by decide +kernel⟩, by decide +kernel⟩
theorem mo_X5_leastIn : Cond.instanceMethod yX5_leastIn ∈ lw_tbl := tw 614 (by decide +kernel)
theorem mi_X5_leastIn : Cond.instanceMethod yX5_leastIn ∈ lw_tbl ∧ Cond.selects yX5_leastIn.cls yX5_leastIn yX5_leastIn ∈ lw_tbl := ⟨mo_X5_leastIn, tp 70 (n := 2) (by decide +kernel)⟩
theorem mt_X5_takeInOthers : am_mt yX5_takeInOthers cX5_takeInOthers 4 none 2 := ⟨tw 619 (by decide +kernel), tw 6 (by decide +kernel), ⟨by decide +kernel, by decide +kernel⟩, by decide +kernel⟩
theorem mo_X5_takeInOthers : Cond.instanceMethod yX5_takeInOthers ∈ lw_tbl := tw 618 (by decide +kernel)
theorem mi_X5_takeInOthers : Cond.instanceMethod yX5_takeInOthers ∈ lw_tbl ∧ Cond.selects yX5_takeInOthers.cls yX5_takeInOthers yX5_takeInOthers ∈ lw_tbl := ⟨mo_X5_takeInOthers, tp 71 (n := 2) (by decide +kernel)⟩
theorem mt_X5_takeIn : am_mt yX5_takeIn cX5_takeIn 6 none 2 := ⟨tw 625 (by decide +kernel), tw 6 (by decide +kernel), ⟨by decide +kernel, by decide +kernel⟩, by decide +kernel⟩
theorem mo_X5_takeIn : Cond.instanceMethod yX5_takeIn ∈ lw_tbl := tw 624 (by decide +kernel)
theorem mi_X5_takeIn : Cond.instanceMethod yX5_takeIn ∈ lw_tbl ∧ Cond.selects yX5_takeIn.cls yX5_takeIn yX5_takeIn ∈ lw_tbl := ⟨mo_X5_takeIn, tp 72 (n := 2) (by decide +kernel)⟩
theorem mt_X5_waysUpTo : am_mt yX5_waysUpTo cX5_waysUpTo 2 (some .long) 1 := ⟨tw 629 (by decide +kernel), tw 6 (by decide +kernel), ⟨by decide +kernel, by decide +kernel⟩, by decide +kernel⟩
theorem mo_X5_waysUpTo : Cond.instanceMethod yX5_waysUpTo ∈ lw_tbl := tw 628 (by decide +kernel)
theorem mi_X5_waysUpTo : Cond.instanceMethod yX5_waysUpTo ∈ lw_tbl ∧ Cond.selects yX5_waysUpTo.cls yX5_waysUpTo yX5_waysUpTo ∈ lw_tbl := ⟨mo_X5_waysUpTo, tp 73 (n := 2) (by decide +kernel)⟩
theorem mt_X5_waysOf : am_mt yX5_waysOf cX5_waysOf 2 (some .long) 1 := ⟨tw 635 (by decide +kernel), tw 6 (by decide +kernel), ⟨by decide +kernel, by decide +kernel⟩, by decide +kernel⟩
theorem mo_X5_waysOf : Cond.instanceMethod yX5_waysOf ∈ lw_tbl := tw 634 (by decide +kernel)
theorem mi_X5_waysOf : Cond.instanceMethod yX5_waysOf ∈ lw_tbl ∧ Cond.selects yX5_waysOf.cls yX5_waysOf yX5_waysOf ∈ lw_tbl := ⟨mo_X5_waysOf, tp 74 (n := 2) (by decide +kernel)⟩
theorem mt_X5_greatestIn : am_mt yX5_greatestIn cX5_greatestIn 6 (some .int) 2 := ⟨tw 639 (by decide +kernel), tw 6 (by decide +kernel), ⟨by decide +kernel, by decide +kernel⟩, by decide +kernel⟩
theorem mo_X5_greatestIn : Cond.instanceMethod yX5_greatestIn ∈ lw_tbl := tw 638 (by decide +kernel)
theorem mi_X5_greatestIn : Cond.instanceMethod yX5_greatestIn ∈ lw_tbl ∧ Cond.selects yX5_greatestIn.cls yX5_greatestIn yX5_greatestIn ∈ lw_tbl := ⟨mo_X5_greatestIn, tp 75 (n := 2) (by decide +kernel)⟩
theorem mt_X5_averageIn : am_mt yX5_averageIn cX5_averageIn 11 (some .int) 2 := ⟨tw 643 (by decide +kernel), tw 6 (by decide +kernel), ⟨by decide +kernel, by decide +kernel⟩, by decide +kernel⟩
theorem mo_X5_averageIn : Cond.instanceMethod yX5_averageIn ∈ lw_tbl := tw 642 (by decide +kernel)
theorem mi_X5_averageIn : Cond.instanceMethod yX5_averageIn ∈ lw_tbl ∧ Cond.selects yX5_averageIn.cls yX5_averageIn yX5_averageIn ∈ lw_tbl := ⟨mo_X5_averageIn, tp 76 (n := 2) (by decide +kernel)⟩
theorem mt_X6_ways : am_mt yX6_ways cX6_ways 1 (some .long) 0 := ⟨tw 647 (by decide +kernel), tw 1 (by decide +kernel), ⟨by decide +kernel, by decide +kernel⟩, by decide +kernel⟩
theorem mo_X6_ways : Cond.instanceMethod yX6_ways ∈ lw_tbl := tw 645 (by decide +kernel)
theorem mi_X6_ways : Cond.instanceMethod yX6_ways ∈ lw_tbl ∧ Cond.selects yX6_ways.cls yX6_ways yX6_ways ∈ lw_tbl := ⟨mo_X6_ways, tw 646 (by decide +kernel)⟩
theorem mt_X5_waysWith : am_mt yX5_waysWith cX5_waysWith 8 (some .long) 3 := ⟨tw 651 (by decide +kernel), tw 6 (by decide +kernel), ⟨by decide +kernel, by decide +kernel⟩, by decide +kernel⟩
theorem mo_X5_waysWith : Cond.instanceMethod yX5_waysWith ∈ lw_tbl := tw 650 (by decide +kernel)
theorem mi_X5_waysWith : Cond.instanceMethod yX5_waysWith ∈ lw_tbl ∧ Cond.selects yX5_waysWith.cls yX5_waysWith yX5_waysWith ∈ lw_tbl := ⟨mo_X5_waysWith, tp 77 (n := 2) (by decide +kernel)⟩
theorem mt_X6_canPay : am_mt yX6_canPay cX6_canPay 3 (some .long) 2 := ⟨tw 656 (by decide +kernel), tw 1 (by decide +kernel), ⟨by decide +kernel, by decide +kernel⟩, by decide +kernel⟩
theorem mo_X6_canPay : Cond.instanceMethod yX6_canPay ∈ lw_tbl := tw 654 (by decide +kernel)
theorem mi_X6_canPay : Cond.instanceMethod yX6_canPay ∈ lw_tbl ∧ Cond.selects yX6_canPay.cls yX6_canPay yX6_canPay ∈ lw_tbl := ⟨mo_X6_canPay, tw 655 (by decide +kernel)⟩
theorem mt_X6_forecast : am_mt yX6_forecast cX6_forecast 5 (some .int) 3 := ⟨tw 662 (by decide +kernel), tw 1 (by decide +kernel), ⟨by decide +kernel, by decide +kernel⟩, by decide +kernel⟩
theorem mo_X6_forecast : Cond.instanceMethod yX6_forecast ∈ lw_tbl := tw 660 (by decide +kernel)
theorem mi_X6_forecast : Cond.instanceMethod yX6_forecast ∈ lw_tbl ∧ Cond.selects yX6_forecast.cls yX6_forecast yX6_forecast ∈ lw_tbl := ⟨mo_X6_forecast, tw 661 (by decide +kernel)⟩
theorem mt_X1_takeOver : am_mt yX1_takeOver cX1_takeOver 2 none 1 := ⟨tw 668 (by decide +kernel), tw 2 (by decide +kernel), ⟨by decide +kernel, by decide +kernel⟩, by decide +kernel⟩
theorem mo_X1_takeOver : Cond.instanceMethod yX1_takeOver ∈ lw_tbl := tw 667 (by decide +kernel)
theorem mi_X1_takeOver : Cond.instanceMethod yX1_takeOver ∈ lw_tbl ∧ Cond.selects yX1_takeOver.cls yX1_takeOver yX1_takeOver ∈ lw_tbl := ⟨mo_X1_takeOver, tp 78 (n := 4) (by decide +kernel)⟩
theorem mt_X6_copyRow : am_mt yX6_copyRow cX6_copyRow 2 none 2 := ⟨tw 671 (by decide +kernel), tw 1 (by decide +kernel), ⟨by decide +kernel, by decide +kernel⟩, by decide +kernel⟩
theorem ms_X6_copyRow : Cond.static yX6_copyRow ∈ lw_tbl := tw 670 (by decide +kernel)
theorem mt_X4_takeOver : am_mt yX4_takeOver cX4_takeOver 2 none 1 := ⟨tw 679 (by decide +kernel), tw 3 (by decide +kernel), ⟨by decide +kernel, by decide +kernel⟩, by decide +kernel⟩
theorem mo_X4_takeOver : Cond.instanceMethod yX4_takeOver ∈ lw_tbl := tw 678 (by decide +kernel)
theorem mi_X4_takeOver : Cond.instanceMethod yX4_takeOver ∈ lw_tbl ∧ Cond.selects yX4_takeOver.cls yX4_takeOver yX4_takeOver ∈ lw_tbl := ⟨mo_X4_takeOver, tp 79 (n := 6) (by decide +kernel)⟩
theorem mt_X2_takeOver : am_mt yX2_takeOver cX2_takeOver 2 none 1 := ⟨tw 684 (by decide +kernel), tw 4 (by decide +kernel), ⟨by decide +kernel, by decide +kernel⟩, by decide +kernel⟩
theorem mo_X2_takeOver : Cond.instanceMethod yX2_takeOver ∈ lw_tbl := tw 683 (by decide +kernel)
theorem mi_X2_takeOver : Cond.instanceMethod yX2_takeOver ∈ lw_tbl ∧ Cond.selects yX2_takeOver.cls yX2_takeOver yX2_takeOver ∈ lw_tbl := ⟨mo_X2_takeOver, tp 80 (n := 6) (by decide +kernel)⟩
theorem mt_X0_takeOver : am_mt yX0_takeOver cX0_takeOver 2 none 1 := ⟨tw 689 (by decide +kernel), tw 5 (by decide +kernel), ⟨by decide +kernel, by decide +kernel⟩, by decide +kernel⟩
theorem mo_X0_takeOver : Cond.instanceMethod yX0_takeOver ∈ lw_tbl := tw 688 (by decide +kernel)
theorem mi_X0_takeOver : Cond.instanceMethod yX0_takeOver ∈ lw_tbl ∧ Cond.selects yX0_takeOver.cls yX0_takeOver yX0_takeOver ∈ lw_tbl := ⟨mo_X0_takeOver, tp 81 (n := 9) (by decide +kernel)⟩
theorem mt_X6_bestMode : am_mt yX6_bestMode cX6_bestMode 7 (some .int) 2 := ⟨tw 696 (by decide +kernel), tw 1 (by decide +kernel), ⟨by decide +kernel, by decide +kernel⟩, by decide +kernel⟩
theorem mo_X6_bestMode : Cond.instanceMethod yX6_bestMode ∈ lw_tbl := tw 694 (by decide +kernel)
theorem mi_X6_bestMode : Cond.instanceMethod yX6_bestMode ∈ lw_tbl ∧ Cond.selects yX6_bestMode.cls yX6_bestMode yX6_bestMode ∈ lw_tbl := ⟨mo_X6_bestMode, tw 695 (by decide +kernel)⟩
theorem mt_X6_leastBid : am_mt yX6_leastBid cX6_leastBid 4 (some .int) 2 := ⟨tw 701 (by decide +kernel), tw 1 (by decide +kernel), ⟨by decide +kernel, by decide +kernel⟩, by decide +kernel⟩
theorem mo_X6_leastBid : Cond.instanceMethod yX6_leastBid ∈ lw_tbl := tw 699 (by decide +kernel)
theorem mi_X6_leastBid : Cond.instanceMethod yX6_leastBid ∈ lw_tbl ∧ Cond.selects yX6_leastBid.cls yX6_leastBid yX6_leastBid ∈ lw_tbl := ⟨mo_X6_leastBid, tw 700 (by decide +kernel)⟩
theorem mt_X1_neededAgainst : am_mt yX1_neededAgainst cX1_neededAgainst 5 (some .int) 2 := ⟨tw 705 (by decide +kernel), tw 2 (by decide +kernel), ⟨by decide +kernel, by decide +kernel⟩, by decide +kernel⟩
theorem mo_X1_neededAgainst : Cond.instanceMethod yX1_neededAgainst ∈ lw_tbl := tw 704 (by decide +kernel)
theorem mi_X1_neededAgainst : Cond.instanceMethod yX1_neededAgainst ∈ lw_tbl ∧ Cond.selects yX1_neededAgainst.cls yX1_neededAgainst yX1_neededAgainst ∈ lw_tbl := ⟨mo_X1_neededAgainst, tp 82 (n := 4) (by decide +kernel)⟩
theorem mt_X6_put : am_mt yX6_put cX6_put 5 (some .int) 1 := ⟨tw 710 (by decide +kernel), tw 1 (by decide +kernel), ⟨by decide +kernel, by decide +kernel⟩, by decide +kernel⟩
theorem mo_X6_put : Cond.instanceMethod yX6_put ∈ lw_tbl := tw 708 (by decide +kernel)
theorem mi_X6_put : Cond.instanceMethod yX6_put ∈ lw_tbl ∧ Cond.selects yX6_put.cls yX6_put yX6_put ∈ lw_tbl := ⟨mo_X6_put, tw 709 (by decide +kernel)⟩
theorem mt_X6_signsIn : am_mt yX6_signsIn cX6_signsIn 6 (some .int) 1 := ⟨tw 713 (by decide +kernel), tw 1 (by decide +kernel), ⟨by decide +kernel, by decide +kernel⟩, by decide +kernel⟩
theorem ms_X6_signsIn : Cond.static yX6_signsIn ∈ lw_tbl := tw 712 (by decide +kernel)
theorem mt_X3_append : am_mt yX3_append cX3_append 2 none 1 := ⟨tw 718 (by decide +kernel), tw 7 (by decide +kernel), ⟨by decide +kernel, by decide +kernel⟩, by decide +kernel⟩
theorem mo_X3_append : Cond.instanceMethod yX3_append ∈ lw_tbl := tw 717 (by decide +kernel)
theorem mi_X3_append : Cond.instanceMethod yX3_append ∈ lw_tbl ∧ Cond.selects yX3_append.cls yX3_append yX3_append ∈ lw_tbl := ⟨mo_X3_append, tp 83 (n := 6) (by decide +kernel)⟩
theorem mt_X6_wipe : am_mt yX6_wipe cX6_wipe 2 (some .int) 0 := ⟨tw 722 (by decide +kernel), tw 1 (by decide +kernel), ⟨by decide +kernel, by decide +kernel⟩, by decide +kernel⟩
theorem mo_X6_wipe : Cond.instanceMethod yX6_wipe ∈ lw_tbl := tw 720 (by decide +kernel)
theorem mi_X6_wipe : Cond.instanceMethod yX6_wipe ∈ lw_tbl ∧ Cond.selects yX6_wipe.cls yX6_wipe yX6_wipe ∈ lw_tbl := ⟨mo_X6_wipe, tw 721 (by decide +kernel)⟩
theorem mt_X3_empty : am_mt yX3_empty cX3_empty 1 none 0 := ⟨tw 726 (by decide +kernel), tw 7 (by decide +kernel), ⟨by decide +kernel, by decide +kernel⟩, by decide +kernel⟩
theorem mo_X3_empty : Cond.instanceMethod yX3_empty ∈ lw_tbl := tw 725 (by decide +kernel)
theorem mi_X3_empty : Cond.instanceMethod yX3_empty ∈ lw_tbl ∧ Cond.selects yX3_empty.cls yX3_empty yX3_empty ∈ lw_tbl := ⟨mo_X3_empty, tp 84 (n := 6) (by decide +kernel)⟩
theorem mt_X6_fault : am_mt yX6_fault cX6_fault 1 (some .int) 0 := ⟨tw 730 (by decide +kernel), tw 1 (by decide +kernel), ⟨by decide +kernel, by decide +kernel⟩, by decide +kernel⟩
theorem mo_X6_fault : Cond.instanceMethod yX6_fault ∈ lw_tbl := tw 728 (by decide +kernel)
theorem mi_X6_fault : Cond.instanceMethod yX6_fault ∈ lw_tbl ∧ Cond.selects yX6_fault.cls yX6_fault yX6_fault ∈ lw_tbl := ⟨mo_X6_fault, tw 729 (by decide +kernel)⟩
theorem mt_X3_firstFault : am_mt yX3_firstFault cX3_firstFault 3 (some .int) 0 := ⟨tw 734 (by decide +kernel), tw 7 (by decide +kernel), ⟨by decide +kernel, by decide +kernel⟩, by decide +kernel⟩
theorem mo_X3_firstFault : Cond.instanceMethod yX3_firstFault ∈ lw_tbl := tw 733 (by decide +kernel)
theorem mi_X3_firstFault : Cond.instanceMethod yX3_firstFault ∈ lw_tbl ∧ Cond.selects yX3_firstFault.cls yX3_firstFault yX3_firstFault ∈ lw_tbl := ⟨mo_X3_firstFault, tp 85 (n := 6) (by decide +kernel)⟩
theorem mt_X3_toStart : am_mt yX3_toStart cX3_toStart 1 none 0 := ⟨tw 738 (by decide +kernel), tw 7 (by decide +kernel), ⟨by decide +kernel, by decide +kernel⟩, by decide +kernel⟩
theorem mo_X3_toStart : Cond.instanceMethod yX3_toStart ∈ lw_tbl := tw 737 (by decide +kernel)
theorem mi_X3_toStart : Cond.instanceMethod yX3_toStart ∈ lw_tbl ∧ Cond.selects yX3_toStart.cls yX3_toStart yX3_toStart ∈ lw_tbl := ⟨mo_X3_toStart, tp 86 (n := 6) (by decide +kernel)⟩
theorem mt_X3_readAct : am_mt yX3_readAct cX3_readAct 1 (some .boolean) 0 := ⟨tw 742 (by decide +kernel), tw 7 (by decide +kernel), ⟨by decide +kernel, by decide +kernel⟩, by decide +kernel⟩
theorem mo_X3_readAct : Cond.instanceMethod yX3_readAct ∈ lw_tbl := tw 741 (by decide +kernel)
theorem mi_X3_readAct : Cond.instanceMethod yX3_readAct ∈ lw_tbl ∧ Cond.selects yX3_readAct.cls yX3_readAct yX3_readAct ∈ lw_tbl := ⟨mo_X3_readAct, tp 87 (n := 6) (by decide +kernel)⟩
theorem mt_X3_signAt : am_mt yX3_signAt cX3_signAt 2 (some .int) 1 := ⟨tw 746 (by decide +kernel), tw 7 (by decide +kernel), ⟨by decide +kernel, by decide +kernel⟩, by decide +kernel⟩
theorem mo_X3_signAt : Cond.instanceMethod yX3_signAt ∈ lw_tbl := tw 745 (by decide +kernel)
theorem mi_X3_signAt : Cond.instanceMethod yX3_signAt ∈ lw_tbl ∧ Cond.selects yX3_signAt.cls yX3_signAt yX3_signAt ∈ lw_tbl := ⟨mo_X3_signAt, tp 88 (n := 6) (by decide +kernel)⟩
theorem mt_X3_readPair : am_mt yX3_readPair cX3_readPair 3 (some .boolean) 2 := ⟨tw 750 (by decide +kernel), tw 7 (by decide +kernel), ⟨by decide +kernel, by decide +kernel⟩, by decide +kernel⟩
theorem mo_X3_readPair : Cond.instanceMethod yX3_readPair ∈ lw_tbl := tw 749 (by decide +kernel)
theorem mi_X3_readPair : Cond.instanceMethod yX3_readPair ∈ lw_tbl ∧ Cond.selects yX3_readPair.cls yX3_readPair yX3_readPair ∈ lw_tbl := ⟨mo_X3_readPair, tp 89 (n := 6) (by decide +kernel)⟩
theorem mt_X3_readNumber : am_mt yX3_readNumber cX3_readNumber 6 (some .int) 2 := ⟨tw 754 (by decide +kernel), tw 7 (by decide +kernel), ⟨by decide +kernel, by decide +kernel⟩, by decide +kernel⟩
theorem mo_X3_readNumber : Cond.instanceMethod yX3_readNumber ∈ lw_tbl := tw 753 (by decide +kernel)
theorem mi_X3_readNumber : Cond.instanceMethod yX3_readNumber ∈ lw_tbl ∧ Cond.selects yX3_readNumber.cls yX3_readNumber yX3_readNumber ∈ lw_tbl := ⟨mo_X3_readNumber, tp 90 (n := 6) (by decide +kernel)⟩
theorem mt_X3_digitAt : am_mt yX3_digitAt cX3_digitAt 3 (some .int) 1 := ⟨tw 758 (by decide +kernel), tw 7 (by decide +kernel), ⟨by decide +kernel, by decide +kernel⟩, by decide +kernel⟩
theorem mo_X3_digitAt : Cond.instanceMethod yX3_digitAt ∈ lw_tbl := tw 757 (by decide +kernel)
theorem mi_X3_digitAt : Cond.instanceMethod yX3_digitAt ∈ lw_tbl ∧ Cond.selects yX3_digitAt.cls yX3_digitAt yX3_digitAt ∈ lw_tbl := ⟨mo_X3_digitAt, tp 91 (n := 6) (by decide +kernel)⟩
theorem mt_X3_readSign : am_mt yX3_readSign cX3_readSign 2 (some .boolean) 1 := ⟨tw 763 (by decide +kernel), tw 7 (by decide +kernel), ⟨by decide +kernel, by decide +kernel⟩, by decide +kernel⟩
theorem mo_X3_readSign : Cond.instanceMethod yX3_readSign ∈ lw_tbl := tw 762 (by decide +kernel)
theorem mi_X3_readSign : Cond.instanceMethod yX3_readSign ∈ lw_tbl ∧ Cond.selects yX3_readSign.cls yX3_readSign yX3_readSign ∈ lw_tbl := ⟨mo_X3_readSign, tp 92 (n := 6) (by decide +kernel)⟩
theorem mt_X6_carryOut : am_mt yX6_carryOut cX6_carryOut 3 (some .int) 0 := ⟨tw 767 (by decide +kernel), tw 1 (by decide +kernel), ⟨by decide +kernel, by decide +kernel⟩, by decide +kernel⟩
theorem mo_X6_carryOut : Cond.instanceMethod yX6_carryOut ∈ lw_tbl := tw 765 (by decide +kernel)
theorem mi_X6_carryOut : Cond.instanceMethod yX6_carryOut ∈ lw_tbl ∧ Cond.selects yX6_carryOut.cls yX6_carryOut yX6_carryOut ∈ lw_tbl := ⟨mo_X6_carryOut, tw 766 (by decide +kernel)⟩
theorem mt_X6_carryOutAct : am_mt yX6_carryOutAct cX6_carryOutAct 1 (some .int) 0 := ⟨tw 773 (by decide +kernel), tw 1 (by decide +kernel), ⟨by decide +kernel, by decide +kernel⟩, by decide +kernel⟩
theorem mo_X6_carryOutAct : Cond.instanceMethod yX6_carryOutAct ∈ lw_tbl := tw 772 (by decide +kernel)
theorem mi_X6_carryOutAct : Cond.instanceMethod yX6_carryOutAct ∈ lw_tbl ∧ Cond.selects yX6_carryOutAct.cls yX6_carryOutAct yX6_carryOutAct ∈ lw_tbl := ⟨mo_X6_carryOutAct, tp 93 (n := 5) (by decide +kernel)⟩
theorem mt_X6_isError : am_mt yX6_isError cX6_isError 1 (some .boolean) 1 := ⟨tw 776 (by decide +kernel), tw 1 (by decide +kernel), ⟨by decide +kernel, by decide +kernel⟩, by decide +kernel⟩
theorem ms_X6_isError : Cond.static yX6_isError ∈ lw_tbl := tw 775 (by decide +kernel)
theorem mt_X6_save : am_mt yX6_save cX6_save 3 (some .int) 1 := ⟨tw 781 (by decide +kernel), tw 1 (by decide +kernel), ⟨by decide +kernel, by decide +kernel⟩, by decide +kernel⟩
theorem mo_X6_save : Cond.instanceMethod yX6_save ∈ lw_tbl := tw 779 (by decide +kernel)
theorem mi_X6_save : Cond.instanceMethod yX6_save ∈ lw_tbl ∧ Cond.selects yX6_save.cls yX6_save yX6_save ∈ lw_tbl := ⟨mo_X6_save, tw 780 (by decide +kernel)⟩
theorem mt_X6_isSlot : am_mt yX6_isSlot cX6_isSlot 1 (some .boolean) 1 := ⟨tw 784 (by decide +kernel), tw 1 (by decide +kernel), ⟨by decide +kernel, by decide +kernel⟩, by decide +kernel⟩
theorem ms_X6_isSlot : Cond.static yX6_isSlot ∈ lw_tbl := tw 783 (by decide +kernel)
theorem mt_X6_restore : am_mt yX6_restore cX6_restore 3 (some .int) 1 := ⟨tw 788 (by decide +kernel), tw 1 (by decide +kernel), ⟨by decide +kernel, by decide +kernel⟩, by decide +kernel⟩
theorem mo_X6_restore : Cond.instanceMethod yX6_restore ∈ lw_tbl := tw 786 (by decide +kernel)
theorem mi_X6_restore : Cond.instanceMethod yX6_restore ∈ lw_tbl ∧ Cond.selects yX6_restore.cls yX6_restore yX6_restore ∈ lw_tbl := ⟨mo_X6_restore, tw 787 (by decide +kernel)⟩
theorem mt_X7_init : am_mt yX7_init cX7_init 1 none 0 := ⟨tw 793 (by decide +kernel), tw 9 (by decide +kernel), ⟨by decide +kernel, by decide +kernel⟩, by decide +kernel⟩
theorem mo_X7_init : Cond.instanceMethod yX7_init ∈ lw_tbl := tw 792 (by decide +kernel)
theorem mt_X7_beginGame : am_mt yX7_beginGame cX7_beginGame 3 none 1 := ⟨tw 798 (by decide +kernel), tw 9 (by decide +kernel), ⟨by decide +kernel, by decide +kernel⟩, by decide +kernel⟩
theorem mo_X7_beginGame : Cond.instanceMethod yX7_beginGame ∈ lw_tbl := tw 797 (by decide +kernel)
theorem mi_X7_beginGame : Cond.instanceMethod yX7_beginGame ∈ lw_tbl ∧ Cond.selects yX7_beginGame.cls yX7_beginGame yX7_beginGame ∈ lw_tbl := ⟨mo_X7_beginGame, tp 94 (n := 13) (by decide +kernel)⟩
theorem mt_X7_setting : am_mt yX7_setting cX7_setting 2 (some .int) 1 := ⟨tw 802 (by decide +kernel), tw 9 (by decide +kernel), ⟨by decide +kernel, by decide +kernel⟩, by decide +kernel⟩
theorem mo_X7_setting : Cond.instanceMethod yX7_setting ∈ lw_tbl := tw 801 (by decide +kernel)
theorem mi_X7_setting : Cond.instanceMethod yX7_setting ∈ lw_tbl ∧ Cond.selects yX7_setting.cls yX7_setting yX7_setting ∈ lw_tbl := ⟨mo_X7_setting, tp 95 (n := 13) (by decide +kernel)⟩
theorem mt_X7_lay : am_mt yX7_lay cX7_lay 4 none 3 := ⟨tw 806 (by decide +kernel), tw 9 (by decide +kernel), ⟨by decide +kernel, by decide +kernel⟩, by decide +kernel⟩
theorem mo_X7_lay : Cond.instanceMethod yX7_lay ∈ lw_tbl := tw 805 (by decide +kernel)
theorem mi_X7_lay : Cond.instanceMethod yX7_lay ∈ lw_tbl ∧ Cond.selects yX7_lay.cls yX7_lay yX7_lay ∈ lw_tbl := ⟨mo_X7_lay, tp 96 (n := 13) (by decide +kernel)⟩
theorem mt_X7_clearAuction : am_mt yX7_clearAuction cX7_clearAuction 2 none 0 := ⟨tw 810 (by decide +kernel), tw 9 (by decide +kernel), ⟨by decide +kernel, by decide +kernel⟩, by decide +kernel⟩
theorem mo_X7_clearAuction : Cond.instanceMethod yX7_clearAuction ∈ lw_tbl := tw 809 (by decide +kernel)
theorem mi_X7_clearAuction : Cond.instanceMethod yX7_clearAuction ∈ lw_tbl ∧ Cond.selects yX7_clearAuction.cls yX7_clearAuction yX7_clearAuction ∈ lw_tbl := ⟨mo_X7_clearAuction, tp 97 (n := 13) (by decide +kernel)⟩
theorem mt_X7_setUp : am_mt yX7_setUp cX7_setUp 3 (some .int) 1 := ⟨tw 855 (by decide +kernel), tw 9 (by decide +kernel), ⟨by decide +kernel, by decide +kernel⟩, by decide +kernel⟩
theorem mo_X7_setUp : Cond.instanceMethod yX7_setUp ∈ lw_tbl := tw 853 (by decide +kernel)
theorem mi_X7_setUp : Cond.instanceMethod yX7_setUp ∈ lw_tbl ∧ Cond.selects yX7_setUp.cls yX7_setUp yX7_setUp ∈ lw_tbl := ⟨mo_X7_setUp, tw 854 (by decide +kernel)⟩
theorem mt_X7_in : am_mt yX7_in cX7_in 3 (some .boolean) 3 := ⟨tw 858 (by decide +kernel), tw 9 (by decide +kernel), ⟨by decide +kernel, by decide +kernel⟩, by decide +kernel⟩
theorem ms_X7_in : Cond.static yX7_in ∈ lw_tbl := tw 857 (by decide +kernel)
theorem mt_X7_set : am_mt yX7_set cX7_set 4 (some .int) 2 := ⟨tw 862 (by decide +kernel), tw 9 (by decide +kernel), ⟨by decide +kernel, by decide +kernel⟩, by decide +kernel⟩
theorem mo_X7_set : Cond.instanceMethod yX7_set ∈ lw_tbl := tw 860 (by decide +kernel)
theorem mi_X7_set : Cond.instanceMethod yX7_set ∈ lw_tbl ∧ Cond.selects yX7_set.cls yX7_set yX7_set ∈ lw_tbl := ⟨mo_X7_set, tw 861 (by decide +kernel)⟩
theorem mt_X7_takes : am_mt yX7_takes cX7_takes 2 (some .boolean) 2 := ⟨tw 865 (by decide +kernel), tw 9 (by decide +kernel), ⟨by decide +kernel, by decide +kernel⟩, by decide +kernel⟩
theorem ms_X7_takes : Cond.static yX7_takes ∈ lw_tbl := tw 864 (by decide +kernel)
theorem mt_X7_goes : am_mt yX7_goes cX7_goes 1 (some .boolean) 0 := ⟨tw 869 (by decide +kernel), tw 9 (by decide +kernel), ⟨by decide +kernel, by decide +kernel⟩, by decide +kernel⟩
theorem mo_X7_goes : Cond.instanceMethod yX7_goes ∈ lw_tbl := tw 868 (by decide +kernel)
theorem mi_X7_goes : Cond.instanceMethod yX7_goes ∈ lw_tbl ∧ Cond.selects yX7_goes.cls yX7_goes yX7_goes ∈ lw_tbl := ⟨mo_X7_goes, tp 98 (n := 13) (by decide +kernel)⟩
theorem mt_X7_fill : am_mt yX7_fill cX7_fill 4 (some .int) 2 := ⟨tw 873 (by decide +kernel), tw 9 (by decide +kernel), ⟨by decide +kernel, by decide +kernel⟩, by decide +kernel⟩
theorem mo_X7_fill : Cond.instanceMethod yX7_fill ∈ lw_tbl := tw 871 (by decide +kernel)
theorem mi_X7_fill : Cond.instanceMethod yX7_fill ∈ lw_tbl ∧ Cond.selects yX7_fill.cls yX7_fill yX7_fill ∈ lw_tbl := ⟨mo_X7_fill, tw 872 (by decide +kernel)⟩
theorem mt_X7_isPlayer : am_mt yX7_isPlayer cX7_isPlayer 2 (some .boolean) 1 := ⟨tw 877 (by decide +kernel), tw 9 (by decide +kernel), ⟨by decide +kernel, by decide +kernel⟩, by decide +kernel⟩
theorem mo_X7_isPlayer : Cond.instanceMethod yX7_isPlayer ∈ lw_tbl := tw 876 (by decide +kernel)
theorem mi_X7_isPlayer : Cond.instanceMethod yX7_isPlayer ∈ lw_tbl ∧ Cond.selects yX7_isPlayer.cls yX7_isPlayer yX7_isPlayer ∈ lw_tbl := ⟨mo_X7_isPlayer, tp 99 (n := 13) (by decide +kernel)⟩
theorem mt_X7_of : am_mt yX7_of cX7_of 3 (some .int) 2 := ⟨tw 881 (by decide +kernel), tw 9 (by decide +kernel), ⟨by decide +kernel, by decide +kernel⟩, by decide +kernel⟩
theorem mo_X7_of : Cond.instanceMethod yX7_of ∈ lw_tbl := tw 880 (by decide +kernel)
theorem mi_X7_of : Cond.instanceMethod yX7_of ∈ lw_tbl ∧ Cond.selects yX7_of.cls yX7_of yX7_of ∈ lw_tbl := ⟨mo_X7_of, tp 100 (n := 13) (by decide +kernel)⟩
theorem mt_X7_embolden : am_mt yX7_embolden cX7_embolden 4 (some .int) 2 := ⟨tw 885 (by decide +kernel), tw 9 (by decide +kernel), ⟨by decide +kernel, by decide +kernel⟩, by decide +kernel⟩
theorem mo_X7_embolden : Cond.instanceMethod yX7_embolden ∈ lw_tbl := tw 883 (by decide +kernel)
theorem mi_X7_embolden : Cond.instanceMethod yX7_embolden ∈ lw_tbl ∧ Cond.selects yX7_embolden.cls yX7_embolden yX7_embolden ∈ lw_tbl := ⟨mo_X7_embolden, tw 884 (by decide +kernel)⟩
theorem mt_X7_lot : am_mt yX7_lot cX7_lot 4 (some .int) 2 := ⟨tw 889 (by decide +kernel), tw 9 (by decide +kernel), ⟨by decide +kernel, by decide +kernel⟩, by decide +kernel⟩
theorem mo_X7_lot : Cond.instanceMethod yX7_lot ∈ lw_tbl := tw 887 (by decide +kernel)
theorem mi_X7_lot : Cond.instanceMethod yX7_lot ∈ lw_tbl ∧ Cond.selects yX7_lot.cls yX7_lot yX7_lot ∈ lw_tbl := ⟨mo_X7_lot, tw 888 (by decide +kernel)⟩
theorem mt_X7_layLot : am_mt yX7_layLot cX7_layLot 4 none 3 := ⟨tw 893 (by decide +kernel), tw 9 (by decide +kernel), ⟨by decide +kernel, by decide +kernel⟩, by decide +kernel⟩
theorem mo_X7_layLot : Cond.instanceMethod yX7_layLot ∈ lw_tbl := tw 892 (by decide +kernel)
theorem mi_X7_layLot : Cond.instanceMethod yX7_layLot ∈ lw_tbl ∧ Cond.selects yX7_layLot.cls yX7_layLot yX7_layLot ∈ lw_tbl := ⟨mo_X7_layLot, tp 101 (n := 13) (by decide +kernel)⟩
theorem mt_X7_begin : am_mt yX7_begin cX7_begin 3 (some .int) 2 := ⟨tw 897 (by decide +kernel), tw 9 (by decide +kernel), ⟨by decide +kernel, by decide +kernel⟩, by decide +kernel⟩
theorem mo_X7_begin : Cond.instanceMethod yX7_begin ∈ lw_tbl := tw 895 (by decide +kernel)
theorem mi_X7_begin : Cond.instanceMethod yX7_begin ∈ lw_tbl ∧ Cond.selects yX7_begin.cls yX7_begin yX7_begin ∈ lw_tbl := ⟨mo_X7_begin, tw 896 (by decide +kernel)⟩
theorem mt_X7_nextLot : am_mt yX7_nextLot cX7_nextLot 1 (some .int) 0 := ⟨tw 901 (by decide +kernel), tw 9 (by decide +kernel), ⟨by decide +kernel, by decide +kernel⟩, by decide +kernel⟩
theorem mo_X7_nextLot : Cond.instanceMethod yX7_nextLot ∈ lw_tbl := tw 900 (by decide +kernel)
theorem mi_X7_nextLot : Cond.instanceMethod yX7_nextLot ∈ lw_tbl ∧ Cond.selects yX7_nextLot.cls yX7_nextLot yX7_nextLot ∈ lw_tbl := ⟨mo_X7_nextLot, tp 102 (n := 13) (by decide +kernel)⟩
theorem mt_X7_isLastNext : am_mt yX7_isLastNext cX7_isLastNext 1 (some .boolean) 0 := ⟨tw 905 (by decide +kernel), tw 9 (by decide +kernel), ⟨by decide +kernel, by decide +kernel⟩, by decide +kernel⟩
theorem mo_X7_isLastNext : Cond.instanceMethod yX7_isLastNext ∈ lw_tbl := tw 904 (by decide +kernel)
theorem mi_X7_isLastNext : Cond.instanceMethod yX7_isLastNext ∈ lw_tbl ∧ Cond.selects yX7_isLastNext.cls yX7_isLastNext yX7_isLastNext ∈ lw_tbl := ⟨mo_X7_isLastNext, tp 103 (n := 13) (by decide +kernel)⟩
theorem mt_X7_start : am_mt yX7_start cX7_start 3 (some .int) 2 := ⟨tw 909 (by decide +kernel), tw 9 (by decide +kernel), ⟨by decide +kernel, by decide +kernel⟩, by decide +kernel⟩
theorem mo_X7_start : Cond.instanceMethod yX7_start ∈ lw_tbl := tw 908 (by decide +kernel)
theorem mi_X7_start : Cond.instanceMethod yX7_start ∈ lw_tbl ∧ Cond.selects yX7_start.cls yX7_start yX7_start ∈ lw_tbl := ⟨mo_X7_start, tp 104 (n := 13) (by decide +kernel)⟩
theorem mt_X7_starter : am_mt yX7_starter cX7_starter 1 (some .int) 0 := ⟨tw 913 (by decide +kernel), tw 9 (by decide +kernel), ⟨by decide +kernel, by decide +kernel⟩, by decide +kernel⟩
theorem mo_X7_starter : Cond.instanceMethod yX7_starter ∈ lw_tbl := tw 912 (by decide +kernel)
theorem mi_X7_starter : Cond.instanceMethod yX7_starter ∈ lw_tbl ∧ Cond.selects yX7_starter.cls yX7_starter yX7_starter ∈ lw_tbl := ⟨mo_X7_starter, tp 105 (n := 13) (by decide +kernel)⟩
theorem mt_X7_bid : am_mt yX7_bid cX7_bid 3 (some .int) 2 := ⟨tw 917 (by decide +kernel), tw 9 (by decide +kernel), ⟨by decide +kernel, by decide +kernel⟩, by decide +kernel⟩
theorem mo_X7_bid : Cond.instanceMethod yX7_bid ∈ lw_tbl := tw 915 (by decide +kernel)
theorem mi_X7_bid : Cond.instanceMethod yX7_bid ∈ lw_tbl ∧ Cond.selects yX7_bid.cls yX7_bid yX7_bid ∈ lw_tbl := ⟨mo_X7_bid, tw 916 (by decide +kernel)⟩
theorem mt_X7_isBid : am_mt yX7_isBid cX7_isBid 4 (some .boolean) 2 := ⟨tw 921 (by decide +kernel), tw 9 (by decide +kernel), ⟨by decide +kernel, by decide +kernel⟩, by decide +kernel⟩
theorem mo_X7_isBid : Cond.instanceMethod yX7_isBid ∈ lw_tbl := tw 920 (by decide +kernel)
theorem mi_X7_isBid : Cond.instanceMethod yX7_isBid ∈ lw_tbl ∧ Cond.selects yX7_isBid.cls yX7_isBid yX7_isBid ∈ lw_tbl := ⟨mo_X7_isBid, tp 106 (n := 13) (by decide +kernel)⟩
theorem mt_X7_leastOpen : am_mt yX7_leastOpen cX7_leastOpen 1 (some .int) 0 := ⟨tw 925 (by decide +kernel), tw 9 (by decide +kernel), ⟨by decide +kernel, by decide +kernel⟩, by decide +kernel⟩
theorem mo_X7_leastOpen : Cond.instanceMethod yX7_leastOpen ∈ lw_tbl := tw 924 (by decide +kernel)
theorem mi_X7_leastOpen : Cond.instanceMethod yX7_leastOpen ∈ lw_tbl ∧ Cond.selects yX7_leastOpen.cls yX7_leastOpen yX7_leastOpen ∈ lw_tbl := ⟨mo_X7_leastOpen, tp 107 (n := 13) (by decide +kernel)⟩
theorem mt_X7_bidOpen : am_mt yX7_bidOpen cX7_bidOpen 3 (some .int) 2 := ⟨tw 929 (by decide +kernel), tw 9 (by decide +kernel), ⟨by decide +kernel, by decide +kernel⟩, by decide +kernel⟩
theorem mo_X7_bidOpen : Cond.instanceMethod yX7_bidOpen ∈ lw_tbl := tw 928 (by decide +kernel)
theorem mi_X7_bidOpen : Cond.instanceMethod yX7_bidOpen ∈ lw_tbl ∧ Cond.selects yX7_bidOpen.cls yX7_bidOpen yX7_bidOpen ∈ lw_tbl := ⟨mo_X7_bidOpen, tp 108 (n := 13) (by decide +kernel)⟩
theorem mt_X7_know : am_mt yX7_know cX7_know 3 none 2 := ⟨tw 933 (by decide +kernel), tw 9 (by decide +kernel), ⟨by decide +kernel, by decide +kernel⟩, by decide +kernel⟩
theorem mo_X7_know : Cond.instanceMethod yX7_know ∈ lw_tbl := tw 932 (by decide +kernel)
theorem mi_X7_know : Cond.instanceMethod yX7_know ∈ lw_tbl ∧ Cond.selects yX7_know.cls yX7_know yX7_know ∈ lw_tbl := ⟨mo_X7_know, tp 109 (n := 13) (by decide +kernel)⟩
theorem mt_X7_goOn : am_mt yX7_goOn cX7_goOn 5 (some .int) 1 := ⟨tw 937 (by decide +kernel), tw 9 (by decide +kernel), ⟨by decide +kernel, by decide +kernel⟩, by decide +kernel⟩
theorem mo_X7_goOn : Cond.instanceMethod yX7_goOn ∈ lw_tbl := tw 936 (by decide +kernel)
theorem mi_X7_goOn : Cond.instanceMethod yX7_goOn ∈ lw_tbl ∧ Cond.selects yX7_goOn.cls yX7_goOn yX7_goOn ∈ lw_tbl := ⟨mo_X7_goOn, tp 110 (n := 13) (by decide +kernel)⟩
theorem mt_X7_sellTo : am_mt yX7_sellTo cX7_sellTo 3 (some .int) 2 := ⟨tw 941 (by decide +kernel), tw 9 (by decide +kernel), ⟨by decide +kernel, by decide +kernel⟩, by decide +kernel⟩
theorem mo_X7_sellTo : Cond.instanceMethod yX7_sellTo ∈ lw_tbl := tw 940 (by decide +kernel)
theorem mi_X7_sellTo : Cond.instanceMethod yX7_sellTo ∈ lw_tbl ∧ Cond.selects yX7_sellTo.cls yX7_sellTo yX7_sellTo ∈ lw_tbl := ⟨mo_X7_sellTo, tp 111 (n := 13) (by decide +kernel)⟩
theorem mt_X7_finish : am_mt yX7_finish cX7_finish 4 (some .int) 2 := ⟨tw 945 (by decide +kernel), tw 9 (by decide +kernel), ⟨by decide +kernel, by decide +kernel⟩, by decide +kernel⟩
theorem mo_X7_finish : Cond.instanceMethod yX7_finish ∈ lw_tbl := tw 944 (by decide +kernel)
theorem mi_X7_finish : Cond.instanceMethod yX7_finish ∈ lw_tbl ∧ Cond.selects yX7_finish.cls yX7_finish yX7_finish ∈ lw_tbl := ⟨mo_X7_finish, tp 112 (n := 13) (by decide +kernel)⟩
theorem mt_X7_pay : am_mt yX7_pay cX7_pay 3 none 2 := ⟨tw 949 (by decide +kernel), tw 9 (by decide +kernel), ⟨by decide +kernel, by decide +kernel⟩, by decide +kernel⟩
theorem mo_X7_pay : Cond.instanceMethod yX7_pay ∈ lw_tbl := tw 948 (by decide +kernel)
theorem mi_X7_pay : Cond.instanceMethod yX7_pay ∈ lw_tbl ∧ Cond.selects yX7_pay.cls yX7_pay yX7_pay ∈ lw_tbl := ⟨mo_X7_pay, tp 113 (n := 13) (by decide +kernel)⟩
theorem mt_X7_bidSealed : am_mt yX7_bidSealed cX7_bidSealed 3 (some .int) 2 := ⟨tw 953 (by decide +kernel), tw 9 (by decide +kernel), ⟨by decide +kernel, by decide +kernel⟩, by decide +kernel⟩
theorem mo_X7_bidSealed : Cond.instanceMethod yX7_bidSealed ∈ lw_tbl := tw 952 (by decide +kernel)
theorem mi_X7_bidSealed : Cond.instanceMethod yX7_bidSealed ∈ lw_tbl ∧ Cond.selects yX7_bidSealed.cls yX7_bidSealed yX7_bidSealed ∈ lw_tbl := ⟨mo_X7_bidSealed, tp 114 (n := 13) (by decide +kernel)⟩
theorem mt_X7_openSealed : am_mt yX7_openSealed cX7_openSealed 7 (some .int) 0 := ⟨tw 957 (by decide +kernel), tw 9 (by decide +kernel), ⟨by decide +kernel, by decide +kernel⟩, by decide +kernel⟩
theorem mo_X7_openSealed : Cond.instanceMethod yX7_openSealed ∈ lw_tbl := tw 956 (by decide +kernel)
theorem mi_X7_openSealed : Cond.instanceMethod yX7_openSealed ∈ lw_tbl ∧ Cond.selects yX7_openSealed.cls yX7_openSealed yX7_openSealed ∈ lw_tbl := ⟨mo_X7_openSealed, tp 115 (n := 13) (by decide +kernel)⟩
theorem mt_X7_sizeOf : am_mt yX7_sizeOf cX7_sizeOf 3 (some .int) 1 := ⟨tw 960 (by decide +kernel), tw 9 (by decide +kernel), ⟨by decide +kernel, by decide +kernel⟩, by decide +kernel⟩
theorem ms_X7_sizeOf : Cond.static yX7_sizeOf ∈ lw_tbl := tw 959 (by decide +kernel)
theorem mt_X7_seat : am_mt yX7_seat cX7_seat 2 (some .int) 1 := ⟨tw 964 (by decide +kernel), tw 9 (by decide +kernel), ⟨by decide +kernel, by decide +kernel⟩, by decide +kernel⟩
theorem mo_X7_seat : Cond.instanceMethod yX7_seat ∈ lw_tbl := tw 963 (by decide +kernel)
theorem mi_X7_seat : Cond.instanceMethod yX7_seat ∈ lw_tbl ∧ Cond.selects yX7_seat.cls yX7_seat yX7_seat ∈ lw_tbl := ⟨mo_X7_seat, tp 116 (n := 13) (by decide +kernel)⟩
theorem mt_X7_claim : am_mt yX7_claim cX7_claim 2 (some .int) 1 := ⟨tw 968 (by decide +kernel), tw 9 (by decide +kernel), ⟨by decide +kernel, by decide +kernel⟩, by decide +kernel⟩
theorem mo_X7_claim : Cond.instanceMethod yX7_claim ∈ lw_tbl := tw 967 (by decide +kernel)
theorem mi_X7_claim : Cond.instanceMethod yX7_claim ∈ lw_tbl ∧ Cond.selects yX7_claim.cls yX7_claim yX7_claim ∈ lw_tbl := ⟨mo_X7_claim, tp 117 (n := 13) (by decide +kernel)⟩
theorem mt_X7_pass : am_mt yX7_pass cX7_pass 2 (some .int) 1 := ⟨tw 972 (by decide +kernel), tw 9 (by decide +kernel), ⟨by decide +kernel, by decide +kernel⟩, by decide +kernel⟩
theorem mo_X7_pass : Cond.instanceMethod yX7_pass ∈ lw_tbl := tw 970 (by decide +kernel)
theorem mi_X7_pass : Cond.instanceMethod yX7_pass ∈ lw_tbl ∧ Cond.selects yX7_pass.cls yX7_pass yX7_pass ∈ lw_tbl := ⟨mo_X7_pass, tw 971 (by decide +kernel)⟩
theorem mt_X7_passOpen : am_mt yX7_passOpen cX7_passOpen 2 (some .int) 1 := ⟨tw 976 (by decide +kernel), tw 9 (by decide +kernel), ⟨by decide +kernel, by decide +kernel⟩, by decide +kernel⟩
theorem mo_X7_passOpen : Cond.instanceMethod yX7_passOpen ∈ lw_tbl := tw 975 (by decide +kernel)
theorem mi_X7_passOpen : Cond.instanceMethod yX7_passOpen ∈ lw_tbl ∧ Cond.selects yX7_passOpen.cls yX7_passOpen yX7_passOpen ∈ lw_tbl := ⟨mo_X7_passOpen, tp 118 (n := 13) (by decide +kernel)⟩
theorem mt_X7_fall : am_mt yX7_fall cX7_fall 2 (some .int) 0 := ⟨tw 980 (by decide +kernel), tw 9 (by decide +kernel), ⟨by decide +kernel, by decide +kernel⟩, by decide +kernel⟩
theorem mo_X7_fall : Cond.instanceMethod yX7_fall ∈ lw_tbl := tw 979 (by decide +kernel)
theorem mi_X7_fall : Cond.instanceMethod yX7_fall ∈ lw_tbl ∧ Cond.selects yX7_fall.cls yX7_fall yX7_fall ∈ lw_tbl := ⟨mo_X7_fall, tp 119 (n := 13) (by decide +kernel)⟩
theorem mt_X7_move : am_mt yX7_move cX7_move 1 (some .int) 0 := ⟨tw 984 (by decide +kernel), tw 9 (by decide +kernel), ⟨by decide +kernel, by decide +kernel⟩, by decide +kernel⟩
theorem mo_X7_move : Cond.instanceMethod yX7_move ∈ lw_tbl := tw 982 (by decide +kernel)
theorem mi_X7_move : Cond.instanceMethod yX7_move ∈ lw_tbl ∧ Cond.selects yX7_move.cls yX7_move yX7_move ∈ lw_tbl := ⟨mo_X7_move, tw 983 (by decide +kernel)⟩
theorem mt_X7_makeMove : am_mt yX7_makeMove cX7_makeMove 2 (some .int) 0 := ⟨tw 988 (by decide +kernel), tw 9 (by decide +kernel), ⟨by decide +kernel, by decide +kernel⟩, by decide +kernel⟩
theorem mo_X7_makeMove : Cond.instanceMethod yX7_makeMove ∈ lw_tbl := tw 987 (by decide +kernel)
theorem mi_X7_makeMove : Cond.instanceMethod yX7_makeMove ∈ lw_tbl ∧ Cond.selects yX7_makeMove.cls yX7_makeMove yX7_makeMove ∈ lw_tbl := ⟨mo_X7_makeMove, tp 120 (n := 13) (by decide +kernel)⟩
theorem mt_X7_limitOf : am_mt yX7_limitOf cX7_limitOf 4 (some .int) 1 := ⟨tw 992 (by decide +kernel), tw 9 (by decide +kernel), ⟨by decide +kernel, by decide +kernel⟩, by decide +kernel⟩
theorem mo_X7_limitOf : Cond.instanceMethod yX7_limitOf ∈ lw_tbl := tw 991 (by decide +kernel)
theorem mi_X7_limitOf : Cond.instanceMethod yX7_limitOf ∈ lw_tbl ∧ Cond.selects yX7_limitOf.cls yX7_limitOf yX7_limitOf ∈ lw_tbl := ⟨mo_X7_limitOf, tp 121 (n := 13) (by decide +kernel)⟩
theorem mt_X7_valueWith : am_mt yX7_valueWith cX7_valueWith 6 (some .int) 2 := ⟨tw 996 (by decide +kernel), tw 9 (by decide +kernel), ⟨by decide +kernel, by decide +kernel⟩, by decide +kernel⟩
theorem mo_X7_valueWith : Cond.instanceMethod yX7_valueWith ∈ lw_tbl := tw 995 (by decide +kernel)
theorem mi_X7_valueWith : Cond.instanceMethod yX7_valueWith ∈ lw_tbl ∧ Cond.selects yX7_valueWith.cls yX7_valueWith yX7_valueWith ∈ lw_tbl := ⟨mo_X7_valueWith, tp 122 (n := 13) (by decide +kernel)⟩
theorem mt_X7_ofLot : am_mt yX7_ofLot cX7_ofLot 3 (some .int) 2 := ⟨tw 1000 (by decide +kernel), tw 9 (by decide +kernel), ⟨by decide +kernel, by decide +kernel⟩, by decide +kernel⟩
theorem mo_X7_ofLot : Cond.instanceMethod yX7_ofLot ∈ lw_tbl := tw 999 (by decide +kernel)
theorem mi_X7_ofLot : Cond.instanceMethod yX7_ofLot ∈ lw_tbl ∧ Cond.selects yX7_ofLot.cls yX7_ofLot yX7_ofLot ∈ lw_tbl := ⟨mo_X7_ofLot, tp 123 (n := 13) (by decide +kernel)⟩
theorem mt_X7_moveSealed : am_mt yX7_moveSealed cX7_moveSealed 3 (some .int) 0 := ⟨tw 1004 (by decide +kernel), tw 9 (by decide +kernel), ⟨by decide +kernel, by decide +kernel⟩, by decide +kernel⟩
theorem mo_X7_moveSealed : Cond.instanceMethod yX7_moveSealed ∈ lw_tbl := tw 1003 (by decide +kernel)
theorem mi_X7_moveSealed : Cond.instanceMethod yX7_moveSealed ∈ lw_tbl ∧ Cond.selects yX7_moveSealed.cls yX7_moveSealed yX7_moveSealed ∈ lw_tbl := ⟨mo_X7_moveSealed, tp 124 (n := 13) (by decide +kernel)⟩
theorem mt_X7_sealedOf : am_mt yX7_sealedOf cX7_sealedOf 3 (some .int) 2 := ⟨tw 1008 (by decide +kernel), tw 9 (by decide +kernel), ⟨by decide +kernel, by decide +kernel⟩, by decide +kernel⟩
theorem mo_X7_sealedOf : Cond.instanceMethod yX7_sealedOf ∈ lw_tbl := tw 1007 (by decide +kernel)
theorem mi_X7_sealedOf : Cond.instanceMethod yX7_sealedOf ∈ lw_tbl ∧ Cond.selects yX7_sealedOf.cls yX7_sealedOf yX7_sealedOf ∈ lw_tbl := ⟨mo_X7_sealedOf, tp 125 (n := 13) (by decide +kernel)⟩
theorem mt_X7_moveFalling : am_mt yX7_moveFalling cX7_moveFalling 3 (some .int) 0 := ⟨tw 1012 (by decide +kernel), tw 9 (by decide +kernel), ⟨by decide +kernel, by decide +kernel⟩, by decide +kernel⟩
theorem mo_X7_moveFalling : Cond.instanceMethod yX7_moveFalling ∈ lw_tbl := tw 1011 (by decide +kernel)
theorem mi_X7_moveFalling : Cond.instanceMethod yX7_moveFalling ∈ lw_tbl ∧ Cond.selects yX7_moveFalling.cls yX7_moveFalling yX7_moveFalling ∈ lw_tbl := ⟨mo_X7_moveFalling, tp 126 (n := 13) (by decide +kernel)⟩
theorem mt_X7_last : am_mt yX7_last cX7_last 1 (some .int) 0 := ⟨tw 1016 (by decide +kernel), tw 9 (by decide +kernel), ⟨by decide +kernel, by decide +kernel⟩, by decide +kernel⟩
theorem mo_X7_last : Cond.instanceMethod yX7_last ∈ lw_tbl := tw 1014 (by decide +kernel)
theorem mi_X7_last : Cond.instanceMethod yX7_last ∈ lw_tbl ∧ Cond.selects yX7_last.cls yX7_last yX7_last ∈ lw_tbl := ⟨mo_X7_last, tw 1015 (by decide +kernel)⟩
theorem mt_X7_giveLast : am_mt yX7_giveLast cX7_giveLast 3 (some .int) 0 := ⟨tw 1020 (by decide +kernel), tw 9 (by decide +kernel), ⟨by decide +kernel, by decide +kernel⟩, by decide +kernel⟩
theorem mo_X7_giveLast : Cond.instanceMethod yX7_giveLast ∈ lw_tbl := tw 1019 (by decide +kernel)
theorem mi_X7_giveLast : Cond.instanceMethod yX7_giveLast ∈ lw_tbl ∧ Cond.selects yX7_giveLast.cls yX7_giveLast yX7_giveLast ∈ lw_tbl := ⟨mo_X7_giveLast, tp 127 (n := 13) (by decide +kernel)⟩
theorem mt_X7_ask : am_mt yX7_ask cX7_ask 3 (some .int) 2 := ⟨tw 1024 (by decide +kernel), tw 9 (by decide +kernel), ⟨by decide +kernel, by decide +kernel⟩, by decide +kernel⟩
theorem mo_X7_ask : Cond.instanceMethod yX7_ask ∈ lw_tbl := tw 1022 (by decide +kernel)
theorem mi_X7_ask : Cond.instanceMethod yX7_ask ∈ lw_tbl ∧ Cond.selects yX7_ask.cls yX7_ask yX7_ask ∈ lw_tbl := ⟨mo_X7_ask, tw 1023 (by decide +kernel)⟩
theorem mt_X7_player : am_mt yX7_player cX7_player 3 (some .int) 2 := ⟨tw 1028 (by decide +kernel), tw 9 (by decide +kernel), ⟨by decide +kernel, by decide +kernel⟩, by decide +kernel⟩
theorem mo_X7_player : Cond.instanceMethod yX7_player ∈ lw_tbl := tw 1026 (by decide +kernel)
theorem mi_X7_player : Cond.instanceMethod yX7_player ∈ lw_tbl ∧ Cond.selects yX7_player.cls yX7_player yX7_player ∈ lw_tbl := ⟨mo_X7_player, tw 1027 (by decide +kernel)⟩
theorem mt_X7_scoreOf : am_mt yX7_scoreOf cX7_scoreOf 2 (some .int) 1 := ⟨tw 1032 (by decide +kernel), tw 9 (by decide +kernel), ⟨by decide +kernel, by decide +kernel⟩, by decide +kernel⟩
theorem mo_X7_scoreOf : Cond.instanceMethod yX7_scoreOf ∈ lw_tbl := tw 1031 (by decide +kernel)
theorem mi_X7_scoreOf : Cond.instanceMethod yX7_scoreOf ∈ lw_tbl ∧ Cond.selects yX7_scoreOf.cls yX7_scoreOf yX7_scoreOf ∈ lw_tbl := ⟨mo_X7_scoreOf, tp 128 (n := 13) (by decide +kernel)⟩
theorem mt_X7_placeOf : am_mt yX7_placeOf cX7_placeOf 6 (some .int) 1 := ⟨tw 1036 (by decide +kernel), tw 9 (by decide +kernel), ⟨by decide +kernel, by decide +kernel⟩, by decide +kernel⟩
theorem mo_X7_placeOf : Cond.instanceMethod yX7_placeOf ∈ lw_tbl := tw 1035 (by decide +kernel)
theorem mi_X7_placeOf : Cond.instanceMethod yX7_placeOf ∈ lw_tbl ∧ Cond.selects yX7_placeOf.cls yX7_placeOf yX7_placeOf ∈ lw_tbl := ⟨mo_X7_placeOf, tp 129 (n := 13) (by decide +kernel)⟩
theorem mt_X7_lotsOf : am_mt yX7_lotsOf cX7_lotsOf 4 (some .int) 1 := ⟨tw 1040 (by decide +kernel), tw 9 (by decide +kernel), ⟨by decide +kernel, by decide +kernel⟩, by decide +kernel⟩
theorem mo_X7_lotsOf : Cond.instanceMethod yX7_lotsOf ∈ lw_tbl := tw 1039 (by decide +kernel)
theorem mi_X7_lotsOf : Cond.instanceMethod yX7_lotsOf ∈ lw_tbl ∧ Cond.selects yX7_lotsOf.cls yX7_lotsOf yX7_lotsOf ∈ lw_tbl := ⟨mo_X7_lotsOf, tp 130 (n := 13) (by decide +kernel)⟩
theorem mt_X7_about : am_mt yX7_about cX7_about 3 (some .int) 2 := ⟨tw 1044 (by decide +kernel), tw 9 (by decide +kernel), ⟨by decide +kernel, by decide +kernel⟩, by decide +kernel⟩
theorem mo_X7_about : Cond.instanceMethod yX7_about ∈ lw_tbl := tw 1042 (by decide +kernel)
theorem mi_X7_about : Cond.instanceMethod yX7_about ∈ lw_tbl ∧ Cond.selects yX7_about.cls yX7_about yX7_about ∈ lw_tbl := ⟨mo_X7_about, tw 1043 (by decide +kernel)⟩
theorem mt_X7_count : am_mt yX7_count cX7_count 2 (some .int) 1 := ⟨tw 1048 (by decide +kernel), tw 9 (by decide +kernel), ⟨by decide +kernel, by decide +kernel⟩, by decide +kernel⟩
theorem mo_X7_count : Cond.instanceMethod yX7_count ∈ lw_tbl := tw 1046 (by decide +kernel)
theorem mi_X7_count : Cond.instanceMethod yX7_count ∈ lw_tbl ∧ Cond.selects yX7_count.cls yX7_count yX7_count ∈ lw_tbl := ⟨mo_X7_count, tw 1047 (by decide +kernel)⟩
theorem mt_X7_ofAuction : am_mt yX7_ofAuction cX7_ofAuction 2 (some .int) 1 := ⟨tw 1052 (by decide +kernel), tw 9 (by decide +kernel), ⟨by decide +kernel, by decide +kernel⟩, by decide +kernel⟩
theorem mo_X7_ofAuction : Cond.instanceMethod yX7_ofAuction ∈ lw_tbl := tw 1051 (by decide +kernel)
theorem mi_X7_ofAuction : Cond.instanceMethod yX7_ofAuction ∈ lw_tbl ∧ Cond.selects yX7_ofAuction.cls yX7_ofAuction yX7_ofAuction ∈ lw_tbl := ⟨mo_X7_ofAuction, tp 131 (n := 13) (by decide +kernel)⟩
theorem mt_X7_shownPrice : am_mt yX7_shownPrice cX7_shownPrice 1 (some .int) 0 := ⟨tw 1056 (by decide +kernel), tw 9 (by decide +kernel), ⟨by decide +kernel, by decide +kernel⟩, by decide +kernel⟩
theorem mo_X7_shownPrice : Cond.instanceMethod yX7_shownPrice ∈ lw_tbl := tw 1055 (by decide +kernel)
theorem mi_X7_shownPrice : Cond.instanceMethod yX7_shownPrice ∈ lw_tbl ∧ Cond.selects yX7_shownPrice.cls yX7_shownPrice yX7_shownPrice ∈ lw_tbl := ⟨mo_X7_shownPrice, tp 132 (n := 13) (by decide +kernel)⟩
theorem mt_X7_sumOf : am_mt yX7_sumOf cX7_sumOf 4 (some .int) 1 := ⟨tw 1060 (by decide +kernel), tw 9 (by decide +kernel), ⟨by decide +kernel, by decide +kernel⟩, by decide +kernel⟩
theorem mo_X7_sumOf : Cond.instanceMethod yX7_sumOf ∈ lw_tbl := tw 1059 (by decide +kernel)
theorem mi_X7_sumOf : Cond.instanceMethod yX7_sumOf ∈ lw_tbl ∧ Cond.selects yX7_sumOf.cls yX7_sumOf yX7_sumOf ∈ lw_tbl := ⟨mo_X7_sumOf, tp 133 (n := 13) (by decide +kernel)⟩
theorem mt_X7_ways : am_mt yX7_ways cX7_ways 1 (some .long) 0 := ⟨tw 1064 (by decide +kernel), tw 9 (by decide +kernel), ⟨by decide +kernel, by decide +kernel⟩, by decide +kernel⟩
theorem mo_X7_ways : Cond.instanceMethod yX7_ways ∈ lw_tbl := tw 1062 (by decide +kernel)
theorem mi_X7_ways : Cond.instanceMethod yX7_ways ∈ lw_tbl ∧ Cond.selects yX7_ways.cls yX7_ways yX7_ways ∈ lw_tbl := ⟨mo_X7_ways, tw 1063 (by decide +kernel)⟩
theorem mt_X7_layWays : am_mt yX7_layWays cX7_layWays 3 none 1 := ⟨tw 1068 (by decide +kernel), tw 9 (by decide +kernel), ⟨by decide +kernel, by decide +kernel⟩, by decide +kernel⟩
theorem mo_X7_layWays : Cond.instanceMethod yX7_layWays ∈ lw_tbl := tw 1067 (by decide +kernel)
theorem mi_X7_layWays : Cond.instanceMethod yX7_layWays ∈ lw_tbl ∧ Cond.selects yX7_layWays.cls yX7_layWays yX7_layWays ∈ lw_tbl := ⟨mo_X7_layWays, tp 134 (n := 13) (by decide +kernel)⟩
theorem mt_X7_addPurse : am_mt yX7_addPurse cX7_addPurse 6 none 2 := ⟨tw 1072 (by decide +kernel), tw 9 (by decide +kernel), ⟨by decide +kernel, by decide +kernel⟩, by decide +kernel⟩
theorem mo_X7_addPurse : Cond.instanceMethod yX7_addPurse ∈ lw_tbl := tw 1071 (by decide +kernel)
theorem mi_X7_addPurse : Cond.instanceMethod yX7_addPurse ∈ lw_tbl ∧ Cond.selects yX7_addPurse.cls yX7_addPurse yX7_addPurse ∈ lw_tbl := ⟨mo_X7_addPurse, tp 135 (n := 13) (by decide +kernel)⟩
theorem mt_X7_known : am_mt yX7_known cX7_known 3 (some .int) 2 := ⟨tw 1076 (by decide +kernel), tw 9 (by decide +kernel), ⟨by decide +kernel, by decide +kernel⟩, by decide +kernel⟩
theorem mo_X7_known : Cond.instanceMethod yX7_known ∈ lw_tbl := tw 1074 (by decide +kernel)
theorem mi_X7_known : Cond.instanceMethod yX7_known ∈ lw_tbl ∧ Cond.selects yX7_known.cls yX7_known yX7_known ∈ lw_tbl := ⟨mo_X7_known, tw 1075 (by decide +kernel)⟩
theorem mt_X7_extreme : am_mt yX7_extreme cX7_extreme 5 (some .int) 2 := ⟨tw 1080 (by decide +kernel), tw 9 (by decide +kernel), ⟨by decide +kernel, by decide +kernel⟩, by decide +kernel⟩
theorem mo_X7_extreme : Cond.instanceMethod yX7_extreme ∈ lw_tbl := tw 1079 (by decide +kernel)
theorem mi_X7_extreme : Cond.instanceMethod yX7_extreme ∈ lw_tbl ∧ Cond.selects yX7_extreme.cls yX7_extreme yX7_extreme ∈ lw_tbl := ⟨mo_X7_extreme, tp 136 (n := 13) (by decide +kernel)⟩
theorem mt_X7_average : am_mt yX7_average cX7_average 8 (some .int) 1 := ⟨tw 1084 (by decide +kernel), tw 9 (by decide +kernel), ⟨by decide +kernel, by decide +kernel⟩, by decide +kernel⟩
theorem mo_X7_average : Cond.instanceMethod yX7_average ∈ lw_tbl := tw 1083 (by decide +kernel)
theorem mi_X7_average : Cond.instanceMethod yX7_average ∈ lw_tbl ∧ Cond.selects yX7_average.cls yX7_average yX7_average ∈ lw_tbl := ⟨mo_X7_average, tp 137 (n := 13) (by decide +kernel)⟩
theorem mt_X7_canPay : am_mt yX7_canPay cX7_canPay 7 (some .long) 2 := ⟨tw 1088 (by decide +kernel), tw 9 (by decide +kernel), ⟨by decide +kernel, by decide +kernel⟩, by decide +kernel⟩
theorem mo_X7_canPay : Cond.instanceMethod yX7_canPay ∈ lw_tbl := tw 1086 (by decide +kernel)
theorem mi_X7_canPay : Cond.instanceMethod yX7_canPay ∈ lw_tbl ∧ Cond.selects yX7_canPay.cls yX7_canPay yX7_canPay ∈ lw_tbl := ⟨mo_X7_canPay, tw 1087 (by decide +kernel)⟩
theorem mt_X7_forecast : am_mt yX7_forecast cX7_forecast 4 (some .int) 3 := ⟨tw 1094 (by decide +kernel), tw 9 (by decide +kernel), ⟨by decide +kernel, by decide +kernel⟩, by decide +kernel⟩
theorem mo_X7_forecast : Cond.instanceMethod yX7_forecast ∈ lw_tbl := tw 1092 (by decide +kernel)
theorem mi_X7_forecast : Cond.instanceMethod yX7_forecast ∈ lw_tbl ∧ Cond.selects yX7_forecast.cls yX7_forecast yX7_forecast ∈ lw_tbl := ⟨mo_X7_forecast, tw 1093 (by decide +kernel)⟩
theorem mt_X7_scoreAtEnd : am_mt yX7_scoreAtEnd cX7_scoreAtEnd 5 (some .int) 3 := ⟨tw 1098 (by decide +kernel), tw 9 (by decide +kernel), ⟨by decide +kernel, by decide +kernel⟩, by decide +kernel⟩
theorem mo_X7_scoreAtEnd : Cond.instanceMethod yX7_scoreAtEnd ∈ lw_tbl := tw 1097 (by decide +kernel)
theorem mi_X7_scoreAtEnd : Cond.instanceMethod yX7_scoreAtEnd ∈ lw_tbl ∧ Cond.selects yX7_scoreAtEnd.cls yX7_scoreAtEnd yX7_scoreAtEnd ∈ lw_tbl := ⟨mo_X7_scoreAtEnd, tp 138 (n := 13) (by decide +kernel)⟩
theorem mt_X7_putAside : am_mt yX7_putAside cX7_putAside 2 none 0 := ⟨tw 1102 (by decide +kernel), tw 9 (by decide +kernel), ⟨by decide +kernel, by decide +kernel⟩, by decide +kernel⟩
theorem mo_X7_putAside : Cond.instanceMethod yX7_putAside ∈ lw_tbl := tw 1101 (by decide +kernel)
theorem mi_X7_putAside : Cond.instanceMethod yX7_putAside ∈ lw_tbl ∧ Cond.selects yX7_putAside.cls yX7_putAside yX7_putAside ∈ lw_tbl := ⟨mo_X7_putAside, tp 139 (n := 13) (by decide +kernel)⟩
theorem mt_X7_putBack : am_mt yX7_putBack cX7_putBack 2 none 0 := ⟨tw 1106 (by decide +kernel), tw 9 (by decide +kernel), ⟨by decide +kernel, by decide +kernel⟩, by decide +kernel⟩
theorem mo_X7_putBack : Cond.instanceMethod yX7_putBack ∈ lw_tbl := tw 1105 (by decide +kernel)
theorem mi_X7_putBack : Cond.instanceMethod yX7_putBack ∈ lw_tbl ∧ Cond.selects yX7_putBack.cls yX7_putBack yX7_putBack ∈ lw_tbl := ⟨mo_X7_putBack, tp 140 (n := 13) (by decide +kernel)⟩
theorem mt_X7_bestMode : am_mt yX7_bestMode cX7_bestMode 7 (some .int) 2 := ⟨tw 1110 (by decide +kernel), tw 9 (by decide +kernel), ⟨by decide +kernel, by decide +kernel⟩, by decide +kernel⟩
theorem mo_X7_bestMode : Cond.instanceMethod yX7_bestMode ∈ lw_tbl := tw 1108 (by decide +kernel)
theorem mi_X7_bestMode : Cond.instanceMethod yX7_bestMode ∈ lw_tbl ∧ Cond.selects yX7_bestMode.cls yX7_bestMode yX7_bestMode ∈ lw_tbl := ⟨mo_X7_bestMode, tw 1109 (by decide +kernel)⟩
theorem mt_X7_leastBid : am_mt yX7_leastBid cX7_leastBid 6 (some .int) 2 := ⟨tw 1114 (by decide +kernel), tw 9 (by decide +kernel), ⟨by decide +kernel, by decide +kernel⟩, by decide +kernel⟩
theorem mo_X7_leastBid : Cond.instanceMethod yX7_leastBid ∈ lw_tbl := tw 1112 (by decide +kernel)
theorem mi_X7_leastBid : Cond.instanceMethod yX7_leastBid ∈ lw_tbl ∧ Cond.selects yX7_leastBid.cls yX7_leastBid yX7_leastBid ∈ lw_tbl := ⟨mo_X7_leastBid, tw 1113 (by decide +kernel)⟩
theorem mt_X7_put : am_mt yX7_put cX7_put 7 (some .int) 1 := ⟨tw 1118 (by decide +kernel), tw 9 (by decide +kernel), ⟨by decide +kernel, by decide +kernel⟩, by decide +kernel⟩
theorem mo_X7_put : Cond.instanceMethod yX7_put ∈ lw_tbl := tw 1116 (by decide +kernel)
theorem mi_X7_put : Cond.instanceMethod yX7_put ∈ lw_tbl ∧ Cond.selects yX7_put.cls yX7_put yX7_put ∈ lw_tbl := ⟨mo_X7_put, tw 1117 (by decide +kernel)⟩
theorem mt_X7_wipe : am_mt yX7_wipe cX7_wipe 2 (some .int) 0 := ⟨tw 1123 (by decide +kernel), tw 9 (by decide +kernel), ⟨by decide +kernel, by decide +kernel⟩, by decide +kernel⟩
theorem mo_X7_wipe : Cond.instanceMethod yX7_wipe ∈ lw_tbl := tw 1121 (by decide +kernel)
theorem mi_X7_wipe : Cond.instanceMethod yX7_wipe ∈ lw_tbl ∧ Cond.selects yX7_wipe.cls yX7_wipe yX7_wipe ∈ lw_tbl := ⟨mo_X7_wipe, tw 1122 (by decide +kernel)⟩
theorem mt_X7_fault : am_mt yX7_fault cX7_fault 1 (some .int) 0 := ⟨tw 1127 (by decide +kernel), tw 9 (by decide +kernel), ⟨by decide +kernel, by decide +kernel⟩, by decide +kernel⟩
theorem mo_X7_fault : Cond.instanceMethod yX7_fault ∈ lw_tbl := tw 1125 (by decide +kernel)
theorem mi_X7_fault : Cond.instanceMethod yX7_fault ∈ lw_tbl ∧ Cond.selects yX7_fault.cls yX7_fault yX7_fault ∈ lw_tbl := ⟨mo_X7_fault, tw 1126 (by decide +kernel)⟩
theorem mt_X7_takeAct : am_mt yX7_takeAct cX7_takeAct 3 none 0 := ⟨tw 1131 (by decide +kernel), tw 9 (by decide +kernel), ⟨by decide +kernel, by decide +kernel⟩, by decide +kernel⟩
theorem mo_X7_takeAct : Cond.instanceMethod yX7_takeAct ∈ lw_tbl := tw 1130 (by decide +kernel)
theorem mi_X7_takeAct : Cond.instanceMethod yX7_takeAct ∈ lw_tbl ∧ Cond.selects yX7_takeAct.cls yX7_takeAct yX7_takeAct ∈ lw_tbl := ⟨mo_X7_takeAct, tp 141 (n := 13) (by decide +kernel)⟩
theorem mt_X7_next : am_mt yX7_next cX7_next 1 (some .int) 0 := ⟨tw 1135 (by decide +kernel), tw 9 (by decide +kernel), ⟨by decide +kernel, by decide +kernel⟩, by decide +kernel⟩
theorem mo_X7_next : Cond.instanceMethod yX7_next ∈ lw_tbl := tw 1134 (by decide +kernel)
theorem mi_X7_next : Cond.instanceMethod yX7_next ∈ lw_tbl ∧ Cond.selects yX7_next.cls yX7_next yX7_next ∈ lw_tbl := ⟨mo_X7_next, tp 142 (n := 13) (by decide +kernel)⟩
theorem mt_X7_takeNumber : am_mt yX7_takeNumber cX7_takeNumber 4 (some .int) 2 := ⟨tw 1139 (by decide +kernel), tw 9 (by decide +kernel), ⟨by decide +kernel, by decide +kernel⟩, by decide +kernel⟩
theorem mo_X7_takeNumber : Cond.instanceMethod yX7_takeNumber ∈ lw_tbl := tw 1138 (by decide +kernel)
theorem mi_X7_takeNumber : Cond.instanceMethod yX7_takeNumber ∈ lw_tbl ∧ Cond.selects yX7_takeNumber.cls yX7_takeNumber yX7_takeNumber ∈ lw_tbl := ⟨mo_X7_takeNumber, tp 143 (n := 13) (by decide +kernel)⟩
theorem mt_X7_need : am_mt yX7_need cX7_need 2 none 1 := ⟨tw 1143 (by decide +kernel), tw 9 (by decide +kernel), ⟨by decide +kernel, by decide +kernel⟩, by decide +kernel⟩
theorem mo_X7_need : Cond.instanceMethod yX7_need ∈ lw_tbl := tw 1142 (by decide +kernel)
theorem mi_X7_need : Cond.instanceMethod yX7_need ∈ lw_tbl ∧ Cond.selects yX7_need.cls yX7_need yX7_need ∈ lw_tbl := ⟨mo_X7_need, tp 144 (n := 13) (by decide +kernel)⟩
theorem mt_X7_carryOut : am_mt yX7_carryOut cX7_carryOut 4 (some .int) 0 := ⟨tw 1147 (by decide +kernel), tw 9 (by decide +kernel), ⟨by decide +kernel, by decide +kernel⟩, by decide +kernel⟩
theorem mo_X7_carryOut : Cond.instanceMethod yX7_carryOut ∈ lw_tbl := tw 1145 (by decide +kernel)
theorem mi_X7_carryOut : Cond.instanceMethod yX7_carryOut ∈ lw_tbl ∧ Cond.selects yX7_carryOut.cls yX7_carryOut yX7_carryOut ∈ lw_tbl := ⟨mo_X7_carryOut, tw 1146 (by decide +kernel)⟩
theorem mt_X7_does : am_mt yX7_does cX7_does 2 (some .int) 1 := ⟨tw 1152 (by decide +kernel), tw 9 (by decide +kernel), ⟨by decide +kernel, by decide +kernel⟩, by decide +kernel⟩
theorem mo_X7_does : Cond.instanceMethod yX7_does ∈ lw_tbl := tw 1151 (by decide +kernel)
theorem mi_X7_does : Cond.instanceMethod yX7_does ∈ lw_tbl ∧ Cond.selects yX7_does.cls yX7_does yX7_does ∈ lw_tbl := ⟨mo_X7_does, tp 145 (n := 13) (by decide +kernel)⟩
theorem mt_X7_save : am_mt yX7_save cX7_save 3 (some .int) 1 := ⟨tw 1161 (by decide +kernel), tw 9 (by decide +kernel), ⟨by decide +kernel, by decide +kernel⟩, by decide +kernel⟩
theorem mo_X7_save : Cond.instanceMethod yX7_save ∈ lw_tbl := tw 1159 (by decide +kernel)
theorem mi_X7_save : Cond.instanceMethod yX7_save ∈ lw_tbl ∧ Cond.selects yX7_save.cls yX7_save yX7_save ∈ lw_tbl := ⟨mo_X7_save, tw 1160 (by decide +kernel)⟩
theorem mt_X7_restore : am_mt yX7_restore cX7_restore 3 (some .int) 1 := ⟨tw 1165 (by decide +kernel), tw 9 (by decide +kernel), ⟨by decide +kernel, by decide +kernel⟩, by decide +kernel⟩
theorem mo_X7_restore : Cond.instanceMethod yX7_restore ∈ lw_tbl := tw 1163 (by decide +kernel)
theorem mi_X7_restore : Cond.instanceMethod yX7_restore ∈ lw_tbl ∧ Cond.selects yX7_restore.cls yX7_restore yX7_restore ∈ lw_tbl := ⟨mo_X7_restore, tw 1164 (by decide +kernel)⟩
theorem lk_L_9 : am_lk RL 9 yX6_init := Or.inl (tw 14 (by decide +kernel))
theorem lk_X6_9 : am_lk RX6 9 yX1_init := Or.inr ⟨"PurseAuction", tw 22 (by decide +kernel)⟩
theorem lk_X1_25 : am_lk RX1 25 yX4_init := Or.inr ⟨"PurseAuction", tw 37 (by decide +kernel)⟩
theorem lk_X1_32 : am_lk RX1 32 yX2_init := Or.inr ⟨"PurseAuction", tw 66 (by decide +kernel)⟩
theorem lk_X1_39 : am_lk RX1 39 yX0_init := Or.inr ⟨"PurseAuction", tw 94 (by decide +kernel)⟩
theorem lk_X0_15 : am_lk RX0 15 yX0_clear := Or.inl (tw 98 (by decide +kernel))
theorem lk_X6_25 : am_lk RX6 25 yX5_init := Or.inr ⟨"PurseAuction", tw 161 (by decide +kernel)⟩
theorem lk_X6_32 : am_lk RX6 32 yX3_init := Or.inr ⟨"PurseAuction", tw 175 (by decide +kernel)⟩
theorem lk_X6_37 : am_lk RX6 37 yX1_startAnew := Or.inr ⟨"PurseAuction", tw 203 (by decide +kernel)⟩
theorem lk_X1_44 : am_lk RX1 44 yX1_settingOf := Or.inl (tw 207 (by decide +kernel))
theorem lk_X1_48 : am_lk RX1 48 yX4_startAnew := Or.inr ⟨"PurseAuction", tw 211 (by decide +kernel)⟩
theorem lk_X1_52 : am_lk RX1 52 yX2_clear := Or.inr ⟨"PurseAuction", tw 218 (by decide +kernel)⟩
theorem lk_X1_55 : am_lk RX1 55 yX0_clear := Or.inr ⟨"PurseAuction", tw 222 (by decide +kernel)⟩
theorem lk_L_13 : am_lk RL 13 yX6_setUp := Or.inl (tw 239 (by decide +kernel))
theorem lk_X6_41 : am_lk RX6 41 yX6_within := Or.inl (tw 243 (by decide +kernel))
theorem lk_L_18 : am_lk RL 18 yX6_set := Or.inl (tw 246 (by decide +kernel))
theorem lk_X6_55 : am_lk RX6 55 yX6_isSettingValue := Or.inl (tw 250 (by decide +kernel))
theorem lk_X6_166 : am_lk RX6 166 yX6_isSetting := Or.inl (tw 253 (by decide +kernel))
theorem lk_X6_63 : am_lk RX6 63 yX0_goesOn := Or.inr ⟨"PurseAuction", tw 260 (by decide +kernel)⟩
theorem lk_X6_69 : am_lk RX6 69 yX1_changeSetting := Or.inr ⟨"PurseAuction", tw 264 (by decide +kernel)⟩
theorem lk_X1_70 : am_lk RX1 70 yX6_isSetting := Or.inr ⟨"PurseAuction", tw 268 (by decide +kernel)⟩
theorem lk_L_23 : am_lk RL 23 yX6_fill := Or.inl (tw 269 (by decide +kernel))
theorem lk_X6_73 : am_lk RX6 73 yX4_hasSeat := Or.inr ⟨"PurseAuction", tw 273 (by decide +kernel)⟩
theorem lk_X6_77 : am_lk RX6 77 yX1_isUnopened := Or.inr ⟨"PurseAuction", tw 277 (by decide +kernel)⟩
theorem lk_X1_78 : am_lk RX1 78 yX0_goesOn := Or.inr ⟨"PurseAuction", tw 281 (by decide +kernel)⟩
theorem lk_X6_80 : am_lk RX6 80 yX4_fillAnew := Or.inr ⟨"PurseAuction", tw 282 (by decide +kernel)⟩
theorem lk_X4_41 : am_lk RX4 41 yX4_hasSeat := Or.inl (tw 286 (by decide +kernel))
theorem lk_L_27 : am_lk RL 27 yX6_embolden := Or.inl (tw 287 (by decide +kernel))
theorem lk_X6_83 : am_lk RX6 83 yX4_changeBoldness := Or.inr ⟨"PurseAuction", tw 291 (by decide +kernel)⟩
theorem lk_L_31 : am_lk RL 31 yX6_lot := Or.inl (tw 295 (by decide +kernel))
theorem lk_X6_90 : am_lk RX6 90 yX2_areFull := Or.inr ⟨"PurseAuction", tw 299 (by decide +kernel)⟩
theorem lk_X6_95 : am_lk RX6 95 yX2_add := Or.inr ⟨"PurseAuction", tw 303 (by decide +kernel)⟩
theorem lk_X2_35 : am_lk RX2 35 yX2_areFull := Or.inl (tw 307 (by decide +kernel))
theorem lk_L_35 : am_lk RL 35 yX6_begin := Or.inl (tw 308 (by decide +kernel))
theorem lk_X6_98 : am_lk RX6 98 yX1_startAuction := Or.inr ⟨"PurseAuction", tw 312 (by decide +kernel)⟩
theorem lk_X1_85 : am_lk RX1 85 yX6_isMode := Or.inr ⟨"PurseAuction", tw 316 (by decide +kernel)⟩
theorem lk_X1_88 : am_lk RX1 88 yX6_isReserve := Or.inr ⟨"PurseAuction", tw 319 (by decide +kernel)⟩
theorem lk_X1_91 : am_lk RX1 91 yX2_nextIsForSale := Or.inr ⟨"PurseAuction", tw 322 (by decide +kernel)⟩
theorem lk_X1_94 : am_lk RX1 94 yX1_starter := Or.inl (tw 326 (by decide +kernel))
theorem lk_X1_98 : am_lk RX1 98 yX0_start := Or.inr ⟨"PurseAuction", tw 330 (by decide +kernel)⟩
theorem lk_X1_102 : am_lk RX1 102 yX2_next := Or.inr ⟨"PurseAuction", tw 334 (by decide +kernel)⟩
theorem lk_L_39 : am_lk RL 39 yX6_bid := Or.inl (tw 338 (by decide +kernel))
theorem lk_X6_101 : am_lk RX6 101 yX1_takeBid := Or.inr ⟨"PurseAuction", tw 342 (by decide +kernel)⟩
theorem lk_X1_105 : am_lk RX1 105 yX4_hasSeat := Or.inr ⟨"PurseAuction", tw 346 (by decide +kernel)⟩
theorem lk_X1_111 : am_lk RX1 111 yX1_raise := Or.inl (tw 347 (by decide +kernel))
theorem lk_X1_145 : am_lk RX1 145 yX1_leastRaise := Or.inl (tw 351 (by decide +kernel))
theorem lk_X1_180 : am_lk RX1 180 yX4_amountOf := Or.inr ⟨"PurseAuction", tw 355 (by decide +kernel)⟩
theorem lk_X1_183 : am_lk RX1 183 yX6_within := Or.inr ⟨"PurseAuction", tw 359 (by decide +kernel)⟩
theorem lk_X1_187 : am_lk RX1 187 yX0_noteBid := Or.inr ⟨"PurseAuction", tw 360 (by decide +kernel)⟩
theorem lk_X0_47 : am_lk RX0 47 yX6_within := Or.inr ⟨"PurseAuction", tw 364 (by decide +kernel)⟩
theorem lk_X1_190 : am_lk RX1 190 yX4_learnAtLeast := Or.inr ⟨"PurseAuction", tw 365 (by decide +kernel)⟩
theorem lk_X1_193 : am_lk RX1 193 yX1_turnBehind := Or.inl (tw 369 (by decide +kernel))
theorem lk_X1_203 : am_lk RX1 203 yX1_nextToAct := Or.inl (tw 373 (by decide +kernel))
theorem lk_X1_165 : am_lk RX1 165 yX4_seatBehind := Or.inr ⟨"PurseAuction", tw 377 (by decide +kernel)⟩
theorem lk_X1_206 : am_lk RX1 206 yX0_isOut := Or.inr ⟨"PurseAuction", tw 381 (by decide +kernel)⟩
theorem lk_X1_115 : am_lk RX1 115 yX1_handIn := Or.inl (tw 385 (by decide +kernel))
theorem lk_X1_209 : am_lk RX1 209 yX0_bidOf := Or.inr ⟨"PurseAuction", tw 389 (by decide +kernel)⟩
theorem lk_X1_212 : am_lk RX1 212 yX1_openBids := Or.inl (tw 393 (by decide +kernel))
theorem lk_X1_118 : am_lk RX1 118 yX1_claim := Or.inl (tw 397 (by decide +kernel))
theorem lk_X1_121 : am_lk RX1 121 yX1_settle := Or.inl (tw 401 (by decide +kernel))
theorem lk_X1_154 : am_lk RX1 154 yX1_collect := Or.inl (tw 405 (by decide +kernel))
theorem lk_X1_160 : am_lk RX1 160 yJ6_bitCount_0f7a4 := Or.inl (tw 409 (by decide +kernel))
theorem lk_X1_168 : am_lk RX1 168 yX4_takeFrom := Or.inr ⟨"PurseAuction", tw 415 (by decide +kernel)⟩
theorem lk_X1_157 : am_lk RX1 157 yX2_close := Or.inr ⟨"PurseAuction", tw 422 (by decide +kernel)⟩
theorem lk_L_43 : am_lk RL 43 yX6_pass := Or.inl (tw 426 (by decide +kernel))
theorem lk_X6_104 : am_lk RX6 104 yX1_takePass := Or.inr ⟨"PurseAuction", tw 430 (by decide +kernel)⟩
theorem lk_X1_124 : am_lk RX1 124 yX1_stepOut := Or.inl (tw 434 (by decide +kernel))
theorem lk_X1_197 : am_lk RX1 197 yX0_noteOut := Or.inr ⟨"PurseAuction", tw 438 (by decide +kernel)⟩
theorem lk_X1_127 : am_lk RX1 127 yX1_letFall := Or.inl (tw 442 (by decide +kernel))
theorem lk_L_47 : am_lk RL 47 yX6_move := Or.inl (tw 446 (by decide +kernel))
theorem lk_X6_108 : am_lk RX6 108 yX1_moveAlone := Or.inr ⟨"PurseAuction", tw 450 (by decide +kernel)⟩
theorem lk_X1_130 : am_lk RX1 130 yX1_claimAlone := Or.inl (tw 454 (by decide +kernel))
theorem lk_X1_139 : am_lk RX1 139 yX1_limitOf := Or.inl (tw 458 (by decide +kernel))
theorem lk_X1_215 : am_lk RX1 215 yX2_gainFor := Or.inr ⟨"PurseAuction", tw 462 (by decide +kernel)⟩
theorem lk_X2_39 : am_lk RX2 39 yX2_hasLot := Or.inl (tw 466 (by decide +kernel))
theorem lk_X2_58 : am_lk RX2 58 yJ6_bitCount_0f7a4 := Or.inl (tw 470 (by decide +kernel))
theorem lk_X1_219 : am_lk RX1 219 yX4_boldnessOf := Or.inr ⟨"PurseAuction", tw 471 (by decide +kernel)⟩
theorem lk_X1_136 : am_lk RX1 136 yX1_firstWithoutBid := Or.inl (tw 476 (by decide +kernel))
theorem lk_L_52 : am_lk RL 52 yX6_last := Or.inl (tw 480 (by decide +kernel))
theorem lk_X6_112 : am_lk RX6 112 yX1_giveLast := Or.inr ⟨"PurseAuction", tw 484 (by decide +kernel)⟩
theorem lk_X1_171 : am_lk RX1 171 yX2_nextIsLast := Or.inr ⟨"PurseAuction", tw 488 (by decide +kernel)⟩
theorem lk_X1_174 : am_lk RX1 174 yX4_poorest := Or.inr ⟨"PurseAuction", tw 492 (by decide +kernel)⟩
theorem lk_X4_62 : am_lk RX4 62 yX4_seatBehind := Or.inl (tw 496 (by decide +kernel))
theorem lk_X4_45 : am_lk RX4 45 yX4_amountOf := Or.inl (tw 497 (by decide +kernel))
theorem lk_L_56 : am_lk RL 56 yX6_ask := Or.inl (tw 498 (by decide +kernel))
theorem lk_X6_115 : am_lk RX6 115 yX4_question := Or.inr ⟨"PurseAuction", tw 502 (by decide +kernel)⟩
theorem lk_X4_49 : am_lk RX4 49 yX4_learnAtLeast := Or.inl (tw 506 (by decide +kernel))
theorem lk_X4_53 : am_lk RX4 53 yX4_learnAtMost := Or.inl (tw 507 (by decide +kernel))
theorem lk_L_60 : am_lk RL 60 yX6_player := Or.inl (tw 511 (by decide +kernel))
theorem lk_X6_118 : am_lk RX6 118 yX4_amountOf := Or.inr ⟨"PurseAuction", tw 515 (by decide +kernel)⟩
theorem lk_X6_121 : am_lk RX6 121 yX4_boldnessOf := Or.inr ⟨"PurseAuction", tw 516 (by decide +kernel)⟩
theorem lk_X6_124 : am_lk RX6 124 yX4_paidBy := Or.inr ⟨"PurseAuction", tw 517 (by decide +kernel)⟩
theorem lk_X6_127 : am_lk RX6 127 yX1_valueOf := Or.inr ⟨"PurseAuction", tw 521 (by decide +kernel)⟩
theorem lk_X1_230 : am_lk RX1 230 yX2_valueFor := Or.inr ⟨"PurseAuction", tw 525 (by decide +kernel)⟩
theorem lk_X2_47 : am_lk RX2 47 yX2_owns := Or.inl (tw 529 (by decide +kernel))
theorem lk_X2_51 : am_lk RX2 51 yX2_shareOf := Or.inl (tw 533 (by decide +kernel))
theorem lk_X2_54 : am_lk RX2 54 yX2_ownedOfColour := Or.inl (tw 537 (by decide +kernel))
theorem lk_X6_130 : am_lk RX6 130 yX1_scoreOf := Or.inr ⟨"PurseAuction", tw 541 (by decide +kernel)⟩
theorem lk_X1_233 : am_lk RX1 233 yX1_valueOf := Or.inl (tw 545 (by decide +kernel))
theorem lk_X6_133 : am_lk RX6 133 yX1_placeOf := Or.inr ⟨"PurseAuction", tw 546 (by decide +kernel)⟩
theorem lk_X1_236 : am_lk RX1 236 yX1_scoreOf := Or.inl (tw 550 (by decide +kernel))
theorem lk_X6_136 : am_lk RX6 136 yX2_ownedBy := Or.inr ⟨"PurseAuction", tw 551 (by decide +kernel)⟩
theorem lk_X6_139 : am_lk RX6 139 yX1_limitOf := Or.inr ⟨"PurseAuction", tw 555 (by decide +kernel)⟩
theorem lk_X6_142 : am_lk RX6 142 yX0_bidOf := Or.inr ⟨"PurseAuction", tw 556 (by decide +kernel)⟩
theorem lk_X6_145 : am_lk RX6 145 yX0_isOut := Or.inr ⟨"PurseAuction", tw 557 (by decide +kernel)⟩
theorem lk_L_64 : am_lk RL 64 yX6_about := Or.inl (tw 558 (by decide +kernel))
theorem lk_X6_148 : am_lk RX6 148 yX2_hasLot := Or.inr ⟨"PurseAuction", tw 562 (by decide +kernel)⟩
theorem lk_X6_151 : am_lk RX6 151 yX2_colourOf := Or.inr ⟨"PurseAuction", tw 563 (by decide +kernel)⟩
theorem lk_X6_154 : am_lk RX6 154 yX2_worthOf := Or.inr ⟨"PurseAuction", tw 567 (by decide +kernel)⟩
theorem lk_X6_157 : am_lk RX6 157 yX2_ownersOf := Or.inr ⟨"PurseAuction", tw 571 (by decide +kernel)⟩
theorem lk_X6_160 : am_lk RX6 160 yX2_priceOf := Or.inr ⟨"PurseAuction", tw 575 (by decide +kernel)⟩
theorem lk_X6_163 : am_lk RX6 163 yX2_stateOf := Or.inr ⟨"PurseAuction", tw 579 (by decide +kernel)⟩
theorem lk_X2_43 : am_lk RX2 43 yX2_ownersOf := Or.inl (tw 583 (by decide +kernel))
theorem lk_L_68 : am_lk RL 68 yX6_count := Or.inl (tw 584 (by decide +kernel))
theorem lk_X6_169 : am_lk RX6 169 yX1_settingOf := Or.inr ⟨"PurseAuction", tw 588 (by decide +kernel)⟩
theorem lk_X6_175 : am_lk RX6 175 yX2_next := Or.inr ⟨"PurseAuction", tw 589 (by decide +kernel)⟩
theorem lk_X6_178 : am_lk RX6 178 yX1_starter := Or.inr ⟨"PurseAuction", tw 590 (by decide +kernel)⟩
theorem lk_X6_196 : am_lk RX6 196 yX4_sum := Or.inr ⟨"PurseAuction", tw 591 (by decide +kernel)⟩
theorem lk_X6_199 : am_lk RX6 199 yX4_paidByAll := Or.inr ⟨"PurseAuction", tw 595 (by decide +kernel)⟩
theorem lk_X4_59 : am_lk RX4 59 yX4_paidBy := Or.inl (tw 599 (by decide +kernel))
theorem lk_L_72 : am_lk RL 72 yX6_known := Or.inl (tw 600 (by decide +kernel))
theorem lk_X6_205 : am_lk RX6 205 yX4_leastOf := Or.inr ⟨"PurseAuction", tw 604 (by decide +kernel)⟩
theorem lk_X6_208 : am_lk RX6 208 yX4_greatestOf := Or.inr ⟨"PurseAuction", tw 608 (by decide +kernel)⟩
theorem lk_X6_211 : am_lk RX6 211 yX5_leastIn := Or.inr ⟨"PurseAuction", tw 612 (by decide +kernel)⟩
theorem lk_X5_18 : am_lk RX5 18 yX5_takeInOthers := Or.inl (tw 616 (by decide +kernel))
theorem lk_X5_28 : am_lk RX5 28 yX4_leastOf := Or.inr ⟨"PurseAuction", tw 620 (by decide +kernel)⟩
theorem lk_X5_32 : am_lk RX5 32 yX4_greatestOf := Or.inr ⟨"PurseAuction", tw 621 (by decide +kernel)⟩
theorem lk_X5_49 : am_lk RX5 49 yX5_takeIn := Or.inl (tw 622 (by decide +kernel))
theorem lk_X5_53 : am_lk RX5 53 yX5_waysUpTo := Or.inl (tw 626 (by decide +kernel))
theorem lk_X5_56 : am_lk RX5 56 yX6_within := Or.inr ⟨"PurseAuction", tw 630 (by decide +kernel)⟩
theorem lk_X5_22 : am_lk RX5 22 yX4_sum := Or.inr ⟨"PurseAuction", tw 631 (by decide +kernel)⟩
theorem lk_X5_35 : am_lk RX5 35 yX5_waysOf := Or.inl (tw 632 (by decide +kernel))
theorem lk_X6_215 : am_lk RX6 215 yX5_greatestIn := Or.inr ⟨"PurseAuction", tw 636 (by decide +kernel)⟩
theorem lk_X6_218 : am_lk RX6 218 yX5_averageIn := Or.inr ⟨"PurseAuction", tw 640 (by decide +kernel)⟩
theorem lk_L_76 : am_lk RL 76 yX6_ways := Or.inl (tw 644 (by decide +kernel))
theorem lk_X6_221 : am_lk RX6 221 yX5_waysWith := Or.inr ⟨"PurseAuction", tw 648 (by decide +kernel)⟩
theorem lk_L_81 : am_lk RL 81 yX6_canPay := Or.inl (tw 653 (by decide +kernel))
theorem lk_L_86 : am_lk RL 86 yX6_forecast := Or.inl (tw 659 (by decide +kernel))
theorem lk_X6_229 : am_lk RX6 229 yX6_isMode := Or.inl (tw 663 (by decide +kernel))
theorem lk_X6_232 : am_lk RX6 232 yX6_isReserve := Or.inl (tw 664 (by decide +kernel))
theorem lk_X6_235 : am_lk RX6 235 yX1_takeOver := Or.inr ⟨"PurseAuction", tw 665 (by decide +kernel)⟩
theorem lk_X1_56 : am_lk RX1 56 yX6_copyRow := Or.inr ⟨"PurseAuction", tw 669 (by decide +kernel)⟩
theorem lk_X1_60 : am_lk RX1 60 yX4_takeOver := Or.inr ⟨"PurseAuction", tw 676 (by decide +kernel)⟩
theorem lk_X4_37 : am_lk RX4 37 yX6_copyRow := Or.inr ⟨"PurseAuction", tw 680 (by decide +kernel)⟩
theorem lk_X1_64 : am_lk RX1 64 yX2_takeOver := Or.inr ⟨"PurseAuction", tw 681 (by decide +kernel)⟩
theorem lk_X2_31 : am_lk RX2 31 yX6_copyRow := Or.inr ⟨"PurseAuction", tw 685 (by decide +kernel)⟩
theorem lk_X1_67 : am_lk RX1 67 yX0_takeOver := Or.inr ⟨"PurseAuction", tw 686 (by decide +kernel)⟩
theorem lk_X0_43 : am_lk RX0 43 yX6_copyRow := Or.inr ⟨"PurseAuction", tw 690 (by decide +kernel)⟩
theorem lk_X6_240 : am_lk RX6 240 yX2_nextIsForSale := Or.inr ⟨"PurseAuction", tw 692 (by decide +kernel)⟩
theorem lk_L_91 : am_lk RL 91 yX6_bestMode := Or.inl (tw 693 (by decide +kernel))
theorem lk_X6_243 : am_lk RX6 243 yX6_forecast := Or.inl (tw 697 (by decide +kernel))
theorem lk_L_95 : am_lk RL 95 yX6_leastBid := Or.inl (tw 698 (by decide +kernel))
theorem lk_X6_247 : am_lk RX6 247 yX1_neededAgainst := Or.inr ⟨"PurseAuction", tw 702 (by decide +kernel)⟩
theorem lk_L_101 : am_lk RL 101 yX6_put := Or.inl (tw 707 (by decide +kernel))
theorem lk_X6_250 : am_lk RX6 250 yX6_signsIn := Or.inl (tw 711 (by decide +kernel))
theorem lk_X6_256 : am_lk RX6 256 yX3_append := Or.inr ⟨"PurseAuction", tw 715 (by decide +kernel)⟩
theorem lk_L_106 : am_lk RL 106 yX6_wipe := Or.inl (tw 719 (by decide +kernel))
theorem lk_X6_260 : am_lk RX6 260 yX3_empty := Or.inr ⟨"PurseAuction", tw 723 (by decide +kernel)⟩
theorem lk_L_110 : am_lk RL 110 yX6_fault := Or.inl (tw 727 (by decide +kernel))
theorem lk_X6_263 : am_lk RX6 263 yX3_firstFault := Or.inr ⟨"PurseAuction", tw 731 (by decide +kernel)⟩
theorem lk_X3_22 : am_lk RX3 22 yX3_toStart := Or.inl (tw 735 (by decide +kernel))
theorem lk_X3_25 : am_lk RX3 25 yX3_readAct := Or.inl (tw 739 (by decide +kernel))
theorem lk_X3_33 : am_lk RX3 33 yX3_signAt := Or.inl (tw 743 (by decide +kernel))
theorem lk_X3_40 : am_lk RX3 40 yX3_readPair := Or.inl (tw 747 (by decide +kernel))
theorem lk_X3_44 : am_lk RX3 44 yX3_readNumber := Or.inl (tw 751 (by decide +kernel))
theorem lk_X3_54 : am_lk RX3 54 yX3_digitAt := Or.inl (tw 755 (by decide +kernel))
theorem lk_X3_57 : am_lk RX3 57 yX6_within := Or.inr ⟨"PurseAuction", tw 759 (by decide +kernel)⟩
theorem lk_X3_29 : am_lk RX3 29 yX3_readSign := Or.inl (tw 760 (by decide +kernel))
theorem lk_L_114 : am_lk RL 114 yX6_carryOut := Or.inl (tw 764 (by decide +kernel))
theorem lk_X6_266 : am_lk RX6 266 yX3_toStart := Or.inr ⟨"PurseAuction", tw 768 (by decide +kernel)⟩
theorem lk_X6_269 : am_lk RX6 269 yX3_readAct := Or.inr ⟨"PurseAuction", tw 769 (by decide +kernel)⟩
theorem lk_X6_272 : am_lk RX6 272 yX6_carryOutAct := Or.inl (tw 770 (by decide +kernel))
theorem lk_X6_275 : am_lk RX6 275 yX6_isError := Or.inl (tw 774 (by decide +kernel))
theorem lk_X6_278 : am_lk RX6 278 yX3_readSign := Or.inr ⟨"PurseAuction", tw 777 (by decide +kernel)⟩
theorem lk_L_118 : am_lk RL 118 yX6_save := Or.inl (tw 778 (by decide +kernel))
theorem lk_X6_291 : am_lk RX6 291 yX6_isSlot := Or.inl (tw 782 (by decide +kernel))
theorem lk_L_122 : am_lk RL 122 yX6_restore := Or.inl (tw 785 (by decide +kernel))
theorem lk_L_12 : am_lk RL 12 yX7_init := Or.inl (tw 791 (by decide +kernel))
theorem lk_X7_39 : am_lk RX7 39 yX7_beginGame := Or.inl (tw 795 (by decide +kernel))
theorem lk_X7_51 : am_lk RX7 51 yX7_setting := Or.inl (tw 799 (by decide +kernel))
theorem lk_X7_47 : am_lk RX7 47 yX7_lay := Or.inl (tw 803 (by decide +kernel))
theorem lk_X7_55 : am_lk RX7 55 yX7_clearAuction := Or.inl (tw 807 (by decide +kernel))
theorem lk_L_17 : am_lk RL 17 yX7_setUp := Or.inl (tw 852 (by decide +kernel))
theorem lk_X7_43 : am_lk RX7 43 yX7_in := Or.inl (tw 856 (by decide +kernel))
theorem lk_L_22 : am_lk RL 22 yX7_set := Or.inl (tw 859 (by decide +kernel))
theorem lk_X7_58 : am_lk RX7 58 yX7_takes := Or.inl (tw 863 (by decide +kernel))
theorem lk_X7_62 : am_lk RX7 62 yX7_goes := Or.inl (tw 866 (by decide +kernel))
theorem lk_L_26 : am_lk RL 26 yX7_fill := Or.inl (tw 870 (by decide +kernel))
theorem lk_X7_66 : am_lk RX7 66 yX7_isPlayer := Or.inl (tw 874 (by decide +kernel))
theorem lk_X7_70 : am_lk RX7 70 yX7_of := Or.inl (tw 878 (by decide +kernel))
theorem lk_L_30 : am_lk RL 30 yX7_embolden := Or.inl (tw 882 (by decide +kernel))
theorem lk_L_34 : am_lk RL 34 yX7_lot := Or.inl (tw 886 (by decide +kernel))
theorem lk_X7_74 : am_lk RX7 74 yX7_layLot := Or.inl (tw 890 (by decide +kernel))
theorem lk_L_38 : am_lk RL 38 yX7_begin := Or.inl (tw 894 (by decide +kernel))
theorem lk_X7_89 : am_lk RX7 89 yX7_nextLot := Or.inl (tw 898 (by decide +kernel))
theorem lk_X7_96 : am_lk RX7 96 yX7_isLastNext := Or.inl (tw 902 (by decide +kernel))
theorem lk_X7_99 : am_lk RX7 99 yX7_start := Or.inl (tw 906 (by decide +kernel))
theorem lk_X7_93 : am_lk RX7 93 yX7_starter := Or.inl (tw 910 (by decide +kernel))
theorem lk_L_42 : am_lk RL 42 yX7_bid := Or.inl (tw 914 (by decide +kernel))
theorem lk_X7_127 : am_lk RX7 127 yX7_isBid := Or.inl (tw 918 (by decide +kernel))
theorem lk_X7_124 : am_lk RX7 124 yX7_leastOpen := Or.inl (tw 922 (by decide +kernel))
theorem lk_X7_130 : am_lk RX7 130 yX7_bidOpen := Or.inl (tw 926 (by decide +kernel))
theorem lk_X7_112 : am_lk RX7 112 yX7_know := Or.inl (tw 930 (by decide +kernel))
theorem lk_X7_115 : am_lk RX7 115 yX7_goOn := Or.inl (tw 934 (by decide +kernel))
theorem lk_X7_109 : am_lk RX7 109 yX7_sellTo := Or.inl (tw 938 (by decide +kernel))
theorem lk_X7_102 : am_lk RX7 102 yX7_finish := Or.inl (tw 942 (by decide +kernel))
theorem lk_X7_105 : am_lk RX7 105 yX7_pay := Or.inl (tw 946 (by decide +kernel))
theorem lk_X7_133 : am_lk RX7 133 yX7_bidSealed := Or.inl (tw 950 (by decide +kernel))
theorem lk_X7_118 : am_lk RX7 118 yX7_openSealed := Or.inl (tw 954 (by decide +kernel))
theorem lk_X7_80 : am_lk RX7 80 yX7_sizeOf := Or.inl (tw 958 (by decide +kernel))
theorem lk_X7_121 : am_lk RX7 121 yX7_seat := Or.inl (tw 961 (by decide +kernel))
theorem lk_X7_136 : am_lk RX7 136 yX7_claim := Or.inl (tw 965 (by decide +kernel))
theorem lk_L_46 : am_lk RL 46 yX7_pass := Or.inl (tw 969 (by decide +kernel))
theorem lk_X7_139 : am_lk RX7 139 yX7_passOpen := Or.inl (tw 973 (by decide +kernel))
theorem lk_X7_142 : am_lk RX7 142 yX7_fall := Or.inl (tw 977 (by decide +kernel))
theorem lk_L_51 : am_lk RL 51 yX7_move := Or.inl (tw 981 (by decide +kernel))
theorem lk_X7_157 : am_lk RX7 157 yX7_makeMove := Or.inl (tw 985 (by decide +kernel))
theorem lk_X7_145 : am_lk RX7 145 yX7_limitOf := Or.inl (tw 989 (by decide +kernel))
theorem lk_X7_83 : am_lk RX7 83 yX7_valueWith := Or.inl (tw 993 (by decide +kernel))
theorem lk_X7_77 : am_lk RX7 77 yX7_ofLot := Or.inl (tw 997 (by decide +kernel))
theorem lk_X7_151 : am_lk RX7 151 yX7_moveSealed := Or.inl (tw 1001 (by decide +kernel))
theorem lk_X7_148 : am_lk RX7 148 yX7_sealedOf := Or.inl (tw 1005 (by decide +kernel))
theorem lk_X7_154 : am_lk RX7 154 yX7_moveFalling := Or.inl (tw 1009 (by decide +kernel))
theorem lk_L_55 : am_lk RL 55 yX7_last := Or.inl (tw 1013 (by decide +kernel))
theorem lk_X7_160 : am_lk RX7 160 yX7_giveLast := Or.inl (tw 1017 (by decide +kernel))
theorem lk_L_59 : am_lk RL 59 yX7_ask := Or.inl (tw 1021 (by decide +kernel))
theorem lk_L_63 : am_lk RL 63 yX7_player := Or.inl (tw 1025 (by decide +kernel))
theorem lk_X7_86 : am_lk RX7 86 yX7_scoreOf := Or.inl (tw 1029 (by decide +kernel))
theorem lk_X7_163 : am_lk RX7 163 yX7_placeOf := Or.inl (tw 1033 (by decide +kernel))
theorem lk_X7_166 : am_lk RX7 166 yX7_lotsOf := Or.inl (tw 1037 (by decide +kernel))
theorem lk_L_67 : am_lk RL 67 yX7_about := Or.inl (tw 1041 (by decide +kernel))
theorem lk_L_71 : am_lk RL 71 yX7_count := Or.inl (tw 1045 (by decide +kernel))
theorem lk_X7_172 : am_lk RX7 172 yX7_ofAuction := Or.inl (tw 1049 (by decide +kernel))
theorem lk_X7_169 : am_lk RX7 169 yX7_shownPrice := Or.inl (tw 1053 (by decide +kernel))
theorem lk_X7_175 : am_lk RX7 175 yX7_sumOf := Or.inl (tw 1057 (by decide +kernel))
theorem lk_L_80 : am_lk RL 80 yX7_ways := Or.inl (tw 1061 (by decide +kernel))
theorem lk_X7_185 : am_lk RX7 185 yX7_layWays := Or.inl (tw 1065 (by decide +kernel))
theorem lk_X7_182 : am_lk RX7 182 yX7_addPurse := Or.inl (tw 1069 (by decide +kernel))
theorem lk_L_75 : am_lk RL 75 yX7_known := Or.inl (tw 1073 (by decide +kernel))
theorem lk_X7_188 : am_lk RX7 188 yX7_extreme := Or.inl (tw 1077 (by decide +kernel))
theorem lk_X7_192 : am_lk RX7 192 yX7_average := Or.inl (tw 1081 (by decide +kernel))
theorem lk_L_85 : am_lk RL 85 yX7_canPay := Or.inl (tw 1085 (by decide +kernel))
theorem lk_L_90 : am_lk RL 90 yX7_forecast := Or.inl (tw 1091 (by decide +kernel))
theorem lk_X7_205 : am_lk RX7 205 yX7_scoreAtEnd := Or.inl (tw 1095 (by decide +kernel))
theorem lk_X7_199 : am_lk RX7 199 yX7_putAside := Or.inl (tw 1099 (by decide +kernel))
theorem lk_X7_202 : am_lk RX7 202 yX7_putBack := Or.inl (tw 1103 (by decide +kernel))
theorem lk_L_94 : am_lk RL 94 yX7_bestMode := Or.inl (tw 1107 (by decide +kernel))
theorem lk_L_98 : am_lk RL 98 yX7_leastBid := Or.inl (tw 1111 (by decide +kernel))
theorem lk_L_105 : am_lk RL 105 yX7_put := Or.inl (tw 1115 (by decide +kernel))
theorem lk_L_109 : am_lk RL 109 yX7_wipe := Or.inl (tw 1120 (by decide +kernel))
theorem lk_L_113 : am_lk RL 113 yX7_fault := Or.inl (tw 1124 (by decide +kernel))
theorem lk_X7_230 : am_lk RX7 230 yX7_takeAct := Or.inl (tw 1128 (by decide +kernel))
theorem lk_X7_218 : am_lk RX7 218 yX7_next := Or.inl (tw 1132 (by decide +kernel))
theorem lk_X7_224 : am_lk RX7 224 yX7_takeNumber := Or.inl (tw 1136 (by decide +kernel))
theorem lk_X7_227 : am_lk RX7 227 yX7_need := Or.inl (tw 1140 (by decide +kernel))
theorem lk_L_117 : am_lk RL 117 yX7_carryOut := Or.inl (tw 1144 (by decide +kernel))
theorem lk_X7_248 : am_lk RX7 248 yX7_fault := Or.inl (tw 1148 (by decide +kernel))
theorem lk_X7_251 : am_lk RX7 251 yX7_does := Or.inl (tw 1149 (by decide +kernel))
theorem lk_X7_233 : am_lk RX7 233 yX7_begin := Or.inl (tw 1153 (by decide +kernel))
theorem lk_X7_236 : am_lk RX7 236 yX7_bid := Or.inl (tw 1154 (by decide +kernel))
theorem lk_X7_239 : am_lk RX7 239 yX7_pass := Or.inl (tw 1155 (by decide +kernel))
theorem lk_X7_242 : am_lk RX7 242 yX7_move := Or.inl (tw 1156 (by decide +kernel))
theorem lk_X7_245 : am_lk RX7 245 yX7_last := Or.inl (tw 1157 (by decide +kernel))
theorem lk_L_121 : am_lk RL 121 yX7_save := Or.inl (tw 1158 (by decide +kernel))
theorem lk_L_125 : am_lk RL 125 yX7_restore := Or.inl (tw 1162 (by decide +kernel))
theorem ct_J6_265 : Cond.constant RJ6 265 (1431655765) ∈ lw_tbl := tw 412 (by decide +kernel)
theorem ct_J6_266 : Cond.constant RJ6 266 (858993459) ∈ lw_tbl := tw 413 (by decide +kernel)
theorem ct_J6_267 : Cond.constant RJ6 267 (252645135) ∈ lw_tbl := tw 414 (by decide +kernel)
theorem ct_X6_225 : Cond.constantLong RX6 225 (-1) ∈ lw_tbl := tw 657 (by decide +kernel)
theorem ct_X6_227 : Cond.constantLong RX6 227 (-2) ∈ lw_tbl := tw 658 (by decide +kernel)
theorem ct_X6_239 : Cond.constant RX6 239 (1000000) ∈ lw_tbl := tw 691 (by decide +kernel)
theorem ct_X6_254 : Cond.constantLong RX6 254 (255) ∈ lw_tbl := tw 714 (by decide +kernel)
theorem ct_X7_195 : Cond.constantLong RX7 195 (-1) ∈ lw_tbl := tw 1089 (by decide +kernel)
theorem ct_X7_197 : Cond.constantLong RX7 197 (-2) ∈ lw_tbl := tw 1090 (by decide +kernel)
theorem ct_X7_209 : Cond.constantLong RX7 209 (255) ∈ lw_tbl := tw 1119 (by decide +kernel)
theorem ct_L_99 : Cond.constantLong RL 99 (4294967295) ∈ lw_tbl := tw 1166 (by decide +kernel)
def am_L (S : List (Nat ⊕ (Nat × Nat))) (Rf : List (Nat × Nat × Nat)) (sh : aS) (P : aP) (o : Nat) : Prop := (∀ j z, S[j]? = some z → sh[o + j]? = some z) ∧ (∀ q ∈ Rf, P (o + q.1) q.2.1 = some (o + q.2.2))
theorem am_L.sub {S S' : List (Nat ⊕ (Nat × Nat))} {Rf Rf' : List (Nat × Nat × Nat)} {sh : aS} {P : aP} {o : Nat} (k : Nat) (h : am_L S Rf sh P o) (hS : ∀ j, j < S'.length → S[k + j]? = S'[j]?) (hR : ∀ q ∈ Rf', (k + q.1, q.2.1, k + q.2.2) ∈ Rf) : am_L S' Rf' sh P (o + k) := by
  refine ⟨fun j z hz => ?_, fun q hq => ?_⟩
  · rw [Nat.add_assoc]
    refine h.1 (k + j) z ?_
    rw [hS j (List.getElem?_eq_some_iff.mp hz).1]
    exact hz
  · have := h.2 _ (hR q hq)
    rw [Nat.add_assoc, Nat.add_assoc]
    exact this
def S0 : List (Nat ⊕ (Nat × Nat)) := [.inl 0, .inr (0, 6)]
def Q0 : List (Nat × Nat × Nat) := [(0, 8, 1)]
abbrev L0 (sh : aS) (P : aP) (o : Nat) : Prop := am_L S0 Q0 sh P o
theorem L0_s0 {sh : aS} {P : aP} {o : Nat} (h : L0 sh P o) : sh[o]? = some (.inl 0) := h.1 0 _ rfl
theorem L0_s1 {sh : aS} {P : aP} {o : Nat} (h : L0 sh P o) : sh[(o + 1)]? = some (.inr (0, 6)) := h.1 1 _ rfl
theorem L0_p0_8 {sh : aS} {P : aP} {o : Nat} (h : L0 sh P o) : P o 8 = some (o + 1) := h.2 (0, 8, 1) (by decide)
def S2 : List (Nat ⊕ (Nat × Nat)) := [.inl 2, .inr (0, 12), .inr (0, 12), .inr (0, 12), .inr (0, 12)]
def Q2 : List (Nat × Nat × Nat) := [(0, 2, 1), (0, 3, 2), (0, 4, 3), (0, 5, 4)]
abbrev L2 (sh : aS) (P : aP) (o : Nat) : Prop := am_L S2 Q2 sh P o
theorem L2_s0 {sh : aS} {P : aP} {o : Nat} (h : L2 sh P o) : sh[o]? = some (.inl 2) := h.1 0 _ rfl
theorem L2_s1 {sh : aS} {P : aP} {o : Nat} (h : L2 sh P o) : sh[(o + 1)]? = some (.inr (0, 12)) := h.1 1 _ rfl
theorem L2_s2 {sh : aS} {P : aP} {o : Nat} (h : L2 sh P o) : sh[(o + 2)]? = some (.inr (0, 12)) := h.1 2 _ rfl
theorem L2_s3 {sh : aS} {P : aP} {o : Nat} (h : L2 sh P o) : sh[(o + 3)]? = some (.inr (0, 12)) := h.1 3 _ rfl
theorem L2_s4 {sh : aS} {P : aP} {o : Nat} (h : L2 sh P o) : sh[(o + 4)]? = some (.inr (0, 12)) := h.1 4 _ rfl
theorem L2_p0_2 {sh : aS} {P : aP} {o : Nat} (h : L2 sh P o) : P o 2 = some (o + 1) := h.2 (0, 2, 1) (by decide)
theorem L2_p0_3 {sh : aS} {P : aP} {o : Nat} (h : L2 sh P o) : P o 3 = some (o + 2) := h.2 (0, 3, 2) (by decide)
theorem L2_p0_4 {sh : aS} {P : aP} {o : Nat} (h : L2 sh P o) : P o 4 = some (o + 3) := h.2 (0, 4, 3) (by decide)
theorem L2_p0_5 {sh : aS} {P : aP} {o : Nat} (h : L2 sh P o) : P o 5 = some (o + 4) := h.2 (0, 5, 4) (by decide)
def S3 : List (Nat ⊕ (Nat × Nat)) := [.inl 3, .inr (2, 60)]
def Q3 : List (Nat × Nat × Nat) := [(0, 0, 1)]
abbrev L3 (sh : aS) (P : aP) (o : Nat) : Prop := am_L S3 Q3 sh P o
theorem L3_s0 {sh : aS} {P : aP} {o : Nat} (h : L3 sh P o) : sh[o]? = some (.inl 3) := h.1 0 _ rfl
theorem L3_s1 {sh : aS} {P : aP} {o : Nat} (h : L3 sh P o) : sh[(o + 1)]? = some (.inr (2, 60)) := h.1 1 _ rfl
theorem L3_p0_0 {sh : aS} {P : aP} {o : Nat} (h : L3 sh P o) : P o 0 = some (o + 1) := h.2 (0, 0, 1) (by decide)
def S4 : List (Nat ⊕ (Nat × Nat)) := [.inl 4, .inr (0, 6), .inr (0, 6), .inr (0, 6), .inr (0, 6), .inr (0, 6)]
def Q4 : List (Nat × Nat × Nat) := [(0, 1, 1), (0, 2, 2), (0, 3, 3), (0, 4, 4), (0, 5, 5)]
abbrev L4 (sh : aS) (P : aP) (o : Nat) : Prop := am_L S4 Q4 sh P o
theorem L4_s0 {sh : aS} {P : aP} {o : Nat} (h : L4 sh P o) : sh[o]? = some (.inl 4) := h.1 0 _ rfl
theorem L4_s1 {sh : aS} {P : aP} {o : Nat} (h : L4 sh P o) : sh[(o + 1)]? = some (.inr (0, 6)) := h.1 1 _ rfl
theorem L4_s2 {sh : aS} {P : aP} {o : Nat} (h : L4 sh P o) : sh[(o + 2)]? = some (.inr (0, 6)) := h.1 2 _ rfl
theorem L4_s3 {sh : aS} {P : aP} {o : Nat} (h : L4 sh P o) : sh[(o + 3)]? = some (.inr (0, 6)) := h.1 3 _ rfl
theorem L4_s4 {sh : aS} {P : aP} {o : Nat} (h : L4 sh P o) : sh[(o + 4)]? = some (.inr (0, 6)) := h.1 4 _ rfl
theorem L4_s5 {sh : aS} {P : aP} {o : Nat} (h : L4 sh P o) : sh[(o + 5)]? = some (.inr (0, 6)) := h.1 5 _ rfl
theorem L4_p0_1 {sh : aS} {P : aP} {o : Nat} (h : L4 sh P o) : P o 1 = some (o + 1) := h.2 (0, 1, 1) (by decide)
theorem L4_p0_2 {sh : aS} {P : aP} {o : Nat} (h : L4 sh P o) : P o 2 = some (o + 2) := h.2 (0, 2, 2) (by decide)
theorem L4_p0_3 {sh : aS} {P : aP} {o : Nat} (h : L4 sh P o) : P o 3 = some (o + 3) := h.2 (0, 3, 3) (by decide)
theorem L4_p0_4 {sh : aS} {P : aP} {o : Nat} (h : L4 sh P o) : P o 4 = some (o + 4) := h.2 (0, 4, 4) (by decide)
theorem L4_p0_5 {sh : aS} {P : aP} {o : Nat} (h : L4 sh P o) : P o 5 = some (o + 5) := h.2 (0, 5, 5) (by decide)
def S5 : List (Nat ⊕ (Nat × Nat)) := [.inl 5, .inr (3, 1801), .inr (3, 1801)]
def Q5 : List (Nat × Nat × Nat) := [(0, 0, 1), (0, 1, 2)]
abbrev L5 (sh : aS) (P : aP) (o : Nat) : Prop := am_L S5 Q5 sh P o
theorem L5_s0 {sh : aS} {P : aP} {o : Nat} (h : L5 sh P o) : sh[o]? = some (.inl 5) := h.1 0 _ rfl
theorem L5_s1 {sh : aS} {P : aP} {o : Nat} (h : L5 sh P o) : sh[(o + 1)]? = some (.inr (3, 1801)) := h.1 1 _ rfl
theorem L5_s2 {sh : aS} {P : aP} {o : Nat} (h : L5 sh P o) : sh[(o + 2)]? = some (.inr (3, 1801)) := h.1 2 _ rfl
theorem L5_p0_0 {sh : aS} {P : aP} {o : Nat} (h : L5 sh P o) : P o 0 = some (o + 1) := h.2 (0, 0, 1) (by decide)
theorem L5_p0_1 {sh : aS} {P : aP} {o : Nat} (h : L5 sh P o) : P o 1 = some (o + 2) := h.2 (0, 1, 2) (by decide)
def S1 : List (Nat ⊕ (Nat × Nat)) := [.inl 1, .inr (0, 6), .inl 4, .inr (0, 6), .inr (0, 6), .inr (0, 6), .inr (0, 6), .inr (0, 6), .inl 2, .inr (0, 12), .inr (0, 12), .inr (0, 12), .inr (0, 12), .inl 0, .inr (0, 6)]
def Q1 : List (Nat × Nat × Nat) := [(0, 0, 1), (0, 1, 2), (0, 2, 8), (0, 3, 13), (2, 1, 3), (2, 2, 4), (2, 3, 5), (2, 4, 6), (2, 5, 7), (8, 2, 9), (8, 3, 10), (8, 4, 11), (8, 5, 12), (13, 8, 14)]
abbrev L1 (sh : aS) (P : aP) (o : Nat) : Prop := am_L S1 Q1 sh P o
theorem L1_s0 {sh : aS} {P : aP} {o : Nat} (h : L1 sh P o) : sh[o]? = some (.inl 1) := h.1 0 _ rfl
theorem L1_s1 {sh : aS} {P : aP} {o : Nat} (h : L1 sh P o) : sh[(o + 1)]? = some (.inr (0, 6)) := h.1 1 _ rfl
theorem L1_s2 {sh : aS} {P : aP} {o : Nat} (h : L1 sh P o) : sh[(o + 2)]? = some (.inl 4) := h.1 2 _ rfl
theorem L1_s3 {sh : aS} {P : aP} {o : Nat} (h : L1 sh P o) : sh[(o + 3)]? = some (.inr (0, 6)) := h.1 3 _ rfl
theorem L1_s4 {sh : aS} {P : aP} {o : Nat} (h : L1 sh P o) : sh[(o + 4)]? = some (.inr (0, 6)) := h.1 4 _ rfl
theorem L1_s5 {sh : aS} {P : aP} {o : Nat} (h : L1 sh P o) : sh[(o + 5)]? = some (.inr (0, 6)) := h.1 5 _ rfl
theorem L1_s6 {sh : aS} {P : aP} {o : Nat} (h : L1 sh P o) : sh[(o + 6)]? = some (.inr (0, 6)) := h.1 6 _ rfl
theorem L1_s7 {sh : aS} {P : aP} {o : Nat} (h : L1 sh P o) : sh[(o + 7)]? = some (.inr (0, 6)) := h.1 7 _ rfl
theorem L1_s8 {sh : aS} {P : aP} {o : Nat} (h : L1 sh P o) : sh[(o + 8)]? = some (.inl 2) := h.1 8 _ rfl
theorem L1_s9 {sh : aS} {P : aP} {o : Nat} (h : L1 sh P o) : sh[(o + 9)]? = some (.inr (0, 12)) := h.1 9 _ rfl
theorem L1_s10 {sh : aS} {P : aP} {o : Nat} (h : L1 sh P o) : sh[(o + 10)]? = some (.inr (0, 12)) := h.1 10 _ rfl
theorem L1_s11 {sh : aS} {P : aP} {o : Nat} (h : L1 sh P o) : sh[(o + 11)]? = some (.inr (0, 12)) := h.1 11 _ rfl
theorem L1_s12 {sh : aS} {P : aP} {o : Nat} (h : L1 sh P o) : sh[(o + 12)]? = some (.inr (0, 12)) := h.1 12 _ rfl
theorem L1_s13 {sh : aS} {P : aP} {o : Nat} (h : L1 sh P o) : sh[(o + 13)]? = some (.inl 0) := h.1 13 _ rfl
theorem L1_s14 {sh : aS} {P : aP} {o : Nat} (h : L1 sh P o) : sh[(o + 14)]? = some (.inr (0, 6)) := h.1 14 _ rfl
theorem L1_p0_0 {sh : aS} {P : aP} {o : Nat} (h : L1 sh P o) : P o 0 = some (o + 1) := h.2 (0, 0, 1) (by decide)
theorem L1_p0_1 {sh : aS} {P : aP} {o : Nat} (h : L1 sh P o) : P o 1 = some (o + 2) := h.2 (0, 1, 2) (by decide)
theorem L1_p0_2 {sh : aS} {P : aP} {o : Nat} (h : L1 sh P o) : P o 2 = some (o + 8) := h.2 (0, 2, 8) (by decide)
theorem L1_p0_3 {sh : aS} {P : aP} {o : Nat} (h : L1 sh P o) : P o 3 = some (o + 13) := h.2 (0, 3, 13) (by decide)
theorem L1_p2_1 {sh : aS} {P : aP} {o : Nat} (h : L1 sh P o) : P (o + 2) 1 = some (o + 3) := h.2 (2, 1, 3) (by decide)
theorem L1_p2_2 {sh : aS} {P : aP} {o : Nat} (h : L1 sh P o) : P (o + 2) 2 = some (o + 4) := h.2 (2, 2, 4) (by decide)
theorem L1_p2_3 {sh : aS} {P : aP} {o : Nat} (h : L1 sh P o) : P (o + 2) 3 = some (o + 5) := h.2 (2, 3, 5) (by decide)
theorem L1_p2_4 {sh : aS} {P : aP} {o : Nat} (h : L1 sh P o) : P (o + 2) 4 = some (o + 6) := h.2 (2, 4, 6) (by decide)
theorem L1_p2_5 {sh : aS} {P : aP} {o : Nat} (h : L1 sh P o) : P (o + 2) 5 = some (o + 7) := h.2 (2, 5, 7) (by decide)
theorem L1_p8_2 {sh : aS} {P : aP} {o : Nat} (h : L1 sh P o) : P (o + 8) 2 = some (o + 9) := h.2 (8, 2, 9) (by decide)
theorem L1_p8_3 {sh : aS} {P : aP} {o : Nat} (h : L1 sh P o) : P (o + 8) 3 = some (o + 10) := h.2 (8, 3, 10) (by decide)
theorem L1_p8_4 {sh : aS} {P : aP} {o : Nat} (h : L1 sh P o) : P (o + 8) 4 = some (o + 11) := h.2 (8, 4, 11) (by decide)
theorem L1_p8_5 {sh : aS} {P : aP} {o : Nat} (h : L1 sh P o) : P (o + 8) 5 = some (o + 12) := h.2 (8, 5, 12) (by decide)
theorem L1_p13_8 {sh : aS} {P : aP} {o : Nat} (h : L1 sh P o) : P (o + 13) 8 = some (o + 14) := h.2 (13, 8, 14) (by decide)
theorem L1_c2 {sh : aS} {P : aP} {o : Nat} (h : L1 sh P o) : L4 sh P (o + 2) := am_L.sub 2 h (by decide) (by decide)
theorem L1_c8 {sh : aS} {P : aP} {o : Nat} (h : L1 sh P o) : L2 sh P (o + 8) := am_L.sub 8 h (by decide) (by decide)
theorem L1_c13 {sh : aS} {P : aP} {o : Nat} (h : L1 sh P o) : L0 sh P (o + 13) := am_L.sub 13 h (by decide) (by decide)
def S6 : List (Nat ⊕ (Nat × Nat)) := [.inl 6, .inl 1, .inr (0, 6), .inl 4, .inr (0, 6), .inr (0, 6), .inr (0, 6), .inr (0, 6), .inr (0, 6), .inl 2, .inr (0, 12), .inr (0, 12), .inr (0, 12), .inr (0, 12), .inl 0, .inr (0, 6), .inl 1, .inr (0, 6), .inl 4, .inr (0, 6), .inr (0, 6), .inr (0, 6), .inr (0, 6), .inr (0, 6), .inl 2, .inr (0, 12), .inr (0, 12), .inr (0, 12), .inr (0, 12), .inl 0, .inr (0, 6), .inr (4, 2), .inl 5, .inr (3, 1801), .inr (3, 1801), .inl 3, .inr (2, 60)]
def Q6 : List (Nat × Nat × Nat) := [(0, 0, 1), (0, 1, 16), (0, 2, 31), (0, 3, 32), (0, 4, 35), (1, 0, 2), (1, 1, 3), (1, 2, 9), (1, 3, 14), (3, 1, 4), (3, 2, 5), (3, 3, 6), (3, 4, 7), (3, 5, 8), (9, 2, 10), (9, 3, 11), (9, 4, 12), (9, 5, 13), (14, 8, 15), (16, 0, 17), (16, 1, 18), (16, 2, 24), (16, 3, 29), (18, 1, 19), (18, 2, 20), (18, 3, 21), (18, 4, 22), (18, 5, 23), (24, 2, 25), (24, 3, 26), (24, 4, 27), (24, 5, 28), (29, 8, 30), (32, 0, 33), (32, 1, 34), (35, 0, 36)]
abbrev L6 (sh : aS) (P : aP) (o : Nat) : Prop := am_L S6 Q6 sh P o
theorem L6_s0 {sh : aS} {P : aP} {o : Nat} (h : L6 sh P o) : sh[o]? = some (.inl 6) := h.1 0 _ rfl
theorem L6_s1 {sh : aS} {P : aP} {o : Nat} (h : L6 sh P o) : sh[(o + 1)]? = some (.inl 1) := h.1 1 _ rfl
theorem L6_s2 {sh : aS} {P : aP} {o : Nat} (h : L6 sh P o) : sh[(o + 2)]? = some (.inr (0, 6)) := h.1 2 _ rfl
theorem L6_s3 {sh : aS} {P : aP} {o : Nat} (h : L6 sh P o) : sh[(o + 3)]? = some (.inl 4) := h.1 3 _ rfl
theorem L6_s4 {sh : aS} {P : aP} {o : Nat} (h : L6 sh P o) : sh[(o + 4)]? = some (.inr (0, 6)) := h.1 4 _ rfl
theorem L6_s5 {sh : aS} {P : aP} {o : Nat} (h : L6 sh P o) : sh[(o + 5)]? = some (.inr (0, 6)) := h.1 5 _ rfl
theorem L6_s6 {sh : aS} {P : aP} {o : Nat} (h : L6 sh P o) : sh[(o + 6)]? = some (.inr (0, 6)) := h.1 6 _ rfl
theorem L6_s7 {sh : aS} {P : aP} {o : Nat} (h : L6 sh P o) : sh[(o + 7)]? = some (.inr (0, 6)) := h.1 7 _ rfl
theorem L6_s8 {sh : aS} {P : aP} {o : Nat} (h : L6 sh P o) : sh[(o + 8)]? = some (.inr (0, 6)) := h.1 8 _ rfl
theorem L6_s9 {sh : aS} {P : aP} {o : Nat} (h : L6 sh P o) : sh[(o + 9)]? = some (.inl 2) := h.1 9 _ rfl
theorem L6_s10 {sh : aS} {P : aP} {o : Nat} (h : L6 sh P o) : sh[(o + 10)]? = some (.inr (0, 12)) := h.1 10 _ rfl
theorem L6_s11 {sh : aS} {P : aP} {o : Nat} (h : L6 sh P o) : sh[(o + 11)]? = some (.inr (0, 12)) := h.1 11 _ rfl
theorem L6_s12 {sh : aS} {P : aP} {o : Nat} (h : L6 sh P o) : sh[(o + 12)]? = some (.inr (0, 12)) := h.1 12 _ rfl
theorem L6_s13 {sh : aS} {P : aP} {o : Nat} (h : L6 sh P o) : sh[(o + 13)]? = some (.inr (0, 12)) := h.1 13 _ rfl
theorem L6_s14 {sh : aS} {P : aP} {o : Nat} (h : L6 sh P o) : sh[(o + 14)]? = some (.inl 0) := h.1 14 _ rfl
theorem L6_s15 {sh : aS} {P : aP} {o : Nat} (h : L6 sh P o) : sh[(o + 15)]? = some (.inr (0, 6)) := h.1 15 _ rfl
theorem L6_s16 {sh : aS} {P : aP} {o : Nat} (h : L6 sh P o) : sh[(o + 16)]? = some (.inl 1) := h.1 16 _ rfl
theorem L6_s17 {sh : aS} {P : aP} {o : Nat} (h : L6 sh P o) : sh[(o + 17)]? = some (.inr (0, 6)) := h.1 17 _ rfl
theorem L6_s18 {sh : aS} {P : aP} {o : Nat} (h : L6 sh P o) : sh[(o + 18)]? = some (.inl 4) := h.1 18 _ rfl
theorem L6_s19 {sh : aS} {P : aP} {o : Nat} (h : L6 sh P o) : sh[(o + 19)]? = some (.inr (0, 6)) := h.1 19 _ rfl
theorem L6_s20 {sh : aS} {P : aP} {o : Nat} (h : L6 sh P o) : sh[(o + 20)]? = some (.inr (0, 6)) := h.1 20 _ rfl
theorem L6_s21 {sh : aS} {P : aP} {o : Nat} (h : L6 sh P o) : sh[(o + 21)]? = some (.inr (0, 6)) := h.1 21 _ rfl
theorem L6_s22 {sh : aS} {P : aP} {o : Nat} (h : L6 sh P o) : sh[(o + 22)]? = some (.inr (0, 6)) := h.1 22 _ rfl
theorem L6_s23 {sh : aS} {P : aP} {o : Nat} (h : L6 sh P o) : sh[(o + 23)]? = some (.inr (0, 6)) := h.1 23 _ rfl
theorem L6_s24 {sh : aS} {P : aP} {o : Nat} (h : L6 sh P o) : sh[(o + 24)]? = some (.inl 2) := h.1 24 _ rfl
theorem L6_s25 {sh : aS} {P : aP} {o : Nat} (h : L6 sh P o) : sh[(o + 25)]? = some (.inr (0, 12)) := h.1 25 _ rfl
theorem L6_s26 {sh : aS} {P : aP} {o : Nat} (h : L6 sh P o) : sh[(o + 26)]? = some (.inr (0, 12)) := h.1 26 _ rfl
theorem L6_s27 {sh : aS} {P : aP} {o : Nat} (h : L6 sh P o) : sh[(o + 27)]? = some (.inr (0, 12)) := h.1 27 _ rfl
theorem L6_s28 {sh : aS} {P : aP} {o : Nat} (h : L6 sh P o) : sh[(o + 28)]? = some (.inr (0, 12)) := h.1 28 _ rfl
theorem L6_s29 {sh : aS} {P : aP} {o : Nat} (h : L6 sh P o) : sh[(o + 29)]? = some (.inl 0) := h.1 29 _ rfl
theorem L6_s30 {sh : aS} {P : aP} {o : Nat} (h : L6 sh P o) : sh[(o + 30)]? = some (.inr (0, 6)) := h.1 30 _ rfl
theorem L6_s31 {sh : aS} {P : aP} {o : Nat} (h : L6 sh P o) : sh[(o + 31)]? = some (.inr (4, 2)) := h.1 31 _ rfl
theorem L6_s32 {sh : aS} {P : aP} {o : Nat} (h : L6 sh P o) : sh[(o + 32)]? = some (.inl 5) := h.1 32 _ rfl
theorem L6_s33 {sh : aS} {P : aP} {o : Nat} (h : L6 sh P o) : sh[(o + 33)]? = some (.inr (3, 1801)) := h.1 33 _ rfl
theorem L6_s34 {sh : aS} {P : aP} {o : Nat} (h : L6 sh P o) : sh[(o + 34)]? = some (.inr (3, 1801)) := h.1 34 _ rfl
theorem L6_s35 {sh : aS} {P : aP} {o : Nat} (h : L6 sh P o) : sh[(o + 35)]? = some (.inl 3) := h.1 35 _ rfl
theorem L6_s36 {sh : aS} {P : aP} {o : Nat} (h : L6 sh P o) : sh[(o + 36)]? = some (.inr (2, 60)) := h.1 36 _ rfl
theorem L6_p0_0 {sh : aS} {P : aP} {o : Nat} (h : L6 sh P o) : P o 0 = some (o + 1) := h.2 (0, 0, 1) (by decide)
theorem L6_p0_1 {sh : aS} {P : aP} {o : Nat} (h : L6 sh P o) : P o 1 = some (o + 16) := h.2 (0, 1, 16) (by decide)
theorem L6_p0_2 {sh : aS} {P : aP} {o : Nat} (h : L6 sh P o) : P o 2 = some (o + 31) := h.2 (0, 2, 31) (by decide)
theorem L6_p0_3 {sh : aS} {P : aP} {o : Nat} (h : L6 sh P o) : P o 3 = some (o + 32) := h.2 (0, 3, 32) (by decide)
theorem L6_p0_4 {sh : aS} {P : aP} {o : Nat} (h : L6 sh P o) : P o 4 = some (o + 35) := h.2 (0, 4, 35) (by decide)
theorem L6_p1_0 {sh : aS} {P : aP} {o : Nat} (h : L6 sh P o) : P (o + 1) 0 = some (o + 2) := h.2 (1, 0, 2) (by decide)
theorem L6_p1_1 {sh : aS} {P : aP} {o : Nat} (h : L6 sh P o) : P (o + 1) 1 = some (o + 3) := h.2 (1, 1, 3) (by decide)
theorem L6_p1_2 {sh : aS} {P : aP} {o : Nat} (h : L6 sh P o) : P (o + 1) 2 = some (o + 9) := h.2 (1, 2, 9) (by decide)
theorem L6_p1_3 {sh : aS} {P : aP} {o : Nat} (h : L6 sh P o) : P (o + 1) 3 = some (o + 14) := h.2 (1, 3, 14) (by decide)
theorem L6_p3_1 {sh : aS} {P : aP} {o : Nat} (h : L6 sh P o) : P (o + 3) 1 = some (o + 4) := h.2 (3, 1, 4) (by decide)
theorem L6_p3_2 {sh : aS} {P : aP} {o : Nat} (h : L6 sh P o) : P (o + 3) 2 = some (o + 5) := h.2 (3, 2, 5) (by decide)
theorem L6_p3_3 {sh : aS} {P : aP} {o : Nat} (h : L6 sh P o) : P (o + 3) 3 = some (o + 6) := h.2 (3, 3, 6) (by decide)
theorem L6_p3_4 {sh : aS} {P : aP} {o : Nat} (h : L6 sh P o) : P (o + 3) 4 = some (o + 7) := h.2 (3, 4, 7) (by decide)
theorem L6_p3_5 {sh : aS} {P : aP} {o : Nat} (h : L6 sh P o) : P (o + 3) 5 = some (o + 8) := h.2 (3, 5, 8) (by decide)
theorem L6_p9_2 {sh : aS} {P : aP} {o : Nat} (h : L6 sh P o) : P (o + 9) 2 = some (o + 10) := h.2 (9, 2, 10) (by decide)
theorem L6_p9_3 {sh : aS} {P : aP} {o : Nat} (h : L6 sh P o) : P (o + 9) 3 = some (o + 11) := h.2 (9, 3, 11) (by decide)
theorem L6_p9_4 {sh : aS} {P : aP} {o : Nat} (h : L6 sh P o) : P (o + 9) 4 = some (o + 12) := h.2 (9, 4, 12) (by decide)
theorem L6_p9_5 {sh : aS} {P : aP} {o : Nat} (h : L6 sh P o) : P (o + 9) 5 = some (o + 13) := h.2 (9, 5, 13) (by decide)
theorem L6_p14_8 {sh : aS} {P : aP} {o : Nat} (h : L6 sh P o) : P (o + 14) 8 = some (o + 15) := h.2 (14, 8, 15) (by decide)
theorem L6_p16_0 {sh : aS} {P : aP} {o : Nat} (h : L6 sh P o) : P (o + 16) 0 = some (o + 17) := h.2 (16, 0, 17) (by decide)
theorem L6_p16_1 {sh : aS} {P : aP} {o : Nat} (h : L6 sh P o) : P (o + 16) 1 = some (o + 18) := h.2 (16, 1, 18) (by decide)
theorem L6_p16_2 {sh : aS} {P : aP} {o : Nat} (h : L6 sh P o) : P (o + 16) 2 = some (o + 24) := h.2 (16, 2, 24) (by decide)
theorem L6_p16_3 {sh : aS} {P : aP} {o : Nat} (h : L6 sh P o) : P (o + 16) 3 = some (o + 29) := h.2 (16, 3, 29) (by decide)
theorem L6_p18_1 {sh : aS} {P : aP} {o : Nat} (h : L6 sh P o) : P (o + 18) 1 = some (o + 19) := h.2 (18, 1, 19) (by decide)
theorem L6_p18_2 {sh : aS} {P : aP} {o : Nat} (h : L6 sh P o) : P (o + 18) 2 = some (o + 20) := h.2 (18, 2, 20) (by decide)
theorem L6_p18_3 {sh : aS} {P : aP} {o : Nat} (h : L6 sh P o) : P (o + 18) 3 = some (o + 21) := h.2 (18, 3, 21) (by decide)
theorem L6_p18_4 {sh : aS} {P : aP} {o : Nat} (h : L6 sh P o) : P (o + 18) 4 = some (o + 22) := h.2 (18, 4, 22) (by decide)
theorem L6_p18_5 {sh : aS} {P : aP} {o : Nat} (h : L6 sh P o) : P (o + 18) 5 = some (o + 23) := h.2 (18, 5, 23) (by decide)
theorem L6_p24_2 {sh : aS} {P : aP} {o : Nat} (h : L6 sh P o) : P (o + 24) 2 = some (o + 25) := h.2 (24, 2, 25) (by decide)
theorem L6_p24_3 {sh : aS} {P : aP} {o : Nat} (h : L6 sh P o) : P (o + 24) 3 = some (o + 26) := h.2 (24, 3, 26) (by decide)
theorem L6_p24_4 {sh : aS} {P : aP} {o : Nat} (h : L6 sh P o) : P (o + 24) 4 = some (o + 27) := h.2 (24, 4, 27) (by decide)
theorem L6_p24_5 {sh : aS} {P : aP} {o : Nat} (h : L6 sh P o) : P (o + 24) 5 = some (o + 28) := h.2 (24, 5, 28) (by decide)
theorem L6_p29_8 {sh : aS} {P : aP} {o : Nat} (h : L6 sh P o) : P (o + 29) 8 = some (o + 30) := h.2 (29, 8, 30) (by decide)
theorem L6_p32_0 {sh : aS} {P : aP} {o : Nat} (h : L6 sh P o) : P (o + 32) 0 = some (o + 33) := h.2 (32, 0, 33) (by decide)
theorem L6_p32_1 {sh : aS} {P : aP} {o : Nat} (h : L6 sh P o) : P (o + 32) 1 = some (o + 34) := h.2 (32, 1, 34) (by decide)
theorem L6_p35_0 {sh : aS} {P : aP} {o : Nat} (h : L6 sh P o) : P (o + 35) 0 = some (o + 36) := h.2 (35, 0, 36) (by decide)
theorem L6_c1 {sh : aS} {P : aP} {o : Nat} (h : L6 sh P o) : L1 sh P (o + 1) := am_L.sub 1 h (by decide) (by decide)
theorem L6_c16 {sh : aS} {P : aP} {o : Nat} (h : L6 sh P o) : L1 sh P (o + 16) := am_L.sub 16 h (by decide) (by decide)
theorem L6_c32 {sh : aS} {P : aP} {o : Nat} (h : L6 sh P o) : L5 sh P (o + 32) := am_L.sub 32 h (by decide) (by decide)
theorem L6_c35 {sh : aS} {P : aP} {o : Nat} (h : L6 sh P o) : L3 sh P (o + 35) := am_L.sub 35 h (by decide) (by decide)
theorem L6_c3 {sh : aS} {P : aP} {o : Nat} (h : L6 sh P o) : L4 sh P (o + 3) := am_L.sub 3 h (by decide) (by decide)
theorem L6_c9 {sh : aS} {P : aP} {o : Nat} (h : L6 sh P o) : L2 sh P (o + 9) := am_L.sub 9 h (by decide) (by decide)
theorem L6_c14 {sh : aS} {P : aP} {o : Nat} (h : L6 sh P o) : L0 sh P (o + 14) := am_L.sub 14 h (by decide) (by decide)
def S7 : List (Nat ⊕ (Nat × Nat)) := [.inl 7, .inr (0, 118), .inr (0, 118), .inr (0, 236), .inr (1, 2), .inr (0, 60), .inr (0, 6), .inr (3, 1801), .inr (3, 1801), .inr (0, 93)]
def Q7 : List (Nat × Nat × Nat) := [(0, 0, 1), (0, 1, 2), (0, 2, 3), (0, 3, 4), (0, 4, 5), (0, 6, 6), (0, 7, 7), (0, 8, 8), (0, 11, 9)]
abbrev L7 (sh : aS) (P : aP) (o : Nat) : Prop := am_L S7 Q7 sh P o
theorem L7_s0 {sh : aS} {P : aP} {o : Nat} (h : L7 sh P o) : sh[o]? = some (.inl 7) := h.1 0 _ rfl
theorem L7_s1 {sh : aS} {P : aP} {o : Nat} (h : L7 sh P o) : sh[(o + 1)]? = some (.inr (0, 118)) := h.1 1 _ rfl
theorem L7_s2 {sh : aS} {P : aP} {o : Nat} (h : L7 sh P o) : sh[(o + 2)]? = some (.inr (0, 118)) := h.1 2 _ rfl
theorem L7_s3 {sh : aS} {P : aP} {o : Nat} (h : L7 sh P o) : sh[(o + 3)]? = some (.inr (0, 236)) := h.1 3 _ rfl
theorem L7_s4 {sh : aS} {P : aP} {o : Nat} (h : L7 sh P o) : sh[(o + 4)]? = some (.inr (1, 2)) := h.1 4 _ rfl
theorem L7_s5 {sh : aS} {P : aP} {o : Nat} (h : L7 sh P o) : sh[(o + 5)]? = some (.inr (0, 60)) := h.1 5 _ rfl
theorem L7_s6 {sh : aS} {P : aP} {o : Nat} (h : L7 sh P o) : sh[(o + 6)]? = some (.inr (0, 6)) := h.1 6 _ rfl
theorem L7_s7 {sh : aS} {P : aP} {o : Nat} (h : L7 sh P o) : sh[(o + 7)]? = some (.inr (3, 1801)) := h.1 7 _ rfl
theorem L7_s8 {sh : aS} {P : aP} {o : Nat} (h : L7 sh P o) : sh[(o + 8)]? = some (.inr (3, 1801)) := h.1 8 _ rfl
theorem L7_s9 {sh : aS} {P : aP} {o : Nat} (h : L7 sh P o) : sh[(o + 9)]? = some (.inr (0, 93)) := h.1 9 _ rfl
theorem L7_p0_0 {sh : aS} {P : aP} {o : Nat} (h : L7 sh P o) : P o 0 = some (o + 1) := h.2 (0, 0, 1) (by decide)
theorem L7_p0_1 {sh : aS} {P : aP} {o : Nat} (h : L7 sh P o) : P o 1 = some (o + 2) := h.2 (0, 1, 2) (by decide)
theorem L7_p0_2 {sh : aS} {P : aP} {o : Nat} (h : L7 sh P o) : P o 2 = some (o + 3) := h.2 (0, 2, 3) (by decide)
theorem L7_p0_3 {sh : aS} {P : aP} {o : Nat} (h : L7 sh P o) : P o 3 = some (o + 4) := h.2 (0, 3, 4) (by decide)
theorem L7_p0_4 {sh : aS} {P : aP} {o : Nat} (h : L7 sh P o) : P o 4 = some (o + 5) := h.2 (0, 4, 5) (by decide)
theorem L7_p0_6 {sh : aS} {P : aP} {o : Nat} (h : L7 sh P o) : P o 6 = some (o + 6) := h.2 (0, 6, 6) (by decide)
theorem L7_p0_7 {sh : aS} {P : aP} {o : Nat} (h : L7 sh P o) : P o 7 = some (o + 7) := h.2 (0, 7, 7) (by decide)
theorem L7_p0_8 {sh : aS} {P : aP} {o : Nat} (h : L7 sh P o) : P o 8 = some (o + 8) := h.2 (0, 8, 8) (by decide)
theorem L7_p0_11 {sh : aS} {P : aP} {o : Nat} (h : L7 sh P o) : P o 11 = some (o + 9) := h.2 (0, 11, 9) (by decide)
section AP
variable {K : aK} {cc : ByteArray} {nL : Nat} {own nm : String} {R0 : Room} {pc : Nat} {lo lo' : List (Nat × Value)} {st st0 : List Value} {sh : aS} {P : aP} {I : aI} {J : aJ} {cells slots : Nat} {β : Type} {Rs : β}
theorem ar_cVi (X : am_C K cc nL own nm R0) {idx n k fr lc : Nat} {y : MethodName} {b : ByteArray} {ret : Option FieldType} {q ci : Nat} {T : u_T} {n9 : Nat} {As : List Value} {I1 : aI} {J1 : aJ} {r : Int32} (st : List Value) (hd : decode cc pc = .ok (.invokevirtual idx, 3)) (hM : AM y b n ret fr lc (.ref q :: As) sh P I J (some (.int r)) sh P I1 J1 0 0) (hlk : am_lk own idx y) (hm : am_mt y b n ret k) (hm2 : Cond.instanceMethod y ∈ lw_tbl ∧ Cond.selects y.cls y y ∈ lw_tbl) (hs : sh[q]? = some (.inl ci)) (hvc : vwCl[ci]? = some (y.cls, T, n9)) (hn : As.length = k) (hcat : (st.map fun v => v.category).sum ≤ 8) (hroom : fr + 1 ≤ R0.frames ∧ 8 + (n + 11) + lc ≤ R0.locals) (hcells : cells ≤ R0.cells ∧ slots ≤ R0.slots) (hst : As.reverse ++ .ref q :: st = st0) (kk : AW K nL (pc + 3) lo (.int r :: st) sh P I1 J1 cells slots) : AW K nL pc lo st0 sh P I J cells slots := by
  subst hst
  exact ar_callV X hd hM hlk hm hm2 ⟨ci, T, n9, hs, hvc⟩ hn hcat hroom hcells (Nat.le_refl _) (Or.inl rfl) (fun v hv β => by cases hv; rfl) kk
theorem ar_cVl (X : am_C K cc nL own nm R0) {idx n k fr lc : Nat} {y : MethodName} {b : ByteArray} {ret : Option FieldType} {q ci : Nat} {T : u_T} {n9 : Nat} {As : List Value} {I1 : aI} {J1 : aJ} {r : Int64} (st : List Value) (hd : decode cc pc = .ok (.invokevirtual idx, 3)) (hM : AM y b n ret fr lc (.ref q :: As) sh P I J (some (.long r)) sh P I1 J1 0 0) (hlk : am_lk own idx y) (hm : am_mt y b n ret k) (hm2 : Cond.instanceMethod y ∈ lw_tbl ∧ Cond.selects y.cls y y ∈ lw_tbl) (hs : sh[q]? = some (.inl ci)) (hvc : vwCl[ci]? = some (y.cls, T, n9)) (hn : As.length = k) (hcat : (st.map fun v => v.category).sum ≤ 8) (hroom : fr + 1 ≤ R0.frames ∧ 8 + (n + 11) + lc ≤ R0.locals) (hcells : cells ≤ R0.cells ∧ slots ≤ R0.slots) (hst : As.reverse ++ .ref q :: st = st0) (kk : AW K nL (pc + 3) lo (.long r :: st) sh P I1 J1 cells slots) : AW K nL pc lo st0 sh P I J cells slots := by
  subst hst
  exact ar_callV X hd hM hlk hm hm2 ⟨ci, T, n9, hs, hvc⟩ hn hcat hroom hcells (Nat.le_refl _) (Or.inl rfl) (fun v hv β => by cases hv; rfl) kk
theorem ar_cVv (X : am_C K cc nL own nm R0) {idx n k fr lc : Nat} {y : MethodName} {b : ByteArray} {ret : Option FieldType} {q ci : Nat} {T : u_T} {n9 : Nat} {As : List Value} {I1 : aI} {J1 : aJ}  (st : List Value) (hd : decode cc pc = .ok (.invokevirtual idx, 3)) (hM : AM y b n ret fr lc (.ref q :: As) sh P I J none sh P I1 J1 0 0) (hlk : am_lk own idx y) (hm : am_mt y b n ret k) (hm2 : Cond.instanceMethod y ∈ lw_tbl ∧ Cond.selects y.cls y y ∈ lw_tbl) (hs : sh[q]? = some (.inl ci)) (hvc : vwCl[ci]? = some (y.cls, T, n9)) (hn : As.length = k) (hcat : (st.map fun v => v.category).sum ≤ 8) (hroom : fr + 1 ≤ R0.frames ∧ 8 + (n + 11) + lc ≤ R0.locals) (hcells : cells ≤ R0.cells ∧ slots ≤ R0.slots) (hst : As.reverse ++ .ref q :: st = st0) (kk : AW K nL (pc + 3) lo st sh P I1 J1 cells slots) : AW K nL pc lo st0 sh P I J cells slots := by
  subst hst
  exact ar_callV X hd hM hlk hm hm2 ⟨ci, T, n9, hs, hvc⟩ hn hcat hroom hcells (Nat.le_refl _) (Or.inl rfl) (fun v hv β => by cases hv) kk
theorem ar_cSi (X : am_C K cc nL own nm R0) {idx n k fr lc : Nat} {y : MethodName} {b : ByteArray} {ret : Option FieldType}  {As : List Value} {I1 : aI} {J1 : aJ} {r : Int32} (st : List Value) (hd : decode cc pc = .ok (.invokestatic idx, 3)) (hM : AM y b n ret fr lc (As) sh P I J (some (.int r)) sh P I1 J1 0 0) (hlk : am_lk own idx y) (hm : am_mt y b n ret k) (hm2 : Cond.static y ∈ lw_tbl) (hn : As.length = k) (hcat : (st.map fun v => v.category).sum ≤ 8) (hroom : fr + 1 ≤ R0.frames ∧ 8 + (n + 11) + lc ≤ R0.locals) (hcells : cells ≤ R0.cells ∧ slots ≤ R0.slots) (hst : As.reverse ++ st = st0) (kk : AW K nL (pc + 3) lo (.int r :: st) sh P I1 J1 cells slots) : AW K nL pc lo st0 sh P I J cells slots := by
  subst hst
  exact ar_callS X hd hM hlk hm hm2 hn hcat hroom hcells (Nat.le_refl _) (Or.inl rfl) (fun v hv β => by cases hv; rfl) kk
theorem ar_cSl (X : am_C K cc nL own nm R0) {idx n k fr lc : Nat} {y : MethodName} {b : ByteArray} {ret : Option FieldType}  {As : List Value} {I1 : aI} {J1 : aJ} {r : Int64} (st : List Value) (hd : decode cc pc = .ok (.invokestatic idx, 3)) (hM : AM y b n ret fr lc (As) sh P I J (some (.long r)) sh P I1 J1 0 0) (hlk : am_lk own idx y) (hm : am_mt y b n ret k) (hm2 : Cond.static y ∈ lw_tbl) (hn : As.length = k) (hcat : (st.map fun v => v.category).sum ≤ 8) (hroom : fr + 1 ≤ R0.frames ∧ 8 + (n + 11) + lc ≤ R0.locals) (hcells : cells ≤ R0.cells ∧ slots ≤ R0.slots) (hst : As.reverse ++ st = st0) (kk : AW K nL (pc + 3) lo (.long r :: st) sh P I1 J1 cells slots) : AW K nL pc lo st0 sh P I J cells slots := by
  subst hst
  exact ar_callS X hd hM hlk hm hm2 hn hcat hroom hcells (Nat.le_refl _) (Or.inl rfl) (fun v hv β => by cases hv; rfl) kk
theorem ar_cSv (X : am_C K cc nL own nm R0) {idx n k fr lc : Nat} {y : MethodName} {b : ByteArray} {ret : Option FieldType}  {As : List Value} {I1 : aI} {J1 : aJ}  (st : List Value) (hd : decode cc pc = .ok (.invokestatic idx, 3)) (hM : AM y b n ret fr lc (As) sh P I J none sh P I1 J1 0 0) (hlk : am_lk own idx y) (hm : am_mt y b n ret k) (hm2 : Cond.static y ∈ lw_tbl) (hn : As.length = k) (hcat : (st.map fun v => v.category).sum ≤ 8) (hroom : fr + 1 ≤ R0.frames ∧ 8 + (n + 11) + lc ≤ R0.locals) (hcells : cells ≤ R0.cells ∧ slots ≤ R0.slots) (hst : As.reverse ++ st = st0) (kk : AW K nL (pc + 3) lo st sh P I1 J1 cells slots) : AW K nL pc lo st0 sh P I J cells slots := by
  subst hst
  exact ar_callS X hd hM hlk hm hm2 hn hcat hroom hcells (Nat.le_refl _) (Or.inl rfl) (fun v hv β => by cases hv) kk
theorem ar_letI {e : Int32} {F : Int32 → Option β} (hf : am_let e F = some Rs) (kk : ∀ x, F x = some Rs → AW K nL pc lo (.int x :: st) sh P I J cells slots) : AW K nL pc lo (.int e :: st) sh P I J cells slots := kk e hf
theorem ar_letL {e : Int64} {F : Int64 → Option β} (hf : am_let e F = some Rs) (kk : ∀ x, F x = some Rs → AW K nL pc lo (.long x :: st) sh P I J cells slots) : AW K nL pc lo (.long e :: st) sh P I J cells slots := kk e hf
theorem ar_letM {F : aI → Option β} (hf : am_let I F = some Rs) (kk : ∀ I1, F I1 = some Rs → AW K nL pc lo st sh P I1 J cells slots) : AW K nL pc lo st sh P I J cells slots := kk I hf
end AP
def am_b1 {γ β : Type} (x : Option γ) (f : γ → Option β) : Option β := x.bind f
def am_b2 {γ δ β : Type} (x : Option (γ × δ)) (f : γ → δ → Option β) : Option β := x.bind (fun p => f p.1 p.2)
theorem am_b1_e {γ β : Type} {x : Option γ} {f : γ → Option β} {R : β} (h : am_b1 x f = some R) : ∃ a, x = some a ∧ f a = some R := am_bind h
theorem am_b2_e {γ δ β : Type} {x : Option (γ × δ)} {f : γ → δ → Option β} {R : β} (h : am_b2 x f = some R) : ∃ a b, x = some (a, b) ∧ f a b = some R := by
  obtain ⟨p, h1, h2⟩ := am_bind h
  exact ⟨p.1, p.2, h1, h2⟩
def am_zk (v : Int32) : Bool := decide (v = 0 ∨ v = 1)
theorem am_zn {v : Int32} (h : am_zk v = true) : narrow .boolean (.int v) = .int v ∧ fits .boolean (.int v) = true := by
  rcases of_decide_eq_true h with rfl | rfl
  · exact ⟨rfl, rfl⟩
  · exact ⟨rfl, rfl⟩
theorem am_F_ex : ∃ n : Nat, n = 2000000 := ⟨_, rfl⟩
noncomputable def am_F : Nat := Classical.choose am_F_ex
theorem am_F_val : am_F = 2000000 := Classical.choose_spec am_F_ex
