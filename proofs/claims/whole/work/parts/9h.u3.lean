/-! the law's loop -/
theorem sw_43 {P : Nat → Prop} {c : Int} (h0 : P 220) (h1 : P 243) (h2 : P 276) (h3 : P 299) (h4 : P 342) (h5 : P 385) (h6 : P 448) (h7 : P 471) (h8 : P 504) (h9 : P 537) (h10 : P 590) (h11 : P 653) (h12 : P 726) (h13 : P 759) (h14 : P 792) (h15 : P 815) (h16 : P 848) (h17 : P 891) (h18 : P 934) (h19 : P 977) (h20 : P 1020) (h21 : P 1063) (h22 : P 1106) (h23 : P 1139) (h24 : P 1172) (h25 : P 1205) (h26 : P 1238) (h27 : P 1261) (h28 : P 1304) (h29 : P 1327) (h30 : P 1360) (h31 : P 1393) (h32 : P 1436) (h33 : P 1459) (h34 : P 1522) (h35 : P 1535) (h36 : P 1558) (h37 : P 1581) (h38 : P 1594) (h39 : P 1607) (h40 : P 1630) (h41 : P 1653) (h42 : P 1666) (hd : P 1679) : P (swt [(0, 220), (1, 243), (2, 276), (3, 299), (4, 342), (5, 385), (6, 448), (7, 471), (8, 504), (9, 537), (10, 590), (11, 653), (12, 726), (13, 759), (14, 792), (15, 815), (16, 848), (17, 891), (18, 934), (19, 977), (20, 1020), (21, 1063), (22, 1106), (23, 1139), (24, 1172), (25, 1205), (26, 1238), (27, 1261), (28, 1304), (29, 1327), (30, 1360), (31, 1393), (32, 1436), (33, 1459), (34, 1522), (35, 1535), (36, 1558), (37, 1581), (38, 1594), (39, 1607), (40, 1630), (41, 1653), (42, 1666)] 1679 c) := by
  unfold swt
  rcases Classical.em (c = 0) with e | e
  · rw [if_pos e]; exact h0
  rw [if_neg e]
  unfold swt
  rcases Classical.em (c = 1) with e | e
  · rw [if_pos e]; exact h1
  rw [if_neg e]
  unfold swt
  rcases Classical.em (c = 2) with e | e
  · rw [if_pos e]; exact h2
  rw [if_neg e]
  unfold swt
  rcases Classical.em (c = 3) with e | e
  · rw [if_pos e]; exact h3
  rw [if_neg e]
  unfold swt
  rcases Classical.em (c = 4) with e | e
  · rw [if_pos e]; exact h4
  rw [if_neg e]
  unfold swt
  rcases Classical.em (c = 5) with e | e
  · rw [if_pos e]; exact h5
  rw [if_neg e]
  unfold swt
  rcases Classical.em (c = 6) with e | e
  · rw [if_pos e]; exact h6
  rw [if_neg e]
  unfold swt
  rcases Classical.em (c = 7) with e | e
  · rw [if_pos e]; exact h7
  rw [if_neg e]
  unfold swt
  rcases Classical.em (c = 8) with e | e
  · rw [if_pos e]; exact h8
  rw [if_neg e]
  unfold swt
  rcases Classical.em (c = 9) with e | e
  · rw [if_pos e]; exact h9
  rw [if_neg e]
  unfold swt
  rcases Classical.em (c = 10) with e | e
  · rw [if_pos e]; exact h10
  rw [if_neg e]
  unfold swt
  rcases Classical.em (c = 11) with e | e
  · rw [if_pos e]; exact h11
  rw [if_neg e]
  unfold swt
  rcases Classical.em (c = 12) with e | e
  · rw [if_pos e]; exact h12
  rw [if_neg e]
  unfold swt
  rcases Classical.em (c = 13) with e | e
  · rw [if_pos e]; exact h13
  rw [if_neg e]
  unfold swt
  rcases Classical.em (c = 14) with e | e
  · rw [if_pos e]; exact h14
  rw [if_neg e]
  unfold swt
  rcases Classical.em (c = 15) with e | e
  · rw [if_pos e]; exact h15
  rw [if_neg e]
  unfold swt
  rcases Classical.em (c = 16) with e | e
  · rw [if_pos e]; exact h16
  rw [if_neg e]
  unfold swt
  rcases Classical.em (c = 17) with e | e
  · rw [if_pos e]; exact h17
  rw [if_neg e]
  unfold swt
  rcases Classical.em (c = 18) with e | e
  · rw [if_pos e]; exact h18
  rw [if_neg e]
  unfold swt
  rcases Classical.em (c = 19) with e | e
  · rw [if_pos e]; exact h19
  rw [if_neg e]
  unfold swt
  rcases Classical.em (c = 20) with e | e
  · rw [if_pos e]; exact h20
  rw [if_neg e]
  unfold swt
  rcases Classical.em (c = 21) with e | e
  · rw [if_pos e]; exact h21
  rw [if_neg e]
  unfold swt
  rcases Classical.em (c = 22) with e | e
  · rw [if_pos e]; exact h22
  rw [if_neg e]
  unfold swt
  rcases Classical.em (c = 23) with e | e
  · rw [if_pos e]; exact h23
  rw [if_neg e]
  unfold swt
  rcases Classical.em (c = 24) with e | e
  · rw [if_pos e]; exact h24
  rw [if_neg e]
  unfold swt
  rcases Classical.em (c = 25) with e | e
  · rw [if_pos e]; exact h25
  rw [if_neg e]
  unfold swt
  rcases Classical.em (c = 26) with e | e
  · rw [if_pos e]; exact h26
  rw [if_neg e]
  unfold swt
  rcases Classical.em (c = 27) with e | e
  · rw [if_pos e]; exact h27
  rw [if_neg e]
  unfold swt
  rcases Classical.em (c = 28) with e | e
  · rw [if_pos e]; exact h28
  rw [if_neg e]
  unfold swt
  rcases Classical.em (c = 29) with e | e
  · rw [if_pos e]; exact h29
  rw [if_neg e]
  unfold swt
  rcases Classical.em (c = 30) with e | e
  · rw [if_pos e]; exact h30
  rw [if_neg e]
  unfold swt
  rcases Classical.em (c = 31) with e | e
  · rw [if_pos e]; exact h31
  rw [if_neg e]
  unfold swt
  rcases Classical.em (c = 32) with e | e
  · rw [if_pos e]; exact h32
  rw [if_neg e]
  unfold swt
  rcases Classical.em (c = 33) with e | e
  · rw [if_pos e]; exact h33
  rw [if_neg e]
  unfold swt
  rcases Classical.em (c = 34) with e | e
  · rw [if_pos e]; exact h34
  rw [if_neg e]
  unfold swt
  rcases Classical.em (c = 35) with e | e
  · rw [if_pos e]; exact h35
  rw [if_neg e]
  unfold swt
  rcases Classical.em (c = 36) with e | e
  · rw [if_pos e]; exact h36
  rw [if_neg e]
  unfold swt
  rcases Classical.em (c = 37) with e | e
  · rw [if_pos e]; exact h37
  rw [if_neg e]
  unfold swt
  rcases Classical.em (c = 38) with e | e
  · rw [if_pos e]; exact h38
  rw [if_neg e]
  unfold swt
  rcases Classical.em (c = 39) with e | e
  · rw [if_pos e]; exact h39
  rw [if_neg e]
  unfold swt
  rcases Classical.em (c = 40) with e | e
  · rw [if_pos e]; exact h40
  rw [if_neg e]
  unfold swt
  rcases Classical.em (c = 41) with e | e
  · rw [if_pos e]; exact h41
  rw [if_neg e]
  unfold swt
  rcases Classical.em (c = 42) with e | e
  · rw [if_pos e]; exact h42
  rw [if_neg e]
  exact hd
set_option maxRecDepth 20000 in
theorem lw_loop {d : Nat} {L : Nat} {sc : Nat → Int} {k : Option MV → Mem → Prop} (hL : L ≤ 3072) (hk : ∀ D, k (some (vi 1)) (G0, D)) : ∀ (f i : Nat) (D : Dat), L ≤ i + 6 * f → i ≤ 3072 → LwI L sc D → Rn (d + 12) 215 k 18 [vr 1, vr 2, vr 1052, vi (i : Int)] [] (G0, D) := by
  intro f
  induction f with
  | zero =>
    intro i D hf hi h
    have l0 := h.choose_spec.choose_spec.choose_spec.choose_spec.choose_spec.choose_spec.1.1
    rw [r_215_18]
    simp (disch := first | omega | assumption | (simp only [cs_n, cs_i, cs_l, cs_r, Nat.reduceAdd]; omega) | (simp (disch := omega) only [kd_2, kd_3, kd_4, ln_4, kd_53, kd_54, ln_54, kd_103, ln_103, kd_104, kd_105, ln_105, kd_106, ln_106, kd_107, kd_108, ln_108, kd_109, ln_109, kd_110, kd_111, ln_111, kd_112, ln_112, kd_113, kd_114, ln_114, kd_115, ln_115, kd_116, kd_117, ln_117, kd_118, kd_119, ln_119, kd_120, ln_120, kd_377, ln_377, kd_634, kd_635, kd_690, ln_690, kd_755, ln_755, kd_756, ln_756, kd_757, ln_757, kd_770, kd_771, ln_771, kd_772, ln_772, kd_773, kdF_120, lnF_120, kdF_377, lnF_377, kdF_690, lnF_690, kdF_4, kdF_54, kd_828, kd_840, kd_758]; done) | (simp (disch := omega) only [kd_2, kd_3, kd_4, ln_4, kd_53, kd_54, ln_54, kd_103, ln_103, kd_104, kd_105, ln_105, kd_106, ln_106, kd_107, kd_108, ln_108, kd_109, ln_109, kd_110, kd_111, ln_111, kd_112, ln_112, kd_113, kd_114, ln_114, kd_115, ln_115, kd_116, kd_117, ln_117, kd_118, kd_119, ln_119, kd_120, ln_120, kd_377, ln_377, kd_634, kd_635, kd_690, ln_690, kd_755, ln_755, kd_756, ln_756, kd_757, ln_757, kd_770, kd_771, ln_771, kd_772, ln_772, kd_773, kdF_120, lnF_120, kdF_377, lnF_377, kdF_690, lnF_690, kdF_4, kdF_54, kd_828, kd_840, kd_758]; omega)) only [r_215_0, r_215_220, r_215_243, r_215_276, r_215_299, r_215_342, r_215_385, r_215_448, r_215_471, r_215_504, r_215_537, r_215_590, r_215_653, r_215_726, r_215_759, r_215_792, r_215_815, r_215_848, r_215_891, r_215_934, r_215_977, r_215_1020, r_215_1063, r_215_1106, r_215_1139, r_215_1172, r_215_1205, r_215_1238, r_215_1261, r_215_1304, r_215_1327, r_215_1360, r_215_1393, r_215_1436, r_215_1459, r_215_1522, r_215_1535, r_215_1558, r_215_1581, r_215_1594, r_215_1607, r_215_1630, r_215_1653, r_215_1666, r_215_1679, r_215_1685, rf_2_0, rf_2_1, rf_2_2, rf_2_4, rf_2_5, rf_2_6, rf_2_7, rf_2_8, rf_2_9, rf_2_10, rf_3_1, rf_53_1, rf_104_0, rf_104_1, rf_107_0, rf_107_1, rf_110_0, rf_110_1, rf_113_0, rf_113_1, rf_113_2, rf_113_3, rf_113_4, rf_113_5, rf_116_0, rf_118_0, rf_634_0, rf_634_1, rf_634_2, rf_634_3, rf_634_4, rf_634_5, rf_634_6, rf_634_7, rf_634_8, rf_635_0, rf_635_1, rf_635_2, rf_635_3, rf_635_4, rf_635_5, rf_770_0, rf_773_0, rf_773_1, rf_773_2, rf_773_3, rf_773_4, rf_773_5, rfF_120, rfF_377, rfF_690, rfF_4, rfF_54, rfF_103, x_nil, x_0, x_1, x_2, x_3, x_4, x_5, x_6, x_7, x_8, x_9, x_10, x_11, x_14, x_15, x_16, x_17, x_18, x_21, x_22, x_12, x_13, x_19, x_20, x_23, x_24_0t, x_24_0f, x_24_1t, x_24_1f, x_24_2t, x_24_2f, x_24_3t, x_24_3f, x_24_4t, x_24_4f, x_24_5t, x_24_5f, x_25, x_26, x_27, x_28_0t, x_28_0f, x_29_0t, x_29_0f, x_28_1t, x_28_1f, x_29_1t, x_29_1f, x_28_2t, x_28_2f, x_29_2t, x_29_2f, x_28_3t, x_28_3f, x_29_3t, x_29_3f, x_28_4t, x_28_4f, x_29_4t, x_29_4f, x_28_5t, x_28_5f, x_29_5t, x_29_5f, x_30, x_31, x_32, x_33, x_34, x_35, x_37, x_38, x_39, x_40, x_41, x_42, x_43, x_45, x_63, x_64, x_51_0, x_51_1, x_51_2, x_51_3, x_51_4, x_51_5, x_52_1, x_52_2, x_52_3, x_52_4, x_52_5, x_52_6, x_54, x_55, x_56, x_57, x_58, x_59, x_60i, x_60r, x_61i, x_61r, x_62, gL_0, p1_0, p2_0, gL_1, p1_1, p2_1, gL_2, p1_2, p2_2, gL_3, p1_3, p2_3, gL_4, p1_4, p2_4, gL_5, p1_5, p2_5, gL_6, p1_6, p2_6, gL_7, p1_7, p2_7, gL_8, p1_8, p2_8, gL_9, p1_9, p2_9, gL_10, p1_10, p2_10, gL_11, p1_11, p2_11, gL_12, p1_12, p2_12, isL_i, isL_l, isL_r, isL_u, cs_n, cs_i, cs_l, cs_r, tl_s, tl_n, and_self, true_and, and_true, Nat.reduceAdd, Bool.false_eq_true, if_false, if_true, Nat.zero_add, Nat.add_zero, Int.toNat_natCast, Nat.reduceLeDiff, Int.reduceToNat, ite_false, ite_true, w32_eq, w64_eq, tmod_nn, tdiv_nn, upD_at, ct_s, ct_1, ct_9, ct_17, ct_a, ct_m, ct_8, l0]
    exact hk D
  | succ f ih =>
    intro i D hf hi h
    have l0 := h.choose_spec.choose_spec.choose_spec.choose_spec.choose_spec.choose_spec.1.1
    rcases Classical.em (i + 6 ≤ L) with e | e
    · have fin : ∀ D', LwI L sc D' → Rn (d + 12) 215 k 18 [vr 1, vr 2, vr 1052, vi ((i : Int) + 6)] [] (G0, D') := fun D' h' => ih (i + 6) D' (by omega) (by omega) h'
      rw [r_215_18]
      simp (disch := first | omega | assumption | (simp only [cs_n, cs_i, cs_l, cs_r, Nat.reduceAdd]; omega) | (simp (disch := omega) only [kd_2, kd_3, kd_4, ln_4, kd_53, kd_54, ln_54, kd_103, ln_103, kd_104, kd_105, ln_105, kd_106, ln_106, kd_107, kd_108, ln_108, kd_109, ln_109, kd_110, kd_111, ln_111, kd_112, ln_112, kd_113, kd_114, ln_114, kd_115, ln_115, kd_116, kd_117, ln_117, kd_118, kd_119, ln_119, kd_120, ln_120, kd_377, ln_377, kd_634, kd_635, kd_690, ln_690, kd_755, ln_755, kd_756, ln_756, kd_757, ln_757, kd_770, kd_771, ln_771, kd_772, ln_772, kd_773, kdF_120, lnF_120, kdF_377, lnF_377, kdF_690, lnF_690, kdF_4, kdF_54, kd_828, kd_840, kd_758]; done) | (simp (disch := omega) only [kd_2, kd_3, kd_4, ln_4, kd_53, kd_54, ln_54, kd_103, ln_103, kd_104, kd_105, ln_105, kd_106, ln_106, kd_107, kd_108, ln_108, kd_109, ln_109, kd_110, kd_111, ln_111, kd_112, ln_112, kd_113, kd_114, ln_114, kd_115, ln_115, kd_116, kd_117, ln_117, kd_118, kd_119, ln_119, kd_120, ln_120, kd_377, ln_377, kd_634, kd_635, kd_690, ln_690, kd_755, ln_755, kd_756, ln_756, kd_757, ln_757, kd_770, kd_771, ln_771, kd_772, ln_772, kd_773, kdF_120, lnF_120, kdF_377, lnF_377, kdF_690, lnF_690, kdF_4, kdF_54, kd_828, kd_840, kd_758]; omega)) only [r_215_0, r_215_220, r_215_243, r_215_276, r_215_299, r_215_342, r_215_385, r_215_448, r_215_471, r_215_504, r_215_537, r_215_590, r_215_653, r_215_726, r_215_759, r_215_792, r_215_815, r_215_848, r_215_891, r_215_934, r_215_977, r_215_1020, r_215_1063, r_215_1106, r_215_1139, r_215_1172, r_215_1205, r_215_1238, r_215_1261, r_215_1304, r_215_1327, r_215_1360, r_215_1393, r_215_1436, r_215_1459, r_215_1522, r_215_1535, r_215_1558, r_215_1581, r_215_1594, r_215_1607, r_215_1630, r_215_1653, r_215_1666, r_215_1679, r_215_1685, rf_2_0, rf_2_1, rf_2_2, rf_2_4, rf_2_5, rf_2_6, rf_2_7, rf_2_8, rf_2_9, rf_2_10, rf_3_1, rf_53_1, rf_104_0, rf_104_1, rf_107_0, rf_107_1, rf_110_0, rf_110_1, rf_113_0, rf_113_1, rf_113_2, rf_113_3, rf_113_4, rf_113_5, rf_116_0, rf_118_0, rf_634_0, rf_634_1, rf_634_2, rf_634_3, rf_634_4, rf_634_5, rf_634_6, rf_634_7, rf_634_8, rf_635_0, rf_635_1, rf_635_2, rf_635_3, rf_635_4, rf_635_5, rf_770_0, rf_773_0, rf_773_1, rf_773_2, rf_773_3, rf_773_4, rf_773_5, rfF_120, rfF_377, rfF_690, rfF_4, rfF_54, rfF_103, x_nil, x_0, x_1, x_2, x_3, x_4, x_5, x_6, x_7, x_8, x_9, x_10, x_11, x_14, x_15, x_16, x_17, x_18, x_21, x_22, x_12, x_13, x_19, x_20, x_23, x_24_0t, x_24_0f, x_24_1t, x_24_1f, x_24_2t, x_24_2f, x_24_3t, x_24_3f, x_24_4t, x_24_4f, x_24_5t, x_24_5f, x_25, x_26, x_27, x_28_0t, x_28_0f, x_29_0t, x_29_0f, x_28_1t, x_28_1f, x_29_1t, x_29_1f, x_28_2t, x_28_2f, x_29_2t, x_29_2f, x_28_3t, x_28_3f, x_29_3t, x_29_3f, x_28_4t, x_28_4f, x_29_4t, x_29_4f, x_28_5t, x_28_5f, x_29_5t, x_29_5f, x_30, x_31, x_32, x_33, x_34, x_35, x_37, x_38, x_39, x_40, x_41, x_42, x_43, x_45, x_63, x_64, x_51_0, x_51_1, x_51_2, x_51_3, x_51_4, x_51_5, x_52_1, x_52_2, x_52_3, x_52_4, x_52_5, x_52_6, x_54, x_55, x_56, x_57, x_58, x_59, x_60i, x_60r, x_61i, x_61r, x_62, gL_0, p1_0, p2_0, gL_1, p1_1, p2_1, gL_2, p1_2, p2_2, gL_3, p1_3, p2_3, gL_4, p1_4, p2_4, gL_5, p1_5, p2_5, gL_6, p1_6, p2_6, gL_7, p1_7, p2_7, gL_8, p1_8, p2_8, gL_9, p1_9, p2_9, gL_10, p1_10, p2_10, gL_11, p1_11, p2_11, gL_12, p1_12, p2_12, isL_i, isL_l, isL_r, isL_u, cs_n, cs_i, cs_l, cs_r, tl_s, tl_n, and_self, true_and, and_true, Nat.reduceAdd, Bool.false_eq_true, if_false, if_true, Nat.zero_add, Nat.add_zero, Int.toNat_natCast, Nat.reduceLeDiff, Int.reduceToNat, ite_false, ite_true, w32_eq, w64_eq, tmod_nn, tdiv_nn, upD_at, ct_s, ct_1, ct_9, ct_17, ct_a, ct_m, ct_8, l0]
      refine sw_43 (P := fun t => Rn (d + 12) 215 k t [vr 1, vr 2, vr 1052, vi (i : Int)] [] (G0, D)) (lw_c220 (by omega) (by omega) h fin) (lw_c243 (by omega) (by omega) h fin) (lw_c276 (by omega) (by omega) h fin) (lw_c299 (by omega) (by omega) h fin) (lw_c342 (by omega) (by omega) h fin) (lw_c385 (by omega) (by omega) h fin) (lw_c448 (by omega) (by omega) h fin) (lw_c471 (by omega) (by omega) h fin) (lw_c504 (by omega) (by omega) h fin) (lw_c537 (by omega) (by omega) h fin) (lw_c590 (by omega) (by omega) h fin) (lw_c653 (by omega) (by omega) h fin) (lw_c726 (by omega) (by omega) h fin) (lw_c759 (by omega) (by omega) h fin) (lw_c792 (by omega) (by omega) h fin) (lw_c815 (by omega) (by omega) h fin) (lw_c848 (by omega) (by omega) h fin) (lw_c891 (by omega) (by omega) h fin) (lw_c934 (by omega) (by omega) h fin) (lw_c977 (by omega) (by omega) h fin) (lw_c1020 (by omega) (by omega) h fin) (lw_c1063 (by omega) (by omega) h fin) (lw_c1106 (by omega) (by omega) h fin) (lw_c1139 (by omega) (by omega) h fin) (lw_c1172 (by omega) (by omega) h fin) (lw_c1205 (by omega) (by omega) h fin) (lw_c1238 (by omega) (by omega) h fin) (lw_c1261 (by omega) (by omega) h fin) (lw_c1304 (by omega) (by omega) h fin) (lw_c1327 (by omega) (by omega) h fin) (lw_c1360 (by omega) (by omega) h fin) (lw_c1393 (by omega) (by omega) h fin) (lw_c1436 (by omega) (by omega) h fin) (lw_c1459 (by omega) (by omega) h fin) (lw_c1522 (by omega) (by omega) h fin) (lw_c1535 (by omega) (by omega) h fin) (lw_c1558 (by omega) (by omega) h fin) (lw_c1581 (by omega) (by omega) h fin) (lw_c1594 (by omega) (by omega) h fin) (lw_c1607 (by omega) (by omega) h fin) (lw_c1630 (by omega) (by omega) h fin) (lw_c1653 (by omega) (by omega) h fin) (lw_c1666 (by omega) (by omega) h fin) ?_
      simp (disch := first | omega | assumption | (simp only [cs_n, cs_i, cs_l, cs_r, Nat.reduceAdd]; omega) | (simp (disch := omega) only [kd_2, kd_3, kd_4, ln_4, kd_53, kd_54, ln_54, kd_103, ln_103, kd_104, kd_105, ln_105, kd_106, ln_106, kd_107, kd_108, ln_108, kd_109, ln_109, kd_110, kd_111, ln_111, kd_112, ln_112, kd_113, kd_114, ln_114, kd_115, ln_115, kd_116, kd_117, ln_117, kd_118, kd_119, ln_119, kd_120, ln_120, kd_377, ln_377, kd_634, kd_635, kd_690, ln_690, kd_755, ln_755, kd_756, ln_756, kd_757, ln_757, kd_770, kd_771, ln_771, kd_772, ln_772, kd_773, kdF_120, lnF_120, kdF_377, lnF_377, kdF_690, lnF_690, kdF_4, kdF_54, kd_828, kd_840, kd_758]; done) | (simp (disch := omega) only [kd_2, kd_3, kd_4, ln_4, kd_53, kd_54, ln_54, kd_103, ln_103, kd_104, kd_105, ln_105, kd_106, ln_106, kd_107, kd_108, ln_108, kd_109, ln_109, kd_110, kd_111, ln_111, kd_112, ln_112, kd_113, kd_114, ln_114, kd_115, ln_115, kd_116, kd_117, ln_117, kd_118, kd_119, ln_119, kd_120, ln_120, kd_377, ln_377, kd_634, kd_635, kd_690, ln_690, kd_755, ln_755, kd_756, ln_756, kd_757, ln_757, kd_770, kd_771, ln_771, kd_772, ln_772, kd_773, kdF_120, lnF_120, kdF_377, lnF_377, kdF_690, lnF_690, kdF_4, kdF_54, kd_828, kd_840, kd_758]; omega)) only [r_215_0, r_215_220, r_215_243, r_215_276, r_215_299, r_215_342, r_215_385, r_215_448, r_215_471, r_215_504, r_215_537, r_215_590, r_215_653, r_215_726, r_215_759, r_215_792, r_215_815, r_215_848, r_215_891, r_215_934, r_215_977, r_215_1020, r_215_1063, r_215_1106, r_215_1139, r_215_1172, r_215_1205, r_215_1238, r_215_1261, r_215_1304, r_215_1327, r_215_1360, r_215_1393, r_215_1436, r_215_1459, r_215_1522, r_215_1535, r_215_1558, r_215_1581, r_215_1594, r_215_1607, r_215_1630, r_215_1653, r_215_1666, r_215_1679, r_215_1685, rf_2_0, rf_2_1, rf_2_2, rf_2_4, rf_2_5, rf_2_6, rf_2_7, rf_2_8, rf_2_9, rf_2_10, rf_3_1, rf_53_1, rf_104_0, rf_104_1, rf_107_0, rf_107_1, rf_110_0, rf_110_1, rf_113_0, rf_113_1, rf_113_2, rf_113_3, rf_113_4, rf_113_5, rf_116_0, rf_118_0, rf_634_0, rf_634_1, rf_634_2, rf_634_3, rf_634_4, rf_634_5, rf_634_6, rf_634_7, rf_634_8, rf_635_0, rf_635_1, rf_635_2, rf_635_3, rf_635_4, rf_635_5, rf_770_0, rf_773_0, rf_773_1, rf_773_2, rf_773_3, rf_773_4, rf_773_5, rfF_120, rfF_377, rfF_690, rfF_4, rfF_54, rfF_103, x_nil, x_0, x_1, x_2, x_3, x_4, x_5, x_6, x_7, x_8, x_9, x_10, x_11, x_14, x_15, x_16, x_17, x_18, x_21, x_22, x_12, x_13, x_19, x_20, x_23, x_24_0t, x_24_0f, x_24_1t, x_24_1f, x_24_2t, x_24_2f, x_24_3t, x_24_3f, x_24_4t, x_24_4f, x_24_5t, x_24_5f, x_25, x_26, x_27, x_28_0t, x_28_0f, x_29_0t, x_29_0f, x_28_1t, x_28_1f, x_29_1t, x_29_1f, x_28_2t, x_28_2f, x_29_2t, x_29_2f, x_28_3t, x_28_3f, x_29_3t, x_29_3f, x_28_4t, x_28_4f, x_29_4t, x_29_4f, x_28_5t, x_28_5f, x_29_5t, x_29_5f, x_30, x_31, x_32, x_33, x_34, x_35, x_37, x_38, x_39, x_40, x_41, x_42, x_43, x_45, x_63, x_64, x_51_0, x_51_1, x_51_2, x_51_3, x_51_4, x_51_5, x_52_1, x_52_2, x_52_3, x_52_4, x_52_5, x_52_6, x_54, x_55, x_56, x_57, x_58, x_59, x_60i, x_60r, x_61i, x_61r, x_62, gL_0, p1_0, p2_0, gL_1, p1_1, p2_1, gL_2, p1_2, p2_2, gL_3, p1_3, p2_3, gL_4, p1_4, p2_4, gL_5, p1_5, p2_5, gL_6, p1_6, p2_6, gL_7, p1_7, p2_7, gL_8, p1_8, p2_8, gL_9, p1_9, p2_9, gL_10, p1_10, p2_10, gL_11, p1_11, p2_11, gL_12, p1_12, p2_12, isL_i, isL_l, isL_r, isL_u, cs_n, cs_i, cs_l, cs_r, tl_s, tl_n, and_self, true_and, and_true, Nat.reduceAdd, Bool.false_eq_true, if_false, if_true, Nat.zero_add, Nat.add_zero, Int.toNat_natCast, Nat.reduceLeDiff, Int.reduceToNat, ite_false, ite_true, w32_eq, w64_eq, tmod_nn, tdiv_nn, upD_at, ct_s, ct_1, ct_9, ct_17, ct_a, ct_m, ct_8]
      exact fin D h
    · rw [r_215_18]
      simp (disch := first | omega | assumption | (simp only [cs_n, cs_i, cs_l, cs_r, Nat.reduceAdd]; omega) | (simp (disch := omega) only [kd_2, kd_3, kd_4, ln_4, kd_53, kd_54, ln_54, kd_103, ln_103, kd_104, kd_105, ln_105, kd_106, ln_106, kd_107, kd_108, ln_108, kd_109, ln_109, kd_110, kd_111, ln_111, kd_112, ln_112, kd_113, kd_114, ln_114, kd_115, ln_115, kd_116, kd_117, ln_117, kd_118, kd_119, ln_119, kd_120, ln_120, kd_377, ln_377, kd_634, kd_635, kd_690, ln_690, kd_755, ln_755, kd_756, ln_756, kd_757, ln_757, kd_770, kd_771, ln_771, kd_772, ln_772, kd_773, kdF_120, lnF_120, kdF_377, lnF_377, kdF_690, lnF_690, kdF_4, kdF_54, kd_828, kd_840, kd_758]; done) | (simp (disch := omega) only [kd_2, kd_3, kd_4, ln_4, kd_53, kd_54, ln_54, kd_103, ln_103, kd_104, kd_105, ln_105, kd_106, ln_106, kd_107, kd_108, ln_108, kd_109, ln_109, kd_110, kd_111, ln_111, kd_112, ln_112, kd_113, kd_114, ln_114, kd_115, ln_115, kd_116, kd_117, ln_117, kd_118, kd_119, ln_119, kd_120, ln_120, kd_377, ln_377, kd_634, kd_635, kd_690, ln_690, kd_755, ln_755, kd_756, ln_756, kd_757, ln_757, kd_770, kd_771, ln_771, kd_772, ln_772, kd_773, kdF_120, lnF_120, kdF_377, lnF_377, kdF_690, lnF_690, kdF_4, kdF_54, kd_828, kd_840, kd_758]; omega)) only [r_215_0, r_215_220, r_215_243, r_215_276, r_215_299, r_215_342, r_215_385, r_215_448, r_215_471, r_215_504, r_215_537, r_215_590, r_215_653, r_215_726, r_215_759, r_215_792, r_215_815, r_215_848, r_215_891, r_215_934, r_215_977, r_215_1020, r_215_1063, r_215_1106, r_215_1139, r_215_1172, r_215_1205, r_215_1238, r_215_1261, r_215_1304, r_215_1327, r_215_1360, r_215_1393, r_215_1436, r_215_1459, r_215_1522, r_215_1535, r_215_1558, r_215_1581, r_215_1594, r_215_1607, r_215_1630, r_215_1653, r_215_1666, r_215_1679, r_215_1685, rf_2_0, rf_2_1, rf_2_2, rf_2_4, rf_2_5, rf_2_6, rf_2_7, rf_2_8, rf_2_9, rf_2_10, rf_3_1, rf_53_1, rf_104_0, rf_104_1, rf_107_0, rf_107_1, rf_110_0, rf_110_1, rf_113_0, rf_113_1, rf_113_2, rf_113_3, rf_113_4, rf_113_5, rf_116_0, rf_118_0, rf_634_0, rf_634_1, rf_634_2, rf_634_3, rf_634_4, rf_634_5, rf_634_6, rf_634_7, rf_634_8, rf_635_0, rf_635_1, rf_635_2, rf_635_3, rf_635_4, rf_635_5, rf_770_0, rf_773_0, rf_773_1, rf_773_2, rf_773_3, rf_773_4, rf_773_5, rfF_120, rfF_377, rfF_690, rfF_4, rfF_54, rfF_103, x_nil, x_0, x_1, x_2, x_3, x_4, x_5, x_6, x_7, x_8, x_9, x_10, x_11, x_14, x_15, x_16, x_17, x_18, x_21, x_22, x_12, x_13, x_19, x_20, x_23, x_24_0t, x_24_0f, x_24_1t, x_24_1f, x_24_2t, x_24_2f, x_24_3t, x_24_3f, x_24_4t, x_24_4f, x_24_5t, x_24_5f, x_25, x_26, x_27, x_28_0t, x_28_0f, x_29_0t, x_29_0f, x_28_1t, x_28_1f, x_29_1t, x_29_1f, x_28_2t, x_28_2f, x_29_2t, x_29_2f, x_28_3t, x_28_3f, x_29_3t, x_29_3f, x_28_4t, x_28_4f, x_29_4t, x_29_4f, x_28_5t, x_28_5f, x_29_5t, x_29_5f, x_30, x_31, x_32, x_33, x_34, x_35, x_37, x_38, x_39, x_40, x_41, x_42, x_43, x_45, x_63, x_64, x_51_0, x_51_1, x_51_2, x_51_3, x_51_4, x_51_5, x_52_1, x_52_2, x_52_3, x_52_4, x_52_5, x_52_6, x_54, x_55, x_56, x_57, x_58, x_59, x_60i, x_60r, x_61i, x_61r, x_62, gL_0, p1_0, p2_0, gL_1, p1_1, p2_1, gL_2, p1_2, p2_2, gL_3, p1_3, p2_3, gL_4, p1_4, p2_4, gL_5, p1_5, p2_5, gL_6, p1_6, p2_6, gL_7, p1_7, p2_7, gL_8, p1_8, p2_8, gL_9, p1_9, p2_9, gL_10, p1_10, p2_10, gL_11, p1_11, p2_11, gL_12, p1_12, p2_12, isL_i, isL_l, isL_r, isL_u, cs_n, cs_i, cs_l, cs_r, tl_s, tl_n, and_self, true_and, and_true, Nat.reduceAdd, Bool.false_eq_true, if_false, if_true, Nat.zero_add, Nat.add_zero, Int.toNat_natCast, Nat.reduceLeDiff, Int.reduceToNat, ite_false, ite_true, w32_eq, w64_eq, tmod_nn, tdiv_nn, upD_at, ct_s, ct_1, ct_9, ct_17, ct_a, ct_m, ct_8, l0]
      exact hk D
