/-! the shape of the component -/
theorem kd_2 : kd G0 2 = 9 := by decide +kernel
theorem rf_2_0 : rf G0 2 0 = 3 := by decide +kernel
theorem rf_2_1 : rf G0 2 1 = 53 := by decide +kernel
theorem rf_2_2 : rf G0 2 2 = 103 := by decide +kernel
theorem rf_2_4 : rf G0 2 4 = 104 := by decide +kernel
theorem rf_2_5 : rf G0 2 5 = 107 := by decide +kernel
theorem rf_2_6 : rf G0 2 6 = 110 := by decide +kernel
theorem rf_2_7 : rf G0 2 7 = 113 := by decide +kernel
theorem rf_2_8 : rf G0 2 8 = 634 := by decide +kernel
theorem rf_2_9 : rf G0 2 9 = 828 := by decide +kernel
theorem rf_2_10 : rf G0 2 10 = 840 := by decide +kernel
theorem kd_3 : kd G0 3 = 8 := by decide +kernel
theorem rf_3_1 : rf G0 3 1 = 4 := by decide +kernel
theorem kd_4 : kd G0 4 = 104 := by decide +kernel
theorem ln_4 : ln G0 4 = 4 := by decide +kernel
theorem kd_53 : kd G0 53 = 8 := by decide +kernel
theorem rf_53_1 : rf G0 53 1 = 54 := by decide +kernel
theorem kd_54 : kd G0 54 = 104 := by decide +kernel
theorem ln_54 : ln G0 54 = 4 := by decide +kernel
theorem kd_103 : kd G0 103 = 103 := by decide +kernel
theorem ln_103 : ln G0 103 = 4 := by decide +kernel
theorem kd_104 : kd G0 104 = 3 := by decide +kernel
theorem rf_104_0 : rf G0 104 0 = 105 := by decide +kernel
theorem rf_104_1 : rf G0 104 1 = 106 := by decide +kernel
theorem kd_105 : kd G0 105 = 101 := by decide +kernel
theorem ln_105 : ln G0 105 = 8 := by decide +kernel
theorem kd_106 : kd G0 106 = 100 := by decide +kernel
theorem ln_106 : ln G0 106 = 8 := by decide +kernel
theorem kd_107 : kd G0 107 = 4 := by decide +kernel
theorem rf_107_0 : rf G0 107 0 = 108 := by decide +kernel
theorem rf_107_1 : rf G0 107 1 = 109 := by decide +kernel
theorem kd_108 : kd G0 108 = 102 := by decide +kernel
theorem ln_108 : ln G0 108 = 80 := by decide +kernel
theorem kd_109 : kd G0 109 = 100 := by decide +kernel
theorem ln_109 : ln G0 109 = 20 := by decide +kernel
theorem kd_110 : kd G0 110 = 0 := by decide +kernel
theorem rf_110_0 : rf G0 110 0 = 111 := by decide +kernel
theorem rf_110_1 : rf G0 110 1 = 112 := by decide +kernel
theorem kd_111 : kd G0 111 = 100 := by decide +kernel
theorem ln_111 : ln G0 111 = 2 := by decide +kernel
theorem kd_112 : kd G0 112 = 100 := by decide +kernel
theorem ln_112 : ln G0 112 = 2 := by decide +kernel
theorem kd_113 : kd G0 113 = 1 := by decide +kernel
theorem rf_113_0 : rf G0 113 0 = 114 := by decide +kernel
theorem rf_113_1 : rf G0 113 1 = 115 := by decide +kernel
theorem rf_113_2 : rf G0 113 2 = 116 := by decide +kernel
theorem rf_113_3 : rf G0 113 3 = 118 := by decide +kernel
theorem rf_113_4 : rf G0 113 4 = 120 := by decide +kernel
theorem rf_113_5 : rf G0 113 5 = 377 := by decide +kernel
theorem kd_114 : kd G0 114 = 100 := by decide +kernel
theorem ln_114 : ln G0 114 = 8 := by decide +kernel
theorem kd_115 : kd G0 115 = 100 := by decide +kernel
theorem ln_115 : ln G0 115 = 8 := by decide +kernel
theorem kd_116 : kd G0 116 = 2 := by decide +kernel
theorem rf_116_0 : rf G0 116 0 = 117 := by decide +kernel
theorem kd_117 : kd G0 117 = 100 := by decide +kernel
theorem ln_117 : ln G0 117 = 64 := by decide +kernel
theorem kd_118 : kd G0 118 = 2 := by decide +kernel
theorem rf_118_0 : rf G0 118 0 = 119 := by decide +kernel
theorem kd_119 : kd G0 119 = 100 := by decide +kernel
theorem ln_119 : ln G0 119 = 64 := by decide +kernel
theorem kd_120 : kd G0 120 = 106 := by decide +kernel
theorem ln_120 : ln G0 120 = 256 := by decide +kernel
theorem kd_377 : kd G0 377 = 106 := by decide +kernel
theorem ln_377 : ln G0 377 = 256 := by decide +kernel
theorem kd_634 : kd G0 634 = 5 := by decide +kernel
theorem rf_634_0 : rf G0 634 0 = 635 := by decide +kernel
theorem rf_634_1 : rf G0 634 1 = 690 := by decide +kernel
theorem rf_634_2 : rf G0 634 2 = 755 := by decide +kernel
theorem rf_634_3 : rf G0 634 3 = 756 := by decide +kernel
theorem rf_634_4 : rf G0 634 4 = 757 := by decide +kernel
theorem rf_634_5 : rf G0 634 5 = 758 := by decide +kernel
theorem rf_634_6 : rf G0 634 6 = 770 := by decide +kernel
theorem rf_634_7 : rf G0 634 7 = 772 := by decide +kernel
theorem rf_634_8 : rf G0 634 8 = 773 := by decide +kernel
theorem kd_635 : kd G0 635 = 7 := by decide +kernel
theorem rf_635_0 : rf G0 635 0 = 636 := by decide +kernel
theorem rf_635_1 : rf G0 635 1 = 653 := by decide +kernel
theorem rf_635_2 : rf G0 635 2 = 670 := by decide +kernel
theorem rf_635_3 : rf G0 635 3 = 687 := by decide +kernel
theorem rf_635_4 : rf G0 635 4 = 688 := by decide +kernel
theorem rf_635_5 : rf G0 635 5 = 689 := by decide +kernel
theorem kd_690 : kd G0 690 = 106 := by decide +kernel
theorem ln_690 : ln G0 690 = 64 := by decide +kernel
theorem kd_755 : kd G0 755 = 100 := by decide +kernel
theorem ln_755 : ln G0 755 = 16 := by decide +kernel
theorem kd_756 : kd G0 756 = 100 := by decide +kernel
theorem ln_756 : ln G0 756 = 16 := by decide +kernel
theorem kd_757 : kd G0 757 = 100 := by decide +kernel
theorem ln_757 : ln G0 757 = 16 := by decide +kernel
theorem kd_770 : kd G0 770 = 2 := by decide +kernel
theorem rf_770_0 : rf G0 770 0 = 771 := by decide +kernel
theorem kd_771 : kd G0 771 = 100 := by decide +kernel
theorem ln_771 : ln G0 771 = 64 := by decide +kernel
theorem kd_772 : kd G0 772 = 100 := by decide +kernel
theorem ln_772 : ln G0 772 = 8 := by decide +kernel
theorem kd_773 : kd G0 773 = 7 := by decide +kernel
theorem rf_773_0 : rf G0 773 0 = 774 := by decide +kernel
theorem rf_773_1 : rf G0 773 1 = 791 := by decide +kernel
theorem rf_773_2 : rf G0 773 2 = 808 := by decide +kernel
theorem rf_773_3 : rf G0 773 3 = 825 := by decide +kernel
theorem rf_773_4 : rf G0 773 4 = 826 := by decide +kernel
theorem rf_773_5 : rf G0 773 5 = 827 := by decide +kernel
theorem fam_120 : ∀ i, i < 256 → rf G0 120 i = 121 + i ∧ kd G0 (121 + i) = 100 ∧ ln G0 (121 + i) = 8 := by decide +kernel
theorem rfF_120 {i : Nat} (h : i < 256) : rf G0 120 i = 121 + i := (fam_120 i h).1
theorem kdF_120 {i : Nat} (h : i < 256) : kd G0 (121 + i) = 100 := (fam_120 i h).2.1
theorem lnF_120 {i : Nat} (h : i < 256) : ln G0 (121 + i) = 8 := (fam_120 i h).2.2
theorem fam_377 : ∀ i, i < 256 → rf G0 377 i = 378 + i ∧ kd G0 (378 + i) = 100 ∧ ln G0 (378 + i) = 8 := by decide +kernel
theorem rfF_377 {i : Nat} (h : i < 256) : rf G0 377 i = 378 + i := (fam_377 i h).1
theorem kdF_377 {i : Nat} (h : i < 256) : kd G0 (378 + i) = 100 := (fam_377 i h).2.1
theorem lnF_377 {i : Nat} (h : i < 256) : ln G0 (378 + i) = 8 := (fam_377 i h).2.2
theorem fam_690 : ∀ i, i < 64 → rf G0 690 i = 691 + i ∧ kd G0 (691 + i) = 100 ∧ ln G0 (691 + i) = 16 := by decide +kernel
theorem rfF_690 {i : Nat} (h : i < 64) : rf G0 690 i = 691 + i := (fam_690 i h).1
theorem kdF_690 {i : Nat} (h : i < 64) : kd G0 (691 + i) = 100 := (fam_690 i h).2.1
theorem lnF_690 {i : Nat} (h : i < 64) : ln G0 (691 + i) = 16 := (fam_690 i h).2.2
/-- a matrix with its cells; a representation, its arrays and its matrices behind it -/
def MK (q : Nat) : Prop := kd G0 q = 2 ∧ rf G0 q 0 = q + 1 ∧ kd G0 (q + 1) = 100 ∧ ln G0 (q + 1) = 64
def RK (r : Nat) : Prop := kd G0 r = 6 ∧ rf G0 r 0 = r + 1 ∧ rf G0 r 1 = r + 2 ∧ rf G0 r 2 = r + 3 ∧ kd G0 (r + 1) = 100 ∧ ln G0 (r + 1) = 8 ∧ kd G0 (r + 2) = 100 ∧ ln G0 (r + 2) = 8 ∧ kd G0 (r + 3) = 105 ∧ ln G0 (r + 3) = 4 ∧ ∀ g, g < 4 → rf G0 (r + 3) g = r + 4 + 2 * g ∧ MK (r + 4 + 2 * g)
theorem MK_116 : MK 116 := by unfold MK; decide +kernel
theorem MK_118 : MK 118 := by unfold MK; decide +kernel
theorem MK_770 : MK 770 := by unfold MK; decide +kernel
theorem RK_758 : RK 758 := by unfold RK MK; decide +kernel
theorem RK_828 : RK 828 := by unfold RK MK; decide +kernel
theorem RK_840 : RK 840 := by unfold RK MK; decide +kernel
theorem RK_st : ∀ s, s < 4 → RK (5 + 12 * s) := by unfold RK MK; decide +kernel
theorem RK_bf : ∀ s, s < 4 → RK (55 + 12 * s) := by unfold RK MK; decide +kernel
theorem rfF_4 {i : Nat} (h : i < 4) : rf G0 4 i = 5 + 12 * i := (by decide +kernel : ∀ i, i < 4 → rf G0 4 i = 5 + 12 * i) i h
theorem kdF_4 {i : Nat} (h : i < 4) : kd G0 (5 + 12 * i) = 6 := (RK_st i h).1
theorem rfF_54 {i : Nat} (h : i < 4) : rf G0 54 i = 55 + 12 * i := (by decide +kernel : ∀ i, i < 4 → rf G0 54 i = 55 + 12 * i) i h
theorem kdF_54 {i : Nat} (h : i < 4) : kd G0 (55 + 12 * i) = 6 := (RK_bf i h).1
theorem kd_828 : kd G0 828 = 6 := by decide +kernel
theorem kd_840 : kd G0 840 = 6 := by decide +kernel
theorem kd_758 : kd G0 758 = 6 := by decide +kernel
theorem rfF_103 {i : Nat} (h : i < 4) : rf G0 103 i = 852 + 50 * i := (by decide +kernel : ∀ i, i < 4 → rf G0 103 i = 852 + 50 * i) i h
/-- at S lies a state, its slots behind it -/
def SK (S : Nat) : Prop := kd G0 S = 8 ∧ rf G0 S 1 = S + 1 ∧ kd G0 (S + 1) = 104 ∧ ln G0 (S + 1) = 4 ∧ ∀ s, s < 4 → rf G0 (S + 1) s = S + 2 + 12 * s ∧ RK (S + 2 + 12 * s)
theorem SK_3 : SK 3 := by unfold SK RK MK; decide +kernel
theorem SK_53 : SK 53 := by unfold SK RK MK; decide +kernel
theorem SK_852 : SK 852 := by unfold SK RK MK; decide +kernel
theorem SK_902 : SK 902 := by unfold SK RK MK; decide +kernel
theorem SK_952 : SK 952 := by unfold SK RK MK; decide +kernel
theorem SK_1002 : SK 1002 := by unfold SK RK MK; decide +kernel
theorem SK_sv : ∀ i, i < 4 → SK (852 + 50 * i) := by
  intro i hi
  rcases (show i = 0 ∨ i = 1 ∨ i = 2 ∨ i = 3 by omega) with rfl | rfl | rfl | rfl
  · exact SK_852
  · exact SK_902
  · exact SK_952
  · exact SK_1002
theorem RK_sv {i s : Nat} (hi : i < 4) (hs : s < 4) : RK (854 + 50 * i + 12 * s) := by
  have h := ((SK_sv i hi).2.2.2.2 s hs).2
  rw [show 852 + 50 * i + 2 + 12 * s = 854 + 50 * i + 12 * s from by omega] at h
  exact h
/-- at p lies a span, its tables behind it -/
def PK (p : Nat) : Prop := kd G0 p = 7 ∧ rf G0 p 0 = p + 1 ∧ rf G0 p 1 = p + 18 ∧ rf G0 p 2 = p + 35 ∧ rf G0 p 3 = p + 52 ∧ rf G0 p 4 = p + 53 ∧ rf G0 p 5 = p + 54 ∧ kd G0 (p + 1) = 106 ∧ ln G0 (p + 1) = 16 ∧ kd G0 (p + 18) = 106 ∧ ln G0 (p + 18) = 16 ∧ kd G0 (p + 35) = 106 ∧ ln G0 (p + 35) = 16 ∧ kd G0 (p + 52) = 100 ∧ ln G0 (p + 52) = 16 ∧ kd G0 (p + 53) = 100 ∧ ln G0 (p + 53) = 16 ∧ kd G0 (p + 54) = 100 ∧ ln G0 (p + 54) = 16 ∧ ∀ i, i < 16 → rf G0 (p + 1) i = p + 2 + i ∧ kd G0 (p + 2 + i) = 100 ∧ ln G0 (p + 2 + i) = 16 ∧ rf G0 (p + 18) i = p + 19 + i ∧ kd G0 (p + 19 + i) = 100 ∧ ln G0 (p + 19 + i) = 16 ∧ rf G0 (p + 35) i = p + 36 + i ∧ kd G0 (p + 36 + i) = 100 ∧ ln G0 (p + 36 + i) = 16
theorem PK_635 : PK 635 := by unfold PK; decide +kernel
theorem PK_773 : PK 773 := by unfold PK; decide +kernel
