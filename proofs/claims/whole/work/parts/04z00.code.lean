/-! the code, checked by program -/
theorem codeOK_of {j : Nat} {l : List (Nat × Nat × Instr × Op × Nat)} (h : cdL.getD j [] = l) (hk : l.all (chkE j (Yb j)) = true) : codeOK j := by
  intro pc x hx
  unfold FC at hx
  rw [h] at hx
  obtain ⟨q, h1, h2, h3, h4⟩ := lkC_mem _ _ _ hx
  have h5 := List.all_eq_true.mp hk q h1
  unfold chkE at h5
  rw [Bool.and_eq_true, decide_eq_true_eq] at h5
  rw [h2, h3, h4] at h5
  exact ⟨_, _, h5.1, h5.2⟩
theorem all_td {α : Type} {p : α → Bool} {l : List α} (n : Nat) (h1 : (l.take n).all p = true) (h2 : (l.drop n).all p = true) : l.all p = true := by
  rw [← List.take_append_drop n l, List.all_append, h1, h2]; rfl
set_option maxRecDepth 100000 in
theorem cok0 : cd0.all (chkE 0 (Yb 0)) = true := by decide +kernel
set_option maxRecDepth 100000 in
theorem cok1 : cd1.all (chkE 1 (Yb 1)) = true := by decide +kernel
set_option maxRecDepth 100000 in
theorem cok2 : cd2.all (chkE 2 (Yb 2)) = true := by decide +kernel
set_option maxRecDepth 100000 in
theorem cok3 : cd3.all (chkE 3 (Yb 3)) = true := by decide +kernel
set_option maxRecDepth 100000 in
theorem cok4 : cd4.all (chkE 4 (Yb 4)) = true := by decide +kernel
set_option maxRecDepth 100000 in
theorem cok5 : cd5.all (chkE 5 (Yb 5)) = true := by decide +kernel
set_option maxRecDepth 100000 in
theorem cok6 : cd6.all (chkE 6 (Yb 6)) = true := by decide +kernel
set_option maxRecDepth 100000 in
theorem cok7 : cd7.all (chkE 7 (Yb 7)) = true := by decide +kernel
set_option maxRecDepth 100000 in
theorem cok8 : cd8.all (chkE 8 (Yb 8)) = true := by decide +kernel
set_option maxRecDepth 100000 in
theorem cok9 : cd9.all (chkE 9 (Yb 9)) = true := by decide +kernel
set_option maxRecDepth 100000 in
theorem cok10 : cd10.all (chkE 10 (Yb 10)) = true := by decide +kernel
set_option maxRecDepth 100000 in
theorem cok11 : cd11.all (chkE 11 (Yb 11)) = true := by decide +kernel
set_option maxRecDepth 100000 in
theorem cok12 : cd12.all (chkE 12 (Yb 12)) = true := by decide +kernel
set_option maxRecDepth 100000 in
theorem cok13 : cd13.all (chkE 13 (Yb 13)) = true := by decide +kernel
set_option maxRecDepth 100000 in
theorem cok14 : cd14.all (chkE 14 (Yb 14)) = true := by decide +kernel
set_option maxRecDepth 100000 in
theorem cok15 : cd15.all (chkE 15 (Yb 15)) = true := by decide +kernel
set_option maxRecDepth 100000 in
theorem cok16 : cd16.all (chkE 16 (Yb 16)) = true := by decide +kernel
set_option maxRecDepth 100000 in
theorem cok17 : cd17.all (chkE 17 (Yb 17)) = true := by decide +kernel
set_option maxRecDepth 100000 in
theorem cok18 : cd18.all (chkE 18 (Yb 18)) = true := by decide +kernel
set_option maxRecDepth 100000 in
theorem cok19 : cd19.all (chkE 19 (Yb 19)) = true := by decide +kernel
set_option maxRecDepth 100000 in
theorem cok20 : cd20.all (chkE 20 (Yb 20)) = true := by decide +kernel
set_option maxRecDepth 100000 in
theorem cok21 : cd21.all (chkE 21 (Yb 21)) = true := by decide +kernel
set_option maxRecDepth 100000 in
theorem cok22 : cd22.all (chkE 22 (Yb 22)) = true := by decide +kernel
set_option maxRecDepth 100000 in
theorem cok23 : cd23.all (chkE 23 (Yb 23)) = true := by decide +kernel
set_option maxRecDepth 100000 in
theorem cok24 : cd24.all (chkE 24 (Yb 24)) = true := by decide +kernel
set_option maxRecDepth 100000 in
theorem cok25 : cd25.all (chkE 25 (Yb 25)) = true := by decide +kernel
set_option maxRecDepth 100000 in
theorem cok26 : cd26.all (chkE 26 (Yb 26)) = true := by decide +kernel
set_option maxRecDepth 100000 in
theorem cok27 : cd27.all (chkE 27 (Yb 27)) = true := by decide +kernel
set_option maxRecDepth 100000 in
theorem cok28 : cd28.all (chkE 28 (Yb 28)) = true := by decide +kernel
set_option maxRecDepth 100000 in
theorem cok29 : cd29.all (chkE 29 (Yb 29)) = true := by decide +kernel
set_option maxRecDepth 100000 in
theorem cok30 : cd30.all (chkE 30 (Yb 30)) = true := by decide +kernel
set_option maxRecDepth 100000 in
theorem cok31 : cd31.all (chkE 31 (Yb 31)) = true := by decide +kernel
set_option maxRecDepth 100000 in
theorem cok32 : cd32.all (chkE 32 (Yb 32)) = true := by decide +kernel
set_option maxRecDepth 100000 in
theorem cok33 : cd33.all (chkE 33 (Yb 33)) = true := by decide +kernel
set_option maxRecDepth 100000 in
theorem cok34 : cd34.all (chkE 34 (Yb 34)) = true := by decide +kernel
set_option maxRecDepth 100000 in
theorem cok35 : cd35.all (chkE 35 (Yb 35)) = true := by decide +kernel
set_option maxRecDepth 100000 in
theorem cok36 : cd36.all (chkE 36 (Yb 36)) = true := by decide +kernel
set_option maxRecDepth 100000 in
theorem cok37 : cd37.all (chkE 37 (Yb 37)) = true := by decide +kernel
set_option maxRecDepth 100000 in
theorem cok38 : cd38.all (chkE 38 (Yb 38)) = true := by decide +kernel
set_option maxRecDepth 100000 in
theorem cok39 : cd39.all (chkE 39 (Yb 39)) = true := by decide +kernel
set_option maxRecDepth 100000 in
theorem cok40 : cd40.all (chkE 40 (Yb 40)) = true := by decide +kernel
set_option maxRecDepth 100000 in
theorem cok41 : cd41.all (chkE 41 (Yb 41)) = true := by decide +kernel
set_option maxRecDepth 100000 in
theorem cok42 : cd42.all (chkE 42 (Yb 42)) = true := by decide +kernel
set_option maxRecDepth 100000 in
theorem cok43 : cd43.all (chkE 43 (Yb 43)) = true := by decide +kernel
set_option maxRecDepth 100000 in
theorem cok44 : cd44.all (chkE 44 (Yb 44)) = true := by decide +kernel
set_option maxRecDepth 100000 in
theorem cok45 : cd45.all (chkE 45 (Yb 45)) = true := by decide +kernel
set_option maxRecDepth 100000 in
theorem cok46 : cd46.all (chkE 46 (Yb 46)) = true := by decide +kernel
set_option maxRecDepth 100000 in
theorem cok47 : cd47.all (chkE 47 (Yb 47)) = true := by decide +kernel
set_option maxRecDepth 100000 in
theorem cok48 : cd48.all (chkE 48 (Yb 48)) = true := by decide +kernel
set_option maxRecDepth 100000 in
theorem cok49 : cd49.all (chkE 49 (Yb 49)) = true := by decide +kernel
theorem codeOK_c0 : ∀ j, 0 ≤ j → j < 50 → codeOK j := by
  intro j h1 h2
  rcases (show j = 0 ∨ j = 1 ∨ j = 2 ∨ j = 3 ∨ j = 4 ∨ j = 5 ∨ j = 6 ∨ j = 7 ∨ j = 8 ∨ j = 9 ∨ j = 10 ∨ j = 11 ∨ j = 12 ∨ j = 13 ∨ j = 14 ∨ j = 15 ∨ j = 16 ∨ j = 17 ∨ j = 18 ∨ j = 19 ∨ j = 20 ∨ j = 21 ∨ j = 22 ∨ j = 23 ∨ j = 24 ∨ j = 25 ∨ j = 26 ∨ j = 27 ∨ j = 28 ∨ j = 29 ∨ j = 30 ∨ j = 31 ∨ j = 32 ∨ j = 33 ∨ j = 34 ∨ j = 35 ∨ j = 36 ∨ j = 37 ∨ j = 38 ∨ j = 39 ∨ j = 40 ∨ j = 41 ∨ j = 42 ∨ j = 43 ∨ j = 44 ∨ j = 45 ∨ j = 46 ∨ j = 47 ∨ j = 48 ∨ j = 49 by omega) with rfl | rfl | rfl | rfl | rfl | rfl | rfl | rfl | rfl | rfl | rfl | rfl | rfl | rfl | rfl | rfl | rfl | rfl | rfl | rfl | rfl | rfl | rfl | rfl | rfl | rfl | rfl | rfl | rfl | rfl | rfl | rfl | rfl | rfl | rfl | rfl | rfl | rfl | rfl | rfl | rfl | rfl | rfl | rfl | rfl | rfl | rfl | rfl | rfl | rfl
  · exact codeOK_of (l := cd0) rfl cok0
  · exact codeOK_of (l := cd1) rfl cok1
  · exact codeOK_of (l := cd2) rfl cok2
  · exact codeOK_of (l := cd3) rfl cok3
  · exact codeOK_of (l := cd4) rfl cok4
  · exact codeOK_of (l := cd5) rfl cok5
  · exact codeOK_of (l := cd6) rfl cok6
  · exact codeOK_of (l := cd7) rfl cok7
  · exact codeOK_of (l := cd8) rfl cok8
  · exact codeOK_of (l := cd9) rfl cok9
  · exact codeOK_of (l := cd10) rfl cok10
  · exact codeOK_of (l := cd11) rfl cok11
  · exact codeOK_of (l := cd12) rfl cok12
  · exact codeOK_of (l := cd13) rfl cok13
  · exact codeOK_of (l := cd14) rfl cok14
  · exact codeOK_of (l := cd15) rfl cok15
  · exact codeOK_of (l := cd16) rfl cok16
  · exact codeOK_of (l := cd17) rfl cok17
  · exact codeOK_of (l := cd18) rfl cok18
  · exact codeOK_of (l := cd19) rfl cok19
  · exact codeOK_of (l := cd20) rfl cok20
  · exact codeOK_of (l := cd21) rfl cok21
  · exact codeOK_of (l := cd22) rfl cok22
  · exact codeOK_of (l := cd23) rfl cok23
  · exact codeOK_of (l := cd24) rfl cok24
  · exact codeOK_of (l := cd25) rfl cok25
  · exact codeOK_of (l := cd26) rfl cok26
  · exact codeOK_of (l := cd27) rfl cok27
  · exact codeOK_of (l := cd28) rfl cok28
  · exact codeOK_of (l := cd29) rfl cok29
  · exact codeOK_of (l := cd30) rfl cok30
  · exact codeOK_of (l := cd31) rfl cok31
  · exact codeOK_of (l := cd32) rfl cok32
  · exact codeOK_of (l := cd33) rfl cok33
  · exact codeOK_of (l := cd34) rfl cok34
  · exact codeOK_of (l := cd35) rfl cok35
  · exact codeOK_of (l := cd36) rfl cok36
  · exact codeOK_of (l := cd37) rfl cok37
  · exact codeOK_of (l := cd38) rfl cok38
  · exact codeOK_of (l := cd39) rfl cok39
  · exact codeOK_of (l := cd40) rfl cok40
  · exact codeOK_of (l := cd41) rfl cok41
  · exact codeOK_of (l := cd42) rfl cok42
  · exact codeOK_of (l := cd43) rfl cok43
  · exact codeOK_of (l := cd44) rfl cok44
  · exact codeOK_of (l := cd45) rfl cok45
  · exact codeOK_of (l := cd46) rfl cok46
  · exact codeOK_of (l := cd47) rfl cok47
  · exact codeOK_of (l := cd48) rfl cok48
  · exact codeOK_of (l := cd49) rfl cok49
