set_option maxRecDepth 100000 in
theorem cok215_0 : (cd215.take 100).all (chkE 215 (Yb 215)) = true := by decide +kernel
set_option maxRecDepth 100000 in
theorem cok215_100 : ((cd215.drop 100).take 100).all (chkE 215 (Yb 215)) = true := by decide +kernel
set_option maxRecDepth 100000 in
theorem cok215_200 : ((cd215.drop 200).take 100).all (chkE 215 (Yb 215)) = true := by decide +kernel
set_option maxRecDepth 100000 in
theorem cok215_300 : ((cd215.drop 300).take 100).all (chkE 215 (Yb 215)) = true := by decide +kernel
set_option maxRecDepth 100000 in
theorem cok215_400 : ((cd215.drop 400).take 100).all (chkE 215 (Yb 215)) = true := by decide +kernel
set_option maxRecDepth 100000 in
theorem cok215_500 : ((cd215.drop 500).take 100).all (chkE 215 (Yb 215)) = true := by decide +kernel
set_option maxRecDepth 100000 in
theorem cok215_600 : ((cd215.drop 600).take 100).all (chkE 215 (Yb 215)) = true := by decide +kernel
set_option maxRecDepth 100000 in
theorem cok215_700 : ((cd215.drop 700).take 100).all (chkE 215 (Yb 215)) = true := by decide +kernel
set_option maxRecDepth 100000 in
theorem cok215_800 : ((cd215.drop 800).take 100).all (chkE 215 (Yb 215)) = true := by decide +kernel
set_option maxRecDepth 100000 in
theorem cok215_900 : ((cd215.drop 900).take 100).all (chkE 215 (Yb 215)) = true := by decide +kernel
set_option maxRecDepth 100000 in
theorem cok215_1000 : ((cd215.drop 1000).take 100).all (chkE 215 (Yb 215)) = true := by decide +kernel
set_option maxRecDepth 100000 in
theorem cok215_1100 : ((cd215.drop 1100).take 100).all (chkE 215 (Yb 215)) = true := by decide +kernel
set_option maxRecDepth 100000 in
theorem cok215_1200 : ((cd215.drop 1200)).all (chkE 215 (Yb 215)) = true := by decide +kernel
theorem cokd215_1100 : (cd215.drop 1100).all (chkE 215 (Yb 215)) = true := all_td 100 cok215_1100 (by rw [List.drop_drop]; exact cok215_1200)
theorem cokd215_1000 : (cd215.drop 1000).all (chkE 215 (Yb 215)) = true := all_td 100 cok215_1000 (by rw [List.drop_drop]; exact cokd215_1100)
theorem cokd215_900 : (cd215.drop 900).all (chkE 215 (Yb 215)) = true := all_td 100 cok215_900 (by rw [List.drop_drop]; exact cokd215_1000)
theorem cokd215_800 : (cd215.drop 800).all (chkE 215 (Yb 215)) = true := all_td 100 cok215_800 (by rw [List.drop_drop]; exact cokd215_900)
theorem cokd215_700 : (cd215.drop 700).all (chkE 215 (Yb 215)) = true := all_td 100 cok215_700 (by rw [List.drop_drop]; exact cokd215_800)
theorem cokd215_600 : (cd215.drop 600).all (chkE 215 (Yb 215)) = true := all_td 100 cok215_600 (by rw [List.drop_drop]; exact cokd215_700)
theorem cokd215_500 : (cd215.drop 500).all (chkE 215 (Yb 215)) = true := all_td 100 cok215_500 (by rw [List.drop_drop]; exact cokd215_600)
theorem cokd215_400 : (cd215.drop 400).all (chkE 215 (Yb 215)) = true := all_td 100 cok215_400 (by rw [List.drop_drop]; exact cokd215_500)
theorem cokd215_300 : (cd215.drop 300).all (chkE 215 (Yb 215)) = true := all_td 100 cok215_300 (by rw [List.drop_drop]; exact cokd215_400)
theorem cokd215_200 : (cd215.drop 200).all (chkE 215 (Yb 215)) = true := all_td 100 cok215_200 (by rw [List.drop_drop]; exact cokd215_300)
theorem cokd215_100 : (cd215.drop 100).all (chkE 215 (Yb 215)) = true := all_td 100 cok215_100 (by rw [List.drop_drop]; exact cokd215_200)
theorem cok215 : (cd215).all (chkE 215 (Yb 215)) = true := all_td 100 cok215_0 (cokd215_100)
theorem codeOK_c6 : ∀ j, 215 ≤ j → j < 216 → codeOK j := by
  intro j h1 h2
  have e : j = 215 := by omega
  subst e
  · exact codeOK_of (l := cd215) rfl cok215
theorem code_all : ∀ j, j < 216 → codeOK j := by
  intro j h
  by_cases h0 : j < 50
  · exact codeOK_c0 j (by omega) h0
  by_cases h1 : j < 88
  · exact codeOK_c1 j (by omega) h1
  by_cases h2 : j < 140
  · exact codeOK_c2 j (by omega) h2
  by_cases h3 : j < 172
  · exact codeOK_c3 j (by omega) h3
  by_cases h4 : j < 194
  · exact codeOK_c4 j (by omega) h4
  by_cases h5 : j < 215
  · exact codeOK_c5 j (by omega) h5
  exact codeOK_c6 j (by omega) h
