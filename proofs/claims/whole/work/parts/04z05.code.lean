set_option maxRecDepth 100000 in
theorem cok194 : cd194.all (chkE 194 (Yb 194)) = true := by decide +kernel
set_option maxRecDepth 100000 in
theorem cok195 : cd195.all (chkE 195 (Yb 195)) = true := by decide +kernel
set_option maxRecDepth 100000 in
theorem cok196 : cd196.all (chkE 196 (Yb 196)) = true := by decide +kernel
set_option maxRecDepth 100000 in
theorem cok197 : cd197.all (chkE 197 (Yb 197)) = true := by decide +kernel
set_option maxRecDepth 100000 in
theorem cok198 : cd198.all (chkE 198 (Yb 198)) = true := by decide +kernel
set_option maxRecDepth 100000 in
theorem cok199 : cd199.all (chkE 199 (Yb 199)) = true := by decide +kernel
set_option maxRecDepth 100000 in
theorem cok200 : cd200.all (chkE 200 (Yb 200)) = true := by decide +kernel
set_option maxRecDepth 100000 in
theorem cok201 : cd201.all (chkE 201 (Yb 201)) = true := by decide +kernel
set_option maxRecDepth 100000 in
theorem cok202 : cd202.all (chkE 202 (Yb 202)) = true := by decide +kernel
set_option maxRecDepth 100000 in
theorem cok203 : cd203.all (chkE 203 (Yb 203)) = true := by decide +kernel
set_option maxRecDepth 100000 in
theorem cok204 : cd204.all (chkE 204 (Yb 204)) = true := by decide +kernel
set_option maxRecDepth 100000 in
theorem cok205 : cd205.all (chkE 205 (Yb 205)) = true := by decide +kernel
set_option maxRecDepth 100000 in
theorem cok206 : cd206.all (chkE 206 (Yb 206)) = true := by decide +kernel
set_option maxRecDepth 100000 in
theorem cok207 : cd207.all (chkE 207 (Yb 207)) = true := by decide +kernel
set_option maxRecDepth 100000 in
theorem cok208 : cd208.all (chkE 208 (Yb 208)) = true := by decide +kernel
set_option maxRecDepth 100000 in
theorem cok209 : cd209.all (chkE 209 (Yb 209)) = true := by decide +kernel
set_option maxRecDepth 100000 in
theorem cok210 : cd210.all (chkE 210 (Yb 210)) = true := by decide +kernel
set_option maxRecDepth 100000 in
theorem cok211 : cd211.all (chkE 211 (Yb 211)) = true := by decide +kernel
set_option maxRecDepth 100000 in
theorem cok212 : cd212.all (chkE 212 (Yb 212)) = true := by decide +kernel
set_option maxRecDepth 100000 in
theorem cok213 : cd213.all (chkE 213 (Yb 213)) = true := by decide +kernel
set_option maxRecDepth 100000 in
theorem cok214 : cd214.all (chkE 214 (Yb 214)) = true := by decide +kernel
theorem codeOK_c5 : ∀ j, 194 ≤ j → j < 215 → codeOK j := by
  intro j h1 h2
  rcases (show j = 194 ∨ j = 195 ∨ j = 196 ∨ j = 197 ∨ j = 198 ∨ j = 199 ∨ j = 200 ∨ j = 201 ∨ j = 202 ∨ j = 203 ∨ j = 204 ∨ j = 205 ∨ j = 206 ∨ j = 207 ∨ j = 208 ∨ j = 209 ∨ j = 210 ∨ j = 211 ∨ j = 212 ∨ j = 213 ∨ j = 214 by omega) with rfl | rfl | rfl | rfl | rfl | rfl | rfl | rfl | rfl | rfl | rfl | rfl | rfl | rfl | rfl | rfl | rfl | rfl | rfl | rfl | rfl
  · exact codeOK_of (l := cd194) rfl cok194
  · exact codeOK_of (l := cd195) rfl cok195
  · exact codeOK_of (l := cd196) rfl cok196
  · exact codeOK_of (l := cd197) rfl cok197
  · exact codeOK_of (l := cd198) rfl cok198
  · exact codeOK_of (l := cd199) rfl cok199
  · exact codeOK_of (l := cd200) rfl cok200
  · exact codeOK_of (l := cd201) rfl cok201
  · exact codeOK_of (l := cd202) rfl cok202
  · exact codeOK_of (l := cd203) rfl cok203
  · exact codeOK_of (l := cd204) rfl cok204
  · exact codeOK_of (l := cd205) rfl cok205
  · exact codeOK_of (l := cd206) rfl cok206
  · exact codeOK_of (l := cd207) rfl cok207
  · exact codeOK_of (l := cd208) rfl cok208
  · exact codeOK_of (l := cd209) rfl cok209
  · exact codeOK_of (l := cd210) rfl cok210
  · exact codeOK_of (l := cd211) rfl cok211
  · exact codeOK_of (l := cd212) rfl cok212
  · exact codeOK_of (l := cd213) rfl cok213
  · exact codeOK_of (l := cd214) rfl cok214
