set_option maxRecDepth 100000 in
theorem cok172 : cd172.all (chkE 172 (Yb 172)) = true := by decide +kernel
set_option maxRecDepth 100000 in
theorem cok173 : cd173.all (chkE 173 (Yb 173)) = true := by decide +kernel
set_option maxRecDepth 100000 in
theorem cok174 : cd174.all (chkE 174 (Yb 174)) = true := by decide +kernel
set_option maxRecDepth 100000 in
theorem cok175 : cd175.all (chkE 175 (Yb 175)) = true := by decide +kernel
set_option maxRecDepth 100000 in
theorem cok176 : cd176.all (chkE 176 (Yb 176)) = true := by decide +kernel
set_option maxRecDepth 100000 in
theorem cok177_0 : (cd177.take 100).all (chkE 177 (Yb 177)) = true := by decide +kernel
set_option maxRecDepth 100000 in
theorem cok177_100 : ((cd177.drop 100)).all (chkE 177 (Yb 177)) = true := by decide +kernel
theorem cok177 : (cd177).all (chkE 177 (Yb 177)) = true := all_td 100 cok177_0 (cok177_100)
set_option maxRecDepth 100000 in
theorem cok178_0 : (cd178.take 100).all (chkE 178 (Yb 178)) = true := by decide +kernel
set_option maxRecDepth 100000 in
theorem cok178_100 : ((cd178.drop 100)).all (chkE 178 (Yb 178)) = true := by decide +kernel
theorem cok178 : (cd178).all (chkE 178 (Yb 178)) = true := all_td 100 cok178_0 (cok178_100)
set_option maxRecDepth 100000 in
theorem cok179 : cd179.all (chkE 179 (Yb 179)) = true := by decide +kernel
set_option maxRecDepth 100000 in
theorem cok180 : cd180.all (chkE 180 (Yb 180)) = true := by decide +kernel
set_option maxRecDepth 100000 in
theorem cok181 : cd181.all (chkE 181 (Yb 181)) = true := by decide +kernel
set_option maxRecDepth 100000 in
theorem cok182 : cd182.all (chkE 182 (Yb 182)) = true := by decide +kernel
set_option maxRecDepth 100000 in
theorem cok183 : cd183.all (chkE 183 (Yb 183)) = true := by decide +kernel
set_option maxRecDepth 100000 in
theorem cok184 : cd184.all (chkE 184 (Yb 184)) = true := by decide +kernel
set_option maxRecDepth 100000 in
theorem cok185 : cd185.all (chkE 185 (Yb 185)) = true := by decide +kernel
set_option maxRecDepth 100000 in
theorem cok186 : cd186.all (chkE 186 (Yb 186)) = true := by decide +kernel
set_option maxRecDepth 100000 in
theorem cok187 : cd187.all (chkE 187 (Yb 187)) = true := by decide +kernel
set_option maxRecDepth 100000 in
theorem cok188 : cd188.all (chkE 188 (Yb 188)) = true := by decide +kernel
set_option maxRecDepth 100000 in
theorem cok189 : cd189.all (chkE 189 (Yb 189)) = true := by decide +kernel
set_option maxRecDepth 100000 in
theorem cok190 : cd190.all (chkE 190 (Yb 190)) = true := by decide +kernel
set_option maxRecDepth 100000 in
theorem cok191 : cd191.all (chkE 191 (Yb 191)) = true := by decide +kernel
set_option maxRecDepth 100000 in
theorem cok192 : cd192.all (chkE 192 (Yb 192)) = true := by decide +kernel
set_option maxRecDepth 100000 in
theorem cok193_0 : (cd193.take 100).all (chkE 193 (Yb 193)) = true := by decide +kernel
set_option maxRecDepth 100000 in
theorem cok193_100 : ((cd193.drop 100)).all (chkE 193 (Yb 193)) = true := by decide +kernel
theorem cok193 : (cd193).all (chkE 193 (Yb 193)) = true := all_td 100 cok193_0 (cok193_100)
theorem codeOK_c4 : ∀ j, 172 ≤ j → j < 194 → codeOK j := by
  intro j h1 h2
  rcases (show j = 172 ∨ j = 173 ∨ j = 174 ∨ j = 175 ∨ j = 176 ∨ j = 177 ∨ j = 178 ∨ j = 179 ∨ j = 180 ∨ j = 181 ∨ j = 182 ∨ j = 183 ∨ j = 184 ∨ j = 185 ∨ j = 186 ∨ j = 187 ∨ j = 188 ∨ j = 189 ∨ j = 190 ∨ j = 191 ∨ j = 192 ∨ j = 193 by omega) with rfl | rfl | rfl | rfl | rfl | rfl | rfl | rfl | rfl | rfl | rfl | rfl | rfl | rfl | rfl | rfl | rfl | rfl | rfl | rfl | rfl | rfl
  · exact codeOK_of (l := cd172) rfl cok172
  · exact codeOK_of (l := cd173) rfl cok173
  · exact codeOK_of (l := cd174) rfl cok174
  · exact codeOK_of (l := cd175) rfl cok175
  · exact codeOK_of (l := cd176) rfl cok176
  · exact codeOK_of (l := cd177) rfl cok177
  · exact codeOK_of (l := cd178) rfl cok178
  · exact codeOK_of (l := cd179) rfl cok179
  · exact codeOK_of (l := cd180) rfl cok180
  · exact codeOK_of (l := cd181) rfl cok181
  · exact codeOK_of (l := cd182) rfl cok182
  · exact codeOK_of (l := cd183) rfl cok183
  · exact codeOK_of (l := cd184) rfl cok184
  · exact codeOK_of (l := cd185) rfl cok185
  · exact codeOK_of (l := cd186) rfl cok186
  · exact codeOK_of (l := cd187) rfl cok187
  · exact codeOK_of (l := cd188) rfl cok188
  · exact codeOK_of (l := cd189) rfl cok189
  · exact codeOK_of (l := cd190) rfl cok190
  · exact codeOK_of (l := cd191) rfl cok191
  · exact codeOK_of (l := cd192) rfl cok192
  · exact codeOK_of (l := cd193) rfl cok193
