set_option maxRecDepth 100000 in
theorem cok140 : cd140.all (chkE 140 (Yb 140)) = true := by decide +kernel
set_option maxRecDepth 100000 in
theorem cok141 : cd141.all (chkE 141 (Yb 141)) = true := by decide +kernel
set_option maxRecDepth 100000 in
theorem cok142 : cd142.all (chkE 142 (Yb 142)) = true := by decide +kernel
set_option maxRecDepth 100000 in
theorem cok143 : cd143.all (chkE 143 (Yb 143)) = true := by decide +kernel
set_option maxRecDepth 100000 in
theorem cok144 : cd144.all (chkE 144 (Yb 144)) = true := by decide +kernel
set_option maxRecDepth 100000 in
theorem cok145 : cd145.all (chkE 145 (Yb 145)) = true := by decide +kernel
set_option maxRecDepth 100000 in
theorem cok146 : cd146.all (chkE 146 (Yb 146)) = true := by decide +kernel
set_option maxRecDepth 100000 in
theorem cok147 : cd147.all (chkE 147 (Yb 147)) = true := by decide +kernel
set_option maxRecDepth 100000 in
theorem cok148 : cd148.all (chkE 148 (Yb 148)) = true := by decide +kernel
set_option maxRecDepth 100000 in
theorem cok149 : cd149.all (chkE 149 (Yb 149)) = true := by decide +kernel
set_option maxRecDepth 100000 in
theorem cok150 : cd150.all (chkE 150 (Yb 150)) = true := by decide +kernel
set_option maxRecDepth 100000 in
theorem cok151 : cd151.all (chkE 151 (Yb 151)) = true := by decide +kernel
set_option maxRecDepth 100000 in
theorem cok152 : cd152.all (chkE 152 (Yb 152)) = true := by decide +kernel
set_option maxRecDepth 100000 in
theorem cok153 : cd153.all (chkE 153 (Yb 153)) = true := by decide +kernel
set_option maxRecDepth 100000 in
theorem cok154 : cd154.all (chkE 154 (Yb 154)) = true := by decide +kernel
set_option maxRecDepth 100000 in
theorem cok155 : cd155.all (chkE 155 (Yb 155)) = true := by decide +kernel
set_option maxRecDepth 100000 in
theorem cok156 : cd156.all (chkE 156 (Yb 156)) = true := by decide +kernel
set_option maxRecDepth 100000 in
theorem cok157 : cd157.all (chkE 157 (Yb 157)) = true := by decide +kernel
set_option maxRecDepth 100000 in
theorem cok158 : cd158.all (chkE 158 (Yb 158)) = true := by decide +kernel
set_option maxRecDepth 100000 in
theorem cok159_0 : (cd159.take 100).all (chkE 159 (Yb 159)) = true := by decide +kernel
set_option maxRecDepth 100000 in
theorem cok159_100 : ((cd159.drop 100)).all (chkE 159 (Yb 159)) = true := by decide +kernel
theorem cok159 : (cd159).all (chkE 159 (Yb 159)) = true := all_td 100 cok159_0 (cok159_100)
set_option maxRecDepth 100000 in
theorem cok160 : cd160.all (chkE 160 (Yb 160)) = true := by decide +kernel
set_option maxRecDepth 100000 in
theorem cok161 : cd161.all (chkE 161 (Yb 161)) = true := by decide +kernel
set_option maxRecDepth 100000 in
theorem cok162 : cd162.all (chkE 162 (Yb 162)) = true := by decide +kernel
set_option maxRecDepth 100000 in
theorem cok163 : cd163.all (chkE 163 (Yb 163)) = true := by decide +kernel
set_option maxRecDepth 100000 in
theorem cok164 : cd164.all (chkE 164 (Yb 164)) = true := by decide +kernel
set_option maxRecDepth 100000 in
theorem cok165 : cd165.all (chkE 165 (Yb 165)) = true := by decide +kernel
set_option maxRecDepth 100000 in
theorem cok166 : cd166.all (chkE 166 (Yb 166)) = true := by decide +kernel
set_option maxRecDepth 100000 in
theorem cok167_0 : (cd167.take 100).all (chkE 167 (Yb 167)) = true := by decide +kernel
set_option maxRecDepth 100000 in
theorem cok167_100 : ((cd167.drop 100)).all (chkE 167 (Yb 167)) = true := by decide +kernel
theorem cok167 : (cd167).all (chkE 167 (Yb 167)) = true := all_td 100 cok167_0 (cok167_100)
set_option maxRecDepth 100000 in
theorem cok168 : cd168.all (chkE 168 (Yb 168)) = true := by decide +kernel
set_option maxRecDepth 100000 in
theorem cok169_0 : (cd169.take 100).all (chkE 169 (Yb 169)) = true := by decide +kernel
set_option maxRecDepth 100000 in
theorem cok169_100 : ((cd169.drop 100)).all (chkE 169 (Yb 169)) = true := by decide +kernel
theorem cok169 : (cd169).all (chkE 169 (Yb 169)) = true := all_td 100 cok169_0 (cok169_100)
set_option maxRecDepth 100000 in
theorem cok170 : cd170.all (chkE 170 (Yb 170)) = true := by decide +kernel
set_option maxRecDepth 100000 in
theorem cok171 : cd171.all (chkE 171 (Yb 171)) = true := by decide +kernel
theorem codeOK_c3 : ∀ j, 140 ≤ j → j < 172 → codeOK j := by
  intro j h1 h2
  rcases (show j = 140 ∨ j = 141 ∨ j = 142 ∨ j = 143 ∨ j = 144 ∨ j = 145 ∨ j = 146 ∨ j = 147 ∨ j = 148 ∨ j = 149 ∨ j = 150 ∨ j = 151 ∨ j = 152 ∨ j = 153 ∨ j = 154 ∨ j = 155 ∨ j = 156 ∨ j = 157 ∨ j = 158 ∨ j = 159 ∨ j = 160 ∨ j = 161 ∨ j = 162 ∨ j = 163 ∨ j = 164 ∨ j = 165 ∨ j = 166 ∨ j = 167 ∨ j = 168 ∨ j = 169 ∨ j = 170 ∨ j = 171 by omega) with rfl | rfl | rfl | rfl | rfl | rfl | rfl | rfl | rfl | rfl | rfl | rfl | rfl | rfl | rfl | rfl | rfl | rfl | rfl | rfl | rfl | rfl | rfl | rfl | rfl | rfl | rfl | rfl | rfl | rfl | rfl | rfl
  · exact codeOK_of (l := cd140) rfl cok140
  · exact codeOK_of (l := cd141) rfl cok141
  · exact codeOK_of (l := cd142) rfl cok142
  · exact codeOK_of (l := cd143) rfl cok143
  · exact codeOK_of (l := cd144) rfl cok144
  · exact codeOK_of (l := cd145) rfl cok145
  · exact codeOK_of (l := cd146) rfl cok146
  · exact codeOK_of (l := cd147) rfl cok147
  · exact codeOK_of (l := cd148) rfl cok148
  · exact codeOK_of (l := cd149) rfl cok149
  · exact codeOK_of (l := cd150) rfl cok150
  · exact codeOK_of (l := cd151) rfl cok151
  · exact codeOK_of (l := cd152) rfl cok152
  · exact codeOK_of (l := cd153) rfl cok153
  · exact codeOK_of (l := cd154) rfl cok154
  · exact codeOK_of (l := cd155) rfl cok155
  · exact codeOK_of (l := cd156) rfl cok156
  · exact codeOK_of (l := cd157) rfl cok157
  · exact codeOK_of (l := cd158) rfl cok158
  · exact codeOK_of (l := cd159) rfl cok159
  · exact codeOK_of (l := cd160) rfl cok160
  · exact codeOK_of (l := cd161) rfl cok161
  · exact codeOK_of (l := cd162) rfl cok162
  · exact codeOK_of (l := cd163) rfl cok163
  · exact codeOK_of (l := cd164) rfl cok164
  · exact codeOK_of (l := cd165) rfl cok165
  · exact codeOK_of (l := cd166) rfl cok166
  · exact codeOK_of (l := cd167) rfl cok167
  · exact codeOK_of (l := cd168) rfl cok168
  · exact codeOK_of (l := cd169) rfl cok169
  · exact codeOK_of (l := cd170) rfl cok170
  · exact codeOK_of (l := cd171) rfl cok171
