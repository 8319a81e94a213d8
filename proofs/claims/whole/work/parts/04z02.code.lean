set_option maxRecDepth 100000 in
theorem cok88 : cd88.all (chkE 88 (Yb 88)) = true := by decide +kernel
set_option maxRecDepth 100000 in
theorem cok89 : cd89.all (chkE 89 (Yb 89)) = true := by decide +kernel
set_option maxRecDepth 100000 in
theorem cok90 : cd90.all (chkE 90 (Yb 90)) = true := by decide +kernel
set_option maxRecDepth 100000 in
theorem cok91 : cd91.all (chkE 91 (Yb 91)) = true := by decide +kernel
set_option maxRecDepth 100000 in
theorem cok92 : cd92.all (chkE 92 (Yb 92)) = true := by decide +kernel
set_option maxRecDepth 100000 in
theorem cok93 : cd93.all (chkE 93 (Yb 93)) = true := by decide +kernel
set_option maxRecDepth 100000 in
theorem cok94 : cd94.all (chkE 94 (Yb 94)) = true := by decide +kernel
set_option maxRecDepth 100000 in
theorem cok95 : cd95.all (chkE 95 (Yb 95)) = true := by decide +kernel
set_option maxRecDepth 100000 in
theorem cok96 : cd96.all (chkE 96 (Yb 96)) = true := by decide +kernel
set_option maxRecDepth 100000 in
theorem cok97 : cd97.all (chkE 97 (Yb 97)) = true := by decide +kernel
set_option maxRecDepth 100000 in
theorem cok98 : cd98.all (chkE 98 (Yb 98)) = true := by decide +kernel
set_option maxRecDepth 100000 in
theorem cok99 : cd99.all (chkE 99 (Yb 99)) = true := by decide +kernel
set_option maxRecDepth 100000 in
theorem cok100 : cd100.all (chkE 100 (Yb 100)) = true := by decide +kernel
set_option maxRecDepth 100000 in
theorem cok101 : cd101.all (chkE 101 (Yb 101)) = true := by decide +kernel
set_option maxRecDepth 100000 in
theorem cok102 : cd102.all (chkE 102 (Yb 102)) = true := by decide +kernel
set_option maxRecDepth 100000 in
theorem cok103 : cd103.all (chkE 103 (Yb 103)) = true := by decide +kernel
set_option maxRecDepth 100000 in
theorem cok104 : cd104.all (chkE 104 (Yb 104)) = true := by decide +kernel
set_option maxRecDepth 100000 in
theorem cok105 : cd105.all (chkE 105 (Yb 105)) = true := by decide +kernel
set_option maxRecDepth 100000 in
theorem cok106 : cd106.all (chkE 106 (Yb 106)) = true := by decide +kernel
set_option maxRecDepth 100000 in
theorem cok107 : cd107.all (chkE 107 (Yb 107)) = true := by decide +kernel
set_option maxRecDepth 100000 in
theorem cok108 : cd108.all (chkE 108 (Yb 108)) = true := by decide +kernel
set_option maxRecDepth 100000 in
theorem cok109 : cd109.all (chkE 109 (Yb 109)) = true := by decide +kernel
set_option maxRecDepth 100000 in
theorem cok110 : cd110.all (chkE 110 (Yb 110)) = true := by decide +kernel
set_option maxRecDepth 100000 in
theorem cok111 : cd111.all (chkE 111 (Yb 111)) = true := by decide +kernel
set_option maxRecDepth 100000 in
theorem cok112 : cd112.all (chkE 112 (Yb 112)) = true := by decide +kernel
set_option maxRecDepth 100000 in
theorem cok113 : cd113.all (chkE 113 (Yb 113)) = true := by decide +kernel
set_option maxRecDepth 100000 in
theorem cok114 : cd114.all (chkE 114 (Yb 114)) = true := by decide +kernel
set_option maxRecDepth 100000 in
theorem cok115 : cd115.all (chkE 115 (Yb 115)) = true := by decide +kernel
set_option maxRecDepth 100000 in
theorem cok116 : cd116.all (chkE 116 (Yb 116)) = true := by decide +kernel
set_option maxRecDepth 100000 in
theorem cok117 : cd117.all (chkE 117 (Yb 117)) = true := by decide +kernel
set_option maxRecDepth 100000 in
theorem cok118 : cd118.all (chkE 118 (Yb 118)) = true := by decide +kernel
set_option maxRecDepth 100000 in
theorem cok119 : cd119.all (chkE 119 (Yb 119)) = true := by decide +kernel
set_option maxRecDepth 100000 in
theorem cok120 : cd120.all (chkE 120 (Yb 120)) = true := by decide +kernel
set_option maxRecDepth 100000 in
theorem cok121 : cd121.all (chkE 121 (Yb 121)) = true := by decide +kernel
set_option maxRecDepth 100000 in
theorem cok122 : cd122.all (chkE 122 (Yb 122)) = true := by decide +kernel
set_option maxRecDepth 100000 in
theorem cok123 : cd123.all (chkE 123 (Yb 123)) = true := by decide +kernel
set_option maxRecDepth 100000 in
theorem cok124 : cd124.all (chkE 124 (Yb 124)) = true := by decide +kernel
set_option maxRecDepth 100000 in
theorem cok125 : cd125.all (chkE 125 (Yb 125)) = true := by decide +kernel
set_option maxRecDepth 100000 in
theorem cok126 : cd126.all (chkE 126 (Yb 126)) = true := by decide +kernel
set_option maxRecDepth 100000 in
theorem cok127 : cd127.all (chkE 127 (Yb 127)) = true := by decide +kernel
set_option maxRecDepth 100000 in
theorem cok128 : cd128.all (chkE 128 (Yb 128)) = true := by decide +kernel
set_option maxRecDepth 100000 in
theorem cok129 : cd129.all (chkE 129 (Yb 129)) = true := by decide +kernel
set_option maxRecDepth 100000 in
theorem cok130 : cd130.all (chkE 130 (Yb 130)) = true := by decide +kernel
set_option maxRecDepth 100000 in
theorem cok131 : cd131.all (chkE 131 (Yb 131)) = true := by decide +kernel
set_option maxRecDepth 100000 in
theorem cok132 : cd132.all (chkE 132 (Yb 132)) = true := by decide +kernel
set_option maxRecDepth 100000 in
theorem cok133 : cd133.all (chkE 133 (Yb 133)) = true := by decide +kernel
set_option maxRecDepth 100000 in
theorem cok134 : cd134.all (chkE 134 (Yb 134)) = true := by decide +kernel
set_option maxRecDepth 100000 in
theorem cok135 : cd135.all (chkE 135 (Yb 135)) = true := by decide +kernel
set_option maxRecDepth 100000 in
theorem cok136 : cd136.all (chkE 136 (Yb 136)) = true := by decide +kernel
set_option maxRecDepth 100000 in
theorem cok137 : cd137.all (chkE 137 (Yb 137)) = true := by decide +kernel
set_option maxRecDepth 100000 in
theorem cok138 : cd138.all (chkE 138 (Yb 138)) = true := by decide +kernel
set_option maxRecDepth 100000 in
theorem cok139 : cd139.all (chkE 139 (Yb 139)) = true := by decide +kernel
theorem codeOK_c2 : ∀ j, 88 ≤ j → j < 140 → codeOK j := by
  intro j h1 h2
  rcases (show j = 88 ∨ j = 89 ∨ j = 90 ∨ j = 91 ∨ j = 92 ∨ j = 93 ∨ j = 94 ∨ j = 95 ∨ j = 96 ∨ j = 97 ∨ j = 98 ∨ j = 99 ∨ j = 100 ∨ j = 101 ∨ j = 102 ∨ j = 103 ∨ j = 104 ∨ j = 105 ∨ j = 106 ∨ j = 107 ∨ j = 108 ∨ j = 109 ∨ j = 110 ∨ j = 111 ∨ j = 112 ∨ j = 113 ∨ j = 114 ∨ j = 115 ∨ j = 116 ∨ j = 117 ∨ j = 118 ∨ j = 119 ∨ j = 120 ∨ j = 121 ∨ j = 122 ∨ j = 123 ∨ j = 124 ∨ j = 125 ∨ j = 126 ∨ j = 127 ∨ j = 128 ∨ j = 129 ∨ j = 130 ∨ j = 131 ∨ j = 132 ∨ j = 133 ∨ j = 134 ∨ j = 135 ∨ j = 136 ∨ j = 137 ∨ j = 138 ∨ j = 139 by omega) with rfl | rfl | rfl | rfl | rfl | rfl | rfl | rfl | rfl | rfl | rfl | rfl | rfl | rfl | rfl | rfl | rfl | rfl | rfl | rfl | rfl | rfl | rfl | rfl | rfl | rfl | rfl | rfl | rfl | rfl | rfl | rfl | rfl | rfl | rfl | rfl | rfl | rfl | rfl | rfl | rfl | rfl | rfl | rfl | rfl | rfl | rfl | rfl | rfl | rfl | rfl | rfl
  · exact codeOK_of (l := cd88) rfl cok88
  · exact codeOK_of (l := cd89) rfl cok89
  · exact codeOK_of (l := cd90) rfl cok90
  · exact codeOK_of (l := cd91) rfl cok91
  · exact codeOK_of (l := cd92) rfl cok92
  · exact codeOK_of (l := cd93) rfl cok93
  · exact codeOK_of (l := cd94) rfl cok94
  · exact codeOK_of (l := cd95) rfl cok95
  · exact codeOK_of (l := cd96) rfl cok96
  · exact codeOK_of (l := cd97) rfl cok97
  · exact codeOK_of (l := cd98) rfl cok98
  · exact codeOK_of (l := cd99) rfl cok99
  · exact codeOK_of (l := cd100) rfl cok100
  · exact codeOK_of (l := cd101) rfl cok101
  · exact codeOK_of (l := cd102) rfl cok102
  · exact codeOK_of (l := cd103) rfl cok103
  · exact codeOK_of (l := cd104) rfl cok104
  · exact codeOK_of (l := cd105) rfl cok105
  · exact codeOK_of (l := cd106) rfl cok106
  · exact codeOK_of (l := cd107) rfl cok107
  · exact codeOK_of (l := cd108) rfl cok108
  · exact codeOK_of (l := cd109) rfl cok109
  · exact codeOK_of (l := cd110) rfl cok110
  · exact codeOK_of (l := cd111) rfl cok111
  · exact codeOK_of (l := cd112) rfl cok112
  · exact codeOK_of (l := cd113) rfl cok113
  · exact codeOK_of (l := cd114) rfl cok114
  · exact codeOK_of (l := cd115) rfl cok115
  · exact codeOK_of (l := cd116) rfl cok116
  · exact codeOK_of (l := cd117) rfl cok117
  · exact codeOK_of (l := cd118) rfl cok118
  · exact codeOK_of (l := cd119) rfl cok119
  · exact codeOK_of (l := cd120) rfl cok120
  · exact codeOK_of (l := cd121) rfl cok121
  · exact codeOK_of (l := cd122) rfl cok122
  · exact codeOK_of (l := cd123) rfl cok123
  · exact codeOK_of (l := cd124) rfl cok124
  · exact codeOK_of (l := cd125) rfl cok125
  · exact codeOK_of (l := cd126) rfl cok126
  · exact codeOK_of (l := cd127) rfl cok127
  · exact codeOK_of (l := cd128) rfl cok128
  · exact codeOK_of (l := cd129) rfl cok129
  · exact codeOK_of (l := cd130) rfl cok130
  · exact codeOK_of (l := cd131) rfl cok131
  · exact codeOK_of (l := cd132) rfl cok132
  · exact codeOK_of (l := cd133) rfl cok133
  · exact codeOK_of (l := cd134) rfl cok134
  · exact codeOK_of (l := cd135) rfl cok135
  · exact codeOK_of (l := cd136) rfl cok136
  · exact codeOK_of (l := cd137) rfl cok137
  · exact codeOK_of (l := cd138) rfl cok138
  · exact codeOK_of (l := cd139) rfl cok139
