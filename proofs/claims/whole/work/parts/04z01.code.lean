set_option maxRecDepth 100000 in
theorem cok50 : cd50.all (chkE 50 (Yb 50)) = true := by decide +kernel
set_option maxRecDepth 100000 in
theorem cok51 : cd51.all (chkE 51 (Yb 51)) = true := by decide +kernel
set_option maxRecDepth 100000 in
theorem cok52 : cd52.all (chkE 52 (Yb 52)) = true := by decide +kernel
set_option maxRecDepth 100000 in
theorem cok53 : cd53.all (chkE 53 (Yb 53)) = true := by decide +kernel
set_option maxRecDepth 100000 in
theorem cok54 : cd54.all (chkE 54 (Yb 54)) = true := by decide +kernel
set_option maxRecDepth 100000 in
theorem cok55 : cd55.all (chkE 55 (Yb 55)) = true := by decide +kernel
set_option maxRecDepth 100000 in
theorem cok56 : cd56.all (chkE 56 (Yb 56)) = true := by decide +kernel
set_option maxRecDepth 100000 in
theorem cok57 : cd57.all (chkE 57 (Yb 57)) = true := by decide +kernel
set_option maxRecDepth 100000 in
theorem cok58 : cd58.all (chkE 58 (Yb 58)) = true := by decide +kernel
set_option maxRecDepth 100000 in
theorem cok59 : cd59.all (chkE 59 (Yb 59)) = true := by decide +kernel
set_option maxRecDepth 100000 in
theorem cok60 : cd60.all (chkE 60 (Yb 60)) = true := by decide +kernel
set_option maxRecDepth 100000 in
theorem cok61 : cd61.all (chkE 61 (Yb 61)) = true := by decide +kernel
set_option maxRecDepth 100000 in
theorem cok62 : cd62.all (chkE 62 (Yb 62)) = true := by decide +kernel
set_option maxRecDepth 100000 in
theorem cok63 : cd63.all (chkE 63 (Yb 63)) = true := by decide +kernel
set_option maxRecDepth 100000 in
theorem cok64 : cd64.all (chkE 64 (Yb 64)) = true := by decide +kernel
set_option maxRecDepth 100000 in
theorem cok65 : cd65.all (chkE 65 (Yb 65)) = true := by decide +kernel
set_option maxRecDepth 100000 in
theorem cok66 : cd66.all (chkE 66 (Yb 66)) = true := by decide +kernel
set_option maxRecDepth 100000 in
theorem cok67 : cd67.all (chkE 67 (Yb 67)) = true := by decide +kernel
set_option maxRecDepth 100000 in
theorem cok68 : cd68.all (chkE 68 (Yb 68)) = true := by decide +kernel
set_option maxRecDepth 100000 in
theorem cok69 : cd69.all (chkE 69 (Yb 69)) = true := by decide +kernel
set_option maxRecDepth 100000 in
theorem cok70 : cd70.all (chkE 70 (Yb 70)) = true := by decide +kernel
set_option maxRecDepth 100000 in
theorem cok71 : cd71.all (chkE 71 (Yb 71)) = true := by decide +kernel
set_option maxRecDepth 100000 in
theorem cok72 : cd72.all (chkE 72 (Yb 72)) = true := by decide +kernel
set_option maxRecDepth 100000 in
theorem cok73 : cd73.all (chkE 73 (Yb 73)) = true := by decide +kernel
set_option maxRecDepth 100000 in
theorem cok74 : cd74.all (chkE 74 (Yb 74)) = true := by decide +kernel
set_option maxRecDepth 100000 in
theorem cok75 : cd75.all (chkE 75 (Yb 75)) = true := by decide +kernel
set_option maxRecDepth 100000 in
theorem cok76_0 : (cd76.take 100).all (chkE 76 (Yb 76)) = true := by decide +kernel
set_option maxRecDepth 100000 in
theorem cok76_100 : ((cd76.drop 100)).all (chkE 76 (Yb 76)) = true := by decide +kernel
theorem cok76 : (cd76).all (chkE 76 (Yb 76)) = true := all_td 100 cok76_0 (cok76_100)
set_option maxRecDepth 100000 in
theorem cok77 : cd77.all (chkE 77 (Yb 77)) = true := by decide +kernel
set_option maxRecDepth 100000 in
theorem cok78 : cd78.all (chkE 78 (Yb 78)) = true := by decide +kernel
set_option maxRecDepth 100000 in
theorem cok79 : cd79.all (chkE 79 (Yb 79)) = true := by decide +kernel
set_option maxRecDepth 100000 in
theorem cok80 : cd80.all (chkE 80 (Yb 80)) = true := by decide +kernel
set_option maxRecDepth 100000 in
theorem cok81 : cd81.all (chkE 81 (Yb 81)) = true := by decide +kernel
set_option maxRecDepth 100000 in
theorem cok82 : cd82.all (chkE 82 (Yb 82)) = true := by decide +kernel
set_option maxRecDepth 100000 in
theorem cok83 : cd83.all (chkE 83 (Yb 83)) = true := by decide +kernel
set_option maxRecDepth 100000 in
theorem cok84 : cd84.all (chkE 84 (Yb 84)) = true := by decide +kernel
set_option maxRecDepth 100000 in
theorem cok85 : cd85.all (chkE 85 (Yb 85)) = true := by decide +kernel
set_option maxRecDepth 100000 in
theorem cok86 : cd86.all (chkE 86 (Yb 86)) = true := by decide +kernel
set_option maxRecDepth 100000 in
theorem cok87 : cd87.all (chkE 87 (Yb 87)) = true := by decide +kernel
theorem codeOK_c1 : ∀ j, 50 ≤ j → j < 88 → codeOK j := by
  intro j h1 h2
  rcases (show j = 50 ∨ j = 51 ∨ j = 52 ∨ j = 53 ∨ j = 54 ∨ j = 55 ∨ j = 56 ∨ j = 57 ∨ j = 58 ∨ j = 59 ∨ j = 60 ∨ j = 61 ∨ j = 62 ∨ j = 63 ∨ j = 64 ∨ j = 65 ∨ j = 66 ∨ j = 67 ∨ j = 68 ∨ j = 69 ∨ j = 70 ∨ j = 71 ∨ j = 72 ∨ j = 73 ∨ j = 74 ∨ j = 75 ∨ j = 76 ∨ j = 77 ∨ j = 78 ∨ j = 79 ∨ j = 80 ∨ j = 81 ∨ j = 82 ∨ j = 83 ∨ j = 84 ∨ j = 85 ∨ j = 86 ∨ j = 87 by omega) with rfl | rfl | rfl | rfl | rfl | rfl | rfl | rfl | rfl | rfl | rfl | rfl | rfl | rfl | rfl | rfl | rfl | rfl | rfl | rfl | rfl | rfl | rfl | rfl | rfl | rfl | rfl | rfl | rfl | rfl | rfl | rfl | rfl | rfl | rfl | rfl | rfl | rfl
  · exact codeOK_of (l := cd50) rfl cok50
  · exact codeOK_of (l := cd51) rfl cok51
  · exact codeOK_of (l := cd52) rfl cok52
  · exact codeOK_of (l := cd53) rfl cok53
  · exact codeOK_of (l := cd54) rfl cok54
  · exact codeOK_of (l := cd55) rfl cok55
  · exact codeOK_of (l := cd56) rfl cok56
  · exact codeOK_of (l := cd57) rfl cok57
  · exact codeOK_of (l := cd58) rfl cok58
  · exact codeOK_of (l := cd59) rfl cok59
  · exact codeOK_of (l := cd60) rfl cok60
  · exact codeOK_of (l := cd61) rfl cok61
  · exact codeOK_of (l := cd62) rfl cok62
  · exact codeOK_of (l := cd63) rfl cok63
  · exact codeOK_of (l := cd64) rfl cok64
  · exact codeOK_of (l := cd65) rfl cok65
  · exact codeOK_of (l := cd66) rfl cok66
  · exact codeOK_of (l := cd67) rfl cok67
  · exact codeOK_of (l := cd68) rfl cok68
  · exact codeOK_of (l := cd69) rfl cok69
  · exact codeOK_of (l := cd70) rfl cok70
  · exact codeOK_of (l := cd71) rfl cok71
  · exact codeOK_of (l := cd72) rfl cok72
  · exact codeOK_of (l := cd73) rfl cok73
  · exact codeOK_of (l := cd74) rfl cok74
  · exact codeOK_of (l := cd75) rfl cok75
  · exact codeOK_of (l := cd76) rfl cok76
  · exact codeOK_of (l := cd77) rfl cok77
  · exact codeOK_of (l := cd78) rfl cok78
  · exact codeOK_of (l := cd79) rfl cok79
  · exact codeOK_of (l := cd80) rfl cok80
  · exact codeOK_of (l := cd81) rfl cok81
  · exact codeOK_of (l := cd82) rfl cok82
  · exact codeOK_of (l := cd83) rfl cok83
  · exact codeOK_of (l := cd84) rfl cok84
  · exact codeOK_of (l := cd85) rfl cok85
  · exact codeOK_of (l := cd86) rfl cok86
  · exact codeOK_of (l := cd87) rfl cok87
