/-! the law's rows -/
set_option maxRecDepth 100000 in
theorem okr_0 : okR 231 0 60 = true := by decide +kernel
set_option maxRecDepth 100000 in
theorem okr_60 : okR 231 60 60 = true := by decide +kernel
set_option maxRecDepth 100000 in
theorem okr_120 : okR 231 120 60 = true := by decide +kernel
set_option maxRecDepth 100000 in
theorem okr_180 : okR 231 180 60 = true := by decide +kernel
set_option maxRecDepth 100000 in
theorem okr_240 : okR 231 240 60 = true := by decide +kernel
set_option maxRecDepth 100000 in
theorem okr_300 : okR 231 300 60 = true := by decide +kernel
set_option maxRecDepth 100000 in
theorem okr_360 : okR 231 360 60 = true := by decide +kernel
set_option maxRecDepth 100000 in
theorem okr_420 : okR 231 420 60 = true := by decide +kernel
set_option maxRecDepth 100000 in
theorem okr_480 : okR 231 480 60 = true := by decide +kernel
set_option maxRecDepth 100000 in
theorem okr_540 : okR 231 540 60 = true := by decide +kernel
set_option maxRecDepth 100000 in
theorem okr_600 : okR 231 600 60 = true := by decide +kernel
set_option maxRecDepth 100000 in
theorem okr_660 : okR 231 660 60 = true := by decide +kernel
set_option maxRecDepth 100000 in
theorem okr_720 : okR 231 720 60 = true := by decide +kernel
set_option maxRecDepth 100000 in
theorem okr_780 : okR 231 780 60 = true := by decide +kernel
set_option maxRecDepth 100000 in
theorem okr_840 : okR 231 840 60 = true := by decide +kernel
set_option maxRecDepth 100000 in
theorem okr_900 : okR 231 900 60 = true := by decide +kernel
set_option maxRecDepth 100000 in
theorem okr_960 : okR 231 960 60 = true := by decide +kernel
set_option maxRecDepth 100000 in
theorem okr_1020 : okR 231 1020 60 = true := by decide +kernel
set_option maxRecDepth 100000 in
theorem okr_1080 : okR 231 1080 60 = true := by decide +kernel
set_option maxRecDepth 100000 in
theorem okr_1140 : okR 231 1140 60 = true := by decide +kernel
set_option maxRecDepth 100000 in
theorem okr_1200 : okR 231 1200 60 = true := by decide +kernel
set_option maxRecDepth 100000 in
theorem okr_1260 : okR 231 1260 60 = true := by decide +kernel
set_option maxRecDepth 100000 in
theorem okr_1320 : okR 231 1320 60 = true := by decide +kernel
set_option maxRecDepth 100000 in
theorem okr_1380 : okR 231 1380 60 = true := by decide +kernel
set_option maxRecDepth 100000 in
theorem okr_1440 : okR 231 1440 60 = true := by decide +kernel
set_option maxRecDepth 100000 in
theorem okr_1500 : okR 231 1500 60 = true := by decide +kernel
set_option maxRecDepth 100000 in
theorem okr_1560 : okR 231 1560 60 = true := by decide +kernel
set_option maxRecDepth 100000 in
theorem okr_1620 : okR 231 1620 60 = true := by decide +kernel
set_option maxRecDepth 100000 in
theorem okr_1680 : okR 231 1680 60 = true := by decide +kernel
