set_option maxRecDepth 1000000 in
theorem cl0 : tl0.all (chI 0) = true := by decide +kernel
set_option maxRecDepth 1000000 in
theorem cl1 : tl1.all (chI 0) = true := by decide +kernel
set_option maxRecDepth 1000000 in
theorem cl2 : tl2.all (chI 0) = true := by decide +kernel
set_option maxRecDepth 1000000 in
theorem cl3 : tl3.all (chI 0) = true := by decide +kernel
set_option maxRecDepth 1000000 in
theorem cl4 : tl4.all (chI 0) = true := by decide +kernel
set_option maxRecDepth 1000000 in
theorem cl5 : tl5.all (chI 0) = true := by decide +kernel
set_option maxRecDepth 1000000 in
theorem cl6 : tl6.all (chI 0) = true := by decide +kernel
set_option maxRecDepth 1000000 in
theorem cl7 : tl7.all (chI 0) = true := by decide +kernel
set_option maxRecDepth 1000000 in
theorem cl8 : tl8.all (chI 0) = true := by decide +kernel
set_option maxRecDepth 1000000 in
theorem cl9 : tl9.all (chI 0) = true := by decide +kernel
set_option maxRecDepth 1000000 in
theorem cl10 : tl10.all (chI 0) = true := by decide +kernel
set_option maxRecDepth 1000000 in
theorem cl11 : tl11.all (chI 0) = true := by decide +kernel
set_option maxRecDepth 1000000 in
theorem cl12 : tl12.all (chI 0) = true := by decide +kernel
set_option maxRecDepth 1000000 in
theorem cl13 : tl13.all (chI 0) = true := by decide +kernel
set_option maxRecDepth 1000000 in
theorem cl14 : tl14.all (chI 0) = true := by decide +kernel
set_option maxRecDepth 1000000 in
theorem cl15 : tl15.all (chI 0) = true := by decide +kernel
set_option maxRecDepth 1000000 in
theorem cl16 : tl16.all (chI 0) = true := by decide +kernel
set_option maxRecDepth 1000000 in
theorem cl17 : tl17.all (chI 0) = true := by decide +kernel
set_option maxRecDepth 1000000 in
theorem cl18 : tl18.all (chI 0) = true := by decide +kernel
