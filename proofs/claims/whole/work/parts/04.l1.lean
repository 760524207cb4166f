set_option maxRecDepth 1000000 in
theorem cl19 : tl19.all (chI 0) = true := by decide +kernel
set_option maxRecDepth 1000000 in
theorem cl20 : tl20.all (chI 0) = true := by decide +kernel
set_option maxRecDepth 1000000 in
theorem cl21 : tl21.all (chI 0) = true := by decide +kernel
set_option maxRecDepth 1000000 in
theorem cl22 : tl22.all (chI 0) = true := by decide +kernel
set_option maxRecDepth 1000000 in
theorem cl23 : tl23.all (chI 0) = true := by decide +kernel
set_option maxRecDepth 1000000 in
theorem cl24 : tl24.all (chI 0) = true := by decide +kernel
set_option maxRecDepth 1000000 in
theorem cl25 : tl25.all (chI 0) = true := by decide +kernel
set_option maxRecDepth 1000000 in
theorem cl26 : tl26.all (chI 0) = true := by decide +kernel
set_option maxRecDepth 1000000 in
theorem cl27 : tl27.all (chI 0) = true := by decide +kernel
set_option maxRecDepth 1000000 in
theorem cl28 : tl28.all (chI 0) = true := by decide +kernel
set_option maxRecDepth 1000000 in
theorem cl29 : tl29.all (chI 0) = true := by decide +kernel
set_option maxRecDepth 1000000 in
theorem cl30 : tl30.all (chI 0) = true := by decide +kernel
set_option maxRecDepth 1000000 in
theorem cl31 : tl31.all (chI 0) = true := by decide +kernel
set_option maxRecDepth 1000000 in
theorem cl32 : tl32.all (chI 0) = true := by decide +kernel
set_option maxRecDepth 1000000 in
theorem cl33 : tl33.all (chI 0) = true := by decide +kernel
set_option maxRecDepth 1000000 in
theorem cl34 : tl34.all (chI 0) = true := by decide +kernel
set_option maxRecDepth 1000000 in
theorem cl35 : tl35.all (chI 0) = true := by decide +kernel
set_option maxRecDepth 1000000 in
theorem cl36 : tl36.all (chI 0) = true := by decide +kernel
set_option maxRecDepth 1000000 in
theorem cl37 : tl37.all (chI 0) = true := by decide +kernel
