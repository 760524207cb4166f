set_option maxRecDepth 1000000 in
theorem cl38 : tl38.all (chI 0) = true := by decide +kernel
set_option maxRecDepth 1000000 in
theorem cl39 : tl39.all (chI 0) = true := by decide +kernel
set_option maxRecDepth 1000000 in
theorem cl40 : tl40.all (chI 0) = true := by decide +kernel
set_option maxRecDepth 1000000 in
theorem cl41 : tl41.all (chI 0) = true := by decide +kernel
set_option maxRecDepth 1000000 in
theorem cl42 : tl42.all (chI 0) = true := by decide +kernel
set_option maxRecDepth 1000000 in
theorem cl43 : tl43.all (chI 0) = true := by decide +kernel
set_option maxRecDepth 1000000 in
theorem cl44 : tl44.all (chI 0) = true := by decide +kernel
set_option maxRecDepth 1000000 in
theorem cl45 : tl45.all (chI 0) = true := by decide +kernel
set_option maxRecDepth 1000000 in
theorem cl46 : tl46.all (chI 0) = true := by decide +kernel
set_option maxRecDepth 1000000 in
theorem cl47 : tl47.all (chI 0) = true := by decide +kernel
set_option maxRecDepth 1000000 in
theorem cl48 : tl48.all (chI 0) = true := by decide +kernel
set_option maxRecDepth 1000000 in
theorem cl49 : tl49.all (chI 0) = true := by decide +kernel
set_option maxRecDepth 1000000 in
theorem cl50 : tl50.all (chI 0) = true := by decide +kernel
set_option maxRecDepth 1000000 in
theorem cl51 : tl51.all (chI 0) = true := by decide +kernel
set_option maxRecDepth 1000000 in
theorem cl52 : tl52.all (chI 0) = true := by decide +kernel
set_option maxRecDepth 1000000 in
theorem cl53 : tl53.all (chI 0) = true := by decide +kernel
set_option maxRecDepth 1000000 in
theorem cl54 : tl54.all (chI 0) = true := by decide +kernel
set_option maxRecDepth 1000000 in
theorem cl55 : tl55.all (chI 0) = true := by decide +kernel
set_option maxRecDepth 1000000 in
theorem cl56 : tl56.all (chI 0) = true := by decide +kernel
