set_option maxRecDepth 1000000 in
theorem ct73 : chT 73 = true := by decide +kernel
set_option maxRecDepth 1000000 in
theorem ct74 : chT 74 = true := by decide +kernel
set_option maxRecDepth 1000000 in
theorem ct75 : chT 75 = true := by decide +kernel
set_option maxRecDepth 1000000 in
theorem ct76 : chT 76 = true := by decide +kernel
set_option maxRecDepth 1000000 in
theorem ct77 : chT 77 = true := by decide +kernel
set_option maxRecDepth 1000000 in
theorem ct78 : chT 78 = true := by decide +kernel
set_option maxRecDepth 1000000 in
theorem ct79 : chT 79 = true := by decide +kernel
set_option maxRecDepth 1000000 in
theorem ct80 : chT 80 = true := by decide +kernel
set_option maxRecDepth 1000000 in
theorem ct81 : chT 81 = true := by decide +kernel
set_option maxRecDepth 1000000 in
theorem ct82 : chT 82 = true := by decide +kernel
set_option maxRecDepth 1000000 in
theorem ct83 : chT 83 = true := by decide +kernel
set_option maxRecDepth 1000000 in
theorem ct84 : chT 84 = true := by decide +kernel
set_option maxRecDepth 1000000 in
theorem ct85 : chT 85 = true := by decide +kernel
set_option maxRecDepth 1000000 in
theorem ct86 : chT 86 = true := by decide +kernel
set_option maxRecDepth 1000000 in
theorem ct87 : chT 87 = true := by decide +kernel
set_option maxRecDepth 1000000 in
theorem ct88 : chT 88 = true := by decide +kernel
set_option maxRecDepth 1000000 in
theorem ct89 : chT 89 = true := by decide +kernel
set_option maxRecDepth 1000000 in
theorem ct90 : chT 90 = true := by decide +kernel
set_option maxRecDepth 1000000 in
theorem ct91 : chT 91 = true := by decide +kernel
set_option maxRecDepth 1000000 in
theorem ct92 : chT 92 = true := by decide +kernel
set_option maxRecDepth 1000000 in
theorem ct93 : chT 93 = true := by decide +kernel
set_option maxRecDepth 1000000 in
theorem ct94 : chT 94 = true := by decide +kernel
set_option maxRecDepth 1000000 in
theorem ct95 : chT 95 = true := by decide +kernel
set_option maxRecDepth 1000000 in
theorem ct96 : chT 96 = true := by decide +kernel
set_option maxRecDepth 1000000 in
theorem ct97 : chT 97 = true := by decide +kernel
set_option maxRecDepth 1000000 in
theorem ct98 : chT 98 = true := by decide +kernel
set_option maxRecDepth 1000000 in
theorem ct99 : chT 99 = true := by decide +kernel
set_option maxRecDepth 1000000 in
theorem ct100 : chT 100 = true := by decide +kernel
set_option maxRecDepth 1000000 in
theorem ct101 : chT 101 = true := by decide +kernel
set_option maxRecDepth 1000000 in
theorem ct102 : chT 102 = true := by decide +kernel
set_option maxRecDepth 1000000 in
theorem ct103 : chT 103 = true := by decide +kernel
set_option maxRecDepth 1000000 in
theorem ct104 : chT 104 = true := by decide +kernel
set_option maxRecDepth 1000000 in
theorem ct105 : chT 105 = true := by decide +kernel
set_option maxRecDepth 1000000 in
theorem ct106 : chT 106 = true := by decide +kernel
set_option maxRecDepth 1000000 in
theorem ct107 : chT 107 = true := by decide +kernel
set_option maxRecDepth 1000000 in
theorem ct108 : chT 108 = true := by decide +kernel
set_option maxRecDepth 1000000 in
theorem ct109 : chT 109 = true := by decide +kernel
set_option maxRecDepth 1000000 in
theorem ct110 : chT 110 = true := by decide +kernel
set_option maxRecDepth 1000000 in
theorem ct111 : chT 111 = true := by decide +kernel
set_option maxRecDepth 1000000 in
theorem ct112 : chT 112 = true := by decide +kernel
set_option maxRecDepth 1000000 in
theorem ct113 : chT 113 = true := by decide +kernel
set_option maxRecDepth 1000000 in
theorem ct114 : chT 114 = true := by decide +kernel
set_option maxRecDepth 1000000 in
theorem ct115 : chT 115 = true := by decide +kernel
set_option maxRecDepth 1000000 in
theorem ct116 : chT 116 = true := by decide +kernel
set_option maxRecDepth 1000000 in
theorem ct117 : chT 117 = true := by decide +kernel
set_option maxRecDepth 1000000 in
theorem ct118 : chT 118 = true := by decide +kernel
set_option maxRecDepth 1000000 in
theorem ct119 : chT 119 = true := by decide +kernel
set_option maxRecDepth 1000000 in
theorem ct120 : chT 120 = true := by decide +kernel
