set_option maxRecDepth 1000000 in
theorem ct121 : chT 121 = true := by decide +kernel
set_option maxRecDepth 1000000 in
theorem ct122 : chT 122 = true := by decide +kernel
set_option maxRecDepth 1000000 in
theorem ct123 : chT 123 = true := by decide +kernel
set_option maxRecDepth 1000000 in
theorem ct124 : chT 124 = true := by decide +kernel
set_option maxRecDepth 1000000 in
theorem ct125 : chT 125 = true := by decide +kernel
set_option maxRecDepth 1000000 in
theorem ct126 : chT 126 = true := by decide +kernel
set_option maxRecDepth 1000000 in
theorem ct127 : chT 127 = true := by decide +kernel
set_option maxRecDepth 1000000 in
theorem ct128 : chT 128 = true := by decide +kernel
set_option maxRecDepth 1000000 in
theorem ct129 : chT 129 = true := by decide +kernel
set_option maxRecDepth 1000000 in
theorem ct130 : chT 130 = true := by decide +kernel
set_option maxRecDepth 1000000 in
theorem ct131 : chT 131 = true := by decide +kernel
set_option maxRecDepth 1000000 in
theorem ct132 : chT 132 = true := by decide +kernel
set_option maxRecDepth 1000000 in
theorem ct133 : chT 133 = true := by decide +kernel
set_option maxRecDepth 1000000 in
theorem ct134 : chT 134 = true := by decide +kernel
set_option maxRecDepth 1000000 in
theorem ct135 : chT 135 = true := by decide +kernel
set_option maxRecDepth 1000000 in
theorem ct136 : chT 136 = true := by decide +kernel
set_option maxRecDepth 1000000 in
theorem ct137 : chT 137 = true := by decide +kernel
set_option maxRecDepth 1000000 in
theorem ct138 : chT 138 = true := by decide +kernel
set_option maxRecDepth 1000000 in
theorem ct139 : chT 139 = true := by decide +kernel
set_option maxRecDepth 1000000 in
theorem ct140 : chT 140 = true := by decide +kernel
set_option maxRecDepth 1000000 in
theorem ct141 : chT 141 = true := by decide +kernel
set_option maxRecDepth 1000000 in
theorem ct142 : chT 142 = true := by decide +kernel
set_option maxRecDepth 1000000 in
theorem ct143 : chT 143 = true := by decide +kernel
set_option maxRecDepth 1000000 in
theorem ct144 : chT 144 = true := by decide +kernel
set_option maxRecDepth 1000000 in
theorem ct145 : chT 145 = true := by decide +kernel
set_option maxRecDepth 1000000 in
theorem ct146 : chT 146 = true := by decide +kernel
set_option maxRecDepth 1000000 in
theorem ct147 : chT 147 = true := by decide +kernel
set_option maxRecDepth 1000000 in
theorem ct148 : chT 148 = true := by decide +kernel
set_option maxRecDepth 1000000 in
theorem ct149 : chT 149 = true := by decide +kernel
set_option maxRecDepth 1000000 in
theorem ct150 : chT 150 = true := by decide +kernel
set_option maxRecDepth 1000000 in
theorem ct151 : chT 151 = true := by decide +kernel
set_option maxRecDepth 1000000 in
theorem ct152 : chT 152 = true := by decide +kernel
set_option maxRecDepth 1000000 in
theorem ct153 : chT 153 = true := by decide +kernel
set_option maxRecDepth 1000000 in
theorem ct154 : chT 154 = true := by decide +kernel
set_option maxRecDepth 1000000 in
theorem ct155 : chT 155 = true := by decide +kernel
set_option maxRecDepth 1000000 in
theorem ct156 : chT 156 = true := by decide +kernel
set_option maxRecDepth 1000000 in
theorem ct157 : chT 157 = true := by decide +kernel
set_option maxRecDepth 1000000 in
theorem ct158 : chT 158 = true := by decide +kernel
set_option maxRecDepth 1000000 in
theorem ct159 : chT 159 = true := by decide +kernel
set_option maxRecDepth 1000000 in
theorem ct160 : chT 160 = true := by decide +kernel
set_option maxRecDepth 1000000 in
theorem ct161 : chT 161 = true := by decide +kernel
set_option maxRecDepth 1000000 in
theorem ct162 : chT 162 = true := by decide +kernel
set_option maxRecDepth 1000000 in
theorem ct163 : chT 163 = true := by decide +kernel
set_option maxRecDepth 1000000 in
theorem ct164 : chT 164 = true := by decide +kernel
set_option maxRecDepth 1000000 in
theorem ct165 : chT 165 = true := by decide +kernel
set_option maxRecDepth 1000000 in
theorem ct166 : chT 166 = true := by decide +kernel
set_option maxRecDepth 1000000 in
theorem ct167 : chT 167 = true := by decide +kernel
set_option maxRecDepth 1000000 in
theorem ct168 : chT 168 = true := by decide +kernel
set_option maxRecDepth 1000000 in
theorem ct169 : chT 169 = true := by decide +kernel
set_option maxRecDepth 1000000 in
theorem ct170 : chT 170 = true := by decide +kernel
set_option maxRecDepth 1000000 in
theorem ct171 : chT 171 = true := by decide +kernel
set_option maxRecDepth 1000000 in
theorem ct172 : chT 172 = true := by decide +kernel
set_option maxRecDepth 1000000 in
theorem ct173 : chT 173 = true := by decide +kernel
set_option maxRecDepth 1000000 in
theorem ct174 : chT 174 = true := by decide +kernel
set_option maxRecDepth 1000000 in
theorem ct175 : chT 175 = true := by decide +kernel
set_option maxRecDepth 1000000 in
theorem ct176 : chT 176 = true := by decide +kernel
set_option maxRecDepth 1000000 in
theorem ct177 : chT 177 = true := by decide +kernel
set_option maxRecDepth 1000000 in
theorem ct178 : chT 178 = true := by decide +kernel
set_option maxRecDepth 1000000 in
theorem ct179 : chT 179 = true := by decide +kernel
set_option maxRecDepth 1000000 in
theorem ct180 : chT 180 = true := by decide +kernel
set_option maxRecDepth 1000000 in
theorem ct181 : chT 181 = true := by decide +kernel
set_option maxRecDepth 1000000 in
theorem ct182 : chT 182 = true := by decide +kernel
set_option maxRecDepth 1000000 in
theorem ct183 : chT 183 = true := by decide +kernel
set_option maxRecDepth 1000000 in
theorem ct184 : chT 184 = true := by decide +kernel
set_option maxRecDepth 1000000 in
theorem ct185 : chT 185 = true := by decide +kernel
set_option maxRecDepth 1000000 in
theorem ct186 : chT 186 = true := by decide +kernel
