set_option maxRecDepth 1000000 in
theorem ct226 : chT 226 = true := by decide +kernel
set_option maxRecDepth 1000000 in
theorem ct227 : chT 227 = true := by decide +kernel
set_option maxRecDepth 1000000 in
theorem ct228 : chT 228 = true := by decide +kernel
set_option maxRecDepth 1000000 in
theorem ct229 : chT 229 = true := by decide +kernel
set_option maxRecDepth 1000000 in
theorem ct230 : chT 230 = true := by decide +kernel
set_option maxRecDepth 1000000 in
theorem ct231 : chT 231 = true := by decide +kernel
set_option maxRecDepth 1000000 in
theorem ct232 : chT 232 = true := by decide +kernel
set_option maxRecDepth 1000000 in
theorem ct233 : chT 233 = true := by decide +kernel
set_option maxRecDepth 1000000 in
theorem ct234 : chT 234 = true := by decide +kernel
set_option maxRecDepth 1000000 in
theorem ct235 : chT 235 = true := by decide +kernel
set_option maxRecDepth 1000000 in
theorem ct236 : chT 236 = true := by decide +kernel
set_option maxRecDepth 1000000 in
theorem ct237 : chT 237 = true := by decide +kernel
set_option maxRecDepth 1000000 in
theorem ct238 : chT 238 = true := by decide +kernel
set_option maxRecDepth 1000000 in
theorem ct239 : chT 239 = true := by decide +kernel
set_option maxRecDepth 1000000 in
theorem ct240 : chT 240 = true := by decide +kernel
set_option maxRecDepth 1000000 in
theorem ct241 : chT 241 = true := by decide +kernel
set_option maxRecDepth 1000000 in
theorem ct242 : chT 242 = true := by decide +kernel
set_option maxRecDepth 1000000 in
theorem ct243 : chT 243 = true := by decide +kernel
set_option maxRecDepth 1000000 in
theorem ct244 : chT 244 = true := by decide +kernel
set_option maxRecDepth 1000000 in
theorem ct245 : chT 245 = true := by decide +kernel
set_option maxRecDepth 1000000 in
theorem ct246 : chT 246 = true := by decide +kernel
set_option maxRecDepth 1000000 in
theorem ct247 : chT 247 = true := by decide +kernel
set_option maxRecDepth 1000000 in
theorem ct248 : chT 248 = true := by decide +kernel
set_option maxRecDepth 1000000 in
theorem ct249 : chT 249 = true := by decide +kernel
set_option maxRecDepth 1000000 in
theorem ct250 : chT 250 = true := by decide +kernel
set_option maxRecDepth 1000000 in
theorem ct251 : chT 251 = true := by decide +kernel
set_option maxRecDepth 1000000 in
theorem ct252 : chT 252 = true := by decide +kernel
set_option maxRecDepth 1000000 in
theorem ct253 : chT 253 = true := by decide +kernel
set_option maxRecDepth 1000000 in
theorem ct254 : chT 254 = true := by decide +kernel
set_option maxRecDepth 1000000 in
theorem ct255 : chT 255 = true := by decide +kernel
set_option maxRecDepth 1000000 in
theorem ct256 : chT 256 = true := by decide +kernel
set_option maxRecDepth 1000000 in
theorem ct257 : chT 257 = true := by decide +kernel
set_option maxRecDepth 1000000 in
theorem ct258 : chT 258 = true := by decide +kernel
set_option maxRecDepth 1000000 in
theorem ct259 : chT 259 = true := by decide +kernel
set_option maxRecDepth 1000000 in
theorem ct260 : chT 260 = true := by decide +kernel
set_option maxRecDepth 1000000 in
theorem ct261 : chT 261 = true := by decide +kernel
set_option maxRecDepth 1000000 in
theorem ct262 : chT 262 = true := by decide +kernel
set_option maxRecDepth 1000000 in
theorem ct263 : chT 263 = true := by decide +kernel
set_option maxRecDepth 1000000 in
theorem ct264 : chT 264 = true := by decide +kernel
set_option maxRecDepth 1000000 in
theorem ct265 : chT 265 = true := by decide +kernel
set_option maxRecDepth 1000000 in
theorem ct266 : chT 266 = true := by decide +kernel
set_option maxRecDepth 1000000 in
theorem ct267 : chT 267 = true := by decide +kernel
set_option maxRecDepth 1000000 in
theorem ct268 : chT 268 = true := by decide +kernel
set_option maxRecDepth 1000000 in
theorem ct269 : chT 269 = true := by decide +kernel
set_option maxRecDepth 1000000 in
theorem ct270 : chT 270 = true := by decide +kernel
set_option maxRecDepth 1000000 in
theorem ct271 : chT 271 = true := by decide +kernel
set_option maxRecDepth 1000000 in
theorem ct272 : chT 272 = true := by decide +kernel
