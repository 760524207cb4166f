set_option maxRecDepth 1000000 in
theorem ct187 : chT 187 = true := by decide +kernel
set_option maxRecDepth 1000000 in
theorem ct188 : chT 188 = true := by decide +kernel
set_option maxRecDepth 1000000 in
theorem ct189 : chT 189 = true := by decide +kernel
set_option maxRecDepth 1000000 in
theorem ct190 : chT 190 = true := by decide +kernel
set_option maxRecDepth 1000000 in
theorem ct191 : chT 191 = true := by decide +kernel
set_option maxRecDepth 1000000 in
theorem ct192 : chT 192 = true := by decide +kernel
set_option maxRecDepth 1000000 in
theorem ct193 : chT 193 = true := by decide +kernel
set_option maxRecDepth 1000000 in
theorem ct194 : chT 194 = true := by decide +kernel
set_option maxRecDepth 1000000 in
theorem ct195 : chT 195 = true := by decide +kernel
set_option maxRecDepth 1000000 in
theorem ct196 : chT 196 = true := by decide +kernel
set_option maxRecDepth 1000000 in
theorem ct197 : chT 197 = true := by decide +kernel
set_option maxRecDepth 1000000 in
theorem ct198 : chT 198 = true := by decide +kernel
set_option maxRecDepth 1000000 in
theorem ct199 : chT 199 = true := by decide +kernel
set_option maxRecDepth 1000000 in
theorem ct200 : chT 200 = true := by decide +kernel
set_option maxRecDepth 1000000 in
theorem ct201 : chT 201 = true := by decide +kernel
set_option maxRecDepth 1000000 in
theorem ct202 : chT 202 = true := by decide +kernel
set_option maxRecDepth 1000000 in
theorem ct203 : chT 203 = true := by decide +kernel
set_option maxRecDepth 1000000 in
theorem ct204 : chT 204 = true := by decide +kernel
set_option maxRecDepth 1000000 in
theorem ct205 : chT 205 = true := by decide +kernel
set_option maxRecDepth 1000000 in
theorem ct206 : chT 206 = true := by decide +kernel
set_option maxRecDepth 1000000 in
theorem ct207 : chT 207 = true := by decide +kernel
set_option maxRecDepth 1000000 in
theorem ct208 : chT 208 = true := by decide +kernel
set_option maxRecDepth 1000000 in
theorem ct209 : chT 209 = true := by decide +kernel
set_option maxRecDepth 1000000 in
theorem ct210 : chT 210 = true := by decide +kernel
set_option maxRecDepth 1000000 in
theorem ct211 : chT 211 = true := by decide +kernel
set_option maxRecDepth 1000000 in
theorem ct212 : chT 212 = true := by decide +kernel
set_option maxRecDepth 1000000 in
theorem ct213 : chT 213 = true := by decide +kernel
set_option maxRecDepth 1000000 in
theorem ct214 : chT 214 = true := by decide +kernel
set_option maxRecDepth 1000000 in
theorem ct215 : chT 215 = true := by decide +kernel
set_option maxRecDepth 1000000 in
theorem ct216 : chT 216 = true := by decide +kernel
set_option maxRecDepth 1000000 in
theorem ct217 : chT 217 = true := by decide +kernel
set_option maxRecDepth 1000000 in
theorem ct218 : chT 218 = true := by decide +kernel
set_option maxRecDepth 1000000 in
theorem ct219 : chT 219 = true := by decide +kernel
set_option maxRecDepth 1000000 in
theorem ct220 : chT 220 = true := by decide +kernel
set_option maxRecDepth 1000000 in
theorem ct221 : chT 221 = true := by decide +kernel
set_option maxRecDepth 1000000 in
theorem ct222 : chT 222 = true := by decide +kernel
set_option maxRecDepth 1000000 in
theorem ct223 : chT 223 = true := by decide +kernel
set_option maxRecDepth 1000000 in
theorem ct224 : chT 224 = true := by decide +kernel
set_option maxRecDepth 1000000 in
theorem ct225 : chT 225 = true := by decide +kernel
