set_option maxRecDepth 100000 in
theorem ct0 : chT 0 = true := by
  show ([tl0, tl1, tl2, tl3, tl4, tl5, tl6, tl7, tl8, tl9, tl10, tl11, tl12, tl13, tl14, tl15, tl16, tl17, tl18, tl19, tl20, tl21, tl22, tl23, tl24, tl25, tl26, tl27, tl28, tl29, tl30, tl31, tl32, tl33, tl34, tl35, tl36, tl37, tl38, tl39, tl40, tl41, tl42, tl43, tl44, tl45, tl46, tl47, tl48, tl49, tl50, tl51, tl52, tl53, tl54, tl55, tl56] : List (List (Nat × II))).all (fun l => l.all (chI 0)) = true
  simp only [List.all_cons, List.all_nil, cl0, cl1, cl2, cl3, cl4, cl5, cl6, cl7, cl8, cl9, cl10, cl11, cl12, cl13, cl14, cl15, cl16, cl17, cl18, cl19, cl20, cl21, cl22, cl23, cl24, cl25, cl26, cl27, cl28, cl29, cl30, cl31, cl32, cl33, cl34, cl35, cl36, cl37, cl38, cl39, cl40, cl41, cl42, cl43, cl44, cl45, cl46, cl47, cl48, cl49, cl50, cl51, cl52, cl53, cl54, cl55, cl56, Bool.and_self]
theorem cb0 : ∀ j, j < 16 → chT (0 + j) = true
  | 0, _ => ct0
  | 1, _ => ct1
  | 2, _ => ct2
  | 3, _ => ct3
  | 4, _ => ct4
  | 5, _ => ct5
  | 6, _ => ct6
  | 7, _ => ct7
  | 8, _ => ct8
  | 9, _ => ct9
  | 10, _ => ct10
  | 11, _ => ct11
  | 12, _ => ct12
  | 13, _ => ct13
  | 14, _ => ct14
  | 15, _ => ct15
  | n + 16, h => absurd h (by omega)
theorem cb1 : ∀ j, j < 16 → chT (16 + j) = true
  | 0, _ => ct16
  | 1, _ => ct17
  | 2, _ => ct18
  | 3, _ => ct19
  | 4, _ => ct20
  | 5, _ => ct21
  | 6, _ => ct22
  | 7, _ => ct23
  | 8, _ => ct24
  | 9, _ => ct25
  | 10, _ => ct26
  | 11, _ => ct27
  | 12, _ => ct28
  | 13, _ => ct29
  | 14, _ => ct30
  | 15, _ => ct31
  | n + 16, h => absurd h (by omega)
theorem cb2 : ∀ j, j < 16 → chT (32 + j) = true
  | 0, _ => ct32
  | 1, _ => ct33
  | 2, _ => ct34
  | 3, _ => ct35
  | 4, _ => ct36
  | 5, _ => ct37
  | 6, _ => ct38
  | 7, _ => ct39
  | 8, _ => ct40
  | 9, _ => ct41
  | 10, _ => ct42
  | 11, _ => ct43
  | 12, _ => ct44
  | 13, _ => ct45
  | 14, _ => ct46
  | 15, _ => ct47
  | n + 16, h => absurd h (by omega)
theorem cb3 : ∀ j, j < 16 → chT (48 + j) = true
  | 0, _ => ct48
  | 1, _ => ct49
  | 2, _ => ct50
  | 3, _ => ct51
  | 4, _ => ct52
  | 5, _ => ct53
  | 6, _ => ct54
  | 7, _ => ct55
  | 8, _ => ct56
  | 9, _ => ct57
  | 10, _ => ct58
  | 11, _ => ct59
  | 12, _ => ct60
  | 13, _ => ct61
  | 14, _ => ct62
  | 15, _ => ct63
  | n + 16, h => absurd h (by omega)
theorem cb4 : ∀ j, j < 16 → chT (64 + j) = true
  | 0, _ => ct64
  | 1, _ => ct65
  | 2, _ => ct66
  | 3, _ => ct67
  | 4, _ => ct68
  | 5, _ => ct69
  | 6, _ => ct70
  | 7, _ => ct71
  | 8, _ => ct72
  | 9, _ => ct73
  | 10, _ => ct74
  | 11, _ => ct75
  | 12, _ => ct76
  | 13, _ => ct77
  | 14, _ => ct78
  | 15, _ => ct79
  | n + 16, h => absurd h (by omega)
theorem cb5 : ∀ j, j < 16 → chT (80 + j) = true
  | 0, _ => ct80
  | 1, _ => ct81
  | 2, _ => ct82
  | 3, _ => ct83
  | 4, _ => ct84
  | 5, _ => ct85
  | 6, _ => ct86
  | 7, _ => ct87
  | 8, _ => ct88
  | 9, _ => ct89
  | 10, _ => ct90
  | 11, _ => ct91
  | 12, _ => ct92
  | 13, _ => ct93
  | 14, _ => ct94
  | 15, _ => ct95
  | n + 16, h => absurd h (by omega)
theorem cb6 : ∀ j, j < 16 → chT (96 + j) = true
  | 0, _ => ct96
  | 1, _ => ct97
  | 2, _ => ct98
  | 3, _ => ct99
  | 4, _ => ct100
  | 5, _ => ct101
  | 6, _ => ct102
  | 7, _ => ct103
  | 8, _ => ct104
  | 9, _ => ct105
  | 10, _ => ct106
  | 11, _ => ct107
  | 12, _ => ct108
  | 13, _ => ct109
  | 14, _ => ct110
  | 15, _ => ct111
  | n + 16, h => absurd h (by omega)
theorem cb7 : ∀ j, j < 16 → chT (112 + j) = true
  | 0, _ => ct112
  | 1, _ => ct113
  | 2, _ => ct114
  | 3, _ => ct115
  | 4, _ => ct116
  | 5, _ => ct117
  | 6, _ => ct118
  | 7, _ => ct119
  | 8, _ => ct120
  | 9, _ => ct121
  | 10, _ => ct122
  | 11, _ => ct123
  | 12, _ => ct124
  | 13, _ => ct125
  | 14, _ => ct126
  | 15, _ => ct127
  | n + 16, h => absurd h (by omega)
theorem cb8 : ∀ j, j < 16 → chT (128 + j) = true
  | 0, _ => ct128
  | 1, _ => ct129
  | 2, _ => ct130
  | 3, _ => ct131
  | 4, _ => ct132
  | 5, _ => ct133
  | 6, _ => ct134
  | 7, _ => ct135
  | 8, _ => ct136
  | 9, _ => ct137
  | 10, _ => ct138
  | 11, _ => ct139
  | 12, _ => ct140
  | 13, _ => ct141
  | 14, _ => ct142
  | 15, _ => ct143
  | n + 16, h => absurd h (by omega)
theorem cb9 : ∀ j, j < 16 → chT (144 + j) = true
  | 0, _ => ct144
  | 1, _ => ct145
  | 2, _ => ct146
  | 3, _ => ct147
  | 4, _ => ct148
  | 5, _ => ct149
  | 6, _ => ct150
  | 7, _ => ct151
  | 8, _ => ct152
  | 9, _ => ct153
  | 10, _ => ct154
  | 11, _ => ct155
  | 12, _ => ct156
  | 13, _ => ct157
  | 14, _ => ct158
  | 15, _ => ct159
  | n + 16, h => absurd h (by omega)
theorem cb10 : ∀ j, j < 16 → chT (160 + j) = true
  | 0, _ => ct160
  | 1, _ => ct161
  | 2, _ => ct162
  | 3, _ => ct163
  | 4, _ => ct164
  | 5, _ => ct165
  | 6, _ => ct166
  | 7, _ => ct167
  | 8, _ => ct168
  | 9, _ => ct169
  | 10, _ => ct170
  | 11, _ => ct171
  | 12, _ => ct172
  | 13, _ => ct173
  | 14, _ => ct174
  | 15, _ => ct175
  | n + 16, h => absurd h (by omega)
theorem cb11 : ∀ j, j < 16 → chT (176 + j) = true
  | 0, _ => ct176
  | 1, _ => ct177
  | 2, _ => ct178
  | 3, _ => ct179
  | 4, _ => ct180
  | 5, _ => ct181
  | 6, _ => ct182
  | 7, _ => ct183
  | 8, _ => ct184
  | 9, _ => ct185
  | 10, _ => ct186
  | 11, _ => ct187
  | 12, _ => ct188
  | 13, _ => ct189
  | 14, _ => ct190
  | 15, _ => ct191
  | n + 16, h => absurd h (by omega)
theorem cb12 : ∀ j, j < 16 → chT (192 + j) = true
  | 0, _ => ct192
  | 1, _ => ct193
  | 2, _ => ct194
  | 3, _ => ct195
  | 4, _ => ct196
  | 5, _ => ct197
  | 6, _ => ct198
  | 7, _ => ct199
  | 8, _ => ct200
  | 9, _ => ct201
  | 10, _ => ct202
  | 11, _ => ct203
  | 12, _ => ct204
  | 13, _ => ct205
  | 14, _ => ct206
  | 15, _ => ct207
  | n + 16, h => absurd h (by omega)
theorem cb13 : ∀ j, j < 16 → chT (208 + j) = true
  | 0, _ => ct208
  | 1, _ => ct209
  | 2, _ => ct210
  | 3, _ => ct211
  | 4, _ => ct212
  | 5, _ => ct213
  | 6, _ => ct214
  | 7, _ => ct215
  | 8, _ => ct216
  | 9, _ => ct217
  | 10, _ => ct218
  | 11, _ => ct219
  | 12, _ => ct220
  | 13, _ => ct221
  | 14, _ => ct222
  | 15, _ => ct223
  | n + 16, h => absurd h (by omega)
theorem cb14 : ∀ j, j < 16 → chT (224 + j) = true
  | 0, _ => ct224
  | 1, _ => ct225
  | 2, _ => ct226
  | 3, _ => ct227
  | 4, _ => ct228
  | 5, _ => ct229
  | 6, _ => ct230
  | 7, _ => ct231
  | 8, _ => ct232
  | 9, _ => ct233
  | 10, _ => ct234
  | 11, _ => ct235
  | 12, _ => ct236
  | 13, _ => ct237
  | 14, _ => ct238
  | 15, _ => ct239
  | n + 16, h => absurd h (by omega)
theorem cb15 : ∀ j, j < 16 → chT (240 + j) = true
  | 0, _ => ct240
  | 1, _ => ct241
  | 2, _ => ct242
  | 3, _ => ct243
  | 4, _ => ct244
  | 5, _ => ct245
  | 6, _ => ct246
  | 7, _ => ct247
  | 8, _ => ct248
  | 9, _ => ct249
  | 10, _ => ct250
  | 11, _ => ct251
  | 12, _ => ct252
  | 13, _ => ct253
  | 14, _ => ct254
  | 15, _ => ct255
  | n + 16, h => absurd h (by omega)
theorem cb16 : ∀ j, j < 16 → chT (256 + j) = true
  | 0, _ => ct256
  | 1, _ => ct257
  | 2, _ => ct258
  | 3, _ => ct259
  | 4, _ => ct260
  | 5, _ => ct261
  | 6, _ => ct262
  | 7, _ => ct263
  | 8, _ => ct264
  | 9, _ => ct265
  | 10, _ => ct266
  | 11, _ => ct267
  | 12, _ => ct268
  | 13, _ => ct269
  | 14, _ => ct270
  | 15, _ => ct271
  | n + 16, h => absurd h (by omega)
theorem cb17 : ∀ j, j < 1 → chT (272 + j) = true
  | 0, _ => ct272
  | n + 1, h => absurd h (by omega)
theorem ctall {k : Nat} (h : k < 273) : chT k = true := by
  by_cases h0 : k < 16
  · have := cb0 (k - 0) (by omega)
    rwa [show 0 + (k - 0) = k by omega] at this
  by_cases h1 : k < 32
  · have := cb1 (k - 16) (by omega)
    rwa [show 16 + (k - 16) = k by omega] at this
  by_cases h2 : k < 48
  · have := cb2 (k - 32) (by omega)
    rwa [show 32 + (k - 32) = k by omega] at this
  by_cases h3 : k < 64
  · have := cb3 (k - 48) (by omega)
    rwa [show 48 + (k - 48) = k by omega] at this
  by_cases h4 : k < 80
  · have := cb4 (k - 64) (by omega)
    rwa [show 64 + (k - 64) = k by omega] at this
  by_cases h5 : k < 96
  · have := cb5 (k - 80) (by omega)
    rwa [show 80 + (k - 80) = k by omega] at this
  by_cases h6 : k < 112
  · have := cb6 (k - 96) (by omega)
    rwa [show 96 + (k - 96) = k by omega] at this
  by_cases h7 : k < 128
  · have := cb7 (k - 112) (by omega)
    rwa [show 112 + (k - 112) = k by omega] at this
  by_cases h8 : k < 144
  · have := cb8 (k - 128) (by omega)
    rwa [show 128 + (k - 128) = k by omega] at this
  by_cases h9 : k < 160
  · have := cb9 (k - 144) (by omega)
    rwa [show 144 + (k - 144) = k by omega] at this
  by_cases h10 : k < 176
  · have := cb10 (k - 160) (by omega)
    rwa [show 160 + (k - 160) = k by omega] at this
  by_cases h11 : k < 192
  · have := cb11 (k - 176) (by omega)
    rwa [show 176 + (k - 176) = k by omega] at this
  by_cases h12 : k < 208
  · have := cb12 (k - 192) (by omega)
    rwa [show 192 + (k - 192) = k by omega] at this
  by_cases h13 : k < 224
  · have := cb13 (k - 208) (by omega)
    rwa [show 208 + (k - 208) = k by omega] at this
  by_cases h14 : k < 240
  · have := cb14 (k - 224) (by omega)
    rwa [show 224 + (k - 224) = k by omega] at this
  by_cases h15 : k < 256
  · have := cb15 (k - 240) (by omega)
    rwa [show 240 + (k - 240) = k by omega] at this
  by_cases h16 : k < 272
  · have := cb16 (k - 256) (by omega)
    rwa [show 256 + (k - 256) = k by omega] at this
  have := cb17 (k - 272) (by omega)
  rwa [show 272 + (k - 272) = k by omega] at this
theorem cod_lt {k pc : Nat} {i : II} (h : cod k pc = some i) : k < 273 := by
  refine Nat.not_le.mp fun hk => ?_
  have ht : tabOf k = [] := by
    unfold tabOf
    by_cases h1 : k / 16 < 18
    · have e : k / 16 = 17 := by omega
      rw [e]
      show tbs17.getD (k % 16) [] = []
      rw [List.getD_eq_getElem?_getD, List.getElem?_eq_none (show tbs17.length ≤ k % 16 from Nat.le_trans (show tbs17.length ≤ 1 from Nat.le_refl 1) (by omega))]
      rfl
    · have e : tball.getD (k / 16) [] = [] := by
        rw [List.getD_eq_getElem?_getD, List.getElem?_eq_none (show tball.length ≤ k / 16 from Nat.le_trans (show tball.length ≤ 18 from Nat.le_refl 18) (by omega))]
        rfl
      rw [e]
      rfl
  unfold cod at h
  rw [ht, List.getD_eq_getElem?_getD] at h
  cases h
