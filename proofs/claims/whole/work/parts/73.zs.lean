/-! what holds at the start -/
section ZS7
variable {m : MM}
theorem s1_0 : zS m 1 0 = 2 := by
  unfold zS zA z2 z1 yALL fa2 fa1 fa0 fz2 fz1 fz0 y8 y7 y6 y5 hal hk4 hk3 hk2 hk1 hk0 hi0 y4 y3 y2 y1
  simp (disch := decide) only [↓FLL_nc, ↓up_nc, ↓up_ni, ↓up_s, ↓na_n, ↓na_x, ↓na_a, ↓na_z, ↓mak_n, ↓mak_z, ↓mk2_n]
theorem s1_1 : zS m 1 1 = 3 := by
  unfold zS zA z2 z1 yALL fa2 fa1 fa0 fz2 fz1 fz0 y8 y7 y6 y5 hal hk4 hk3 hk2 hk1 hk0 hi0 y4 y3 y2 y1
  simp (disch := decide) only [↓FLL_nc, ↓up_nc, ↓up_ni, ↓up_s, ↓na_n, ↓na_x, ↓na_a, ↓na_z, ↓mak_n, ↓mak_z, ↓mk2_n]
theorem s1_2 : zS m 1 2 = 4 := by
  unfold zS zA z2 z1 yALL fa2 fa1 fa0 fz2 fz1 fz0 y8 y7 y6 y5 hal hk4 hk3 hk2 hk1 hk0 hi0 y4 y3 y2 y1
  simp (disch := decide) only [↓FLL_nc, ↓up_nc, ↓up_ni, ↓up_s, ↓na_n, ↓na_x, ↓na_a, ↓na_z, ↓mak_n, ↓mak_z, ↓mk2_n]
theorem s1_3 : zS m 1 3 = 5 := by
  unfold zS zA z2 z1 yALL fa2 fa1 fa0 fz2 fz1 fz0 y8 y7 y6 y5 hal hk4 hk3 hk2 hk1 hk0 hi0 y4 y3 y2 y1
  simp (disch := decide) only [↓FLL_nc, ↓up_nc, ↓up_ni, ↓up_s, ↓na_n, ↓na_x, ↓na_a, ↓na_z, ↓mak_n, ↓mak_z, ↓mk2_n]
theorem s1_4 : zS m 1 4 = 6 := by
  unfold zS zA z2 z1 yALL fa2 fa1 fa0 fz2 fz1 fz0 y8 y7 y6 y5 hal hk4 hk3 hk2 hk1 hk0 hi0 y4 y3 y2 y1
  simp (disch := decide) only [↓FLL_nc, ↓up_nc, ↓up_ni, ↓up_s, ↓na_n, ↓na_x, ↓na_a, ↓na_z, ↓mak_n, ↓mak_z, ↓mk2_n]
theorem s1_5 : zS m 1 5 = 8 := by
  unfold zS zA z2 z1 yALL fa2 fa1 fa0 fz2 fz1 fz0 y8 y7 y6 y5 hal hk4 hk3 hk2 hk1 hk0 hi0 y4 y3 y2 y1
  simp (disch := decide) only [↓FLL_nc, ↓up_nc, ↓up_ni, ↓up_s, ↓na_n, ↓na_x, ↓na_a, ↓na_z, ↓mak_n, ↓mak_z, ↓mk2_n]
theorem s1_6 : zS m 1 6 = 11 := by
  unfold zS zA z2 z1 yALL fa2 fa1 fa0 fz2 fz1 fz0 y8 y7 y6 y5 hal hk4 hk3 hk2 hk1 hk0 hi0 y4 y3 y2 y1
  simp (disch := decide) only [↓FLL_nc, ↓up_nc, ↓up_ni, ↓up_s, ↓na_n, ↓na_x, ↓na_a, ↓na_z, ↓mak_n, ↓mak_z, ↓mk2_n]
theorem s1_7 : zS m 1 7 = 13 := by
  unfold zS zA z2 z1 yALL fa2 fa1 fa0 fz2 fz1 fz0 y8 y7 y6 y5 hal hk4 hk3 hk2 hk1 hk0 hi0 y4 y3 y2 y1
  simp (disch := decide) only [↓FLL_nc, ↓up_nc, ↓up_ni, ↓up_s, ↓na_n, ↓na_x, ↓na_a, ↓na_z, ↓mak_n, ↓mak_z, ↓mk2_n]
theorem s1_8 : zS m 1 8 = 25 := by
  unfold zS zA z2 z1 yALL fa2 fa1 fa0 fz2 fz1 fz0 y8 y7 y6 y5 hal hk4 hk3 hk2 hk1 hk0 hi0 y4 y3 y2 y1
  simp (disch := decide) only [↓FLL_nc, ↓up_nc, ↓up_ni, ↓up_s, ↓na_n, ↓na_x, ↓na_a, ↓na_z, ↓mak_n, ↓mak_z, ↓mk2_n]
theorem s1_9 : zS m 1 9 = 39 := by
  unfold zS zA z2 z1 yALL fa2 fa1 fa0 fz2 fz1 fz0 y8 y7 y6 y5 hal hk4 hk3 hk2 hk1 hk0 hi0 y4 y3 y2 y1
  simp (disch := decide) only [↓FLL_nc, ↓up_nc, ↓up_ni, ↓up_s, ↓na_n, ↓na_x, ↓na_a, ↓na_z, ↓mak_n, ↓mak_z, ↓mk2_n]
theorem s1_10 : zS m 1 10 = 40 := by
  unfold zS zA z2 z1 yALL fa2 fa1 fa0 fz2 fz1 fz0 y8 y7 y6 y5 hal hk4 hk3 hk2 hk1 hk0 hi0 y4 y3 y2 y1
  simp (disch := decide) only [↓FLL_nc, ↓up_nc, ↓up_ni, ↓up_s, ↓na_n, ↓na_x, ↓na_a, ↓na_z, ↓mak_n, ↓mak_z, ↓mk2_n]
theorem s1_11 : zS m 1 11 = 0 := by
  unfold zS zA z2 z1 yALL fa2 fa1 fa0 fz2 fz1 fz0 y8 y7 y6 y5 hal hk4 hk3 hk2 hk1 hk0 hi0 y4 y3 y2 y1
  simp (disch := decide) only [↓FLL_nc, ↓up_nc, ↓up_ni, ↓up_s, ↓na_n, ↓na_x, ↓na_a, ↓na_z, ↓mak_n, ↓mak_z, ↓mk2_n]
theorem s5_0 : zS m 5 0 = 41 := by
  unfold zS zA z2 z1 yALL fa2 fa1 fa0 fz2 fz1 fz0 y8 y7 y6 y5 hal hk4 hk3 hk2 hk1 hk0 hi0 y4 y3 y2 y1
  simp (disch := decide) only [↓FLL_nc, ↓up_nc, ↓up_ni, ↓up_s, ↓na_n, ↓na_x, ↓na_a, ↓na_z, ↓mak_n, ↓mak_z, ↓mk2_n]
theorem s5_1 : zS m 5 1 = 51 := by
  unfold zS zA z2 z1 yALL fa2 fa1 fa0 fz2 fz1 fz0 y8 y7 y6 y5 hal hk4 hk3 hk2 hk1 hk0 hi0 y4 y3 y2 y1
  simp (disch := decide) only [↓FLL_nc, ↓up_nc, ↓up_ni, ↓up_s, ↓na_n, ↓na_x, ↓na_a, ↓na_z, ↓mak_n, ↓mak_z, ↓mk2_n]
theorem s5_2 : zS m 5 2 = 61 := by
  unfold zS zA z2 z1 yALL fa2 fa1 fa0 fz2 fz1 fz0 y8 y7 y6 y5 hal hk4 hk3 hk2 hk1 hk0 hi0 y4 y3 y2 y1
  simp (disch := decide) only [↓FLL_nc, ↓up_nc, ↓up_ni, ↓up_s, ↓na_n, ↓na_x, ↓na_a, ↓na_z, ↓mak_n, ↓mak_z, ↓mk2_n]
theorem s6_2 : zS m 6 2 = 7 := by
  unfold zS zA z2 z1 yALL fa2 fa1 fa0 fz2 fz1 fz0 y8 y7 y6 y5 hal hk4 hk3 hk2 hk1 hk0 hi0 y4 y3 y2 y1
  simp (disch := decide) only [↓FLL_nc, ↓up_nc, ↓up_ni, ↓up_s, ↓na_n, ↓na_x, ↓na_a, ↓na_z, ↓mak_n, ↓mak_z, ↓mk2_n]
theorem s8_3 : zS m 8 3 = 9 := by
  unfold zS zA z2 z1 yALL fa2 fa1 fa0 fz2 fz1 fz0 y8 y7 y6 y5 hal hk4 hk3 hk2 hk1 hk0 hi0 y4 y3 y2 y1
  simp (disch := decide) only [↓FLL_nc, ↓up_nc, ↓up_ni, ↓up_s, ↓na_n, ↓na_x, ↓na_a, ↓na_z, ↓mak_n, ↓mak_z, ↓mk2_n]
theorem s8_4 : zS m 8 4 = 10 := by
  unfold zS zA z2 z1 yALL fa2 fa1 fa0 fz2 fz1 fz0 y8 y7 y6 y5 hal hk4 hk3 hk2 hk1 hk0 hi0 y4 y3 y2 y1
  simp (disch := decide) only [↓FLL_nc, ↓up_nc, ↓up_ni, ↓up_s, ↓na_n, ↓na_x, ↓na_a, ↓na_z, ↓mak_n, ↓mak_z, ↓mk2_n]
theorem s11_4 : zS m 11 4 = 12 := by
  unfold zS zA z2 z1 yALL fa2 fa1 fa0 fz2 fz1 fz0 y8 y7 y6 y5 hal hk4 hk3 hk2 hk1 hk0 hi0 y4 y3 y2 y1
  simp (disch := decide) only [↓FLL_nc, ↓up_nc, ↓up_ni, ↓up_s, ↓na_n, ↓na_x, ↓na_a, ↓na_z, ↓mak_n, ↓mak_z, ↓mk2_n]
theorem s13_2 : zS m 13 2 = 14 := by
  unfold zS zA z2 z1 yALL fa2 fa1 fa0 fz2 fz1 fz0 y8 y7 y6 y5 hal hk4 hk3 hk2 hk1 hk0 hi0 y4 y3 y2 y1
  simp (disch := decide) only [↓FLL_nc, ↓up_nc, ↓up_ni, ↓up_s, ↓na_n, ↓na_x, ↓na_a, ↓na_z, ↓mak_n, ↓mak_z, ↓mk2_n]
theorem s25_1 : zS m 25 1 = 26 := by
  unfold zS zA z2 z1 yALL fa2 fa1 fa0 fz2 fz1 fz0 y8 y7 y6 y5 hal hk4 hk3 hk2 hk1 hk0 hi0 y4 y3 y2 y1
  simp (disch := decide) only [↓FLL_nc, ↓up_nc, ↓up_ni, ↓up_s, ↓na_n, ↓na_x, ↓na_a, ↓na_z, ↓mak_n, ↓mak_z, ↓mk2_n]
theorem s25_2 : zS m 25 2 = 27 := by
  unfold zS zA z2 z1 yALL fa2 fa1 fa0 fz2 fz1 fz0 y8 y7 y6 y5 hal hk4 hk3 hk2 hk1 hk0 hi0 y4 y3 y2 y1
  simp (disch := decide) only [↓FLL_nc, ↓up_nc, ↓up_ni, ↓up_s, ↓na_n, ↓na_x, ↓na_a, ↓na_z, ↓mak_n, ↓mak_z, ↓mk2_n]
theorem s11_0 : zS m 11 0 = 0 := by
  unfold zS zA z2 z1 yALL fa2 fa1 fa0 fz2 fz1 fz0 y8 y7 y6 y5 hal hk4 hk3 hk2 hk1 hk0 hi0 y4 y3 y2 y1
  simp (disch := decide) only [↓FLL_nc, ↓up_nc, ↓up_ni, ↓up_s, ↓na_n, ↓na_x, ↓na_a, ↓na_z, ↓mak_n, ↓mak_z, ↓mk2_n]
theorem s11_1 : zS m 11 1 = 1 := by
  unfold zS zA z2 z1 yALL fa2 fa1 fa0 fz2 fz1 fz0 y8 y7 y6 y5 hal hk4 hk3 hk2 hk1 hk0 hi0 y4 y3 y2 y1
  simp (disch := decide) only [↓FLL_nc, ↓up_nc, ↓up_ni, ↓up_s, ↓na_n, ↓na_x, ↓na_a, ↓na_z, ↓mak_n, ↓mak_z, ↓mk2_n]
theorem s11_2 : zS m 11 2 = 0 := by
  unfold zS zA z2 z1 yALL fa2 fa1 fa0 fz2 fz1 fz0 y8 y7 y6 y5 hal hk4 hk3 hk2 hk1 hk0 hi0 y4 y3 y2 y1
  simp (disch := decide) only [↓FLL_nc, ↓up_nc, ↓up_ni, ↓up_s, ↓na_n, ↓na_x, ↓na_a, ↓na_z, ↓mak_n, ↓mak_z, ↓mk2_n]
theorem s13_0 : zS m 13 0 = 0 := by
  unfold zS zA z2 z1 yALL fa2 fa1 fa0 fz2 fz1 fz0 y8 y7 y6 y5 hal hk4 hk3 hk2 hk1 hk0 hi0 y4 y3 y2 y1
  simp (disch := decide) only [↓FLL_nc, ↓up_nc, ↓up_ni, ↓up_s, ↓na_n, ↓na_x, ↓na_a, ↓na_z, ↓mak_n, ↓mak_z, ↓mk2_n]
theorem s13_1 : zS m 13 1 = 0 := by
  unfold zS zA z2 z1 yALL fa2 fa1 fa0 fz2 fz1 fz0 y8 y7 y6 y5 hal hk4 hk3 hk2 hk1 hk0 hi0 y4 y3 y2 y1
  simp (disch := decide) only [↓FLL_nc, ↓up_nc, ↓up_ni, ↓up_s, ↓na_n, ↓na_x, ↓na_a, ↓na_z, ↓mak_n, ↓mak_z, ↓mk2_n]
theorem s14_0 : zS m 14 0 = 15 := by
  unfold zS zA z2 z1 yALL fa2 fa1 fa0 fz2 fz1 fz0 y8 y7 y6 y5 hal hk4 hk3 hk2 hk1 hk0 hi0 y4 y3 y2 y1
  simp (disch := decide) only [↓FLL_nc, ↓up_nc, ↓up_ni, ↓up_s, ↓na_n, ↓na_x, ↓na_a, ↓na_z, ↓mak_n, ↓mak_z, ↓mk2_n]
theorem s15_5 : zS m 15 5 = 16 := by
  unfold zS zA z2 z1 yALL fa2 fa1 fa0 fz2 fz1 fz0 y8 y7 y6 y5 hal hk4 hk3 hk2 hk1 hk0 hi0 y4 y3 y2 y1
  simp (disch := decide) only [↓FLL_nc, ↓up_nc, ↓up_ni, ↓up_s, ↓na_n, ↓na_x, ↓na_a, ↓na_z, ↓mak_n, ↓mak_z, ↓mk2_n]
theorem s14_1 : zS m 14 1 = 17 := by
  unfold zS zA z2 z1 yALL fa2 fa1 fa0 fz2 fz1 fz0 y8 y7 y6 y5 hal hk4 hk3 hk2 hk1 hk0 hi0 y4 y3 y2 y1
  simp (disch := decide) only [↓FLL_nc, ↓up_nc, ↓up_ni, ↓up_s, ↓na_n, ↓na_x, ↓na_a, ↓na_z, ↓mak_n, ↓mak_z, ↓mk2_n]
theorem s17_5 : zS m 17 5 = 18 := by
  unfold zS zA z2 z1 yALL fa2 fa1 fa0 fz2 fz1 fz0 y8 y7 y6 y5 hal hk4 hk3 hk2 hk1 hk0 hi0 y4 y3 y2 y1
  simp (disch := decide) only [↓FLL_nc, ↓up_nc, ↓up_ni, ↓up_s, ↓na_n, ↓na_x, ↓na_a, ↓na_z, ↓mak_n, ↓mak_z, ↓mk2_n]
theorem s14_2 : zS m 14 2 = 19 := by
  unfold zS zA z2 z1 yALL fa2 fa1 fa0 fz2 fz1 fz0 y8 y7 y6 y5 hal hk4 hk3 hk2 hk1 hk0 hi0 y4 y3 y2 y1
  simp (disch := decide) only [↓FLL_nc, ↓up_nc, ↓up_ni, ↓up_s, ↓na_n, ↓na_x, ↓na_a, ↓na_z, ↓mak_n, ↓mak_z, ↓mk2_n]
theorem s19_5 : zS m 19 5 = 20 := by
  unfold zS zA z2 z1 yALL fa2 fa1 fa0 fz2 fz1 fz0 y8 y7 y6 y5 hal hk4 hk3 hk2 hk1 hk0 hi0 y4 y3 y2 y1
  simp (disch := decide) only [↓FLL_nc, ↓up_nc, ↓up_ni, ↓up_s, ↓na_n, ↓na_x, ↓na_a, ↓na_z, ↓mak_n, ↓mak_z, ↓mk2_n]
theorem s14_3 : zS m 14 3 = 21 := by
  unfold zS zA z2 z1 yALL fa2 fa1 fa0 fz2 fz1 fz0 y8 y7 y6 y5 hal hk4 hk3 hk2 hk1 hk0 hi0 y4 y3 y2 y1
  simp (disch := decide) only [↓FLL_nc, ↓up_nc, ↓up_ni, ↓up_s, ↓na_n, ↓na_x, ↓na_a, ↓na_z, ↓mak_n, ↓mak_z, ↓mk2_n]
theorem s21_5 : zS m 21 5 = 22 := by
  unfold zS zA z2 z1 yALL fa2 fa1 fa0 fz2 fz1 fz0 y8 y7 y6 y5 hal hk4 hk3 hk2 hk1 hk0 hi0 y4 y3 y2 y1
  simp (disch := decide) only [↓FLL_nc, ↓up_nc, ↓up_ni, ↓up_s, ↓na_n, ↓na_x, ↓na_a, ↓na_z, ↓mak_n, ↓mak_z, ↓mk2_n]
theorem s14_4 : zS m 14 4 = 23 := by
  unfold zS zA z2 z1 yALL fa2 fa1 fa0 fz2 fz1 fz0 y8 y7 y6 y5 hal hk4 hk3 hk2 hk1 hk0 hi0 y4 y3 y2 y1
  simp (disch := decide) only [↓FLL_nc, ↓up_nc, ↓up_ni, ↓up_s, ↓na_n, ↓na_x, ↓na_a, ↓na_z, ↓mak_n, ↓mak_z, ↓mk2_n]
theorem s23_5 : zS m 23 5 = 24 := by
  unfold zS zA z2 z1 yALL fa2 fa1 fa0 fz2 fz1 fz0 y8 y7 y6 y5 hal hk4 hk3 hk2 hk1 hk0 hi0 y4 y3 y2 y1
  simp (disch := decide) only [↓FLL_nc, ↓up_nc, ↓up_ni, ↓up_s, ↓na_n, ↓na_x, ↓na_a, ↓na_z, ↓mak_n, ↓mak_z, ↓mk2_n]
theorem s71_0 : zS m 71 0 = 72 := by
  unfold zS zA z2 z1 yALL fa2 fa1 fa0 fz2 fz1 fz0 y8 y7 y6 y5 hal hk4 hk3 hk2 hk1 hk0 hi0 y4 y3 y2 y1
  simp (disch := decide) only [↓FLL_nc, ↓up_nc, ↓up_ni, ↓up_s, ↓na_n, ↓na_x, ↓na_a, ↓na_z, ↓mak_n, ↓mak_z, ↓mk2_n]
theorem s71_1 : zS m 71 1 = 73 := by
  unfold zS zA z2 z1 yALL fa2 fa1 fa0 fz2 fz1 fz0 y8 y7 y6 y5 hal hk4 hk3 hk2 hk1 hk0 hi0 y4 y3 y2 y1
  simp (disch := decide) only [↓FLL_nc, ↓up_nc, ↓up_ni, ↓up_s, ↓na_n, ↓na_x, ↓na_a, ↓na_z, ↓mak_n, ↓mak_z, ↓mk2_n]
theorem s71_2 : zS m 71 2 = 74 := by
  unfold zS zA z2 z1 yALL fa2 fa1 fa0 fz2 fz1 fz0 y8 y7 y6 y5 hal hk4 hk3 hk2 hk1 hk0 hi0 y4 y3 y2 y1
  simp (disch := decide) only [↓FLL_nc, ↓up_nc, ↓up_ni, ↓up_s, ↓na_n, ↓na_x, ↓na_a, ↓na_z, ↓mak_n, ↓mak_z, ↓mk2_n]
theorem s71_3 : zS m 71 3 = 75 := by
  unfold zS zA z2 z1 yALL fa2 fa1 fa0 fz2 fz1 fz0 y8 y7 y6 y5 hal hk4 hk3 hk2 hk1 hk0 hi0 y4 y3 y2 y1
  simp (disch := decide) only [↓FLL_nc, ↓up_nc, ↓up_ni, ↓up_s, ↓na_n, ↓na_x, ↓na_a, ↓na_z, ↓mak_n, ↓mak_z, ↓mk2_n]
theorem s71_4 : zS m 71 4 = 76 := by
  unfold zS zA z2 z1 yALL fa2 fa1 fa0 fz2 fz1 fz0 y8 y7 y6 y5 hal hk4 hk3 hk2 hk1 hk0 hi0 y4 y3 y2 y1
  simp (disch := decide) only [↓FLL_nc, ↓up_nc, ↓up_ni, ↓up_s, ↓na_n, ↓na_x, ↓na_a, ↓na_z, ↓mak_n, ↓mak_z, ↓mk2_n]
theorem s71_5 : zS m 71 5 = 77 := by
  unfold zS zA z2 z1 yALL fa2 fa1 fa0 fz2 fz1 fz0 y8 y7 y6 y5 hal hk4 hk3 hk2 hk1 hk0 hi0 y4 y3 y2 y1
  simp (disch := decide) only [↓FLL_nc, ↓up_nc, ↓up_ni, ↓up_s, ↓na_n, ↓na_x, ↓na_a, ↓na_z, ↓mak_n, ↓mak_z, ↓mk2_n]
theorem s71_6 : zS m 71 6 = 78 := by
  unfold zS zA z2 z1 yALL fa2 fa1 fa0 fz2 fz1 fz0 y8 y7 y6 y5 hal hk4 hk3 hk2 hk1 hk0 hi0 y4 y3 y2 y1
  simp (disch := decide) only [↓FLL_nc, ↓up_nc, ↓up_ni, ↓up_s, ↓na_n, ↓na_x, ↓na_a, ↓na_z, ↓mak_n, ↓mak_z, ↓mk2_n]
theorem s71_7 : zS m 71 7 = 79 := by
  unfold zS zA z2 z1 yALL fa2 fa1 fa0 fz2 fz1 fz0 y8 y7 y6 y5 hal hk4 hk3 hk2 hk1 hk0 hi0 y4 y3 y2 y1
  simp (disch := decide) only [↓FLL_nc, ↓up_nc, ↓up_ni, ↓up_s, ↓na_n, ↓na_x, ↓na_a, ↓na_z, ↓mak_n, ↓mak_z, ↓mk2_n]
theorem s71_8 : zS m 71 8 = 80 := by
  unfold zS zA z2 z1 yALL fa2 fa1 fa0 fz2 fz1 fz0 y8 y7 y6 y5 hal hk4 hk3 hk2 hk1 hk0 hi0 y4 y3 y2 y1
  simp (disch := decide) only [↓FLL_nc, ↓up_nc, ↓up_ni, ↓up_s, ↓na_n, ↓na_x, ↓na_a, ↓na_z, ↓mak_n, ↓mak_z, ↓mk2_n]
theorem s71_9 : zS m 71 9 = 81 := by
  unfold zS zA z2 z1 yALL fa2 fa1 fa0 fz2 fz1 fz0 y8 y7 y6 y5 hal hk4 hk3 hk2 hk1 hk0 hi0 y4 y3 y2 y1
  simp (disch := decide) only [↓FLL_nc, ↓up_nc, ↓up_ni, ↓up_s, ↓na_n, ↓na_x, ↓na_a, ↓na_z, ↓mak_n, ↓mak_z, ↓mk2_n]
theorem s71_11 : zS m 71 11 = 82 := by
  unfold zS zA z2 z1 yALL fa2 fa1 fa0 fz2 fz1 fz0 y8 y7 y6 y5 hal hk4 hk3 hk2 hk1 hk0 hi0 y4 y3 y2 y1
  simp (disch := decide) only [↓FLL_nc, ↓up_nc, ↓up_ni, ↓up_s, ↓na_n, ↓na_x, ↓na_a, ↓na_z, ↓mak_n, ↓mak_z, ↓mk2_n]
theorem s71_12 : zS m 71 12 = 83 := by
  unfold zS zA z2 z1 yALL fa2 fa1 fa0 fz2 fz1 fz0 y8 y7 y6 y5 hal hk4 hk3 hk2 hk1 hk0 hi0 y4 y3 y2 y1
  simp (disch := decide) only [↓FLL_nc, ↓up_nc, ↓up_ni, ↓up_s, ↓na_n, ↓na_x, ↓na_a, ↓na_z, ↓mak_n, ↓mak_z, ↓mk2_n]
theorem s71_13 : zS m 71 13 = 84 := by
  unfold zS zA z2 z1 yALL fa2 fa1 fa0 fz2 fz1 fz0 y8 y7 y6 y5 hal hk4 hk3 hk2 hk1 hk0 hi0 y4 y3 y2 y1
  simp (disch := decide) only [↓FLL_nc, ↓up_nc, ↓up_ni, ↓up_s, ↓na_n, ↓na_x, ↓na_a, ↓na_z, ↓mak_n, ↓mak_z, ↓mk2_n]
theorem s71_18 : zS m 71 18 = 85 := by
  unfold zS zA z2 z1 yALL fa2 fa1 fa0 fz2 fz1 fz0 y8 y7 y6 y5 hal hk4 hk3 hk2 hk1 hk0 hi0 y4 y3 y2 y1
  simp (disch := decide) only [↓FLL_nc, ↓up_nc, ↓up_ni, ↓up_s, ↓na_n, ↓na_x, ↓na_a, ↓na_z, ↓mak_n, ↓mak_z, ↓mk2_n]
theorem s71_19 : zS m 71 19 = 86 := by
  unfold zS zA z2 z1 yALL fa2 fa1 fa0 fz2 fz1 fz0 y8 y7 y6 y5 hal hk4 hk3 hk2 hk1 hk0 hi0 y4 y3 y2 y1
  simp (disch := decide) only [↓FLL_nc, ↓up_nc, ↓up_ni, ↓up_s, ↓na_n, ↓na_x, ↓na_a, ↓na_z, ↓mak_n, ↓mak_z, ↓mk2_n]
theorem s71_20 : zS m 71 20 = 87 := by
  unfold zS zA z2 z1 yALL fa2 fa1 fa0 fz2 fz1 fz0 y8 y7 y6 y5 hal hk4 hk3 hk2 hk1 hk0 hi0 y4 y3 y2 y1
  simp (disch := decide) only [↓FLL_nc, ↓up_nc, ↓up_ni, ↓up_s, ↓na_n, ↓na_x, ↓na_a, ↓na_z, ↓mak_n, ↓mak_z, ↓mk2_n]
theorem s71_23 : zS m 71 23 = 88 := by
  unfold zS zA z2 z1 yALL fa2 fa1 fa0 fz2 fz1 fz0 y8 y7 y6 y5 hal hk4 hk3 hk2 hk1 hk0 hi0 y4 y3 y2 y1
  simp (disch := decide) only [↓FLL_nc, ↓up_nc, ↓up_ni, ↓up_s, ↓na_n, ↓na_x, ↓na_a, ↓na_z, ↓mak_n, ↓mak_z, ↓mk2_n]
theorem s71_29 : zS m 71 29 = 89 := by
  unfold zS zA z2 z1 yALL fa2 fa1 fa0 fz2 fz1 fz0 y8 y7 y6 y5 hal hk4 hk3 hk2 hk1 hk0 hi0 y4 y3 y2 y1
  simp (disch := decide) only [↓FLL_nc, ↓up_nc, ↓up_ni, ↓up_s, ↓na_n, ↓na_x, ↓na_a, ↓na_z, ↓mak_n, ↓mak_z, ↓mk2_n]
theorem s71_10 : zS m 71 10 = 0 := by
  unfold zS zA z2 z1 yALL fa2 fa1 fa0 fz2 fz1 fz0 y8 y7 y6 y5 hal hk4 hk3 hk2 hk1 hk0 hi0 y4 y3 y2 y1
  simp (disch := decide) only [↓FLL_nc, ↓up_nc, ↓up_ni, ↓up_s, ↓na_n, ↓na_x, ↓na_a, ↓na_z, ↓mak_n, ↓mak_z, ↓mk2_n]
theorem s71_14 : zS m 71 14 = 0 := by
  unfold zS zA z2 z1 yALL fa2 fa1 fa0 fz2 fz1 fz0 y8 y7 y6 y5 hal hk4 hk3 hk2 hk1 hk0 hi0 y4 y3 y2 y1
  simp (disch := decide) only [↓FLL_nc, ↓up_nc, ↓up_ni, ↓up_s, ↓na_n, ↓na_x, ↓na_a, ↓na_z, ↓mak_n, ↓mak_z, ↓mk2_n]
theorem s71_15 : zS m 71 15 = 0 := by
  unfold zS zA z2 z1 yALL fa2 fa1 fa0 fz2 fz1 fz0 y8 y7 y6 y5 hal hk4 hk3 hk2 hk1 hk0 hi0 y4 y3 y2 y1
  simp (disch := decide) only [↓FLL_nc, ↓up_nc, ↓up_ni, ↓up_s, ↓na_n, ↓na_x, ↓na_a, ↓na_z, ↓mak_n, ↓mak_z, ↓mk2_n]
theorem s71_16 : zS m 71 16 = 1 := by
  unfold zS zA z2 z1 yALL fa2 fa1 fa0 fz2 fz1 fz0 y8 y7 y6 y5 hal hk4 hk3 hk2 hk1 hk0 hi0 y4 y3 y2 y1
  simp (disch := decide) only [↓FLL_nc, ↓up_nc, ↓up_ni, ↓up_s, ↓na_n, ↓na_x, ↓na_a, ↓na_z, ↓mak_n, ↓mak_z, ↓mk2_n]
theorem s71_17 : zS m 71 17 = 0 := by
  unfold zS zA z2 z1 yALL fa2 fa1 fa0 fz2 fz1 fz0 y8 y7 y6 y5 hal hk4 hk3 hk2 hk1 hk0 hi0 y4 y3 y2 y1
  simp (disch := decide) only [↓FLL_nc, ↓up_nc, ↓up_ni, ↓up_s, ↓na_n, ↓na_x, ↓na_a, ↓na_z, ↓mak_n, ↓mak_z, ↓mk2_n]
theorem s41_0 : zS m 41 0 = 0 := by
  unfold zS zA z2 z1 yALL fa2 fa1 fa0 fz2 fz1 fz0 y8 y7 y6 y5 hal hk4 hk3 hk2 hk1 hk0 hi0 y4 y3 y2 y1
  simp (disch := decide) only [↓FLL_nc, ↓up_nc, ↓up_ni, ↓up_s, ↓na_n, ↓na_x, ↓na_a, ↓na_z, ↓mak_n, ↓mak_z, ↓mk2_n]
theorem s41_1 : zS m 41 1 = 0 := by
  unfold zS zA z2 z1 yALL fa2 fa1 fa0 fz2 fz1 fz0 y8 y7 y6 y5 hal hk4 hk3 hk2 hk1 hk0 hi0 y4 y3 y2 y1
  simp (disch := decide) only [↓FLL_nc, ↓up_nc, ↓up_ni, ↓up_s, ↓na_n, ↓na_x, ↓na_a, ↓na_z, ↓mak_n, ↓mak_z, ↓mk2_n]
theorem s41_2 : zS m 41 2 = 0 := by
  unfold zS zA z2 z1 yALL fa2 fa1 fa0 fz2 fz1 fz0 y8 y7 y6 y5 hal hk4 hk3 hk2 hk1 hk0 hi0 y4 y3 y2 y1
  simp (disch := decide) only [↓FLL_nc, ↓up_nc, ↓up_ni, ↓up_s, ↓na_n, ↓na_x, ↓na_a, ↓na_z, ↓mak_n, ↓mak_z, ↓mk2_n]
theorem s41_3 : zS m 41 3 = 0 := by
  unfold zS zA z2 z1 yALL fa2 fa1 fa0 fz2 fz1 fz0 y8 y7 y6 y5 hal hk4 hk3 hk2 hk1 hk0 hi0 y4 y3 y2 y1
  simp (disch := decide) only [↓FLL_nc, ↓up_nc, ↓up_ni, ↓up_s, ↓na_n, ↓na_x, ↓na_a, ↓na_z, ↓mak_n, ↓mak_z, ↓mk2_n]
theorem s41_4 : zS m 41 4 = 0 := by
  unfold zS zA z2 z1 yALL fa2 fa1 fa0 fz2 fz1 fz0 y8 y7 y6 y5 hal hk4 hk3 hk2 hk1 hk0 hi0 y4 y3 y2 y1
  simp (disch := decide) only [↓FLL_nc, ↓up_nc, ↓up_ni, ↓up_s, ↓na_n, ↓na_x, ↓na_a, ↓na_z, ↓mak_n, ↓mak_z, ↓mk2_n]
theorem s41_5 : zS m 41 5 = 0 := by
  unfold zS zA z2 z1 yALL fa2 fa1 fa0 fz2 fz1 fz0 y8 y7 y6 y5 hal hk4 hk3 hk2 hk1 hk0 hi0 y4 y3 y2 y1
  simp (disch := decide) only [↓FLL_nc, ↓up_nc, ↓up_ni, ↓up_s, ↓na_n, ↓na_x, ↓na_a, ↓na_z, ↓mak_n, ↓mak_z, ↓mk2_n]
theorem s41_6 : zS m 41 6 = 42 := by
  unfold zS zA z2 z1 yALL fa2 fa1 fa0 fz2 fz1 fz0 y8 y7 y6 y5 hal hk4 hk3 hk2 hk1 hk0 hi0 y4 y3 y2 y1
  simp (disch := decide) only [↓FLL_nc, ↓up_nc, ↓up_ni, ↓up_s, ↓na_n, ↓na_x, ↓na_a, ↓na_z, ↓mak_n, ↓mak_z, ↓mk2_n]
theorem s41_7 : zS m 41 7 = 43 := by
  unfold zS zA z2 z1 yALL fa2 fa1 fa0 fz2 fz1 fz0 y8 y7 y6 y5 hal hk4 hk3 hk2 hk1 hk0 hi0 y4 y3 y2 y1
  simp (disch := decide) only [↓FLL_nc, ↓up_nc, ↓up_ni, ↓up_s, ↓na_n, ↓na_x, ↓na_a, ↓na_z, ↓mak_n, ↓mak_z, ↓mk2_n]
theorem s41_8 : zS m 41 8 = 44 := by
  unfold zS zA z2 z1 yALL fa2 fa1 fa0 fz2 fz1 fz0 y8 y7 y6 y5 hal hk4 hk3 hk2 hk1 hk0 hi0 y4 y3 y2 y1
  simp (disch := decide) only [↓FLL_nc, ↓up_nc, ↓up_ni, ↓up_s, ↓na_n, ↓na_x, ↓na_a, ↓na_z, ↓mak_n, ↓mak_z, ↓mk2_n]
theorem s41_9 : zS m 41 9 = 45 := by
  unfold zS zA z2 z1 yALL fa2 fa1 fa0 fz2 fz1 fz0 y8 y7 y6 y5 hal hk4 hk3 hk2 hk1 hk0 hi0 y4 y3 y2 y1
  simp (disch := decide) only [↓FLL_nc, ↓up_nc, ↓up_ni, ↓up_s, ↓na_n, ↓na_x, ↓na_a, ↓na_z, ↓mak_n, ↓mak_z, ↓mk2_n]
theorem s41_10 : zS m 41 10 = 46 := by
  unfold zS zA z2 z1 yALL fa2 fa1 fa0 fz2 fz1 fz0 y8 y7 y6 y5 hal hk4 hk3 hk2 hk1 hk0 hi0 y4 y3 y2 y1
  simp (disch := decide) only [↓FLL_nc, ↓up_nc, ↓up_ni, ↓up_s, ↓na_n, ↓na_x, ↓na_a, ↓na_z, ↓mak_n, ↓mak_z, ↓mk2_n]
theorem s41_11 : zS m 41 11 = 47 := by
  unfold zS zA z2 z1 yALL fa2 fa1 fa0 fz2 fz1 fz0 y8 y7 y6 y5 hal hk4 hk3 hk2 hk1 hk0 hi0 y4 y3 y2 y1
  simp (disch := decide) only [↓FLL_nc, ↓up_nc, ↓up_ni, ↓up_s, ↓na_n, ↓na_x, ↓na_a, ↓na_z, ↓mak_n, ↓mak_z, ↓mk2_n]
theorem s41_12 : zS m 41 12 = 48 := by
  unfold zS zA z2 z1 yALL fa2 fa1 fa0 fz2 fz1 fz0 y8 y7 y6 y5 hal hk4 hk3 hk2 hk1 hk0 hi0 y4 y3 y2 y1
  simp (disch := decide) only [↓FLL_nc, ↓up_nc, ↓up_ni, ↓up_s, ↓na_n, ↓na_x, ↓na_a, ↓na_z, ↓mak_n, ↓mak_z, ↓mk2_n]
theorem s41_13 : zS m 41 13 = 49 := by
  unfold zS zA z2 z1 yALL fa2 fa1 fa0 fz2 fz1 fz0 y8 y7 y6 y5 hal hk4 hk3 hk2 hk1 hk0 hi0 y4 y3 y2 y1
  simp (disch := decide) only [↓FLL_nc, ↓up_nc, ↓up_ni, ↓up_s, ↓na_n, ↓na_x, ↓na_a, ↓na_z, ↓mak_n, ↓mak_z, ↓mk2_n]
theorem s41_14 : zS m 41 14 = 50 := by
  unfold zS zA z2 z1 yALL fa2 fa1 fa0 fz2 fz1 fz0 y8 y7 y6 y5 hal hk4 hk3 hk2 hk1 hk0 hi0 y4 y3 y2 y1
  simp (disch := decide) only [↓FLL_nc, ↓up_nc, ↓up_ni, ↓up_s, ↓na_n, ↓na_x, ↓na_a, ↓na_z, ↓mak_n, ↓mak_z, ↓mk2_n]
theorem s51_0 : zS m 51 0 = 0 := by
  unfold zS zA z2 z1 yALL fa2 fa1 fa0 fz2 fz1 fz0 y8 y7 y6 y5 hal hk4 hk3 hk2 hk1 hk0 hi0 y4 y3 y2 y1
  simp (disch := decide) only [↓FLL_nc, ↓up_nc, ↓up_ni, ↓up_s, ↓na_n, ↓na_x, ↓na_a, ↓na_z, ↓mak_n, ↓mak_z, ↓mk2_n]
theorem s51_1 : zS m 51 1 = 0 := by
  unfold zS zA z2 z1 yALL fa2 fa1 fa0 fz2 fz1 fz0 y8 y7 y6 y5 hal hk4 hk3 hk2 hk1 hk0 hi0 y4 y3 y2 y1
  simp (disch := decide) only [↓FLL_nc, ↓up_nc, ↓up_ni, ↓up_s, ↓na_n, ↓na_x, ↓na_a, ↓na_z, ↓mak_n, ↓mak_z, ↓mk2_n]
theorem s51_2 : zS m 51 2 = 0 := by
  unfold zS zA z2 z1 yALL fa2 fa1 fa0 fz2 fz1 fz0 y8 y7 y6 y5 hal hk4 hk3 hk2 hk1 hk0 hi0 y4 y3 y2 y1
  simp (disch := decide) only [↓FLL_nc, ↓up_nc, ↓up_ni, ↓up_s, ↓na_n, ↓na_x, ↓na_a, ↓na_z, ↓mak_n, ↓mak_z, ↓mk2_n]
theorem s51_3 : zS m 51 3 = 0 := by
  unfold zS zA z2 z1 yALL fa2 fa1 fa0 fz2 fz1 fz0 y8 y7 y6 y5 hal hk4 hk3 hk2 hk1 hk0 hi0 y4 y3 y2 y1
  simp (disch := decide) only [↓FLL_nc, ↓up_nc, ↓up_ni, ↓up_s, ↓na_n, ↓na_x, ↓na_a, ↓na_z, ↓mak_n, ↓mak_z, ↓mk2_n]
theorem s51_4 : zS m 51 4 = 0 := by
  unfold zS zA z2 z1 yALL fa2 fa1 fa0 fz2 fz1 fz0 y8 y7 y6 y5 hal hk4 hk3 hk2 hk1 hk0 hi0 y4 y3 y2 y1
  simp (disch := decide) only [↓FLL_nc, ↓up_nc, ↓up_ni, ↓up_s, ↓na_n, ↓na_x, ↓na_a, ↓na_z, ↓mak_n, ↓mak_z, ↓mk2_n]
theorem s51_5 : zS m 51 5 = 0 := by
  unfold zS zA z2 z1 yALL fa2 fa1 fa0 fz2 fz1 fz0 y8 y7 y6 y5 hal hk4 hk3 hk2 hk1 hk0 hi0 y4 y3 y2 y1
  simp (disch := decide) only [↓FLL_nc, ↓up_nc, ↓up_ni, ↓up_s, ↓na_n, ↓na_x, ↓na_a, ↓na_z, ↓mak_n, ↓mak_z, ↓mk2_n]
theorem s51_6 : zS m 51 6 = 52 := by
  unfold zS zA z2 z1 yALL fa2 fa1 fa0 fz2 fz1 fz0 y8 y7 y6 y5 hal hk4 hk3 hk2 hk1 hk0 hi0 y4 y3 y2 y1
  simp (disch := decide) only [↓FLL_nc, ↓up_nc, ↓up_ni, ↓up_s, ↓na_n, ↓na_x, ↓na_a, ↓na_z, ↓mak_n, ↓mak_z, ↓mk2_n]
theorem s51_7 : zS m 51 7 = 53 := by
  unfold zS zA z2 z1 yALL fa2 fa1 fa0 fz2 fz1 fz0 y8 y7 y6 y5 hal hk4 hk3 hk2 hk1 hk0 hi0 y4 y3 y2 y1
  simp (disch := decide) only [↓FLL_nc, ↓up_nc, ↓up_ni, ↓up_s, ↓na_n, ↓na_x, ↓na_a, ↓na_z, ↓mak_n, ↓mak_z, ↓mk2_n]
theorem s51_8 : zS m 51 8 = 54 := by
  unfold zS zA z2 z1 yALL fa2 fa1 fa0 fz2 fz1 fz0 y8 y7 y6 y5 hal hk4 hk3 hk2 hk1 hk0 hi0 y4 y3 y2 y1
  simp (disch := decide) only [↓FLL_nc, ↓up_nc, ↓up_ni, ↓up_s, ↓na_n, ↓na_x, ↓na_a, ↓na_z, ↓mak_n, ↓mak_z, ↓mk2_n]
theorem s51_9 : zS m 51 9 = 55 := by
  unfold zS zA z2 z1 yALL fa2 fa1 fa0 fz2 fz1 fz0 y8 y7 y6 y5 hal hk4 hk3 hk2 hk1 hk0 hi0 y4 y3 y2 y1
  simp (disch := decide) only [↓FLL_nc, ↓up_nc, ↓up_ni, ↓up_s, ↓na_n, ↓na_x, ↓na_a, ↓na_z, ↓mak_n, ↓mak_z, ↓mk2_n]
theorem s51_10 : zS m 51 10 = 56 := by
  unfold zS zA z2 z1 yALL fa2 fa1 fa0 fz2 fz1 fz0 y8 y7 y6 y5 hal hk4 hk3 hk2 hk1 hk0 hi0 y4 y3 y2 y1
  simp (disch := decide) only [↓FLL_nc, ↓up_nc, ↓up_ni, ↓up_s, ↓na_n, ↓na_x, ↓na_a, ↓na_z, ↓mak_n, ↓mak_z, ↓mk2_n]
theorem s51_11 : zS m 51 11 = 57 := by
  unfold zS zA z2 z1 yALL fa2 fa1 fa0 fz2 fz1 fz0 y8 y7 y6 y5 hal hk4 hk3 hk2 hk1 hk0 hi0 y4 y3 y2 y1
  simp (disch := decide) only [↓FLL_nc, ↓up_nc, ↓up_ni, ↓up_s, ↓na_n, ↓na_x, ↓na_a, ↓na_z, ↓mak_n, ↓mak_z, ↓mk2_n]
theorem s51_12 : zS m 51 12 = 58 := by
  unfold zS zA z2 z1 yALL fa2 fa1 fa0 fz2 fz1 fz0 y8 y7 y6 y5 hal hk4 hk3 hk2 hk1 hk0 hi0 y4 y3 y2 y1
  simp (disch := decide) only [↓FLL_nc, ↓up_nc, ↓up_ni, ↓up_s, ↓na_n, ↓na_x, ↓na_a, ↓na_z, ↓mak_n, ↓mak_z, ↓mk2_n]
theorem s51_13 : zS m 51 13 = 59 := by
  unfold zS zA z2 z1 yALL fa2 fa1 fa0 fz2 fz1 fz0 y8 y7 y6 y5 hal hk4 hk3 hk2 hk1 hk0 hi0 y4 y3 y2 y1
  simp (disch := decide) only [↓FLL_nc, ↓up_nc, ↓up_ni, ↓up_s, ↓na_n, ↓na_x, ↓na_a, ↓na_z, ↓mak_n, ↓mak_z, ↓mk2_n]
theorem s51_14 : zS m 51 14 = 60 := by
  unfold zS zA z2 z1 yALL fa2 fa1 fa0 fz2 fz1 fz0 y8 y7 y6 y5 hal hk4 hk3 hk2 hk1 hk0 hi0 y4 y3 y2 y1
  simp (disch := decide) only [↓FLL_nc, ↓up_nc, ↓up_ni, ↓up_s, ↓na_n, ↓na_x, ↓na_a, ↓na_z, ↓mak_n, ↓mak_z, ↓mk2_n]
theorem s61_0 : zS m 61 0 = 0 := by
  unfold zS zA z2 z1 yALL fa2 fa1 fa0 fz2 fz1 fz0 y8 y7 y6 y5 hal hk4 hk3 hk2 hk1 hk0 hi0 y4 y3 y2 y1
  simp (disch := decide) only [↓FLL_nc, ↓up_nc, ↓up_ni, ↓up_s, ↓na_n, ↓na_x, ↓na_a, ↓na_z, ↓mak_n, ↓mak_z, ↓mk2_n]
theorem s61_1 : zS m 61 1 = 0 := by
  unfold zS zA z2 z1 yALL fa2 fa1 fa0 fz2 fz1 fz0 y8 y7 y6 y5 hal hk4 hk3 hk2 hk1 hk0 hi0 y4 y3 y2 y1
  simp (disch := decide) only [↓FLL_nc, ↓up_nc, ↓up_ni, ↓up_s, ↓na_n, ↓na_x, ↓na_a, ↓na_z, ↓mak_n, ↓mak_z, ↓mk2_n]
theorem s61_2 : zS m 61 2 = 0 := by
  unfold zS zA z2 z1 yALL fa2 fa1 fa0 fz2 fz1 fz0 y8 y7 y6 y5 hal hk4 hk3 hk2 hk1 hk0 hi0 y4 y3 y2 y1
  simp (disch := decide) only [↓FLL_nc, ↓up_nc, ↓up_ni, ↓up_s, ↓na_n, ↓na_x, ↓na_a, ↓na_z, ↓mak_n, ↓mak_z, ↓mk2_n]
theorem s61_3 : zS m 61 3 = 0 := by
  unfold zS zA z2 z1 yALL fa2 fa1 fa0 fz2 fz1 fz0 y8 y7 y6 y5 hal hk4 hk3 hk2 hk1 hk0 hi0 y4 y3 y2 y1
  simp (disch := decide) only [↓FLL_nc, ↓up_nc, ↓up_ni, ↓up_s, ↓na_n, ↓na_x, ↓na_a, ↓na_z, ↓mak_n, ↓mak_z, ↓mk2_n]
theorem s61_4 : zS m 61 4 = 0 := by
  unfold zS zA z2 z1 yALL fa2 fa1 fa0 fz2 fz1 fz0 y8 y7 y6 y5 hal hk4 hk3 hk2 hk1 hk0 hi0 y4 y3 y2 y1
  simp (disch := decide) only [↓FLL_nc, ↓up_nc, ↓up_ni, ↓up_s, ↓na_n, ↓na_x, ↓na_a, ↓na_z, ↓mak_n, ↓mak_z, ↓mk2_n]
theorem s61_5 : zS m 61 5 = 0 := by
  unfold zS zA z2 z1 yALL fa2 fa1 fa0 fz2 fz1 fz0 y8 y7 y6 y5 hal hk4 hk3 hk2 hk1 hk0 hi0 y4 y3 y2 y1
  simp (disch := decide) only [↓FLL_nc, ↓up_nc, ↓up_ni, ↓up_s, ↓na_n, ↓na_x, ↓na_a, ↓na_z, ↓mak_n, ↓mak_z, ↓mk2_n]
theorem s61_6 : zS m 61 6 = 62 := by
  unfold zS zA z2 z1 yALL fa2 fa1 fa0 fz2 fz1 fz0 y8 y7 y6 y5 hal hk4 hk3 hk2 hk1 hk0 hi0 y4 y3 y2 y1
  simp (disch := decide) only [↓FLL_nc, ↓up_nc, ↓up_ni, ↓up_s, ↓na_n, ↓na_x, ↓na_a, ↓na_z, ↓mak_n, ↓mak_z, ↓mk2_n]
theorem s61_7 : zS m 61 7 = 63 := by
  unfold zS zA z2 z1 yALL fa2 fa1 fa0 fz2 fz1 fz0 y8 y7 y6 y5 hal hk4 hk3 hk2 hk1 hk0 hi0 y4 y3 y2 y1
  simp (disch := decide) only [↓FLL_nc, ↓up_nc, ↓up_ni, ↓up_s, ↓na_n, ↓na_x, ↓na_a, ↓na_z, ↓mak_n, ↓mak_z, ↓mk2_n]
theorem s61_8 : zS m 61 8 = 64 := by
  unfold zS zA z2 z1 yALL fa2 fa1 fa0 fz2 fz1 fz0 y8 y7 y6 y5 hal hk4 hk3 hk2 hk1 hk0 hi0 y4 y3 y2 y1
  simp (disch := decide) only [↓FLL_nc, ↓up_nc, ↓up_ni, ↓up_s, ↓na_n, ↓na_x, ↓na_a, ↓na_z, ↓mak_n, ↓mak_z, ↓mk2_n]
theorem s61_9 : zS m 61 9 = 65 := by
  unfold zS zA z2 z1 yALL fa2 fa1 fa0 fz2 fz1 fz0 y8 y7 y6 y5 hal hk4 hk3 hk2 hk1 hk0 hi0 y4 y3 y2 y1
  simp (disch := decide) only [↓FLL_nc, ↓up_nc, ↓up_ni, ↓up_s, ↓na_n, ↓na_x, ↓na_a, ↓na_z, ↓mak_n, ↓mak_z, ↓mk2_n]
theorem s61_10 : zS m 61 10 = 66 := by
  unfold zS zA z2 z1 yALL fa2 fa1 fa0 fz2 fz1 fz0 y8 y7 y6 y5 hal hk4 hk3 hk2 hk1 hk0 hi0 y4 y3 y2 y1
  simp (disch := decide) only [↓FLL_nc, ↓up_nc, ↓up_ni, ↓up_s, ↓na_n, ↓na_x, ↓na_a, ↓na_z, ↓mak_n, ↓mak_z, ↓mk2_n]
theorem s61_11 : zS m 61 11 = 67 := by
  unfold zS zA z2 z1 yALL fa2 fa1 fa0 fz2 fz1 fz0 y8 y7 y6 y5 hal hk4 hk3 hk2 hk1 hk0 hi0 y4 y3 y2 y1
  simp (disch := decide) only [↓FLL_nc, ↓up_nc, ↓up_ni, ↓up_s, ↓na_n, ↓na_x, ↓na_a, ↓na_z, ↓mak_n, ↓mak_z, ↓mk2_n]
theorem s61_12 : zS m 61 12 = 68 := by
  unfold zS zA z2 z1 yALL fa2 fa1 fa0 fz2 fz1 fz0 y8 y7 y6 y5 hal hk4 hk3 hk2 hk1 hk0 hi0 y4 y3 y2 y1
  simp (disch := decide) only [↓FLL_nc, ↓up_nc, ↓up_ni, ↓up_s, ↓na_n, ↓na_x, ↓na_a, ↓na_z, ↓mak_n, ↓mak_z, ↓mk2_n]
theorem s61_13 : zS m 61 13 = 69 := by
  unfold zS zA z2 z1 yALL fa2 fa1 fa0 fz2 fz1 fz0 y8 y7 y6 y5 hal hk4 hk3 hk2 hk1 hk0 hi0 y4 y3 y2 y1
  simp (disch := decide) only [↓FLL_nc, ↓up_nc, ↓up_ni, ↓up_s, ↓na_n, ↓na_x, ↓na_a, ↓na_z, ↓mak_n, ↓mak_z, ↓mk2_n]
theorem s61_14 : zS m 61 14 = 70 := by
  unfold zS zA z2 z1 yALL fa2 fa1 fa0 fz2 fz1 fz0 y8 y7 y6 y5 hal hk4 hk3 hk2 hk1 hk0 hi0 y4 y3 y2 y1
  simp (disch := decide) only [↓FLL_nc, ↓up_nc, ↓up_ni, ↓up_s, ↓na_n, ↓na_x, ↓na_a, ↓na_z, ↓mak_n, ↓mak_z, ↓mk2_n]
theorem z_2 (i : Int) : zS m 2 i = 0 := by
  unfold zS zA z2 z1 yALL fa2 fa1 fa0 fz2 fz1 fz0 y8 y7 y6 y5 hal hk4 hk3 hk2 hk1 hk0 hi0 y4 y3 y2 y1
  simp (disch := decide) only [↓FLL_nc, ↓up_nc, ↓up_ni, ↓up_s, ↓na_n, ↓na_x, ↓na_a, ↓na_z, ↓mak_n, ↓mak_z, ↓mk2_n]
theorem z_3 (i : Int) : zS m 3 i = 0 := by
  unfold zS zA z2 z1 yALL fa2 fa1 fa0 fz2 fz1 fz0 y8 y7 y6 y5 hal hk4 hk3 hk2 hk1 hk0 hi0 y4 y3 y2 y1
  simp (disch := decide) only [↓FLL_nc, ↓up_nc, ↓up_ni, ↓up_s, ↓na_n, ↓na_x, ↓na_a, ↓na_z, ↓mak_n, ↓mak_z, ↓mk2_n]
theorem z_40 (i : Int) : zS m 40 i = 0 := by
  unfold zS zA z2 z1 yALL fa2 fa1 fa0 fz2 fz1 fz0 y8 y7 y6 y5 hal hk4 hk3 hk2 hk1 hk0 hi0 y4 y3 y2 y1
  simp (disch := decide) only [↓FLL_nc, ↓up_nc, ↓up_ni, ↓up_s, ↓na_n, ↓na_x, ↓na_a, ↓na_z, ↓mak_n, ↓mak_z, ↓mk2_n]
theorem z_72 (i : Int) : zS m 72 i = 0 := by
  unfold zS zA z2 z1 yALL fa2 fa1 fa0 fz2 fz1 fz0 y8 y7 y6 y5 hal hk4 hk3 hk2 hk1 hk0 hi0 y4 y3 y2 y1
  simp (disch := decide) only [↓FLL_nc, ↓up_nc, ↓up_ni, ↓up_s, ↓na_n, ↓na_x, ↓na_a, ↓na_z, ↓mak_n, ↓mak_z, ↓mk2_n]
theorem z_74 (i : Int) : zS m 74 i = 0 := by
  unfold zS zA z2 z1 yALL fa2 fa1 fa0 fz2 fz1 fz0 y8 y7 y6 y5 hal hk4 hk3 hk2 hk1 hk0 hi0 y4 y3 y2 y1
  simp (disch := decide) only [↓FLL_nc, ↓up_nc, ↓up_ni, ↓up_s, ↓na_n, ↓na_x, ↓na_a, ↓na_z, ↓mak_n, ↓mak_z, ↓mk2_n]
theorem z_75 (i : Int) : zS m 75 i = 0 := by
  unfold zS zA z2 z1 yALL fa2 fa1 fa0 fz2 fz1 fz0 y8 y7 y6 y5 hal hk4 hk3 hk2 hk1 hk0 hi0 y4 y3 y2 y1
  simp (disch := decide) only [↓FLL_nc, ↓up_nc, ↓up_ni, ↓up_s, ↓na_n, ↓na_x, ↓na_a, ↓na_z, ↓mak_n, ↓mak_z, ↓mk2_n]
theorem z_76 (i : Int) : zS m 76 i = 0 := by
  unfold zS zA z2 z1 yALL fa2 fa1 fa0 fz2 fz1 fz0 y8 y7 y6 y5 hal hk4 hk3 hk2 hk1 hk0 hi0 y4 y3 y2 y1
  simp (disch := decide) only [↓FLL_nc, ↓up_nc, ↓up_ni, ↓up_s, ↓na_n, ↓na_x, ↓na_a, ↓na_z, ↓mak_n, ↓mak_z, ↓mk2_n]
theorem z_79 (i : Int) : zS m 79 i = 0 := by
  unfold zS zA z2 z1 yALL fa2 fa1 fa0 fz2 fz1 fz0 y8 y7 y6 y5 hal hk4 hk3 hk2 hk1 hk0 hi0 y4 y3 y2 y1
  simp (disch := decide) only [↓FLL_nc, ↓up_nc, ↓up_ni, ↓up_s, ↓na_n, ↓na_x, ↓na_a, ↓na_z, ↓mak_n, ↓mak_z, ↓mk2_n]
theorem z_82 (i : Int) : zS m 82 i = 0 := by
  unfold zS zA z2 z1 yALL fa2 fa1 fa0 fz2 fz1 fz0 y8 y7 y6 y5 hal hk4 hk3 hk2 hk1 hk0 hi0 y4 y3 y2 y1
  simp (disch := decide) only [↓FLL_nc, ↓up_nc, ↓up_ni, ↓up_s, ↓na_n, ↓na_x, ↓na_a, ↓na_z, ↓mak_n, ↓mak_z, ↓mk2_n]
theorem z_85 (i : Int) : zS m 85 i = 0 := by
  unfold zS zA z2 z1 yALL fa2 fa1 fa0 fz2 fz1 fz0 y8 y7 y6 y5 hal hk4 hk3 hk2 hk1 hk0 hi0 y4 y3 y2 y1
  simp (disch := decide) only [↓FLL_nc, ↓up_nc, ↓up_ni, ↓up_s, ↓na_n, ↓na_x, ↓na_a, ↓na_z, ↓mak_n, ↓mak_z, ↓mk2_n]
theorem z_44 (i : Int) : zS m 44 i = 0 := by
  unfold zS zA z2 z1 yALL fa2 fa1 fa0 fz2 fz1 fz0 y8 y7 y6 y5 hal hk4 hk3 hk2 hk1 hk0 hi0 y4 y3 y2 y1
  simp (disch := decide) only [↓FLL_nc, ↓up_nc, ↓up_ni, ↓up_s, ↓na_n, ↓na_x, ↓na_a, ↓na_z, ↓mak_n, ↓mak_z, ↓mk2_n]
theorem z_54 (i : Int) : zS m 54 i = 0 := by
  unfold zS zA z2 z1 yALL fa2 fa1 fa0 fz2 fz1 fz0 y8 y7 y6 y5 hal hk4 hk3 hk2 hk1 hk0 hi0 y4 y3 y2 y1
  simp (disch := decide) only [↓FLL_nc, ↓up_nc, ↓up_ni, ↓up_s, ↓na_n, ↓na_x, ↓na_a, ↓na_z, ↓mak_n, ↓mak_z, ↓mk2_n]
theorem z_64 (i : Int) : zS m 64 i = 0 := by
  unfold zS zA z2 z1 yALL fa2 fa1 fa0 fz2 fz1 fz0 y8 y7 y6 y5 hal hk4 hk3 hk2 hk1 hk0 hi0 y4 y3 y2 y1
  simp (disch := decide) only [↓FLL_nc, ↓up_nc, ↓up_ni, ↓up_s, ↓na_n, ↓na_x, ↓na_a, ↓na_z, ↓mak_n, ↓mak_z, ↓mk2_n]
theorem l_4 {i : Int} (h : 0 ≤ i ∧ i < 7) : zS m 4 i = 1000 := by
  unfold zS zA z2 z1 yALL fa2 fa1 fa0 fz2 fz1 fz0 y8 y7 y6 y5 hal hk4 hk3 hk2 hk1 hk0 hi0 y4 y3 y2 y1
  simp (disch := decide) only [↓FLL_nc, ↓up_nc, ↓up_ni, ↓up_s, ↓na_n, ↓na_x, ↓na_a, ↓na_z, ↓mak_n, ↓mak_z, ↓mk2_n]
  exact FLL_i _ h
theorem l_39 {i : Int} (h : 0 ≤ i ∧ i < 10) : zS m 39 i = -1 := by
  unfold zS zA z2 z1 yALL fa2 fa1 fa0 fz2 fz1 fz0 y8 y7 y6 y5 hal hk4 hk3 hk2 hk1 hk0 hi0 y4 y3 y2 y1
  simp (disch := decide) only [↓FLL_nc, ↓up_nc, ↓up_ni, ↓up_s, ↓na_n, ↓na_x, ↓na_a, ↓na_z, ↓mak_n, ↓mak_z, ↓mk2_n]
  exact FLL_i _ h
theorem l_49 {i : Int} (h : 0 ≤ i ∧ i < 396) : zS m 49 i = -1 := by
  unfold zS zA z2 z1 yALL fa2 fa1 fa0 fz2 fz1 fz0 y8 y7 y6 y5 hal hk4 hk3 hk2 hk1 hk0 hi0 y4 y3 y2 y1
  simp (disch := decide) only [↓FLL_nc, ↓up_nc, ↓up_ni, ↓up_s, ↓na_n, ↓na_x, ↓na_a, ↓na_z, ↓mak_n, ↓mak_z, ↓mk2_n]
  exact FLL_i _ h
theorem l_59 {i : Int} (h : 0 ≤ i ∧ i < 396) : zS m 59 i = -1 := by
  unfold zS zA z2 z1 yALL fa2 fa1 fa0 fz2 fz1 fz0 y8 y7 y6 y5 hal hk4 hk3 hk2 hk1 hk0 hi0 y4 y3 y2 y1
  simp (disch := decide) only [↓FLL_nc, ↓up_nc, ↓up_ni, ↓up_s, ↓na_n, ↓na_x, ↓na_a, ↓na_z, ↓mak_n, ↓mak_z, ↓mk2_n]
  exact FLL_i _ h
theorem l_69 {i : Int} (h : 0 ≤ i ∧ i < 396) : zS m 69 i = -1 := by
  unfold zS zA z2 z1 yALL fa2 fa1 fa0 fz2 fz1 fz0 y8 y7 y6 y5 hal hk4 hk3 hk2 hk1 hk0 hi0 y4 y3 y2 y1
  simp (disch := decide) only [↓FLL_nc, ↓up_nc, ↓up_ni, ↓up_s, ↓na_n, ↓na_x, ↓na_a, ↓na_z, ↓mak_n, ↓mak_z, ↓mk2_n]
  exact FLL_i _ h
theorem l_73 {i : Int} (h : 0 ≤ i ∧ i < 7) : zS m 73 i = 1000 := by
  unfold zS zA z2 z1 yALL fa2 fa1 fa0 fz2 fz1 fz0 y8 y7 y6 y5 hal hk4 hk3 hk2 hk1 hk0 hi0 y4 y3 y2 y1
  simp (disch := decide) only [↓FLL_nc, ↓up_nc, ↓up_ni, ↓up_s, ↓na_n, ↓na_x, ↓na_a, ↓na_z, ↓mak_n, ↓mak_z, ↓mk2_n]
  exact FLL_i _ h
theorem l_83 {i : Int} (h : 0 ≤ i ∧ i < 18) : zS m 83 i = NON := by
  unfold zS zA z2 z1 yALL fa2 fa1 fa0 fz2 fz1 fz0 y8 y7 y6 y5 hal hk4 hk3 hk2 hk1 hk0 hi0 y4 y3 y2 y1
  simp (disch := decide) only [↓FLL_nc, ↓up_nc, ↓up_ni, ↓up_s, ↓na_n, ↓na_x, ↓na_a, ↓na_z, ↓mak_n, ↓mak_z, ↓mk2_n]
  exact FLL_i _ h
theorem l_84 {i : Int} (h : 0 ≤ i ∧ i < 10) : zS m 84 i = NON := by
  unfold zS zA z2 z1 yALL fa2 fa1 fa0 fz2 fz1 fz0 y8 y7 y6 y5 hal hk4 hk3 hk2 hk1 hk0 hi0 y4 y3 y2 y1
  exact FLL_i _ h
theorem l_27 {i : Int} (h : 0 ≤ i ∧ i < 11) : zS m 27 i = 28 + i := by
  unfold zS zA z2 z1 yALL fa2 fa1 fa0 fz2 fz1 fz0 y8 y7 y6 y5 hal hk4 hk3 hk2 hk1 hk0 hi0 y4 y3 y2 y1
  simp (disch := decide) only [↓FLL_nc, ↓up_nc, ↓up_ni, ↓up_s, ↓na_n, ↓na_x, ↓na_a, ↓na_z, ↓mak_n, ↓mak_z, ↓mk2_n]
  exact mk2_r _ h
theorem zS_MRf : MRf (zS m) := ⟨s71_0, s71_1, s71_2, s71_3, s71_4, s71_5, s71_6, s71_7, s71_8, s71_9, s71_11, s71_12, s71_13, s71_18, s71_19, s71_20, s71_23, s71_29⟩
theorem zS_GS : GS (zS m) := by
  refine ⟨⟨s1_0, s1_1, s1_2, s1_3, s1_4, s1_5, s1_6, s1_7, s1_8, s1_9, s1_10⟩, fun f f0 f1 => ?_, ⟨s6_2, s8_3, s8_4, s11_4, s13_2, s25_1, s25_2⟩, fun k k0 k1 => ?_, fun a a0 a1 => l_27 ⟨a0, a1⟩, zS_MRf⟩
  · have : f = 0 ∨ f = 1 ∨ f = 2 := by omega
    rcases this with h | h | h
    · subst h
      exact s5_0
    · subst h
      exact s5_1
    · subst h
      exact s5_2
  · have : k = 0 ∨ k = 1 ∨ k = 2 ∨ k = 3 ∨ k = 4 := by omega
    rcases this with h | h | h | h | h
    · subst h
      exact ⟨s14_0, s15_5⟩
    · subst h
      exact ⟨s14_1, s17_5⟩
    · subst h
      exact ⟨s14_2, s19_5⟩
    · subst h
      exact ⟨s14_3, s21_5⟩
    · subst h
      exact ⟨s14_4, s23_5⟩
theorem zS_R0 : FRf (zS m) 41 := ⟨s41_6, s41_7, s41_8, s41_9, s41_10, s41_11, s41_12, s41_13, s41_14⟩
theorem zS_R1 : FRf (zS m) 51 := ⟨s51_6, s51_7, s51_8, s51_9, s51_10, s51_11, s51_12, s51_13, s51_14⟩
theorem zS_R2 : FRf (zS m) 61 := ⟨s61_6, s61_7, s61_8, s61_9, s61_10, s61_11, s61_12, s61_13, s61_14⟩
theorem zS_fr {f : Int} (f0 : 0 ≤ f) (f1 : f < 3) : FRf (zS m) (41 + 10 * f) ∧ (zS m (41 + 10 * f) 0 = 0 ∧ zS m (41 + 10 * f) 1 = 0 ∧ zS m (41 + 10 * f) 2 = 0 ∧ zS m (41 + 10 * f) 3 = 0 ∧ zS m (41 + 10 * f) 4 = 0 ∧ zS m (41 + 10 * f) 5 = 0) ∧ zS m (41 + 10 * f + 3) 0 = 0 ∧ (∀ k, 0 ≤ k → k < 396 → zS m (41 + 10 * f + 8) k = -1) ∧ Fr (41 + 10 * f) := by
  have : f = 0 ∨ f = 1 ∨ f = 2 := by omega
  rcases this with h | h | h
  · subst h
    exact ⟨zS_R0, ⟨s41_0, s41_1, s41_2, s41_3, s41_4, s41_5⟩, z_44 0, fun k a b => l_49 ⟨a, b⟩, Or.inl rfl⟩
  · subst h
    exact ⟨zS_R1, ⟨s51_0, s51_1, s51_2, s51_3, s51_4, s51_5⟩, z_54 0, fun k a b => l_59 ⟨a, b⟩, Or.inr (Or.inl rfl)⟩
  · subst h
    exact ⟨zS_R2, ⟨s61_0, s61_1, s61_2, s61_3, s61_4, s61_5⟩, z_64 0, fun k a b => l_69 ⟨a, b⟩, Or.inr (Or.inr rfl)⟩
theorem zS_Inv : Inv (zS m) (zS m) := by
  have hN : NON = -1000000005 := rfl
  refine ⟨zS_GS, fun f f0 f1 => ?_, fun p p0 p1 => Or.inl ⟨l_39 ⟨p0, p1⟩, l_84 ⟨p0, p1⟩⟩, ⟨by rw [s1_11, s71_14], by rw [s71_14]; decide, by rw [s71_14]; decide⟩, ⟨fun i i0 i1 => ⟨by rw [z_2, z_72], by rw [z_72]; decide, by rw [z_72]; decide, by rw [z_3, z_72], by rw [z_72]; decide, by rw [z_72]; decide⟩, fun i i0 i1 => ⟨by rw [l_4 ⟨i0, i1⟩, l_73 ⟨i0, i1⟩], by rw [l_73 ⟨i0, i1⟩]; decide, by rw [l_73 ⟨i0, i1⟩]; decide⟩⟩, fun i i0 i1 => ⟨by rw [z_40, z_85], by rw [z_85]; decide, by rw [z_85]; decide⟩, ⟨⟨by rw [s11_0, s71_15], by rw [s71_15]; decide, by rw [s71_15]; decide⟩, ⟨by rw [s11_1, s71_16], by rw [s71_16]; decide, by rw [s71_16]; decide⟩, ⟨by rw [s11_2, s71_17], by rw [s71_17]; decide, by rw [s71_17]; decide⟩⟩, ⟨⟨by rw [s13_0]; decide, by rw [s13_0]; decide, by rw [s71_10, s13_0], by rw [s13_1]; decide, by rw [s13_1]; decide⟩, fun i i0 i1 => ?_⟩, fun _ _ _ => rfl⟩
  · obtain ⟨r1, ⟨a0, a1, a2, a3, a4, a5⟩, r3, r8, r9⟩ := zS_fr (m := m) f0 f1
    have vb : vB (VM (zS m) f) = 0 := z_76 f
    have vl : vL (VM (zS m) f) = 0 := z_74 f
    have vh : vH (VM (zS m) f) = 0 := z_75 f
    have vp : vP (VM (zS m) f) = 0 := z_79 _
    have vk : ∀ b, vK (VM (zS m) f) b = -1 := by
      intro b
      show vK (VP (zS m) (zS m 79) f) b = -1
      rw [vq_K, z_76]
      exact if_neg (by omega)
    have vw : ∀ b, vW (VM (zS m) f) b = 0 := by
      intro b
      show vW (VP (zS m) (zS m 79) f) b = 0
      rw [vq_W, z_76]
      exact if_neg (by omega)
    have vf : ∀ l, vF (VM (zS m) f) l = 0 := by
      intro l
      show vF (VP (zS m) (zS m 79) f) l = 0
      rw [vq_F, z_76]
      exact if_neg (fun q => q.1 rfl)
    have vc : ∀ b l, vC (VM (zS m) f) b l = -1 := by
      intro b l
      show vC (VP (zS m) (zS m 79) f) b l = -1
      rw [vq_C, z_76]
      exact if_neg (fun q => q.1 rfl)
    have vr : ∀ b l, vR (VM (zS m) f) b l = 0 := by
      intro b l
      show vR (VP (zS m) (zS m 79) f) b l = 0
      rw [vq_R, z_76]
      exact if_neg (fun q => q.1 rfl)
    have vt : ∀ b l, vT (VM (zS m) f) b l = 0 := by
      intro b l
      show vT (VP (zS m) (zS m 79) f) b l = 0
      rw [vq_T, z_76]
      exact if_neg (fun q => q.1 rfl)
    have uz : ∀ k, UM (zS m) f k = 0 := by
      intro k
      unfold UM
      split
      · exact z_82 _
      · rfl
    refine ⟨⟨?_, ?_⟩, ?_, ?_⟩
    · refine ⟨⟨by omega, by omega, by omega, by omega, by omega, by omega, by omega, by omega, by omega⟩, fun b => Or.inr ⟨by omega, vk b, vw b⟩, fun l => Or.inl (vf l), fun b l => Or.inl (vc b l), fun b l => Or.inl (vr b l), fun b l => Or.inl (vt b l)⟩
    · refine ⟨r9, r1, by rw [a0, b2i_f (by omega)], by rw [a1, vb], by rw [a2, vl], by rw [a3, vh], by rw [a4, vp], fun b b0 b1 => ?_, fun s s0 s1 => ?_, fun l l0 l1 => ?_, fun b l b0 b1 l0 l1 => ?_, fun s l s0 s1 l0 l1 => ?_⟩
      · exact absurd b1 (by omega)
      · rw [show s = 0 by omega, r3, b2i_f]
        intro q
        apply q
        intro t
        have := vk 0
        omega
      · exact absurd l1 (by omega)
      · exact absurd l1 (by omega)
      · exact absurd l1 (by omega)
    · refine ⟨fun k => Or.inl (uz k), fun k hk => ?_, fun k k0 k1 => Or.inl ⟨uz k, r8 k k0 k1⟩, ?_⟩
      · have := uz k
        omega
      · rw [a5, SM_0 0 (fun j _ _ => uz j)]
    · intro l l0 l1
      exact Or.inl ⟨by rw [z_74]; exact l0, l_83 ⟨by omega, by omega⟩⟩
  · rw [s13_0] at i1
    exact absurd i1 (by omega)
end ZS7
