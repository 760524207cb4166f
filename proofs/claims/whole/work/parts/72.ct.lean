/-! the constructors: what they leave -/
def na (m : MM) (x a n : Int) : MM := up (mak m n) x a n
section CT7
variable {m : MM}
theorem nwc_ok {z : Int} {a : Nat} (K : RR) (h : cty z = a ∧ cln z = (fnum a : Nat)) : nwc z a K = K := if_pos h
theorem nwa_ok {z : Int} {a : Nat} {n : Int} (K : RR) (h : (0 : Nat) = 0 ∧ 0 ≤ n ∧ n ≤ 100000 ∧ cty z = a ∧ cln z = n) : nwa z a n K = K := if_pos h
theorem nw2_ok (K : RR) : nw2 27 K = K := if_pos (by decide)
theorem mak_0 (m : MM) {n k : Int} (h : n ≠ 0 ∧ n + 1 = k) : mak m n 0 0 = k := by
  unfold mak
  rw [if_neg (fun q => h.1 q.symm), if_pos ⟨rfl, rfl⟩, h.2]
theorem mak_n (m : MM) {n y j : Int} (h1 : y ≠ n) (h2 : y ≠ 0) : mak m n y j = m y j := by
  unfold mak
  rw [if_neg h1, if_neg (fun q => h2 q.1)]
theorem mak_z (m : MM) {n j : Int} : mak m n n j = 0 := if_pos rfl
theorem na_0 (m : MM) {x a n k : Int} (h : x ≠ 0 ∧ n ≠ 0 ∧ n + 1 = k) : na m x a n 0 0 = k := by
  unfold na
  rw [up_nc _ _ (fun q => h.1 q.symm), mak_0 m h.2]
theorem na_x (m : MM) {x a n j : Int} (h : x ≠ 0 ∧ x ≠ n ∧ j ≠ a) : na m x a n x j = m x j := by
  unfold na
  rw [up_ni _ _ h.2.2, mak_n _ h.2.1 h.1]
theorem na_a (m : MM) {x a n : Int} : na m x a n x a = n := up_s _ _ _ _
theorem na_n (m : MM) {x a n y j : Int} (h : y ≠ x ∧ y ≠ n ∧ y ≠ 0) : na m x a n y j = m y j := by
  unfold na
  rw [up_nc _ _ h.1, mak_n _ h.2.1 h.2.2]
theorem na_z (m : MM) {x a n j : Int} (h : n ≠ x) : na m x a n n j = 0 := by
  unfold na
  rw [up_nc _ _ h, mak_z]
theorem FLL_nc (m : MM) {x lo hi v c j : Int} (h : c ≠ x) : FLL m x lo hi v c j = m c j := if_neg (fun q => h q.1)
theorem mk2_n (m : MM) {y j : Int} (h : (y < 27 ∨ 38 < y) ∧ y ≠ 0) : mk2 m 11 11 27 y j = m y j := by
  unfold mk2
  rw [if_neg (by omega), if_neg (by omega), if_neg (by omega)]
theorem mk2_0 (m : MM) : mk2 m 11 11 27 0 0 = 39 := rfl
theorem mk2_r (m : MM) {j : Int} (h : 0 ≤ j ∧ j < 11) : mk2 m 11 11 27 27 j = 28 + j := by
  unfold mk2
  rw [if_pos rfl, if_pos h]
  omega
def y1 (m : MM) : MM := na (na (na (na m 1 0 2) 1 1 3) 1 2 4) 1 3 5
theorem e_y1 (h : m 0 0 = 2) : EE 102 0 [(47, 1), (9, 0)] [] m = EE 102 36 [(47, 1), (9, 0)] [] (y1 m) := by
  rw [q102_0, h, nwa_ok _ (by decide)]
  show EE 102 12 [(47, 1), (9, 0)] [] (na m 1 0 2) = _
  rw [q102_12, na_0 (k := 3) _ (by decide), nwa_ok _ (by decide)]
  show EE 102 20 [(47, 1), (9, 0)] [] (na (na m 1 0 2) 1 1 3) = _
  rw [q102_20, na_0 (k := 4) _ (by decide), nwa_ok _ (by decide)]
  show EE 102 28 [(47, 1), (9, 0)] [] (na (na (na m 1 0 2) 1 1 3) 1 2 4) = _
  rw [q102_28, na_0 (k := 5) _ (by decide), nwa_ok _ (by decide)]
  show EE 102 36 [(47, 1), (9, 0)] [] (na (na (na (na m 1 0 2) 1 1 3) 1 2 4) 1 3 5) = _
  rfl
theorem n_y1 : y1 m 0 0 = 6 := na_0 _ (by decide)
def y2 (m : MM) : MM := up (na (mak m 6) 6 2 7) 1 4 6
theorem e_y2 (h : m 0 0 = 6) : EE 102 36 [(47, 1), (9, 0)] [] m = EE 102 47 [(47, 1), (9, 0)] [] (y2 m) := by
  rw [q102_36, h, nwc_ok _ (by decide), q84_0, mak_0 (k := 7) _ (by decide), nwa_ok _ (by decide), bnd_s]
  rfl
theorem n_y2 : y2 m 0 0 = 8 := by
  show up (na (mak m 6) 6 2 7) 1 4 6 0 0 = 8
  rw [up_nc _ _ (by decide), na_0 (k := 8) _ (by decide)]
theorem e_65 {m : MM} (h : m 0 0 = 9) : EE 65 0 [(43, 8)] [] m = some (0, na (na m 8 3 9) 8 4 10) := by
  rw [q65_0, h, nwa_ok _ (by decide)]
  show EE 65 12 [(43, 8)] [] (na m 8 3 9) = _
  rw [q65_12, na_0 (k := 10) _ (by decide), nwa_ok _ (by decide)]
  rfl
theorem e_92 {m : MM} (h : m 0 0 = 12) : EE 92 0 [(46, 11)] [] m = some (0, na (up m 11 1 1) 11 4 12) := by
  rw [q92_0, q92_9, up_nc _ _ (by decide), h, nwa_ok _ (by decide)]
  rfl
theorem e_77 {m : MM} (h : m 0 0 = 26) : EE 77 0 [(44, 25)] [] m = some (0, up (mk2 (na m 25 1 26) 11 11 27) 25 2 27) := by
  rw [q77_0, h, nwa_ok _ (by decide)]
  show EE 77 12 [(44, 25)] [] (na m 25 1 26) = _
  rw [q77_12, na_0 (k := 27) _ (by decide), nw2_ok]
def y3 (m : MM) : MM := up (na (na (mak m 8) 8 3 9) 8 4 10) 1 5 8
theorem e_y3 (h : m 0 0 = 8) : EE 102 47 [(47, 1), (9, 0)] [] m = EE 102 58 [(47, 1), (9, 0)] [] (y3 m) := by
  rw [q102_47, h, nwc_ok _ (by decide), e_65 (mak_0 _ (by decide)), bnd_s]
  rfl
theorem n_y3 : y3 m 0 0 = 11 := by
  show up (na (na (mak m 8) 8 3 9) 8 4 10) 1 5 8 0 0 = 11
  rw [up_nc _ _ (by decide), na_0 (k := 11) _ (by decide)]
def y4 (m : MM) : MM := up (na (up (mak m 11) 11 1 1) 11 4 12) 1 6 11
theorem e_y4 (h : m 0 0 = 11) : EE 102 58 [(47, 1), (9, 0)] [] m = EE 102 69 [(47, 1), (9, 0)] [] (y4 m) := by
  rw [q102_58, h, nwc_ok _ (by decide), e_92 (mak_0 _ (by decide)), bnd_s]
  rfl
theorem n_y4 : y4 m 0 0 = 13 := by
  show up (na (up (mak m 11) 11 1 1) 11 4 12) 1 6 11 0 0 = 13
  rw [up_nc _ _ (by decide), na_0 (k := 13) _ (by decide)]
def hi0 (m : MM) : MM := na m 13 2 14
theorem n_hi0 : hi0 m 0 0 = 15 ∧ hi0 m 13 2 = 14 := ⟨na_0 _ (by decide), na_a _⟩
def hk0 (m : MM) : MM := up (na (mak m 15) 15 5 16) 14 0 15
theorem n_hk0 (h : m 0 0 = 15 ∧ m 13 2 = 14) : hk0 m 0 0 = 17 ∧ hk0 m 13 2 = 14 := by
  refine ⟨?_, ?_⟩
  · show up (na (mak m 15) 15 5 16) 14 0 15 0 0 = 17
    rw [up_nc _ _ (by decide), na_0 (k := 17) _ (by decide)]
  · show up (na (mak m 15) 15 5 16) 14 0 15 13 2 = 14
    rw [up_nc _ _ (by decide), na_n _ (by decide), mak_n _ (by decide) (by decide), h.2]
theorem e_hk0 (h : m 0 0 = 15 ∧ m 13 2 = 14) : EE 61 14 [(42, 13), (0, 0)] [] m = EE 61 14 [(42, 13), (0, 1)] [] (hk0 m) := by
  rw [q61_14, h.2, nn14, cle14, if_pos (by decide), h.1, nwc_ok _ (by decide), q1_0, mak_0 (k := 16) _ (by decide), nwa_ok _ (by decide), bnd_s, nn14, jx14 _ (by decide) (by decide), q61_36]
  rfl
def hk1 (m : MM) : MM := up (na (mak m 17) 17 5 18) 14 1 17
theorem n_hk1 (h : m 0 0 = 17 ∧ m 13 2 = 14) : hk1 m 0 0 = 19 ∧ hk1 m 13 2 = 14 := by
  refine ⟨?_, ?_⟩
  · show up (na (mak m 17) 17 5 18) 14 1 17 0 0 = 19
    rw [up_nc _ _ (by decide), na_0 (k := 19) _ (by decide)]
  · show up (na (mak m 17) 17 5 18) 14 1 17 13 2 = 14
    rw [up_nc _ _ (by decide), na_n _ (by decide), mak_n _ (by decide) (by decide), h.2]
theorem e_hk1 (h : m 0 0 = 17 ∧ m 13 2 = 14) : EE 61 14 [(42, 13), (0, 1)] [] m = EE 61 14 [(42, 13), (0, 2)] [] (hk1 m) := by
  rw [q61_14, h.2, nn14, cle14, if_pos (by decide), h.1, nwc_ok _ (by decide), q1_0, mak_0 (k := 18) _ (by decide), nwa_ok _ (by decide), bnd_s, nn14, jx14 _ (by decide) (by decide), q61_36]
  rfl
def hk2 (m : MM) : MM := up (na (mak m 19) 19 5 20) 14 2 19
theorem n_hk2 (h : m 0 0 = 19 ∧ m 13 2 = 14) : hk2 m 0 0 = 21 ∧ hk2 m 13 2 = 14 := by
  refine ⟨?_, ?_⟩
  · show up (na (mak m 19) 19 5 20) 14 2 19 0 0 = 21
    rw [up_nc _ _ (by decide), na_0 (k := 21) _ (by decide)]
  · show up (na (mak m 19) 19 5 20) 14 2 19 13 2 = 14
    rw [up_nc _ _ (by decide), na_n _ (by decide), mak_n _ (by decide) (by decide), h.2]
theorem e_hk2 (h : m 0 0 = 19 ∧ m 13 2 = 14) : EE 61 14 [(42, 13), (0, 2)] [] m = EE 61 14 [(42, 13), (0, 3)] [] (hk2 m) := by
  rw [q61_14, h.2, nn14, cle14, if_pos (by decide), h.1, nwc_ok _ (by decide), q1_0, mak_0 (k := 20) _ (by decide), nwa_ok _ (by decide), bnd_s, nn14, jx14 _ (by decide) (by decide), q61_36]
  rfl
def hk3 (m : MM) : MM := up (na (mak m 21) 21 5 22) 14 3 21
theorem n_hk3 (h : m 0 0 = 21 ∧ m 13 2 = 14) : hk3 m 0 0 = 23 ∧ hk3 m 13 2 = 14 := by
  refine ⟨?_, ?_⟩
  · show up (na (mak m 21) 21 5 22) 14 3 21 0 0 = 23
    rw [up_nc _ _ (by decide), na_0 (k := 23) _ (by decide)]
  · show up (na (mak m 21) 21 5 22) 14 3 21 13 2 = 14
    rw [up_nc _ _ (by decide), na_n _ (by decide), mak_n _ (by decide) (by decide), h.2]
theorem e_hk3 (h : m 0 0 = 21 ∧ m 13 2 = 14) : EE 61 14 [(42, 13), (0, 3)] [] m = EE 61 14 [(42, 13), (0, 4)] [] (hk3 m) := by
  rw [q61_14, h.2, nn14, cle14, if_pos (by decide), h.1, nwc_ok _ (by decide), q1_0, mak_0 (k := 22) _ (by decide), nwa_ok _ (by decide), bnd_s, nn14, jx14 _ (by decide) (by decide), q61_36]
  rfl
def hk4 (m : MM) : MM := up (na (mak m 23) 23 5 24) 14 4 23
theorem n_hk4 (h : m 0 0 = 23 ∧ m 13 2 = 14) : hk4 m 0 0 = 25 ∧ hk4 m 13 2 = 14 := by
  refine ⟨?_, ?_⟩
  · show up (na (mak m 23) 23 5 24) 14 4 23 0 0 = 25
    rw [up_nc _ _ (by decide), na_0 (k := 25) _ (by decide)]
  · show up (na (mak m 23) 23 5 24) 14 4 23 13 2 = 14
    rw [up_nc _ _ (by decide), na_n _ (by decide), mak_n _ (by decide) (by decide), h.2]
theorem e_hk4 (h : m 0 0 = 23 ∧ m 13 2 = 14) : EE 61 14 [(42, 13), (0, 4)] [] m = EE 61 14 [(42, 13), (0, 5)] [] (hk4 m) := by
  rw [q61_14, h.2, nn14, cle14, if_pos (by decide), h.1, nwc_ok _ (by decide), q1_0, mak_0 (k := 24) _ (by decide), nwa_ok _ (by decide), bnd_s, nn14, jx14 _ (by decide) (by decide), q61_36]
  rfl
def hal (m : MM) : MM := hk4 (hk3 (hk2 (hk1 (hk0 (hi0 m)))))
theorem n_hal : hal m 0 0 = 25 ∧ hal m 13 2 = 14 := n_hk4 (n_hk3 (n_hk2 (n_hk1 (n_hk0 n_hi0))))
theorem e_61 {m : MM} (h : m 0 0 = 14) : EE 61 0 [(42, 13), (9, 0)] [] m = some (0, hal m) := by
  rw [q61_0, h, nwa_ok _ (by decide)]
  show EE 61 12 [(42, 13), (9, 0)] [] (hi0 m) = _
  rw [q61_12, e_hk0 n_hi0, e_hk1 (n_hk0 n_hi0), e_hk2 (n_hk1 (n_hk0 n_hi0)), e_hk3 (n_hk2 (n_hk1 (n_hk0 n_hi0))), e_hk4 (n_hk3 (n_hk2 (n_hk1 (n_hk0 n_hi0))))]
  show EE 61 14 [(42, 13), (0, 5)] [] (hal m) = _
  rw [q61_14, n_hal.2, nn14, cle14, if_neg (by decide)]
def y5 (m : MM) : MM := up (hal (mak m 13)) 1 7 13
theorem e_y5 (h : m 0 0 = 13) : EE 102 69 [(47, 1), (9, 0)] [] m = EE 102 80 [(47, 1), (9, 0)] [] (y5 m) := by
  rw [q102_69, h, nwc_ok _ (by decide), e_61 (mak_0 _ (by decide)), bnd_s]
  rfl
theorem n_y5 : y5 m 0 0 = 25 := by
  show up (hal (mak m 13)) 1 7 13 0 0 = 25
  rw [up_nc _ _ (by decide), n_hal.1]
def y6 (m : MM) : MM := up (up (mk2 (na (mak m 25) 25 1 26) 11 11 27) 25 2 27) 1 8 25
theorem e_y6 (h : m 0 0 = 25) : EE 102 80 [(47, 1), (9, 0)] [] m = EE 102 91 [(47, 1), (9, 0)] [] (y6 m) := by
  rw [q102_80, h, nwc_ok _ (by decide), e_77 (mak_0 _ (by decide)), bnd_s]
  rfl
theorem n_y6 : y6 m 0 0 = 39 := by
  show up (up (mk2 (na (mak m 25) 25 1 26) 11 11 27) 25 2 27) 1 8 25 0 0 = 39
  rw [up_nc _ _ (by decide), up_nc _ _ (by decide), mk2_0]
def y7 (m : MM) : MM := na (na m 1 9 39) 1 10 40
theorem e_y7 (h : m 0 0 = 39) : EE 102 91 [(47, 1), (9, 0)] [] m = EE 102 108 [(47, 1), (9, 0)] [] (y7 m) := by
  rw [q102_91, h, nwa_ok _ (by decide)]
  show EE 102 99 [(47, 1), (9, 0)] [] (na m 1 9 39) = _
  rw [q102_99, na_0 (k := 40) _ (by decide), nwa_ok _ (by decide)]
  show EE 102 108 [(47, 1), (9, 0)] [] (na (na m 1 9 39) 1 10 40) = _
  rfl
theorem n_y7 : y7 m 0 0 = 41 := na_0 _ (by decide)
theorem n7_2 : y7 m 1 2 = m 1 2 := by
  show na (na m 1 9 39) 1 10 40 1 2 = m 1 2
  rw [na_x _ (by decide), na_x _ (by decide)]
theorem n7_3 : y7 m 1 3 = m 1 3 := by
  show na (na m 1 9 39) 1 10 40 1 3 = m 1 3
  rw [na_x _ (by decide), na_x _ (by decide)]
theorem n7_9 : y7 m 1 9 = 39 := by
  show na (na m 1 9 39) 1 10 40 1 9 = 39
  rw [na_x _ (by decide), na_a]
def y8 (m : MM) : MM := FLL (FLL m 4 0 7 1000) 39 0 10 (-1)
theorem e_y8 (h2 : m 1 2 = 4) (h9 : m 1 9 = 39) : EE 102 108 [(47, 1), (9, 0)] [] m = EE 102 128 [(47, 1), (0, 0)] [] (y8 m) := by
  rw [q102_108, h2, c_fill0 1000 (by decide) (by rw [cle4]; decide), bnd_s, cle4, FLL_nc _ (by decide), h9, c_fill0 (-1) (by decide) (by rw [cle39]; decide), bnd_s, cle39]
  rfl
theorem n_y8 (h : m 0 0 = 41 ∧ m 1 3 = 5) : y8 m 0 0 = 41 ∧ y8 m 1 3 = 5 := by
  refine ⟨?_, ?_⟩
  · show FLL (FLL m 4 0 7 1000) 39 0 10 (-1) 0 0 = 41
    rw [FLL_nc _ (by decide), FLL_nc _ (by decide), h.1]
  · show FLL (FLL m 4 0 7 1000) 39 0 10 (-1) 1 3 = 5
    rw [FLL_nc _ (by decide), FLL_nc _ (by decide), h.2]
def fz0 (m : MM) : MM := na (na (na (na (na (na (na (na (na m 41 6 42) 41 7 43) 41 8 44) 41 9 45) 41 10 46) 41 11 47) 41 12 48) 41 13 49) 41 14 50
theorem e_fz0 (h : m 0 0 = 42) : EE 6 0 [(41, 41)] [] m = EE 6 77 [(41, 41)] [] (fz0 m) := by
  rw [q6_0, h, nwa_ok _ (by decide)]
  show EE 6 12 [(41, 41)] [] (na m 41 6 42) = _
  rw [q6_12, na_0 (k := 43) _ (by decide), nwa_ok _ (by decide)]
  show EE 6 20 [(41, 41)] [] (na (na m 41 6 42) 41 7 43) = _
  rw [q6_20, na_0 (k := 44) _ (by decide), nwa_ok _ (by decide)]
  show EE 6 28 [(41, 41)] [] (na (na (na m 41 6 42) 41 7 43) 41 8 44) = _
  rw [q6_28, na_0 (k := 45) _ (by decide), nwa_ok _ (by decide)]
  show EE 6 36 [(41, 41)] [] (na (na (na (na m 41 6 42) 41 7 43) 41 8 44) 41 9 45) = _
  rw [q6_36, na_0 (k := 46) _ (by decide), nwa_ok _ (by decide)]
  show EE 6 44 [(41, 41)] [] (na (na (na (na (na m 41 6 42) 41 7 43) 41 8 44) 41 9 45) 41 10 46) = _
  rw [q6_44, na_0 (k := 47) _ (by decide), nwa_ok _ (by decide)]
  show EE 6 52 [(41, 41)] [] (na (na (na (na (na (na m 41 6 42) 41 7 43) 41 8 44) 41 9 45) 41 10 46) 41 11 47) = _
  rw [q6_52, na_0 (k := 48) _ (by decide), nwa_ok _ (by decide)]
  show EE 6 60 [(41, 41)] [] (na (na (na (na (na (na (na m 41 6 42) 41 7 43) 41 8 44) 41 9 45) 41 10 46) 41 11 47) 41 12 48) = _
  rw [q6_60, na_0 (k := 49) _ (by decide), nwa_ok _ (by decide)]
  show EE 6 69 [(41, 41)] [] (na (na (na (na (na (na (na (na m 41 6 42) 41 7 43) 41 8 44) 41 9 45) 41 10 46) 41 11 47) 41 12 48) 41 13 49) = _
  rw [q6_69, na_0 (k := 50) _ (by decide), nwa_ok _ (by decide)]
  show EE 6 77 [(41, 41)] [] (na (na (na (na (na (na (na (na (na m 41 6 42) 41 7 43) 41 8 44) 41 9 45) 41 10 46) 41 11 47) 41 12 48) 41 13 49) 41 14 50) = _
  rfl
theorem n_fz0 : fz0 m 0 0 = 51 := na_0 _ (by decide)
def fa0 (m : MM) : MM := up (FLL (fz0 (mak m 41)) 49 0 396 (-1)) 5 0 41
theorem n13_0 : fz0 m 41 13 = 49 := by
  unfold fz0
  rw [na_x _ (by decide), na_a]
theorem nfz_0 (h : m 1 3 = 5) : fz0 m 1 3 = 5 := by
  unfold fz0
  rw [na_n _ (by decide), na_n _ (by decide), na_n _ (by decide), na_n _ (by decide), na_n _ (by decide), na_n _ (by decide), na_n _ (by decide), na_n _ (by decide), na_n _ (by decide), h]
theorem n_fa0 (h : m 0 0 = 41 ∧ m 1 3 = 5) : fa0 m 0 0 = 51 ∧ fa0 m 1 3 = 5 := by
  refine ⟨?_, ?_⟩
  · unfold fa0
    rw [up_nc _ _ (by decide), FLL_nc _ (by decide), n_fz0]
  · unfold fa0
    rw [up_nc _ _ (by decide), FLL_nc _ (by decide), nfz_0]
    rw [mak_n _ (by decide) (by decide), h.2]
theorem c8_0 : cln 49 = 396 := by decide
theorem e_6_0 {m : MM} (h : m 0 0 = 42) : EE 6 0 [(41, 41)] [] m = some (0, FLL (fz0 m) 49 0 396 (-1)) := by
  rw [e_fz0 h, q6_77, n13_0, c_fill0 (-1) (by decide) (by rw [c8_0]; decide), bnd_s, c8_0]
theorem e_fa0 (h : m 0 0 = 41 ∧ m 1 3 = 5) : EE 102 128 [(47, 1), (0, 0)] [] m = EE 102 128 [(47, 1), (0, 1)] [] (fa0 m) := by
  rw [q102_128, h.2, nn5, cle5, if_pos (by decide), h.1, nwc_ok _ (by decide), e_6_0 (mak_0 _ (by decide)), bnd_s, nn5, jx5 _ (by decide) (by decide), q102_150]
  rfl
def fz1 (m : MM) : MM := na (na (na (na (na (na (na (na (na m 51 6 52) 51 7 53) 51 8 54) 51 9 55) 51 10 56) 51 11 57) 51 12 58) 51 13 59) 51 14 60
theorem e_fz1 (h : m 0 0 = 52) : EE 6 0 [(41, 51)] [] m = EE 6 77 [(41, 51)] [] (fz1 m) := by
  rw [q6_0, h, nwa_ok _ (by decide)]
  show EE 6 12 [(41, 51)] [] (na m 51 6 52) = _
  rw [q6_12, na_0 (k := 53) _ (by decide), nwa_ok _ (by decide)]
  show EE 6 20 [(41, 51)] [] (na (na m 51 6 52) 51 7 53) = _
  rw [q6_20, na_0 (k := 54) _ (by decide), nwa_ok _ (by decide)]
  show EE 6 28 [(41, 51)] [] (na (na (na m 51 6 52) 51 7 53) 51 8 54) = _
  rw [q6_28, na_0 (k := 55) _ (by decide), nwa_ok _ (by decide)]
  show EE 6 36 [(41, 51)] [] (na (na (na (na m 51 6 52) 51 7 53) 51 8 54) 51 9 55) = _
  rw [q6_36, na_0 (k := 56) _ (by decide), nwa_ok _ (by decide)]
  show EE 6 44 [(41, 51)] [] (na (na (na (na (na m 51 6 52) 51 7 53) 51 8 54) 51 9 55) 51 10 56) = _
  rw [q6_44, na_0 (k := 57) _ (by decide), nwa_ok _ (by decide)]
  show EE 6 52 [(41, 51)] [] (na (na (na (na (na (na m 51 6 52) 51 7 53) 51 8 54) 51 9 55) 51 10 56) 51 11 57) = _
  rw [q6_52, na_0 (k := 58) _ (by decide), nwa_ok _ (by decide)]
  show EE 6 60 [(41, 51)] [] (na (na (na (na (na (na (na m 51 6 52) 51 7 53) 51 8 54) 51 9 55) 51 10 56) 51 11 57) 51 12 58) = _
  rw [q6_60, na_0 (k := 59) _ (by decide), nwa_ok _ (by decide)]
  show EE 6 69 [(41, 51)] [] (na (na (na (na (na (na (na (na m 51 6 52) 51 7 53) 51 8 54) 51 9 55) 51 10 56) 51 11 57) 51 12 58) 51 13 59) = _
  rw [q6_69, na_0 (k := 60) _ (by decide), nwa_ok _ (by decide)]
  show EE 6 77 [(41, 51)] [] (na (na (na (na (na (na (na (na (na m 51 6 52) 51 7 53) 51 8 54) 51 9 55) 51 10 56) 51 11 57) 51 12 58) 51 13 59) 51 14 60) = _
  rfl
theorem n_fz1 : fz1 m 0 0 = 61 := na_0 _ (by decide)
def fa1 (m : MM) : MM := up (FLL (fz1 (mak m 51)) 59 0 396 (-1)) 5 1 51
theorem n13_1 : fz1 m 51 13 = 59 := by
  unfold fz1
  rw [na_x _ (by decide), na_a]
theorem nfz_1 (h : m 1 3 = 5) : fz1 m 1 3 = 5 := by
  unfold fz1
  rw [na_n _ (by decide), na_n _ (by decide), na_n _ (by decide), na_n _ (by decide), na_n _ (by decide), na_n _ (by decide), na_n _ (by decide), na_n _ (by decide), na_n _ (by decide), h]
theorem n_fa1 (h : m 0 0 = 51 ∧ m 1 3 = 5) : fa1 m 0 0 = 61 ∧ fa1 m 1 3 = 5 := by
  refine ⟨?_, ?_⟩
  · unfold fa1
    rw [up_nc _ _ (by decide), FLL_nc _ (by decide), n_fz1]
  · unfold fa1
    rw [up_nc _ _ (by decide), FLL_nc _ (by decide), nfz_1]
    rw [mak_n _ (by decide) (by decide), h.2]
theorem c8_1 : cln 59 = 396 := by decide
theorem e_6_1 {m : MM} (h : m 0 0 = 52) : EE 6 0 [(41, 51)] [] m = some (0, FLL (fz1 m) 59 0 396 (-1)) := by
  rw [e_fz1 h, q6_77, n13_1, c_fill0 (-1) (by decide) (by rw [c8_1]; decide), bnd_s, c8_1]
theorem e_fa1 (h : m 0 0 = 51 ∧ m 1 3 = 5) : EE 102 128 [(47, 1), (0, 1)] [] m = EE 102 128 [(47, 1), (0, 2)] [] (fa1 m) := by
  rw [q102_128, h.2, nn5, cle5, if_pos (by decide), h.1, nwc_ok _ (by decide), e_6_1 (mak_0 _ (by decide)), bnd_s, nn5, jx5 _ (by decide) (by decide), q102_150]
  rfl
def fz2 (m : MM) : MM := na (na (na (na (na (na (na (na (na m 61 6 62) 61 7 63) 61 8 64) 61 9 65) 61 10 66) 61 11 67) 61 12 68) 61 13 69) 61 14 70
theorem e_fz2 (h : m 0 0 = 62) : EE 6 0 [(41, 61)] [] m = EE 6 77 [(41, 61)] [] (fz2 m) := by
  rw [q6_0, h, nwa_ok _ (by decide)]
  show EE 6 12 [(41, 61)] [] (na m 61 6 62) = _
  rw [q6_12, na_0 (k := 63) _ (by decide), nwa_ok _ (by decide)]
  show EE 6 20 [(41, 61)] [] (na (na m 61 6 62) 61 7 63) = _
  rw [q6_20, na_0 (k := 64) _ (by decide), nwa_ok _ (by decide)]
  show EE 6 28 [(41, 61)] [] (na (na (na m 61 6 62) 61 7 63) 61 8 64) = _
  rw [q6_28, na_0 (k := 65) _ (by decide), nwa_ok _ (by decide)]
  show EE 6 36 [(41, 61)] [] (na (na (na (na m 61 6 62) 61 7 63) 61 8 64) 61 9 65) = _
  rw [q6_36, na_0 (k := 66) _ (by decide), nwa_ok _ (by decide)]
  show EE 6 44 [(41, 61)] [] (na (na (na (na (na m 61 6 62) 61 7 63) 61 8 64) 61 9 65) 61 10 66) = _
  rw [q6_44, na_0 (k := 67) _ (by decide), nwa_ok _ (by decide)]
  show EE 6 52 [(41, 61)] [] (na (na (na (na (na (na m 61 6 62) 61 7 63) 61 8 64) 61 9 65) 61 10 66) 61 11 67) = _
  rw [q6_52, na_0 (k := 68) _ (by decide), nwa_ok _ (by decide)]
  show EE 6 60 [(41, 61)] [] (na (na (na (na (na (na (na m 61 6 62) 61 7 63) 61 8 64) 61 9 65) 61 10 66) 61 11 67) 61 12 68) = _
  rw [q6_60, na_0 (k := 69) _ (by decide), nwa_ok _ (by decide)]
  show EE 6 69 [(41, 61)] [] (na (na (na (na (na (na (na (na m 61 6 62) 61 7 63) 61 8 64) 61 9 65) 61 10 66) 61 11 67) 61 12 68) 61 13 69) = _
  rw [q6_69, na_0 (k := 70) _ (by decide), nwa_ok _ (by decide)]
  show EE 6 77 [(41, 61)] [] (na (na (na (na (na (na (na (na (na m 61 6 62) 61 7 63) 61 8 64) 61 9 65) 61 10 66) 61 11 67) 61 12 68) 61 13 69) 61 14 70) = _
  rfl
theorem n_fz2 : fz2 m 0 0 = 71 := na_0 _ (by decide)
def fa2 (m : MM) : MM := up (FLL (fz2 (mak m 61)) 69 0 396 (-1)) 5 2 61
theorem n13_2 : fz2 m 61 13 = 69 := by
  unfold fz2
  rw [na_x _ (by decide), na_a]
theorem nfz_2 (h : m 1 3 = 5) : fz2 m 1 3 = 5 := by
  unfold fz2
  rw [na_n _ (by decide), na_n _ (by decide), na_n _ (by decide), na_n _ (by decide), na_n _ (by decide), na_n _ (by decide), na_n _ (by decide), na_n _ (by decide), na_n _ (by decide), h]
theorem n_fa2 (h : m 0 0 = 61 ∧ m 1 3 = 5) : fa2 m 0 0 = 71 ∧ fa2 m 1 3 = 5 := by
  refine ⟨?_, ?_⟩
  · unfold fa2
    rw [up_nc _ _ (by decide), FLL_nc _ (by decide), n_fz2]
  · unfold fa2
    rw [up_nc _ _ (by decide), FLL_nc _ (by decide), nfz_2]
    rw [mak_n _ (by decide) (by decide), h.2]
theorem c8_2 : cln 69 = 396 := by decide
theorem e_6_2 {m : MM} (h : m 0 0 = 62) : EE 6 0 [(41, 61)] [] m = some (0, FLL (fz2 m) 69 0 396 (-1)) := by
  rw [e_fz2 h, q6_77, n13_2, c_fill0 (-1) (by decide) (by rw [c8_2]; decide), bnd_s, c8_2]
theorem e_fa2 (h : m 0 0 = 61 ∧ m 1 3 = 5) : EE 102 128 [(47, 1), (0, 2)] [] m = EE 102 128 [(47, 1), (0, 3)] [] (fa2 m) := by
  rw [q102_128, h.2, nn5, cle5, if_pos (by decide), h.1, nwc_ok _ (by decide), e_6_2 (mak_0 _ (by decide)), bnd_s, nn5, jx5 _ (by decide) (by decide), q102_150]
  rfl
def yALL (m : MM) : MM := fa2 (fa1 (fa0 (y8 (y7 (y6 (y5 (y4 (y3 (y2 (y1 m))))))))))
theorem k_23 {m : MM} : y6 (y5 (y4 (y3 (y2 (y1 m))))) 1 2 = 4 ∧ y6 (y5 (y4 (y3 (y2 (y1 m))))) 1 3 = 5 := by
  refine ⟨?_, ?_⟩
  · unfold y6 y5 hal hk4 hk3 hk2 hk1 hk0 hi0 y4 y3 y2 y1
    simp (disch := decide) only [↓up_nc, ↓up_ni, ↓na_n, ↓na_x, ↓na_a, ↓mak_n, ↓mk2_n]
  · unfold y6 y5 hal hk4 hk3 hk2 hk1 hk0 hi0 y4 y3 y2 y1
    simp (disch := decide) only [↓up_nc, ↓up_ni, ↓na_n, ↓na_x, ↓na_a, ↓mak_n, ↓mk2_n]
theorem e_102 {m : MM} (h : m 0 0 = 2) : EE 102 0 [(47, 1), (9, 0)] [] m = some (0, yALL m) ∧ yALL m 0 0 = 71 := by
  have g8 := n_y8 (m := y7 (y6 (y5 (y4 (y3 (y2 (y1 m))))))) ⟨n_y7, by rw [n7_3]; exact k_23.2⟩
  have g2 := n_fa2 (n_fa1 (n_fa0 g8))
  refine ⟨?_, g2.1⟩
  rw [e_y1 h, e_y2 n_y1, e_y3 n_y2, e_y4 n_y3, e_y5 n_y4, e_y6 n_y5, e_y7 n_y6, e_y8 (by rw [n7_2]; exact k_23.1) n7_9, e_fa0 g8, e_fa1 (n_fa0 g8), e_fa2 (n_fa1 (n_fa0 g8)), q102_128, g2.2, nn5, cle5, if_neg (by decide)]
  rfl
def z1 (m : MM) : MM := na (na (na (na (na (na (na (na (na (na (na (na (na m 71 0 72) 71 1 73) 71 2 74) 71 3 75) 71 4 76) 71 5 77) 71 6 78) 71 7 79) 71 8 80) 71 9 81) 71 11 82) 71 12 83) 71 13 84
theorem e_z1 (h : m 0 0 = 72) : EE 158 0 [(48, 71), (9, 0)] [] m = EE 158 109 [(48, 71), (9, 0)] [] (z1 m) := by
  rw [q158_0, h, nwa_ok _ (by decide)]
  show EE 158 12 [(48, 71), (9, 0)] [] (na m 71 0 72) = _
  rw [q158_12, na_0 (k := 73) _ (by decide), nwa_ok _ (by decide)]
  show EE 158 20 [(48, 71), (9, 0)] [] (na (na m 71 0 72) 71 1 73) = _
  rw [q158_20, na_0 (k := 74) _ (by decide), nwa_ok _ (by decide)]
  show EE 158 27 [(48, 71), (9, 0)] [] (na (na (na m 71 0 72) 71 1 73) 71 2 74) = _
  rw [q158_27, na_0 (k := 75) _ (by decide), nwa_ok _ (by decide)]
  show EE 158 34 [(48, 71), (9, 0)] [] (na (na (na (na m 71 0 72) 71 1 73) 71 2 74) 71 3 75) = _
  rw [q158_34, na_0 (k := 76) _ (by decide), nwa_ok _ (by decide)]
  show EE 158 41 [(48, 71), (9, 0)] [] (na (na (na (na (na m 71 0 72) 71 1 73) 71 2 74) 71 3 75) 71 4 76) = _
  rw [q158_41, na_0 (k := 77) _ (by decide), nwa_ok _ (by decide)]
  show EE 158 49 [(48, 71), (9, 0)] [] (na (na (na (na (na (na m 71 0 72) 71 1 73) 71 2 74) 71 3 75) 71 4 76) 71 5 77) = _
  rw [q158_49, na_0 (k := 78) _ (by decide), nwa_ok _ (by decide)]
  show EE 158 57 [(48, 71), (9, 0)] [] (na (na (na (na (na (na (na m 71 0 72) 71 1 73) 71 2 74) 71 3 75) 71 4 76) 71 5 77) 71 6 78) = _
  rw [q158_57, na_0 (k := 79) _ (by decide), nwa_ok _ (by decide)]
  show EE 158 66 [(48, 71), (9, 0)] [] (na (na (na (na (na (na (na (na m 71 0 72) 71 1 73) 71 2 74) 71 3 75) 71 4 76) 71 5 77) 71 6 78) 71 7 79) = _
  rw [q158_66, na_0 (k := 80) _ (by decide), nwa_ok _ (by decide)]
  show EE 158 75 [(48, 71), (9, 0)] [] (na (na (na (na (na (na (na (na (na m 71 0 72) 71 1 73) 71 2 74) 71 3 75) 71 4 76) 71 5 77) 71 6 78) 71 7 79) 71 8 80) = _
  rw [q158_75, na_0 (k := 81) _ (by decide), nwa_ok _ (by decide)]
  show EE 158 84 [(48, 71), (9, 0)] [] (na (na (na (na (na (na (na (na (na (na m 71 0 72) 71 1 73) 71 2 74) 71 3 75) 71 4 76) 71 5 77) 71 6 78) 71 7 79) 71 8 80) 71 9 81) = _
  rw [q158_84, na_0 (k := 82) _ (by decide), nwa_ok _ (by decide)]
  show EE 158 93 [(48, 71), (9, 0)] [] (na (na (na (na (na (na (na (na (na (na (na m 71 0 72) 71 1 73) 71 2 74) 71 3 75) 71 4 76) 71 5 77) 71 6 78) 71 7 79) 71 8 80) 71 9 81) 71 11 82) = _
  rw [q158_93, na_0 (k := 83) _ (by decide), nwa_ok _ (by decide)]
  show EE 158 101 [(48, 71), (9, 0)] [] (na (na (na (na (na (na (na (na (na (na (na (na m 71 0 72) 71 1 73) 71 2 74) 71 3 75) 71 4 76) 71 5 77) 71 6 78) 71 7 79) 71 8 80) 71 9 81) 71 11 82) 71 12 83) = _
  rw [q158_101, na_0 (k := 84) _ (by decide), nwa_ok _ (by decide)]
  show EE 158 109 [(48, 71), (9, 0)] [] (na (na (na (na (na (na (na (na (na (na (na (na (na m 71 0 72) 71 1 73) 71 2 74) 71 3 75) 71 4 76) 71 5 77) 71 6 78) 71 7 79) 71 8 80) 71 9 81) 71 11 82) 71 12 83) 71 13 84) = _
  rfl
theorem n_z1 : z1 m 0 0 = 85 := na_0 _ (by decide)
def z2 (m : MM) : MM := na (na (na (na (na m 71 18 85) 71 19 86) 71 20 87) 71 23 88) 71 29 89
theorem e_z2 (h : m 0 0 = 85) : EE 158 114 [(48, 71), (9, 0)] [] m = EE 158 157 [(48, 71), (9, 0)] [] (z2 m) := by
  rw [q158_114, h, nwa_ok _ (by decide)]
  show EE 158 123 [(48, 71), (9, 0)] [] (na m 71 18 85) = _
  rw [q158_123, na_0 (k := 86) _ (by decide), nwa_ok _ (by decide)]
  show EE 158 132 [(48, 71), (9, 0)] [] (na (na m 71 18 85) 71 19 86) = _
  rw [q158_132, na_0 (k := 87) _ (by decide), nwa_ok _ (by decide)]
  show EE 158 141 [(48, 71), (9, 0)] [] (na (na (na m 71 18 85) 71 19 86) 71 20 87) = _
  rw [q158_141, na_0 (k := 88) _ (by decide), nwa_ok _ (by decide)]
  show EE 158 149 [(48, 71), (9, 0)] [] (na (na (na (na m 71 18 85) 71 19 86) 71 20 87) 71 23 88) = _
  rw [q158_149, na_0 (k := 89) _ (by decide), nwa_ok _ (by decide)]
  show EE 158 157 [(48, 71), (9, 0)] [] (na (na (na (na (na m 71 18 85) 71 19 86) 71 20 87) 71 23 88) 71 29 89) = _
  rfl
theorem n_z2 : z2 m 0 0 = 90 := na_0 _ (by decide)
theorem lp_73 : ∀ i (m : MM), 0 ≤ i → m 71 1 = 73 → EE 158 159 [(48, 71), (0, i)] [] m = EE 158 182 [(48, 71), (0, 0)] [] (FLL m 73 i 7 1000) := by
  refine up_ind 7 (fun i hi m i0 h => ?_) (fun i hi ih m i0 h => ?_)
  · rw [q158_159, if_neg (by omega), FLL_e _ _ hi]
  · rw [q158_159, if_pos hi, h, nn73, jx73 _ i0 hi, q158_174, w32_l (by omega) (by omega), ih _ (by omega) (by rw [up_nc _ _ (by decide)]; exact h), FLL_s _ _ hi]
theorem lp_83 : ∀ i (m : MM), 0 ≤ i → m 71 12 = 83 → EE 158 182 [(48, 71), (0, i)] [] m = EE 158 204 [(48, 71), (0, 0)] [] (FLL m 83 i 18 NON) := by
  refine up_ind 18 (fun i hi m i0 h => ?_) (fun i hi ih m i0 h => ?_)
  · rw [q158_182, if_neg (by omega), FLL_e _ _ hi]
  · rw [q158_182, if_pos hi, h, nn83, jx83 _ i0 hi, q158_196, w32_l (by omega) (by omega), ih _ (by omega) (by rw [up_nc _ _ (by decide)]; exact h), FLL_s _ _ hi]
theorem lp_84 : ∀ i (m : MM), 0 ≤ i → m 71 13 = 84 → EE 158 204 [(48, 71), (0, i)] [] m = some (0, FLL m 84 i 10 NON) := by
  refine up_ind 10 (fun i hi m i0 h => ?_) (fun i hi ih m i0 h => ?_)
  · rw [q158_204, if_neg (by omega), FLL_e _ _ hi]
  · rw [q158_204, if_pos hi, h, nn84, jx84 _ i0 hi, q158_218, w32_l (by omega) (by omega), ih _ (by omega) (by rw [up_nc _ _ (by decide)]; exact h), FLL_s _ _ hi]
def zA (m : MM) : MM := FLL (FLL (FLL (z2 (up (z1 m) 71 16 1)) 73 0 7 1000) 83 0 18 NON) 84 0 10 NON
theorem k_z {m : MM} : z2 (up (z1 m) 71 16 1) 71 1 = 73 ∧ z2 (up (z1 m) 71 16 1) 71 12 = 83 ∧ z2 (up (z1 m) 71 16 1) 71 13 = 84 := by
  refine ⟨?_, ?_, ?_⟩
  · unfold z2 z1
    simp (disch := decide) only [↓up_nc, ↓up_ni, ↓na_n, ↓na_x, ↓na_a]
  · unfold z2 z1
    simp (disch := decide) only [↓up_nc, ↓up_ni, ↓na_n, ↓na_x, ↓na_a]
  · unfold z2 z1
    simp (disch := decide) only [↓up_nc, ↓up_ni, ↓na_n, ↓na_x, ↓na_a]
theorem e_158 {m : MM} (h : m 0 0 = 72) : EE 158 0 [(48, 71), (9, 0)] [] m = some (0, zA m) := by
  rw [e_z1 h, q158_109, e_z2 (by rw [up_nc _ _ (by decide)]; exact n_z1), q158_157, lp_73 _ _ (by decide) k_z.1, lp_83 _ _ (by decide) (by rw [FLL_nc _ (by decide)]; exact k_z.2.1), lp_84 _ _ (by decide) (by rw [FLL_nc _ (by decide), FLL_nc _ (by decide)]; exact k_z.2.2)]
  rfl
def zS (m : MM) : MM := zA (mak (yALL (mak m 1)) 71)
end CT7
