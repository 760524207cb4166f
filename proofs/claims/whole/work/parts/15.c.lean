/-! the lengths of the cells -/
theorem nn1 (K : RR) : nn 1 K = K := nn_ok K (by decide)
theorem nn2 (K : RR) : nn 2 K = K := nn_ok K (by decide)
theorem cle2 : cln 2 = 6 := by decide
theorem jx2 {i : Int} (K : RR) (h0 : 0 ≤ i) (h1 : i < 6) : ix 2 i K = K := ix_ok K h0 (by rw [cle2]; exact h1)
theorem nn3 (K : RR) : nn 3 K = K := nn_ok K (by decide)
theorem cle3 : cln 3 = 6 := by decide
theorem jx3 {i : Int} (K : RR) (h0 : 0 ≤ i) (h1 : i < 6) : ix 3 i K = K := ix_ok K h0 (by rw [cle3]; exact h1)
theorem nn4 (K : RR) : nn 4 K = K := nn_ok K (by decide)
theorem cle4 : cln 4 = 7 := by decide
theorem jx4 {i : Int} (K : RR) (h0 : 0 ≤ i) (h1 : i < 7) : ix 4 i K = K := ix_ok K h0 (by rw [cle4]; exact h1)
theorem nn5 (K : RR) : nn 5 K = K := nn_ok K (by decide)
theorem cle5 : cln 5 = 3 := by decide
theorem jx5 {i : Int} (K : RR) (h0 : 0 ≤ i) (h1 : i < 3) : ix 5 i K = K := ix_ok K h0 (by rw [cle5]; exact h1)
theorem nn6 (K : RR) : nn 6 K = K := nn_ok K (by decide)
theorem nn7 (K : RR) : nn 7 K = K := nn_ok K (by decide)
theorem cle7 : cln 7 = 2001 := by decide
theorem jx7 {i : Int} (K : RR) (h0 : 0 ≤ i) (h1 : i < 2001) : ix 7 i K = K := ix_ok K h0 (by rw [cle7]; exact h1)
theorem nn8 (K : RR) : nn 8 K = K := nn_ok K (by decide)
theorem nn9 (K : RR) : nn 9 K = K := nn_ok K (by decide)
theorem cle9 : cln 9 = 66 := by decide
theorem jx9 {i : Int} (K : RR) (h0 : 0 ≤ i) (h1 : i < 66) : ix 9 i K = K := ix_ok K h0 (by rw [cle9]; exact h1)
theorem nn10 (K : RR) : nn 10 K = K := nn_ok K (by decide)
theorem cle10 : cln 10 = 11 := by decide
theorem jx10 {i : Int} (K : RR) (h0 : 0 ≤ i) (h1 : i < 11) : ix 10 i K = K := ix_ok K h0 (by rw [cle10]; exact h1)
theorem nn11 (K : RR) : nn 11 K = K := nn_ok K (by decide)
theorem nn12 (K : RR) : nn 12 K = K := nn_ok K (by decide)
theorem cle12 : cln 12 = 132 := by decide
theorem jx12 {i : Int} (K : RR) (h0 : 0 ≤ i) (h1 : i < 132) : ix 12 i K = K := ix_ok K h0 (by rw [cle12]; exact h1)
theorem nn13 (K : RR) : nn 13 K = K := nn_ok K (by decide)
theorem nn14 (K : RR) : nn 14 K = K := nn_ok K (by decide)
theorem cle14 : cln 14 = 5 := by decide
theorem jx14 {i : Int} (K : RR) (h0 : 0 ≤ i) (h1 : i < 5) : ix 14 i K = K := ix_ok K h0 (by rw [cle14]; exact h1)
theorem nn15 (K : RR) : nn 15 K = K := nn_ok K (by decide)
theorem nn16 (K : RR) : nn 16 K = K := nn_ok K (by decide)
theorem cle16 : cln 16 = 10 := by decide
theorem jx16 {i : Int} (K : RR) (h0 : 0 ≤ i) (h1 : i < 10) : ix 16 i K = K := ix_ok K h0 (by rw [cle16]; exact h1)
theorem nn17 (K : RR) : nn 17 K = K := nn_ok K (by decide)
theorem nn18 (K : RR) : nn 18 K = K := nn_ok K (by decide)
theorem cle18 : cln 18 = 10 := by decide
theorem jx18 {i : Int} (K : RR) (h0 : 0 ≤ i) (h1 : i < 10) : ix 18 i K = K := ix_ok K h0 (by rw [cle18]; exact h1)
theorem nn19 (K : RR) : nn 19 K = K := nn_ok K (by decide)
theorem nn20 (K : RR) : nn 20 K = K := nn_ok K (by decide)
theorem cle20 : cln 20 = 10 := by decide
theorem jx20 {i : Int} (K : RR) (h0 : 0 ≤ i) (h1 : i < 10) : ix 20 i K = K := ix_ok K h0 (by rw [cle20]; exact h1)
theorem nn21 (K : RR) : nn 21 K = K := nn_ok K (by decide)
theorem nn22 (K : RR) : nn 22 K = K := nn_ok K (by decide)
theorem cle22 : cln 22 = 10 := by decide
theorem jx22 {i : Int} (K : RR) (h0 : 0 ≤ i) (h1 : i < 10) : ix 22 i K = K := ix_ok K h0 (by rw [cle22]; exact h1)
theorem nn23 (K : RR) : nn 23 K = K := nn_ok K (by decide)
theorem nn24 (K : RR) : nn 24 K = K := nn_ok K (by decide)
theorem cle24 : cln 24 = 10 := by decide
theorem jx24 {i : Int} (K : RR) (h0 : 0 ≤ i) (h1 : i < 10) : ix 24 i K = K := ix_ok K h0 (by rw [cle24]; exact h1)
theorem nn25 (K : RR) : nn 25 K = K := nn_ok K (by decide)
theorem nn26 (K : RR) : nn 26 K = K := nn_ok K (by decide)
theorem cle26 : cln 26 = 10 := by decide
theorem jx26 {i : Int} (K : RR) (h0 : 0 ≤ i) (h1 : i < 10) : ix 26 i K = K := ix_ok K h0 (by rw [cle26]; exact h1)
theorem nn27 (K : RR) : nn 27 K = K := nn_ok K (by decide)
theorem cle27 : cln 27 = 11 := by decide
theorem jx27 {i : Int} (K : RR) (h0 : 0 ≤ i) (h1 : i < 11) : ix 27 i K = K := ix_ok K h0 (by rw [cle27]; exact h1)
theorem nn28 (K : RR) : nn 28 K = K := nn_ok K (by decide)
theorem cle28 : cln 28 = 11 := by decide
theorem jx28 {i : Int} (K : RR) (h0 : 0 ≤ i) (h1 : i < 11) : ix 28 i K = K := ix_ok K h0 (by rw [cle28]; exact h1)
theorem nn29 (K : RR) : nn 29 K = K := nn_ok K (by decide)
theorem cle29 : cln 29 = 11 := by decide
theorem jx29 {i : Int} (K : RR) (h0 : 0 ≤ i) (h1 : i < 11) : ix 29 i K = K := ix_ok K h0 (by rw [cle29]; exact h1)
theorem nn30 (K : RR) : nn 30 K = K := nn_ok K (by decide)
theorem cle30 : cln 30 = 11 := by decide
theorem jx30 {i : Int} (K : RR) (h0 : 0 ≤ i) (h1 : i < 11) : ix 30 i K = K := ix_ok K h0 (by rw [cle30]; exact h1)
theorem nn31 (K : RR) : nn 31 K = K := nn_ok K (by decide)
theorem cle31 : cln 31 = 11 := by decide
theorem jx31 {i : Int} (K : RR) (h0 : 0 ≤ i) (h1 : i < 11) : ix 31 i K = K := ix_ok K h0 (by rw [cle31]; exact h1)
theorem nn32 (K : RR) : nn 32 K = K := nn_ok K (by decide)
theorem cle32 : cln 32 = 11 := by decide
theorem jx32 {i : Int} (K : RR) (h0 : 0 ≤ i) (h1 : i < 11) : ix 32 i K = K := ix_ok K h0 (by rw [cle32]; exact h1)
theorem nn33 (K : RR) : nn 33 K = K := nn_ok K (by decide)
theorem cle33 : cln 33 = 11 := by decide
theorem jx33 {i : Int} (K : RR) (h0 : 0 ≤ i) (h1 : i < 11) : ix 33 i K = K := ix_ok K h0 (by rw [cle33]; exact h1)
theorem nn34 (K : RR) : nn 34 K = K := nn_ok K (by decide)
theorem cle34 : cln 34 = 11 := by decide
theorem jx34 {i : Int} (K : RR) (h0 : 0 ≤ i) (h1 : i < 11) : ix 34 i K = K := ix_ok K h0 (by rw [cle34]; exact h1)
theorem nn35 (K : RR) : nn 35 K = K := nn_ok K (by decide)
theorem cle35 : cln 35 = 11 := by decide
theorem jx35 {i : Int} (K : RR) (h0 : 0 ≤ i) (h1 : i < 11) : ix 35 i K = K := ix_ok K h0 (by rw [cle35]; exact h1)
theorem nn36 (K : RR) : nn 36 K = K := nn_ok K (by decide)
theorem cle36 : cln 36 = 11 := by decide
theorem jx36 {i : Int} (K : RR) (h0 : 0 ≤ i) (h1 : i < 11) : ix 36 i K = K := ix_ok K h0 (by rw [cle36]; exact h1)
theorem nn37 (K : RR) : nn 37 K = K := nn_ok K (by decide)
theorem cle37 : cln 37 = 11 := by decide
theorem jx37 {i : Int} (K : RR) (h0 : 0 ≤ i) (h1 : i < 11) : ix 37 i K = K := ix_ok K h0 (by rw [cle37]; exact h1)
theorem nn38 (K : RR) : nn 38 K = K := nn_ok K (by decide)
theorem cle38 : cln 38 = 11 := by decide
theorem jx38 {i : Int} (K : RR) (h0 : 0 ≤ i) (h1 : i < 11) : ix 38 i K = K := ix_ok K h0 (by rw [cle38]; exact h1)
theorem nn39 (K : RR) : nn 39 K = K := nn_ok K (by decide)
theorem cle39 : cln 39 = 10 := by decide
theorem jx39 {i : Int} (K : RR) (h0 : 0 ≤ i) (h1 : i < 10) : ix 39 i K = K := ix_ok K h0 (by rw [cle39]; exact h1)
theorem nn40 (K : RR) : nn 40 K = K := nn_ok K (by decide)
theorem cle40 : cln 40 = 606 := by decide
theorem jx40 {i : Int} (K : RR) (h0 : 0 ≤ i) (h1 : i < 606) : ix 40 i K = K := ix_ok K h0 (by rw [cle40]; exact h1)
theorem nn71 (K : RR) : nn 71 K = K := nn_ok K (by decide)
theorem nn72 (K : RR) : nn 72 K = K := nn_ok K (by decide)
theorem cle72 : cln 72 = 12 := by decide
theorem jx72 {i : Int} (K : RR) (h0 : 0 ≤ i) (h1 : i < 12) : ix 72 i K = K := ix_ok K h0 (by rw [cle72]; exact h1)
theorem nn73 (K : RR) : nn 73 K = K := nn_ok K (by decide)
theorem cle73 : cln 73 = 7 := by decide
theorem jx73 {i : Int} (K : RR) (h0 : 0 ≤ i) (h1 : i < 7) : ix 73 i K = K := ix_ok K h0 (by rw [cle73]; exact h1)
theorem nn74 (K : RR) : nn 74 K = K := nn_ok K (by decide)
theorem cle74 : cln 74 = 3 := by decide
theorem jx74 {i : Int} (K : RR) (h0 : 0 ≤ i) (h1 : i < 3) : ix 74 i K = K := ix_ok K h0 (by rw [cle74]; exact h1)
theorem nn75 (K : RR) : nn 75 K = K := nn_ok K (by decide)
theorem cle75 : cln 75 = 3 := by decide
theorem jx75 {i : Int} (K : RR) (h0 : 0 ≤ i) (h1 : i < 3) : ix 75 i K = K := ix_ok K h0 (by rw [cle75]; exact h1)
theorem nn76 (K : RR) : nn 76 K = K := nn_ok K (by decide)
theorem cle76 : cln 76 = 3 := by decide
theorem jx76 {i : Int} (K : RR) (h0 : 0 ≤ i) (h1 : i < 3) : ix 76 i K = K := ix_ok K h0 (by rw [cle76]; exact h1)
theorem nn77 (K : RR) : nn 77 K = K := nn_ok K (by decide)
theorem cle77 : cln 77 = 30 := by decide
theorem jx77 {i : Int} (K : RR) (h0 : 0 ≤ i) (h1 : i < 30) : ix 77 i K = K := ix_ok K h0 (by rw [cle77]; exact h1)
theorem nn78 (K : RR) : nn 78 K = K := nn_ok K (by decide)
theorem cle78 : cln 78 = 30 := by decide
theorem jx78 {i : Int} (K : RR) (h0 : 0 ≤ i) (h1 : i < 30) : ix 78 i K = K := ix_ok K h0 (by rw [cle78]; exact h1)
theorem nn79 (K : RR) : nn 79 K = K := nn_ok K (by decide)
theorem cle79 : cln 79 = 579 := by decide
theorem jx79 {i : Int} (K : RR) (h0 : 0 ≤ i) (h1 : i < 579) : ix 79 i K = K := ix_ok K h0 (by rw [cle79]; exact h1)
theorem nn80 (K : RR) : nn 80 K = K := nn_ok K (by decide)
theorem cle80 : cln 80 = 2895 := by decide
theorem jx80 {i : Int} (K : RR) (h0 : 0 ≤ i) (h1 : i < 2895) : ix 80 i K = K := ix_ok K h0 (by rw [cle80]; exact h1)
theorem nn81 (K : RR) : nn 81 K = K := nn_ok K (by decide)
theorem cle81 : cln 81 = 579 := by decide
theorem jx81 {i : Int} (K : RR) (h0 : 0 ≤ i) (h1 : i < 579) : ix 81 i K = K := ix_ok K h0 (by rw [cle81]; exact h1)
theorem nn82 (K : RR) : nn 82 K = K := nn_ok K (by decide)
theorem cle82 : cln 82 = 1188 := by decide
theorem jx82 {i : Int} (K : RR) (h0 : 0 ≤ i) (h1 : i < 1188) : ix 82 i K = K := ix_ok K h0 (by rw [cle82]; exact h1)
theorem nn83 (K : RR) : nn 83 K = K := nn_ok K (by decide)
theorem cle83 : cln 83 = 18 := by decide
theorem jx83 {i : Int} (K : RR) (h0 : 0 ≤ i) (h1 : i < 18) : ix 83 i K = K := ix_ok K h0 (by rw [cle83]; exact h1)
theorem nn84 (K : RR) : nn 84 K = K := nn_ok K (by decide)
theorem cle84 : cln 84 = 10 := by decide
theorem jx84 {i : Int} (K : RR) (h0 : 0 ≤ i) (h1 : i < 10) : ix 84 i K = K := ix_ok K h0 (by rw [cle84]; exact h1)
theorem nn85 (K : RR) : nn 85 K = K := nn_ok K (by decide)
theorem cle85 : cln 85 = 606 := by decide
theorem jx85 {i : Int} (K : RR) (h0 : 0 ≤ i) (h1 : i < 606) : ix 85 i K = K := ix_ok K h0 (by rw [cle85]; exact h1)
theorem nn86 (K : RR) : nn 86 K = K := nn_ok K (by decide)
theorem cle86 : cln 86 = 1001 := by decide
theorem jx86 {i : Int} (K : RR) (h0 : 0 ≤ i) (h1 : i < 1001) : ix 86 i K = K := ix_ok K h0 (by rw [cle86]; exact h1)
theorem nn87 (K : RR) : nn 87 K = K := nn_ok K (by decide)
theorem cle87 : cln 87 = 1000 := by decide
theorem jx87 {i : Int} (K : RR) (h0 : 0 ≤ i) (h1 : i < 1000) : ix 87 i K = K := ix_ok K h0 (by rw [cle87]; exact h1)
theorem nn88 (K : RR) : nn 88 K = K := nn_ok K (by decide)
theorem cle88 : cln 88 = 42021 := by decide
theorem jx88 {i : Int} (K : RR) (h0 : 0 ≤ i) (h1 : i < 42021) : ix 88 i K = K := ix_ok K h0 (by rw [cle88]; exact h1)
theorem nn89 (K : RR) : nn 89 K = K := nn_ok K (by decide)
theorem cle89 : cln 89 = 121 := by decide
theorem jx89 {i : Int} (K : RR) (h0 : 0 ≤ i) (h1 : i < 121) : ix 89 i K = K := ix_ok K h0 (by rw [cle89]; exact h1)
