/-! the class' frame: its loops -/
def bw (V : FV) (b l : Int) : Int := if vC V b l < 0 then 0 else 2 * vW V b + (if vK V b = 2 ∨ vK V b = 4 then 2 * vC V b l else vC V b l)
def tlf (V : FV) (s l : Int) : Int := (if vK V s = 3 then 2 * bw V s l else bw V s l) + (if vK V (s - 1) = 3 then 0 else bw V (s - 1) l)
def tl (V : FV) (s : Int) : Int := 2 * vH V * (vL V - b2i (¬ fot V s)) + SM (tlf V s) 0 (vL V)
theorem bw_r {V : FV} (hw : WF V) (b l : Int) : 0 ≤ bw V b l ∧ bw V b l ≤ 212 := by
  have h1 := hw.k b
  have h2 := hw.c b l
  unfold bw
  repeat' split
  all_goals omega
theorem tlf_r {V : FV} (hw : WF V) (b l : Int) : 0 ≤ tlf V b l ∧ tlf V b l ≤ 636 := by
  have h1 := bw_r hw b l
  have h2 := bw_r hw (b - 1) l
  unfold tlf
  repeat' split
  all_goals omega
theorem mul_b {a b c d : Int} (h0 : 0 ≤ a) (h1 : a ≤ c) (h2 : 0 ≤ b) (h3 : b ≤ d) : 0 ≤ a * b ∧ a * b ≤ c * d :=
  ⟨Int.mul_nonneg h0 h2, Int.mul_le_mul h1 h3 h2 (by omega)⟩
theorem tl_r {V : FV} (hw : WF V) (s : Int) : 0 ≤ tl V s ∧ tl V s ≤ 4056 := by
  have h1 := SM_b (f := tlf V s) (lo := 0) (hi := 636) (n := vL V) 0 (fun j _ _ => tlf_r hw s j) hw.r.2.2.1
  have h2 := hw.r
  have h3 := mul_b (a := 2 * vH V) (b := vL V - b2i (¬ fot V s)) (c := 40) (d := 6) (by omega) (by omega) (by
    have : vL V = 0 → fot V s := by
      intro q r
      rcases hw.k s with e | e <;> omega
    have h5 := b2i_r (p := ¬ fot V s)
    by_cases e : vL V = 0
    · rw [b2i_f (fun q => q (this e))]
      omega
    · omega) (by have h5 := b2i_r (p := ¬ fot V s); omega)
  unfold tl
  omega
def frN (V : FV) (s : Int) : Nat → Int → Int → Int → Int
  | 0, _, held, most => if most < vL V - held then vL V - held else most
  | n + 1, l, held, most => if vT V s l = 0 then frN V s n (l + 1) held most else frN V s n (l + 1) (l + 1) (if most < l + 1 - held then l + 1 - held else most)
def FRL (V : FV) (s l held most : Int) : Int := frN V s (vL V - l).toNat l held most
theorem FRL_e {V : FV} {s l held most : Int} (h : vL V ≤ l) : FRL V s l held most = if most < vL V - held then vL V - held else most := by
  unfold FRL
  rw [show (vL V - l).toNat = 0 by omega]
  rfl
theorem FRL_s {V : FV} {s l held most : Int} (h : l < vL V) : FRL V s l held most = if vT V s l = 0 then FRL V s (l + 1) held most else FRL V s (l + 1) (l + 1) (if most < l + 1 - held then l + 1 - held else most) := by
  unfold FRL
  rw [show (vL V - l).toNat = (vL V - (l + 1)).toNat + 1 by omega]
  rfl
/-- lifts not held at a standard -/
def frl (V : FV) (s : Int) : Int := FRL V s 0 (b2i (¬ fot V s)) 1
theorem FRL_r {V : FV} {s : Int} : ∀ l held most, 0 ≤ l → 0 ≤ held → 1 ≤ most → most ≤ 6 → vL V ≤ 6 → 1 ≤ FRL V s l held most ∧ FRL V s l held most ≤ 6 := by
  refine up_ind (vL V) ?_ ?_
  · intro l hl held most _ _ _ _ _
    rw [FRL_e hl]
    split <;> omega
  · intro l hl ih held most _ _ _ _ _
    rw [FRL_s hl]
    split
    · exact ih _ _ (by omega) (by omega) (by omega) (by omega) (by omega)
    · exact ih _ _ (by omega) (by omega) (by split <;> omega) (by split <;> omega) (by omega)
theorem frl_r {V : FV} (hw : WF V) (s : Int) : 1 ≤ frl V s ∧ frl V s ≤ 6 := FRL_r _ _ _ (by omega) (b2i_r).1 (by omega) (by omega) hw.r.2.2.2.1
/-- the next foot to the left, to the right -/
def LF (V : FV) (s : Int) : Int := FD (fun j => fot V j) (-1) s
def RF (V : FV) (s : Int) : Int := FU (fun j => fot V j) (-1) s (vB V + 1)
section CQ
variable {μ : MM} {A : Int} {V : FV}
theorem c_footL (hw : WF V) (h : CF μ A V) : ∀ s k d, s ≤ vB V → k + s ≤ 10 → 0 ≤ k → EE 21 5 [(41, A), d, (0, -1), (0, s), (0, k)] [] μ = some (LF V s, μ) := by
  have := hw.r
  refine dn_ind 0 ?_ ?_
  · intro s hs k d h1 h2 h3
    rw [q21_5]
    unfold LF
    rw [FD_e hs]
    split
    · rfl
    · rfl
  · intro s hs ih k d h1 h2 h3
    rw [q21_5, if_neg (by omega), if_neg (by omega), h.c1, if_neg (by omega), h.c8]
    simp (disch := omega) only [nnA h.fr, ix3 h.fr, h.lo, b2i_0, w32_l]
    unfold LF
    rw [FD_s hs]
    by_cases e : fot V s
    · rw [if_pos (fun q => q e), if_pos e]
    · rw [if_neg (fun q => q e), if_neg e, show s + -1 = s - 1 by omega, ih (k + 1) _ (by omega) (by omega) (by omega)]
      rfl
theorem c_footR (hw : WF V) (h : CF μ A V) : ∀ s k d, 0 ≤ s → k ≤ s → 0 ≤ k → EE 21 5 [(41, A), d, (0, 1), (0, s), (0, k)] [] μ = some (RF V s, μ) := by
  have := hw.r
  refine up_ind (vB V + 1) ?_ ?_
  · intro s hs k d h1 h2 h3
    rw [q21_5, h.c1]
    unfold RF
    rw [FU_e hs, if_pos (show vB V < s by omega)]
    repeat' split
    all_goals rfl
  · intro s hs ih k d h1 h2 h3
    rw [q21_5, if_neg (by omega), if_neg (by omega), h.c1, if_neg (by omega), h.c8]
    simp (disch := omega) only [nnA h.fr, ix3 h.fr, h.lo, b2i_0, w32_l]
    unfold RF
    rw [FU_s hs]
    by_cases e : fot V s
    · rw [if_pos (fun q => q e), if_pos e]
    · rw [if_neg (fun q => q e), if_neg e, ih (k + 1) _ (by omega) (by omega) (by omega)]
      rfl
theorem c_span_l (hw : WF V) (h : CF μ A V) (a b M : Int) (hM : M = if (if a < b then b else a) < vB V then (if a < b then b else a) else vB V) : ∀ i acc, 0 ≤ i → 0 ≤ acc → acc ≤ 100 * i → EE 22 13 [(41, A), (0, a), (0, b), (0, acc), (0, i)] [] μ = some (acc + SM (vW V) i M, μ) := by
  have := hw.r
  refine up_ind M ?_ ?_
  · intro i hi acc _ _ _
    rw [q22_13, h.c1, SM_e hi, Int.add_zero]
    repeat' split
    all_goals first | rfl | omega
  · intro i hi ih acc _ _ _
    rw [q22_13, h.c1, SM_s hi, if_pos (by omega), if_pos (by omega), h.c7]
    have h2 := hw.k i
    simp (disch := omega) only [nnA h.fr, ix2 h.fr, h.w, w32_l]
    rw [ih _ (by omega) (by omega) (by omega), Int.add_assoc]
theorem c_span (hw : WF V) (h : CF μ A V) {a b : Int} (h0 : 0 ≤ a) (h1 : a ≤ b) (h2 : b ≤ vB V) : EE 22 0 [(41, A), (0, a), (0, b), (9, 0), (9, 0)] [] μ = some (SM (vW V) a b, μ) := by
  rw [q22_0, c_span_l hw h a b b (by repeat' split
                                     all_goals omega) _ _ (by repeat' split
                                                              all_goals omega) (by omega) (by repeat' split
                                                                                              all_goals omega)]
  rw [show (if 0 < (if b < a then b else a) then (if b < a then b else a) else 0) = a by repeat' split
                                                                                         all_goals omega, Int.zero_add]
theorem c_spanR (hw : WF V) (h : CF μ A V) {a b : Int} (h0 : 0 ≤ a) (h1 : a ≤ b) (h2 : b ≤ vB V) : EE 22 0 [(41, A), (0, b), (0, a), (9, 0), (9, 0)] [] μ = some (SM (vW V) a b, μ) := by
  rw [q22_0, c_span_l hw h b a b (by repeat' split
                                     all_goals omega) _ _ (by repeat' split
                                                              all_goals omega) (by omega) (by repeat' split
                                                                                              all_goals omega)]
  rw [show (if 0 < (if a < b then a else b) then (if a < b then a else b) else 0) = a by repeat' split
                                                                                         all_goals omega, Int.zero_add]
theorem c_boardsOn_l (hw : WF V) (h : CF μ A V) (l : Int) : ∀ i acc, 0 ≤ i → 0 ≤ acc → acc ≤ i → EE 32 4 [(41, A), (0, l), (0, acc), (0, i)] [] μ = some (acc + SM (fun b => b2i (0 ≤ vC V b l)) i (vB V), μ) := by
  have := hw.r
  refine up_ind (vB V) ?_ ?_
  · intro i hi acc _ _ _
    rw [q32_4, h.c1, SM_e hi, Int.add_zero, if_neg (by omega)]
  · intro i hi ih acc _ _ _
    rw [q32_4, h.c1, SM_s hi, if_pos (by omega), c_classOf hw h, bnd_s]
    simp (disch := omega) only [w32_l]
    split
    · rw [ih _ (by omega) (by omega) (by omega), b2i_f (by omega), Int.zero_add]
    · rw [ih _ (by omega) (by omega) (by omega), b2i_t (by omega), Int.add_assoc]
theorem c_boardsOn (hw : WF V) (h : CF μ A V) (l : Int) : EE 32 0 [(41, A), (0, l), (9, 0), (9, 0)] [] μ = some (SM (fun b => b2i (0 ≤ vC V b l)) 0 (vB V), μ) := by
  rw [q32_0, c_boardsOn_l hw h l _ _ (by omega) (by omega) (by omega), Int.zero_add]
theorem c_boardsWeight (hw : WF V) (h : CF μ A V) (b l : Int) : EE 34 0 [(41, A), (0, b), (0, l), (9, 0), (9, 0)] [] μ = some (bw V b l, μ) := by
  have h1 := hw.c b l
  have h2 := hw.k b
  rw [q34_0, c_classOf hw h, bnd_s]
  unfold bw
  split
  · rfl
  · simp only [c_isOfKind hw h, bnd_s, b2i_0, c_widthOf hw h]
    simp (disch := omega) only [w32_l]
    split
    · rw [if_neg (by omega)]
    · rw [if_pos (by omega)]
theorem c_twiceLoad_l (hw : WF V) (h : CF μ A V) {s : Int} (h0 : 0 ≤ s) (h1 : s ≤ vB V) : ∀ i acc d, 0 ≤ i → 0 ≤ acc → acc ≤ 240 + 636 * i → EE 35 20 [(41, A), (0, s), (0, acc), (0, i), d] [] μ = some (acc + SM (tlf V s) i (vL V), μ) := by
  have := hw.r
  have k1 := hw.k s
  have k2 := hw.k (s - 1)
  refine up_ind (vL V) ?_ ?_
  · intro i hi acc d _ _ _
    rw [q35_20, h.c2, SM_e hi, Int.add_zero, if_neg (by omega)]
  · intro i hi ih acc d _ _ _
    rw [q35_20, h.c2, SM_s hi, if_pos (by omega)]
    have h3 := tlf_r hw s i
    have h4 := bw_r hw s i
    have h5 := bw_r hw (s - 1) i
    simp (disch := omega) only [w32_l, c_boardsWeight hw h, c_isOfKind hw h, bnd_s, b2i_0]
    by_cases e1 : vK V s = 3
    · by_cases e2 : vK V (s - 1) = 3
      · rw [if_neg (by omega), if_neg (by omega), ih _ _ (by omega) (by omega) (by omega)]
        unfold tlf
        rw [if_pos e1, if_pos e2]
        congr 2
        omega
      · rw [if_neg (by omega), if_pos (by omega), ih _ _ (by omega) (by omega) (by omega)]
        unfold tlf
        rw [if_pos e1, if_neg e2]
        congr 2
        omega
    · by_cases e2 : vK V (s - 1) = 3
      · rw [if_pos (by omega), if_neg (by omega), ih _ _ (by omega) (by omega) (by omega)]
        unfold tlf
        rw [if_neg e1, if_pos e2]
        congr 2
        omega
      · rw [if_pos (by omega), if_pos (by omega), ih _ _ (by omega) (by omega) (by omega)]
        unfold tlf
        rw [if_neg e1, if_neg e2]
        congr 2
        omega
theorem c_twiceLoad (hw : WF V) (h : CF μ A V) {s : Int} (h0 : 0 ≤ s) (h1 : s ≤ vB V) (h2 : vB V ≠ 0) : EE 35 0 [(41, A), (0, s), (9, 0), (9, 0), (9, 0)] [] μ = some (tl V s, μ) := by
  have h4 := hw.r
  have h5 := b2i_r (p := ¬ fot V s)
  have h3 := mul_b (a := 2 * vH V) (b := vL V - b2i (¬ fot V s)) (c := 40) (d := 6) (by omega) (by omega) (by omega) (by omega)
  rw [q35_0, c_lowestLift hw h h0 h1, bnd_s, h.c2, h.c3]
  simp (disch := omega) only [w32_l]
  rw [c_twiceLoad_l hw h h0 h1 _ _ _ (by omega) (by omega) (by omega)]
  rfl
theorem c_freeLifts_l (hw : WF V) (h : CF μ A V) (s : Int) : ∀ l held most, 0 ≤ l → 0 ≤ held → held ≤ 10 → EE 36 11 [(41, A), (0, s), (0, held), (0, most), (0, l)] [] μ = some (FRL V s l held most, μ) := by
  have := hw.r
  refine up_ind (vL V) ?_ ?_
  · intro l hl held most _ _ _
    rw [q36_11, h.c2, FRL_e hl, if_neg (by omega)]
    simp (disch := omega) only [w32_l]
  · intro l hl ih held most _ _ _
    rw [q36_11, h.c2, FRL_s hl, if_pos (by omega), c_hasTie hw h, bnd_s]
    simp (disch := omega) only [w32_l]
    split
    · rw [ih _ _ (by omega) (by omega) (by omega)]
    · rw [ih _ _ (by omega) (by omega) (by omega)]
theorem c_freeLifts (hw : WF V) (h : CF μ A V) {s : Int} (h0 : 0 ≤ s) (h1 : s ≤ vB V) : EE 36 0 [(41, A), (0, s), (9, 0), (9, 0), (9, 0)] [] μ = some (frl V s, μ) := by
  have h5 := b2i_r (p := ¬ fot V s)
  rw [q36_0, c_lowestLift hw h h0 h1, bnd_s, c_freeLifts_l hw h s _ _ _ (by omega) (by omega) (by omega)]
  rfl
end CQ
