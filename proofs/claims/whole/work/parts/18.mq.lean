/-! the reference's frame -/
/-- the reference's own references -/
def MRf (μ : MM) : Prop := μ 71 0 = 72 ∧ μ 71 1 = 73 ∧ μ 71 2 = 74 ∧ μ 71 3 = 75 ∧ μ 71 4 = 76 ∧ μ 71 5 = 77 ∧ μ 71 6 = 78 ∧ μ 71 7 = 79 ∧ μ 71 8 = 80 ∧ μ 71 9 = 81 ∧ μ 71 11 = 82 ∧ μ 71 12 = 83 ∧ μ 71 13 = 84 ∧ μ 71 18 = 85 ∧ μ 71 19 = 86 ∧ μ 71 20 = 87 ∧ μ 71 23 = 88 ∧ μ 71 29 = 89
section MRs
variable {μ : MM}
theorem MRf.c0 (h : MRf μ) : μ 71 0 = 72 := h.1
theorem MRf.c1 (h : MRf μ) : μ 71 1 = 73 := h.2.1
theorem MRf.c2 (h : MRf μ) : μ 71 2 = 74 := h.2.2.1
theorem MRf.c3 (h : MRf μ) : μ 71 3 = 75 := h.2.2.2.1
theorem MRf.c4 (h : MRf μ) : μ 71 4 = 76 := h.2.2.2.2.1
theorem MRf.c5 (h : MRf μ) : μ 71 5 = 77 := h.2.2.2.2.2.1
theorem MRf.c6 (h : MRf μ) : μ 71 6 = 78 := h.2.2.2.2.2.2.1
theorem MRf.c7 (h : MRf μ) : μ 71 7 = 79 := h.2.2.2.2.2.2.2.1
theorem MRf.c8 (h : MRf μ) : μ 71 8 = 80 := h.2.2.2.2.2.2.2.2.1
theorem MRf.c9 (h : MRf μ) : μ 71 9 = 81 := h.2.2.2.2.2.2.2.2.2.1
theorem MRf.c11 (h : MRf μ) : μ 71 11 = 82 := h.2.2.2.2.2.2.2.2.2.2.1
theorem MRf.c12 (h : MRf μ) : μ 71 12 = 83 := h.2.2.2.2.2.2.2.2.2.2.2.1
theorem MRf.c13 (h : MRf μ) : μ 71 13 = 84 := h.2.2.2.2.2.2.2.2.2.2.2.2.1
theorem MRf.c18 (h : MRf μ) : μ 71 18 = 85 := h.2.2.2.2.2.2.2.2.2.2.2.2.2.1
theorem MRf.c19 (h : MRf μ) : μ 71 19 = 86 := h.2.2.2.2.2.2.2.2.2.2.2.2.2.2.1
theorem MRf.c20 (h : MRf μ) : μ 71 20 = 87 := h.2.2.2.2.2.2.2.2.2.2.2.2.2.2.2.1
theorem MRf.c23 (h : MRf μ) : μ 71 23 = 88 := h.2.2.2.2.2.2.2.2.2.2.2.2.2.2.2.2.1
theorem MRf.c29 (h : MRf μ) : μ 71 29 = 89 := h.2.2.2.2.2.2.2.2.2.2.2.2.2.2.2.2.2
end MRs
/-- the reference's frame f is V -/
def MF (μ : MM) (f : Int) (V : FV) : Prop := (0 ≤ f ∧ f < 3) ∧ MRf μ ∧ μ 76 f = vB V ∧ μ 74 f = vL V ∧ μ 75 f = vH V ∧ μ 79 (193 * f + 192) = vP V ∧
  (∀ b, 0 ≤ b → b < vB V → μ 77 (10 * f + b) = vK V b ∧ μ 78 (10 * f + b) = vW V b) ∧ (vB V ≠ 0 → (∀ l, 0 ≤ l → l < 6 → μ 79 (193 * f + l) = vF V l) ∧
  (∀ b l, 0 ≤ b → b < 10 → 0 ≤ l → l < 6 → μ 79 (193 * f + 6 + 10 * l + b) = vC V b l ∧ μ 79 (193 * f + 66 + 10 * l + b) = vR V b l) ∧ (∀ s l, 0 ≤ s → s < 11 → 0 ≤ l → l < 6 → μ 79 (193 * f + 126 + 11 * l + s) = vT V s l))
section MFs
variable {μ : MM} {f : Int} {V : FV} {U : Int → Int}
theorem MF.fr (h : MF μ f V) : 0 ≤ f ∧ f < 3 := h.1
theorem MF.m (h : MF μ f V) : MRf μ := h.2.1
theorem MF.c2 (h : MF μ f V) : μ 71 2 = 74 := h.m.c2
theorem MF.c3 (h : MF μ f V) : μ 71 3 = 75 := h.m.c3
theorem MF.c4 (h : MF μ f V) : μ 71 4 = 76 := h.m.c4
theorem MF.c5 (h : MF μ f V) : μ 71 5 = 77 := h.m.c5
theorem MF.c6 (h : MF μ f V) : μ 71 6 = 78 := h.m.c6
theorem MF.c7 (h : MF μ f V) : μ 71 7 = 79 := h.m.c7
theorem MF.c11 (h : MF μ f V) : μ 71 11 = 82 := h.m.c11
theorem MF.c12 (h : MF μ f V) : μ 71 12 = 83 := h.m.c12
theorem MF.B (h : MF μ f V) : μ 76 f = vB V := h.2.2.1
theorem MF.L (h : MF μ f V) : μ 74 f = vL V := h.2.2.2.1
theorem MF.H (h : MF μ f V) : μ 75 f = vH V := h.2.2.2.2.1
theorem MF.P (h : MF μ f V) : μ 79 (193 * f + 192) = vP V := h.2.2.2.2.2.1
theorem MF.k (h : MF μ f V) {b : Int} (h0 : 0 ≤ b) (h1 : b < vB V) : μ 77 (10 * f + b) = vK V b := (h.2.2.2.2.2.2.1 b h0 h1).1
theorem MF.w (h : MF μ f V) {b : Int} (h0 : 0 ≤ b) (h1 : b < vB V) : μ 78 (10 * f + b) = vW V b := (h.2.2.2.2.2.2.1 b h0 h1).2
theorem MF.fl (h : MF μ f V) (hb : vB V ≠ 0) {l : Int} (h0 : 0 ≤ l) (h1 : l < 6) : μ 79 (193 * f + l) = vF V l := (h.2.2.2.2.2.2.2 hb).1 l h0 h1
theorem MF.c (h : MF μ f V) (hb : vB V ≠ 0) {b l : Int} (h0 : 0 ≤ b) (h1 : b < 10) (h2 : 0 ≤ l) (h3 : l < 6) : μ 79 (193 * f + 6 + 10 * l + b) = vC V b l := ((h.2.2.2.2.2.2.2 hb).2.1 b l h0 h1 h2 h3).1
theorem MF.b (h : MF μ f V) (hb : vB V ≠ 0) {b l : Int} (h0 : 0 ≤ b) (h1 : b < 10) (h2 : 0 ≤ l) (h3 : l < 6) : μ 79 (193 * f + 66 + 10 * l + b) = vR V b l := ((h.2.2.2.2.2.2.2 hb).2.1 b l h0 h1 h2 h3).2
theorem MF.t (h : MF μ f V) (hb : vB V ≠ 0) {s l : Int} (h0 : 0 ≤ s) (h1 : s < 11) (h2 : 0 ≤ l) (h3 : l < 6) : μ 79 (193 * f + 126 + 11 * l + s) = vT V s l := (h.2.2.2.2.2.2.2 hb).2.2 s l h0 h1 h2 h3
theorem m_isIn (a b c : Int) (μ : MM) : EE 159 0 [(0, a), (0, b), (0, c)] [] μ = some (b2i (b ≤ a ∧ a ≤ c), μ) := by
  rw [q159_0]
  unfold b2i
  repeat' split
  all_goals first | rfl | omega
theorem m_isFrame (a : Int) (μ : MM) : EE 169 0 [(0, a)] [] μ = some (b2i (0 ≤ a ∧ a ≤ 2), μ) := by
  rw [q169_0, m_isIn, bnd_s, b2i_zo]
theorem m_isMissing (h : MF μ f V) : EE 170 0 [(48, 71), (0, f)] [] μ = some (b2i (vB V = 0), μ) := by
  have := h.fr
  rw [q170_0, h.c4, nn76, jx76 _ h.fr.1 (by omega), h.B, if_b2i]
theorem m_kind (hw : WF V) (h : MF μ f V) {b : Int} (h0 : 0 ≤ b) (hb : b < vB V) : EE 171 0 [(48, 71), (0, f), (0, b)] [] μ = some (vK V b, μ) := by
  have := h.fr
  have := hw.r
  rw [q171_0, h.c5]
  simp (disch := omega) only [w32_l, nn77, jx77, h.k]
theorem m_width (hw : WF V) (h : MF μ f V) {b : Int} (h0 : 0 ≤ b) (hb : b < vB V) : EE 172 0 [(48, 71), (0, f), (0, b)] [] μ = some (vW V b, μ) := by
  have := h.fr
  have := hw.r
  rw [q172_0, h.c6]
  simp (disch := omega) only [w32_l, nn78, jx78, h.w]
theorem m_isGate (hw : WF V) (h : MF μ f V) (b : Int) : EE 173 0 [(48, 71), (0, f), (0, b)] [] μ = some (b2i (gat V b), μ) := by
  have := h.fr
  have r := hw.r
  have k := hw.k b
  rw [q173_0, h.c4, h.B]
  simp (disch := omega) only [nn76, jx76]
  by_cases e : inB V b
  · rw [if_neg (by omega), if_pos e.2, m_kind hw h e.1 e.2, bnd_s, if_b2i]
  · rw [b2i_f (by omega)]
    split
    · rfl
    · rw [if_neg (by omega)]
theorem m_hasFoot (hw : WF V) (h : MF μ f V) {s : Int} (h1 : -100 ≤ s) (h2 : s ≤ 100) : EE 174 0 [(48, 71), (0, f), (0, s)] [] μ = some (b2i (fot V s), μ) := by
  rw [q174_0, w32_l (by omega) (by omega), m_isGate hw h, bnd_s]
  simp only [m_isGate hw h, bnd_s, b2i_0]
  unfold b2i
  repeat' split
  all_goals first | rfl | omega
theorem m_isLift (hw : WF V) (h : MF μ f V) (l : Int) : EE 175 0 [(48, 71), (0, f), (0, l)] [] μ = some (b2i (inL V l), μ) := by
  have := h.fr
  have := hw.r
  rw [q175_0, h.c2, h.L]
  simp (disch := omega) only [nn74, jx74, w32_l, m_isIn, bnd_s, b2i_zo]
  rw [b2i_c (q := inL V l) (by omega)]
theorem m_isBay (hw : WF V) (h : MF μ f V) (l : Int) : EE 176 0 [(48, 71), (0, f), (0, l)] [] μ = some (b2i (inB V l), μ) := by
  have := h.fr
  have := hw.r
  rw [q176_0, h.c4, h.B]
  simp (disch := omega) only [nn76, jx76, w32_l, m_isIn, bnd_s, b2i_zo]
  rw [b2i_c (q := inB V l) (by omega)]
theorem m_isStandard (hb : vB V ≠ 0) (h : MF μ f V) (l : Int) : EE 177 0 [(48, 71), (0, f), (0, l)] [] μ = some (b2i (inS V l), μ) := by
  have := h.fr
  rw [q177_0, h.c4, h.B]
  simp (disch := omega) only [nn76, jx76, w32_l, m_isIn, bnd_s, b2i_zo]
  rw [b2i_c (q := inS V l) (by omega)]
theorem m_hasFloor (hw : WF V) (hb : vB V ≠ 0) (h : MF μ f V) {l : Int} (h0 : 0 ≤ l) (h1 : l < 6) : EE 178 0 [(48, 71), (0, f), (0, l)] [] μ = some (vF V l, μ) := by
  have := h.fr
  rw [q178_0, h.c7]
  simp (disch := omega) only [nn79, jx79, w32_l, h.fl hb]
  rcases hw.f l with e | e
  · rw [e, if_neg (by omega)]
  · rw [e.1, if_pos rfl]
theorem m_boardAt (hb : vB V ≠ 0) (h : MF μ f V) {b l : Int} (h0 : 0 ≤ l) (h1 : l < 6) (h2 : 0 ≤ b) (h3 : b < 10) : EE 179 0 [(48, 71), (0, f), (0, b), (0, l)] [] μ = some (vC V b l, μ) := by
  have := h.fr
  rw [q179_0, h.c7]
  simp (disch := omega) only [nn79, jx79, w32_l, h.c hb]
theorem m_hasBrace (hw : WF V) (hb : vB V ≠ 0) (h : MF μ f V) {b l : Int} (h0 : 0 ≤ l) (h1 : l < 6) (h2 : 0 ≤ b) (h3 : b < 10) : EE 180 0 [(48, 71), (0, f), (0, b), (0, l)] [] μ = some (vR V b l, μ) := by
  have := h.fr
  rw [q180_0, h.c7]
  simp (disch := omega) only [nn79, jx79, w32_l, h.b hb]
  rcases hw.b b l with e | e
  · rw [e, if_neg (by omega)]
  · rw [e.1, if_pos rfl]
theorem m_hasTie (hw : WF V) (hb : vB V ≠ 0) (h : MF μ f V) {b l : Int} (h0 : 0 ≤ l) (h1 : l < 6) (h2 : 0 ≤ b) (h3 : b < 11) : EE 181 0 [(48, 71), (0, f), (0, b), (0, l)] [] μ = some (vT V b l, μ) := by
  have := h.fr
  rw [q181_0, h.c7]
  simp (disch := omega) only [nn79, jx79, w32_l, h.t hb]
  rcases hw.t b l with e | e
  · rw [e, if_neg (by omega)]
  · rw [e.1, if_pos rfl]
theorem m_widthTo (hw : WF V) (h : MF μ f V) {n : Int} (hn : n ≤ vB V) : ∀ i acc d, 0 ≤ i → 0 ≤ acc → acc ≤ 100 * i → EE 199 6 [(48, 71), (0, f), d, (0, n), (0, acc), (0, i)] [] μ = some (acc + SM (vW V) i n, μ) := by
  have := hw.r
  refine up_ind n ?_ ?_
  · intro i hi acc d _ _ _
    rw [q199_6, SM_e hi, Int.add_zero, if_neg (by omega)]
  · intro i hi ih acc d _ _ _
    have k := hw.k i
    rw [q199_6, SM_s hi, if_pos (by omega), m_width hw h (by omega) (by omega), bnd_s]
    simp (disch := omega) only [w32_l]
    rw [ih _ _ (by omega) (by omega) (by omega), Int.add_assoc]
theorem m_weightOf (hw : WF V) (hb : vB V ≠ 0) (h : MF μ f V) {b l : Int} (h0 : 0 ≤ l) (h1 : l < 6) (h2 : 0 ≤ b) (h3 : b < vB V) : EE 204 0 [(48, 71), (0, f), (0, b), (0, l), (9, 0), (9, 0)] [] μ = some (bw V b l, μ) := by
  have := hw.r
  have c := hw.c b l
  have k := hw.k b
  rw [q204_0, m_boardAt hb h h0 h1 h2 (by omega), bnd_s]
  unfold bw
  by_cases e : vC V b l < 0
  · rw [if_pos e, if_pos e]
  · rw [if_neg e, if_neg e, m_kind hw h h2 h3, bnd_s, m_width hw h h2 h3, bnd_s]
    simp (disch := omega) only [w32_l]
    repeat' split
    all_goals first | rfl | omega
theorem m_twiceLoad_l (hw : WF V) (hb : vB V ≠ 0) (h : MF μ f V) {s : Int} (h0 : 0 ≤ s) (h1 : s ≤ vB V) : ∀ i acc d, 0 ≤ i → 0 ≤ acc → acc ≤ 240 + 636 * i → EE 205 39 [(48, 71), (0, f), (0, s), (0, acc), (0, i), d] [] μ = some (acc + SM (tlf V s) i (vL V), μ) := by
  have := hw.r
  have := h.fr
  have k1 := hw.k s
  have k2 := hw.k (s - 1)
  refine up_ind (vL V) ?_ ?_
  · intro i hi acc d _ _ _
    rw [q205_39, h.c2, h.L, SM_e hi, Int.add_zero]
    simp (disch := omega) only [nn74, jx74]
    rw [if_neg (by omega)]
  · intro i hi ih acc d _ _ _
    rw [q205_39, h.c2, h.L, SM_s hi, h.c4, h.B]
    simp (disch := omega) only [nn74, jx74, nn76, jx76]
    rw [if_pos hi]
    have h3 := tlf_r hw s i
    have h4 := bw_r hw s i
    have h5 := bw_r hw (s - 1) i
    have z1 : s = vB V → bw V s i = 0 := by
      intro q
      have := hw.c s i
      unfold bw
      rw [if_pos (by omega)]
    have z2 : s = 0 → bw V (s - 1) i = 0 := by
      intro q
      have := hw.c (s - 1) i
      unfold bw
      rw [if_pos (by omega)]
    have T : tlf V s i = (if vK V s = 3 then 2 * bw V s i else bw V s i) + (if vK V (s - 1) = 3 then 0 else bw V (s - 1) i) := rfl
    by_cases e1 : s < vB V
    · rw [if_pos e1, m_weightOf hw hb h (by omega) (by omega) h0 e1, bnd_s, m_kind hw h h0 e1, bnd_s]
      by_cases e2 : 0 < s
      · simp (disch := omega) only [w32_l, if_pos e2, m_kind hw h, m_weightOf hw hb h, bnd_s]
        repeat' split
        all_goals simp only [*, if_true, if_false] at T
        all_goals rw [ih _ _ (by omega) (by omega) (by omega)]
        all_goals congr 2
        all_goals omega
      · simp (disch := omega) only [w32_l, if_neg e2]
        have := z2 (by omega)
        have e4 : vK V (s - 1) ≠ 3 := by omega
        repeat' split
        all_goals simp only [*, if_true, if_false] at T
        all_goals rw [ih _ _ (by omega) (by omega) (by omega)]
        all_goals congr 2
        all_goals omega
    · have e3 := z1 (by omega)
      have e4 : vK V s ≠ 3 := by omega
      rw [if_neg e1, if_pos (by omega)]
      simp (disch := omega) only [w32_l, m_kind hw h, m_weightOf hw hb h, bnd_s]
      rw [e3, if_neg e4] at T
      split
      all_goals simp only [*, if_true, if_false] at T
      all_goals rw [ih _ _ (by omega) (by omega) (by omega)]
      all_goals congr 2
      all_goals omega
theorem m_twiceLoad (hw : WF V) (hb : vB V ≠ 0) (h : MF μ f V) {s : Int} (h0 : 0 ≤ s) (h1 : s ≤ vB V) : EE 205 0 [(48, 71), (0, f), (0, s), (9, 0), (9, 0), (9, 0)] [] μ = some (tl V s, μ) := by
  have h4 := hw.r
  have := h.fr
  have h5 := b2i_r (p := ¬ fot V s)
  have h3 := mul_b (a := 2 * vH V) (b := vL V - b2i (¬ fot V s)) (c := 40) (d := 6) (by omega) (by omega) (by omega) (by omega)
  have T : tl V s = 2 * vH V * (vL V - b2i (¬ fot V s)) + SM (tlf V s) 0 (vL V) := rfl
  rw [q205_0, h.c3, h.H]
  simp (disch := omega) only [nn75, jx75, m_hasFoot hw h, bnd_s, b2i_0, h.c2, h.L, nn74, jx74]
  by_cases e : fot V s
  · rw [b2i_f (show ¬ ¬ fot V s from fun q => q e), Int.sub_zero] at h3 T
    rw [if_neg (fun q => q e)]
    simp (disch := omega) only [w32_l]
    rw [m_twiceLoad_l hw hb h h0 h1 _ _ _ (by omega) (by omega) (by omega), T]
  · rw [b2i_t e] at h3 T
    rw [if_pos e]
    simp (disch := omega) only [w32_l]
    rw [m_twiceLoad_l hw hb h h0 h1 _ _ _ (by omega) (by omega) (by omega), T]
theorem m_leftFoot (hw : WF V) (h : MF μ f V) : ∀ k d, -1 ≤ k → k ≤ 20 → EE 209 4 [(48, 71), (0, f), d, (0, k)] [] μ = some (LF V k, μ) := by
  refine dn_ind 0 ?_ ?_
  · intro k hk d h1 h2
    have := hw.k k
    rw [q209_4, m_hasFoot hw h (by omega) (by omega), bnd_s]
    unfold LF
    simp only [b2i_0]
    rw [FD_e hk, if_neg (by omega), show k = -1 by omega]
  · intro k hk ih d h1 h2
    rw [q209_4, m_hasFoot hw h (by omega) (by omega), bnd_s]
    unfold LF
    simp only [b2i_0]
    rw [FD_s hk]
    by_cases e : fot V k
    · rw [if_neg (fun q => q e), if_pos e]
    · rw [if_pos e, if_neg e, w32_l (by omega) (by omega), show k + -1 = k - 1 by omega, ih _ (by omega) (by omega)]
      rfl
theorem m_rightFoot (hw : WF V) (h : MF μ f V) : ∀ k d, -1 ≤ k → k ≤ vB V → EE 210 4 [(48, 71), (0, f), d, (0, k)] [] μ = some (RF V k, μ) := by
  have := hw.r
  refine up_ind (vB V + 1) ?_ ?_
  · intro k hk d h1 h2
    omega
  · intro k hk ih d h1 h2
    rw [q210_4, m_hasFoot hw h (by omega) (by omega), bnd_s]
    unfold RF
    simp only [b2i_0]
    rw [FU_s hk]
    by_cases e : fot V k
    · rw [if_neg (fun q => q e), if_pos e]
    · rw [if_pos e, if_neg e, w32_l (by omega) (by omega)]
      by_cases e2 : k = vB V
      · exact absurd (fotB hw) (by rw [← e2]; exact e)
      · rw [ih _ (by omega) (by omega)]
        rfl
theorem m_freeOf_l (hw : WF V) (hb : vB V ≠ 0) (h : MF μ f V) {s : Int} (h0 : 0 ≤ s) (h1 : s ≤ vB V) : ∀ l held most, 0 ≤ l → 0 ≤ held → held ≤ 10 → EE 220 21 [(48, 71), (0, f), (0, s), (0, held), (0, most), (0, l)] [] μ = some (FRL V s l held most, μ) := by
  have := hw.r
  have := h.fr
  refine up_ind (vL V) ?_ ?_
  · intro l hl held most _ _ _
    rw [q220_21, h.c2, h.L, FRL_e hl]
    simp (disch := omega) only [nn74, jx74, w32_l]
    rw [if_neg (by omega)]
    split <;> rfl
  · intro l hl ih held most _ _ _
    rw [q220_21, h.c2, h.L, FRL_s hl]
    simp (disch := omega) only [nn74, jx74, w32_l, if_pos hl, m_hasTie hw hb h, bnd_s]
    split
    · rw [ih _ _ (by omega) (by omega) (by omega)]
    · split
      · rw [ih _ _ (by omega) (by omega) (by omega)]
      · rw [ih _ _ (by omega) (by omega) (by omega)]
theorem m_freeOf (hw : WF V) (hb : vB V ≠ 0) (h : MF μ f V) {s : Int} (h0 : 0 ≤ s) (h1 : s ≤ vB V) : EE 220 0 [(48, 71), (0, f), (0, s), (9, 0), (9, 0), (9, 0)] [] μ = some (frl V s, μ) := by
  have := hw.r
  rw [q220_0, m_hasFoot hw h (by omega) (by omega), bnd_s]
  simp only [b2i_0]
  unfold frl
  by_cases e : fot V s
  · rw [if_neg (fun q => q e), m_freeOf_l hw hb h h0 h1 _ _ _ (by omega) (by omega) (by omega), b2i_f (fun q => q e)]
  · rw [if_pos e, m_freeOf_l hw hb h h0 h1 _ _ _ (by omega) (by omega) (by omega), b2i_t e]
end MFs
