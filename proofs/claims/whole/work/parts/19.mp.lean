/-! the reference's frame: its pieces -/
theorem b2i_zo_if {p q : Prop} [Decidable p] [Decidable q] (μ : MM) : bnd (if p then some ((1 : Int), μ) else if q then some (1, μ) else some (0, μ)) (fun v1 m2 => zo v1 (some (v1, m2))) = some (b2i (p ∨ q), μ) := by
  by_cases a : p
  · rw [if_pos a, bnd_s, zo_1, b2i_t (Or.inl a)]
  · rw [if_neg a]
    by_cases b : q
    · rw [if_pos b, bnd_s, zo_1, b2i_t (Or.inr b)]
    · rw [if_neg b, bnd_s, zo_0, b2i_f (fun r => r.elim a b)]
/-- what is up of the reference's frame -/
def MU (μ : MM) (f : Int) (V : FV) (U : Int → Int) : Prop := (∀ k, U k = 0 ∨ (U k = 1 ∧ isP V k)) ∧ (∀ k, 0 ≤ k → k < 396 → μ 82 (396 * f + k) = U k)
abbrev ndR (V : FV) (k j : Int) : Prop := j = nd V k 0 ∨ j = nd V k 1
section MP
variable {μ : MM} {f : Int} {V : FV} {U : Int → Int}
theorem MU.u (h : MU μ f V U) {k : Int} (h0 : 0 ≤ k) (h1 : k < 396) : μ 82 (396 * f + k) = U k := h.2 k h0 h1
theorem m_pieceOf {t l p : Int} (μ : MM) (ht : -100 ≤ t ∧ t ≤ 100) (hl : -100 ≤ l ∧ l ≤ 100) (hp : -100 ≤ p ∧ p ≤ 100) : EE 233 0 [(0, t), (0, l), (0, p)] [] μ = some (66 * t + 11 * l + p, μ) := by
  rw [q233_0]
  simp (disch := omega) only [w32_l]
theorem m_isPiece (hw : WF V) (h : MF μ f V) (k : Int) : EE 234 0 [(48, 71), (0, f), (0, k), (9, 0), (9, 0), (9, 0), (9, 0)] [] μ = some (b2i (isP V k), μ) := by
  have r := hw.r
  have := h.fr
  rw [q234_0, m_isIn, bnd_s]
  simp only [b2i_0, ite_not, m_isMissing h, bnd_s, q234_19, q234_50, q234_55, q234_95]
  by_cases e0 : 0 ≤ k ∧ k ≤ 395
  · rw [if_pos e0]
    simp (disch := omega) only [td66, tm66, td11, tm11, w32_l, h.c2, h.c4, h.L, h.B, nn74, nn76, jx74, jx76]
    have k0 : isP V k ↔ PI V (k / 66) (k % 66 / 11) (k % 11) := ⟨fun q => q.2.2, fun q => ⟨by omega, by omega, q⟩⟩
    rw [b2i_c k0]
    have h1 : 0 ≤ k % 66 / 11 ∧ k % 66 / 11 < 6 := by omega
    have h2 : 0 ≤ k % 11 ∧ k % 11 < 11 := by omega
    have h3 : 0 ≤ k / 66 ∧ k / 66 < 6 := by omega
    revert h1 h2 h3
    generalize k / 66 = t
    generalize k % 66 / 11 = l
    generalize k % 11 = p
    intro h1 h2 h3
    have r1 := hw.b p l
    have r2 := hw.t p l
    have r3 := hw.k p
    have r4 := hw.c p l
    by_cases hb : vB V = 0
    · rw [if_pos hb, b2i_f (by omega)]
    rw [if_neg hb]
    by_cases e1 : l < vL V
    · simp only [if_pos e1]
      by_cases e2 : vB V < p
      · simp only [if_pos e2]
        rw [b2i_f (by omega)]
        repeat' split
        all_goals rfl
      · simp only [if_neg e2]
        by_cases t0 : t = 0
        · rw [if_pos t0, if_neg (by decide), q234_97, if_pos t0, m_hasFoot hw h (by omega) (by omega), bnd_s, q234_147]
          simp only [b2i_0]
          unfold b2i
          repeat' split
          all_goals first | rfl | omega
        rw [if_neg t0]
        by_cases t4 : t = 4
        · rw [if_pos t4, if_neg (by decide), q234_97, if_neg t0, if_neg (by omega), if_neg (by omega), if_neg (by omega), if_pos t4, m_hasTie hw hb h h1.1 h1.2 h2.1 h2.2, bnd_s]
          rcases r2 with e | e
          · rw [show b2i (PI V t l p) = 0 from b2i_f (by omega), e, zo_0]
          · rw [show b2i (PI V t l p) = 1 from b2i_t (by omega), e.1, zo_1]
        rw [if_neg t4, if_pos trivial]
        by_cases e3 : p = vB V
        · rw [if_pos e3, b2i_f (by omega)]
        rw [if_neg e3, q234_97, if_neg t0]
        by_cases t1 : t = 1
        · rw [if_pos t1, m_isGate hw h, bnd_s, q234_168]
          simp only [b2i_0]
          unfold b2i
          repeat' split
          all_goals first | rfl | omega
        rw [if_neg t1]
        by_cases t2 : t = 2
        · rw [if_pos t2, m_hasBrace hw hb h h1.1 h1.2 h2.1 (by omega), bnd_s]
          rcases r1 with e | e
          · rw [show b2i (PI V t l p) = 0 from b2i_f (by omega), e, zo_0]
          · rw [show b2i (PI V t l p) = 1 from b2i_t (by omega), e.1, zo_1]
        rw [if_neg t2]
        by_cases t3 : t = 3
        · rw [if_pos t3, m_boardAt hb h h1.1 h1.2 h2.1 (by omega), bnd_s]
          unfold b2i
          repeat' split
          all_goals first | rfl | omega
        rw [if_neg t3, if_neg t4, m_isGate hw h, bnd_s, q234_231]
        simp only [b2i_0]
        unfold b2i
        repeat' split
        all_goals first | rfl | omega
    · simp only [if_neg e1]
      rw [b2i_f (by omega)]
      repeat' split
      all_goals rfl
  · rw [if_neg e0, b2i_f (fun q => by omega)]
theorem m_isUpNow (h : MF μ f V) (hu : MU μ f V U) {k : Int} (h0 : 0 ≤ k) (h1 : k < 396) : EE 238 0 [(48, 71), (0, f), (0, k)] [] μ = some (U k, μ) := by
  have := h.fr
  rw [q238_0, h.c11]
  simp (disch := omega) only [w32_l, nn82, jx82, hu.u]
  rcases hu.1 k with e | e
  · rw [e, zo_0]
  · rw [e.1, zo_1]
theorem m_upIn_l (h : MF μ f V) (hu : MU μ f V U) : ∀ i acc, 0 ≤ i → 0 ≤ acc → acc ≤ i → EE 182 4 [(48, 71), (0, f), (0, acc), (0, i)] [] μ = some (acc + SM U i 396, μ) := by
  have := h.fr
  refine up_ind 396 ?_ ?_
  · intro i hi acc _ _ _
    rw [q182_4, SM_e hi, Int.add_zero, if_neg (by omega)]
  · intro i hi ih acc _ _ _
    have u := hu.1 i
    rw [q182_4, SM_s hi, if_pos (by omega), h.c11]
    simp (disch := omega) only [w32_l, nn82, jx82, hu.u]
    split
    · rename_i e
      rw [ih _ (by omega) (by omega) (by omega), e, Int.add_zero, Int.zero_add]
    · rw [ih _ (by omega) (by omega) (by omega), show U i = 1 by omega, Int.add_assoc]
theorem m_upIn (h : MF μ f V) (hu : MU μ f V U) : EE 182 0 [(48, 71), (0, f), (9, 0), (9, 0)] [] μ = some (SM U 0 396, μ) := by
  rw [q182_0, m_upIn_l h hu _ _ (by omega) (by omega) (by omega), Int.zero_add]
theorem m_needs (hw : WF V) (h : MF μ f V) {k j : Int} (hk : isP V k) (hj : 0 ≤ j) : EE 235 0 [(48, 71), (0, f), (0, k), (0, j), (9, 0), (9, 0), (9, 0)] [] μ = some (b2i (ndR V k j), μ) := by
  obtain ⟨e0, e1, hp⟩ := hk
  rw [q235_0]
  unfold ndR nd
  simp (disch := omega) only [td66, tm66, td11, tm11, w32_l]
  have h1 : 0 ≤ k % 66 / 11 ∧ k % 66 / 11 < 6 := by omega
  have h2 : 0 ≤ k % 11 ∧ k % 11 < 11 := by omega
  have h3 : 0 ≤ k / 66 ∧ k / 66 < 6 := by omega
  revert h1 h2 h3 hp
  generalize k / 66 = t
  generalize k % 66 / 11 = l
  generalize k % 11 = p
  intro hp h1 h2 h3
  have r := hw.r
  have r3 := hw.k p
  simp (disch := omega) only [m_pieceOf, bnd_s]
  by_cases t0 : t = 0
  · simp only [if_pos t0]
    rw [q236_0]
    simp (disch := omega) only [m_hasFoot hw h, m_pieceOf, bnd_s, w32_l, b2i_0]
    unfold ndT
    by_cases e : fot V p
    · simp only [b2i_f (show ¬ ¬ fot V p from fun q => q e), if_pos e, if_neg (show ¬ ¬ fot V p from fun q => q e)]
      unfold b2i
      by_cases l0 : 0 < l
      · simp only [if_pos l0, if_true, show ((1 : Int) = 0) = False from eq_false (by decide), if_false]
        repeat' split
        all_goals first | rfl | omega
      · rw [if_neg l0, if_neg (by simp only [if_neg l0]; omega)]
    · simp only [b2i_t e, if_pos e, if_neg e]
      unfold b2i
      by_cases l0 : 0 < l
      · simp only [if_pos l0, if_true, show ((1 : Int) = 0) = False from eq_false (by decide), if_false]
        by_cases l1 : l = 1
        · simp only [if_pos l1, if_neg (show ¬ 1 < l by omega)]
          repeat' split
          all_goals first | rfl | omega
        · simp only [if_neg l1, if_pos (show 1 < l by omega)]
          repeat' split
          all_goals first | rfl | omega
      · omega
  simp only [if_neg t0]
  by_cases t1 : t = 1
  · simp only [if_pos t1]
    unfold b2i
    repeat' split
    all_goals first | rfl | omega
  simp only [if_neg t1]
  by_cases t2 : t = 2
  · simp only [if_pos t2, if_true, show ((1 : Int) = 0) = False from eq_false (by decide), if_false]
    unfold b2i
    repeat' split
    all_goals first | rfl | omega
  simp only [if_neg t2]
  by_cases t3 : t = 3
  · simp only [if_pos t3, if_true, show ((1 : Int) = 0) = False from eq_false (by decide), if_false]
    unfold b2i
    repeat' split
    all_goals first | rfl | omega
  simp only [if_neg t3]
  by_cases t4 : t = 4
  · simp only [if_pos t4, if_true, show ((1 : Int) = 0) = False from eq_false (by decide), if_false]
    unfold b2i
    repeat' split
    all_goals first | rfl | omega
  simp only [if_neg t4, if_true, show ((1 : Int) = 0) = False from eq_false (by decide), if_false]
  have l1 := LF_r hw h2.1
  have l2 := RF_r hw (s := p + 1) (by omega)
  have l3 : fot V p → LF V p = p := by
    intro q
    unfold LF
    rw [FD_s h2.1, if_pos q]
  have l4 : ¬ fot V p → LF V p = LF V (p - 1) := by
    intro q
    unfold LF
    rw [FD_s h2.1, if_neg q]
  have l5 : fot V (p + 1) → RF V (p + 1) = p + 1 := by
    intro q
    unfold RF
    rw [FU_s (by omega), if_pos q]
  have l6 : ¬ fot V (p + 1) → RF V (p + 1) = RF V (p + 2) ∧ p + 2 ≤ vB V := by
    intro q
    have : p + 1 ≠ vB V := fun e => q (by rw [e]; exact fotB hw)
    refine ⟨?_, by omega⟩
    unfold RF
    rw [FU_s (by omega), if_neg q, show p + 1 + 1 = p + 2 by omega]
  rw [q237_0]
  simp (disch := omega) only [w32_l, m_hasFoot hw h, bnd_s, b2i_0, q209_0, q210_0, m_leftFoot hw h]
  have l7 : ¬ fot V (p + 1) → EE 210 4 [(48, 71), (0, f), (0, p + 1), (0, p + 1 + 1)] [] μ = some (RF V (p + 1), μ) := by
    intro q
    rw [m_rightFoot hw h _ _ (by omega) (by have := (l6 q).2; omega), (l6 q).1, show p + 1 + 1 = p + 2 by omega]
  by_cases a1 : fot V p
  · rw [if_neg (show ¬ ¬ fot V p from fun q => q a1)]
    by_cases a2 : fot V (p + 1)
    · rw [if_neg (show ¬ ¬ fot V (p + 1) from fun q => q a2)]
      simp (disch := omega) only [m_pieceOf, bnd_s, l3 a1, l5 a2]
      rw [b2i_zo_if]
      unfold b2i
      repeat' split
      all_goals first | rfl | omega
    · rw [if_pos a2, l7 a2]
      simp (disch := omega) only [m_pieceOf, bnd_s, l3 a1]
      rw [b2i_zo_if]
      unfold b2i
      repeat' split
      all_goals first | rfl | omega
  · rw [if_pos a1, ← l4 a1]
    by_cases a2 : fot V (p + 1)
    · rw [if_neg (show ¬ ¬ fot V (p + 1) from fun q => q a2)]
      simp (disch := omega) only [m_pieceOf, bnd_s, l5 a2]
      rw [b2i_zo_if]
      unfold b2i
      repeat' split
      all_goals first | rfl | omega
    · rw [if_pos a2, l7 a2]
      simp (disch := omega) only [m_pieceOf, bnd_s]
      rw [b2i_zo_if]
      unfold b2i
      repeat' split
      all_goals first | rfl | omega
end MP
