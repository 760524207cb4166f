/-! frame: whether someone is on it -/
section FR9
variable {M μ μ' : MM}
abbrev onF (μ : MM) (f p : Int) : Prop := 0 ≤ μ 39 p ∧ μ 39 p / 10 = f
theorem c_someoneOn (h : Inv M μ) (f : Int) : ∀ p, 0 ≤ p → EE 153 2 [(47, 1), (0, f), (0, p)] [] μ = some (b2i (FU (onF μ f) (-1) p 10 ≠ -1), μ) := by
  have hs := h.s.1
  refine up_ind 10 (fun p hp p0 => ?_) (fun p hp ih p0 => ?_)
  · rw [q153_2, hs.2.2.2.2.2.2.2.2.2.1, nn39, cle39, if_neg (by omega), FU_e hp, b2i_f (fun q => q rfl)]
  · have hP := h.p p p0 hp
    rw [q153_2, hs.2.2.2.2.2.2.2.2.2.1, nn39, cle39, if_pos hp, nn39, jx39 _ p0 hp, w32_l (x := p + 1) (by omega) (by omega), ih (by omega), FU_s hp]
    by_cases e : μ 39 p < 0
    · rw [if_pos e, if_neg (show ¬ onF μ f p from fun q => by have := q.1; omega)]
    · rw [if_neg e, nn39, jx39 _ p0 hp, td10 (by omega), w32_l (by omega) (by omega)]
      by_cases q : μ 39 p / 10 = f
      · rw [if_pos q, if_pos (show onF μ f p from ⟨by omega, q⟩), b2i_t (by omega)]
      · rw [if_neg q, if_neg (show ¬ onF μ f p from fun w => q w.2)]
theorem m_anyoneOn (h : Inv M μ) (f : Int) : ∀ p is, 0 ≤ p → (is = 0 ∨ is = 1) → EE 183 4 [(48, 71), (0, f), (0, is), (0, p)] [] μ = some (if is = 1 then 1 else b2i (FU (onF μ f) (-1) p 10 ≠ -1), μ) := by
  refine up_ind 10 (fun p hp is p0 hi => ?_) (fun p hp ih is p0 hi => ?_)
  · rw [q183_4, if_neg (by omega), FU_e hp, b2i_f (fun q => q rfl)]
    rcases hi with q | q
    · rw [q, zo_0, if_neg (by omega)]
    · rw [q, zo_1, if_pos rfl]
  · have hP := h.p p p0 hp
    have hN : NON = -1000000005 := rfl
    have e1 := ih 1 (by omega) (Or.inr rfl)
    have e0 := ih 0 (by omega) (Or.inl rfl)
    rw [if_pos rfl] at e1
    rw [if_neg (by omega)] at e0
    rw [q183_4, if_pos hp, h.m.c13, nn84, jx84 _ p0 hp, nn84, jx84 _ p0 hp, w32_l (x := p + 1) (by omega) (by omega), e0, e1, FU_s hp]
    rcases hi with q | q
    · rw [q, if_pos rfl, if_neg (show ¬ (0 : Int) = 1 by omega)]
      by_cases z : μ 84 p = -1000000005
      · rw [if_pos z, if_neg (show ¬ onF μ f p from fun w => by have := w.1; omega)]
      · rw [if_neg z, td10 (by omega), w32_l (by omega) (by omega)]
        by_cases y : μ 84 p / 10 = f
        · rw [if_pos y, if_pos (show onF μ f p from ⟨by omega, by rw [show μ 39 p = μ 84 p by omega]; exact y⟩), b2i_t (by omega)]
        · rw [if_neg y, if_neg (show ¬ onF μ f p from fun w => y (by rw [← show μ 39 p = μ 84 p by omega]; exact w.2))]
    · rw [q, if_neg (by omega), if_pos rfl]
end FR9
