/-! undo: the reference -/
def SWP (m : MM) (k i : Int) : MM := fun c j => if c = 81 ∧ i ≤ j ∧ j < 579 then m 79 j else if c = 79 ∧ i ≤ j ∧ j < 579 then m 80 (579 * k + j) else m c j
def RST (m : MM) (i : Int) : MM := fun c j => if c = 79 ∧ i ≤ j ∧ j < 579 then m 81 j else m c j
/-- a piece that is up and would not be in the plan -/
abbrev bdP (V : FV) (U : Int → Int) (j : Int) : Prop := U j = 1 ∧ ¬ isP V j
section UN6
variable {M μ m : MM} {f : Int} {V : FV} {U : Int → Int}
theorem m_swap {k : Int} (k0 : 0 ≤ k) (k1 : k ≤ 4) : ∀ i (m : MM) d2 d3, 0 ≤ i → MRf m → m 71 10 = k + 1 → EE 197 12 [(48, 71), (0, i), d2, d3] [] m = EE 197 64 [(48, 71), (0, 1), (0, 0), (9, 0)] [] (SWP m k i) := by
  refine up_ind 579 (fun i hi m d2 d3 i0 hm hk => ?_) (fun i hi ih m d2 d3 i0 hm hk => ?_)
  · have e : SWP m k i = m := by
      funext c j
      unfold SWP
      rw [if_neg (by omega), if_neg (by omega)]
    rw [q197_12, if_neg (by omega), e]
  · have e : SWP (up (up m 81 i (m 79 i)) 79 i (m 80 (579 * k + i))) k (i + 1) = SWP m k i := by
      funext c j
      unfold SWP
      by_cases q1 : c = 81 ∧ j = i
      · rw [if_neg (by omega), if_neg (by omega), up_nc _ _ (by omega), q1.1, q1.2, up_s, if_pos (by omega)]
      by_cases q2 : c = 79 ∧ j = i
      · rw [if_neg (by omega), if_neg (by omega), q2.1, q2.2, up_s, if_neg (by omega), if_pos (by omega)]
      by_cases z1 : c = 81 ∧ i ≤ j ∧ j < 579
      · rw [if_pos z1, if_pos (by omega), up_ni _ _ (by omega), up_nc _ _ (by omega)]
      rw [if_neg z1, if_neg (by omega)]
      by_cases z2 : c = 79 ∧ i ≤ j ∧ j < 579
      · rw [if_pos z2, if_pos (by omega), up_nc _ _ (by omega), up_nc _ _ (by omega)]
      rw [if_neg z2, if_neg (by omega), up_n _ _ (by omega), up_n _ _ (by omega)]
    have b1 : ∀ x, up m 81 i (m 79 i) 71 x = m 71 x := fun x => up_nc _ _ (by omega)
    have b3 : ∀ x, up m 81 i (m 79 i) 80 x = m 80 x := fun x => up_nc _ _ (by omega)
    have b2 : ∀ x, up (up m 81 i (m 79 i)) 79 i (m 80 (579 * k + i)) 71 x = m 71 x := fun x => by rw [up_nc _ _ (by omega), b1]
    have x1 : w32 (k + 1 - 1) = k := by
      rw [w32_l (by omega) (by omega)]
      omega
    rw [q197_12, if_pos hi, hm.c7, nn79, jx79 _ i0 hi, hm.c9, nn81, jx81 _ i0 hi, b1, b1, b1, hm.c8, hm.c7, hk, x1, w32_l (x := 579 * k) (by omega) (by omega), w32_l (x := 579 * k + i) (by omega) (by omega), nn80, jx80 _ (by omega) (by omega), nn79, jx79 _ i0 hi, b3, w32_l (by omega) (by omega), ih _ _ _ (by omega) (MRf_ag (fun x _ => b2 x) hm) (by rw [b2, hk]), e]
theorem m_rst : ∀ i (m : MM) d1 d3, 0 ≤ i → MRf m → EE 197 130 [(48, 71), d1, (0, i), d3] [] m = some (-1000000002, RST m i) := by
  refine up_ind 579 (fun i hi m d1 d3 i0 hm => ?_) (fun i hi ih m d1 d3 i0 hm => ?_)
  · have e : RST m i = m := by
      funext c j
      unfold RST
      rw [if_neg (by omega)]
    rw [q197_130, if_neg (by omega), e]
  · have e : RST (up m 79 i (m 81 i)) (i + 1) = RST m i := by
      funext c j
      unfold RST
      by_cases q2 : c = 79 ∧ j = i
      · rw [if_neg (by omega), q2.1, q2.2, up_s, if_pos (by omega)]
      by_cases z2 : c = 79 ∧ i ≤ j ∧ j < 579
      · rw [if_pos z2, if_pos (by omega), up_nc _ _ (by omega)]
      rw [if_neg z2, if_neg (by omega), up_n _ _ (by omega)]
    rw [q197_130, if_pos hi, hm.c9, nn81, jx81 _ i0 hi, hm.c7, nn79, jx79 _ i0 hi, w32_l (by omega) (by omega), ih _ _ _ (by omega) (MRf_ag (fun x _ => up_nc _ _ (by omega)) hm), e]
theorem m_undI (hw : WF V) (h : MF m f V) (hU : ∀ k, 0 ≤ k → k < 396 → m 82 (396 * f + k) = U k ∧ (U k = 0 ∨ U k = 1)) : ∀ k g, 0 ≤ k → k ≤ 396 → (g = 0 ∨ g = 1) → EE 197 71 [(48, 71), (0, g), (0, f), (0, k)] [] m = EE 197 64 [(48, 71), (0, b2i (g = 1 ∧ FU (bdP V U) (-1) k 396 = -1)), (0, f + 1), (0, 396)] [] m := by
  have hf := h.fr
  refine up_ind 396 (fun k hk g k0 k1 hg => ?_) (fun k hk ih g k0 k1 hg => ?_)
  · rw [q197_71, if_neg (by omega), FU_e hk, w32_l (by omega) (by omega), show k = 396 by omega]
    rcases hg with q | q
    · rw [q, b2i_f (by omega)]
    · rw [q, b2i_t (by omega)]
  · have e0 := ih 0 (by omega) (by omega) (Or.inl rfl)
    have e1 := ih 1 (by omega) (by omega) (Or.inr rfl)
    rw [b2i_f (by omega)] at e0
    obtain ⟨u1, u2⟩ := hU k k0 hk
    rw [q197_71, if_pos hk, w32_l (x := k + 1) (by omega) (by omega), e0, h.c11, nn82, w32_l (x := 396 * f) (by omega) (by omega), w32_l (x := 396 * f + k) (by omega) (by omega), jx82 _ (by omega) (by omega), u1, FU_s hk]
    rcases hg with q | q
    · rw [q, if_pos rfl, b2i_f (by omega)]
    · rw [q, if_neg (by omega), e1]
      by_cases z : U k = 0
      · rw [if_pos z, if_neg (fun y => by have := y.1; omega)]
      · rw [if_neg z, m_isPiece hw h, bnd_s]
        by_cases y : isP V k
        · rw [b2i_t y, if_neg (by omega), if_neg (fun t => t.2 y), e1]
        · rw [b2i_f y, if_pos rfl, if_pos (show bdP V U k from ⟨by omega, y⟩), b2i_f (by omega), e0]
theorem m_undo (hm : MRf m) {k : Int} (k0 : 0 ≤ k) (k1 : k ≤ 4) (hk : m 71 10 = k + 1) (W : Int → FV) (hw : ∀ g, 0 ≤ g → g < 3 → WF (W g) ∧ MF (SWP m k 0) g (W g)) (UU : Int → Int → Int) (hU : ∀ g, 0 ≤ g → g < 3 → ∀ k, 0 ≤ k → k < 396 → m 82 (396 * g + k) = UU g k ∧ (UU g k = 0 ∨ UU g k = 1)) : ((∀ g, 0 ≤ g → g < 3 → FU (bdP (W g) (UU g)) (-1) 0 396 = -1) → EE 197 0 [(48, 71), (9, 0), (9, 0), (9, 0)] [] m = some (k, up (SWP m k 0) 71 10 k)) ∧ (¬ (∀ g, 0 ≤ g → g < 3 → FU (bdP (W g) (UU g)) (-1) 0 396 = -1) → EE 197 0 [(48, 71), (9, 0), (9, 0), (9, 0)] [] m = some (-1000000002, RST (SWP m k 0) 0)) := by
  have sw : ∀ c i, c ≠ 79 → c ≠ 81 → SWP m k 0 c i = m c i := fun c i p q => by
    unfold SWP
    rw [if_neg (by omega), if_neg (by omega)]
  have hms : MRf (SWP m k 0) := MRf_ag (fun x _ => sw _ _ (by omega) (by omega)) hm
  have hU2 : ∀ g, 0 ≤ g → g < 3 → ∀ j, 0 ≤ j → j < 396 → SWP m k 0 82 (396 * g + j) = UU g j ∧ (UU g j = 0 ∨ UU g j = 1) := fun g a b j c d => by
    rw [sw _ _ (by omega) (by omega)]
    exact hU g a b j c d
  have st : ∀ g x d, 0 ≤ g → g < 3 → (x = 0 ∨ x = 1) → EE 197 64 [(48, 71), (0, x), (0, g), d] [] (SWP m k 0) = EE 197 64 [(48, 71), (0, b2i (x = 1 ∧ FU (bdP (W g) (UU g)) (-1) 0 396 = -1)), (0, g + 1), (0, 396)] [] (SWP m k 0) := fun g x d a b c => by
    rw [q197_64, if_pos b, m_undI (hw g a b).1 (hw g a b).2 (hU2 g a b) _ _ (by omega) (by omega) c]
  have bb : ∀ (p : Prop) [Decidable p], b2i p = 0 ∨ b2i p = 1 := fun p _ => by
    have := b2i_r (p := p)
    omega
  rw [q197_0, hk, if_neg (by omega), m_swap k0 k1 _ _ _ _ (by omega) hm hk, st 0 1 _ (by omega) (by omega) (Or.inr rfl), st (0 + 1) _ _ (by omega) (by omega) (bb _), st (0 + 1 + 1) _ _ (by omega) (by omega) (bb _), q197_64, if_neg (by omega)]
  refine ⟨fun g => ?_, fun g => ?_⟩
  · have g0 := g 0 (by omega) (by omega)
    have g1 := g (0 + 1) (by omega) (by omega)
    have g2 := g (0 + 1 + 1) (by omega) (by omega)
    have x1 : w32 (k + 1 - 1) = k := by
      rw [w32_l (by omega) (by omega)]
      omega
    rw [b2i_t (p := (1 : Int) = 1 ∧ FU (bdP (W 0) (UU 0)) (-1) 0 396 = -1) ⟨rfl, g0⟩, b2i_t (p := (1 : Int) = 1 ∧ FU (bdP (W (0 + 1)) (UU (0 + 1))) (-1) 0 396 = -1) ⟨rfl, g1⟩, b2i_t (p := (1 : Int) = 1 ∧ FU (bdP (W (0 + 1 + 1)) (UU (0 + 1 + 1))) (-1) 0 396 = -1) ⟨rfl, g2⟩, if_neg (by omega), up_s, sw _ _ (by omega) (by omega), hk, x1]
  · rw [if_pos, m_rst _ _ _ _ (by omega) hms]
    apply b2i_f
    intro q
    apply g
    intro x a b
    have q2 := q.2
    have q1 := b2i_1.1 q.1
    have q3 := b2i_1.1 q1.1
    by_cases x0 : x = 0
    · rw [x0]
      exact q3.2
    · by_cases x1 : x = 0 + 1
      · rw [x1]
        exact q1.2
      · rw [show x = 0 + 1 + 1 by omega]
        exact q2
end UN6
