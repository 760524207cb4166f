/-! frame, bay, drop: the reference's pieces -/
def EBs (m : MM) (f x : Int) : MM := fun c j => if c = 79 ∧ 193 * f + 6 ≤ j ∧ j < 193 * f + 66 ∧ x ≤ (j - (193 * f + 6)) % 10 then -1 else if c = 79 ∧ 193 * f + 66 ≤ j ∧ j < 193 * f + 126 ∧ x ≤ (j - (193 * f + 66)) % 10 then 0 else m c j
section NM6
variable {M μ μ' : MM} {f : Int} {V : FV}
theorem EBy_m {m : MM} {b l : Int} (hm : MRf m) : MRf (EBy m f b l) := by
  refine MRf_ag (fun i _ => ?_) hm
  unfold EBy
  rw [if_neg (by omega), if_neg (by omega)]
theorem m_emptyBay (f0 : 0 ≤ f ∧ f < 3) {b : Int} (b0 : 0 ≤ b ∧ b < 10) : ∀ l (m : MM), 0 ≤ l → MRf m → EE 184 2 [(48, 71), (0, f), (0, b), (0, l)] [] m = some (0, EBy m f b l) := by
  refine up_ind 6 (fun l hl m l0 hm => ?_) (fun l hl ih m l0 hm => ?_)
  · have e : EBy m f b l = m := by
      funext c j
      unfold EBy
      rw [if_neg (by omega), if_neg (by omega)]
    rw [q184_2, if_neg (by omega), e]
  · have e : EBy (up (up m 79 (193 * f + 6 + 10 * l + b) (-1)) 79 (193 * f + 66 + 10 * l + b) 0) f b (l + 1) = EBy m f b l := by
      funext c j
      unfold EBy
      by_cases q1 : c = 79 ∧ j = 193 * f + 6 + 10 * l + b
      · rw [if_neg (by omega), if_neg (by omega), up_n _ _ (by omega), q1.1, q1.2, up_s, if_pos (by omega)]
      by_cases q2 : c = 79 ∧ j = 193 * f + 66 + 10 * l + b
      · rw [if_neg (by omega), if_neg (by omega), q2.1, q2.2, up_s, if_neg (by omega), if_pos (by omega)]
      rw [up_n _ _ (by omega), up_n _ _ (by omega)]
      by_cases z1 : c = 79 ∧ 193 * f + 6 + 10 * l ≤ j ∧ j < 193 * f + 66 ∧ (j - (193 * f + 6)) % 10 = b
      · rw [if_pos z1, if_pos (by omega)]
      rw [if_neg z1, if_neg (by omega)]
      by_cases z2 : c = 79 ∧ 193 * f + 66 + 10 * l ≤ j ∧ j < 193 * f + 126 ∧ (j - (193 * f + 66)) % 10 = b
      · rw [if_pos z2, if_pos (by omega)]
      rw [if_neg z2, if_neg (by omega)]
    have hm2 : MRf (up (up m 79 (193 * f + 6 + 10 * l + b) (-1)) 79 (193 * f + 66 + 10 * l + b) 0) := MRf_ag (fun j _ => by rw [up_nc _ _ (by omega), up_nc _ _ (by omega)]) hm
    rw [q184_2, if_pos hl, hm.c7, nn79, w32_l (x := 193 * f) (by omega) (by omega), w32_l (x := 193 * f + 6) (by omega) (by omega), w32_l (x := 10 * l) (by omega) (by omega), w32_l (x := 193 * f + 6 + 10 * l) (by omega) (by omega), w32_l (x := 193 * f + 6 + 10 * l + b) (by omega) (by omega), jx79 _ (by omega) (by omega), up_nc _ _ (show (71 : Int) ≠ 79 by omega), hm.c7, nn79, w32_l (x := 193 * f + 66) (by omega) (by omega), w32_l (x := 193 * f + 66 + 10 * l) (by omega) (by omega), w32_l (x := 193 * f + 66 + 10 * l + b) (by omega) (by omega), jx79 _ (by omega) (by omega), w32_l (by omega) (by omega), ih _ (by omega) hm2, e]
theorem m_fr_e (f0 : 0 ≤ f ∧ f < 3) : ∀ x (m : MM) d2 d3 d4, 0 ≤ x → MRf m → EE 187 136 [(48, 71), (0, f), d2, d3, d4, (0, x)] [] m = EE 187 159 [(48, 71), (0, f), (9, 0), (9, 0), (9, 0), (0, 0)] [] (EBs m f x) := by
  refine up_ind 10 (fun x hx m d2 d3 d4 x0 hm => ?_) (fun x hx ih m d2 d3 d4 x0 hm => ?_)
  · have e : EBs m f x = m := by
      funext c j
      unfold EBs
      rw [if_neg (by omega), if_neg (by omega)]
    rw [q187_136, if_neg (by omega), e]
  · have e : EBs (EBy m f x 0) f (x + 1) = EBs m f x := by
      funext c j
      unfold EBs EBy
      by_cases z1 : c = 79 ∧ 193 * f + 6 ≤ j ∧ j < 193 * f + 66 ∧ x ≤ (j - (193 * f + 6)) % 10
      · rw [if_pos z1]
        by_cases z3 : x + 1 ≤ (j - (193 * f + 6)) % 10
        · rw [if_pos (by omega)]
        · rw [if_neg (by omega), if_neg (by omega), if_pos (by omega)]
      rw [if_neg z1, if_neg (by omega)]
      by_cases z2 : c = 79 ∧ 193 * f + 66 ≤ j ∧ j < 193 * f + 126 ∧ x ≤ (j - (193 * f + 66)) % 10
      · rw [if_pos z2]
        by_cases z3 : x + 1 ≤ (j - (193 * f + 66)) % 10
        · rw [if_pos (by omega)]
        · rw [if_neg (by omega), if_neg (by omega), if_pos (by omega)]
      rw [if_neg z2, if_neg (by omega), if_neg (by omega), if_neg (by omega)]
    rw [q187_136, if_pos hx, q184_0, m_emptyBay f0 ⟨x0, hx⟩ _ _ (by omega) hm, bnd_s, w32_l (by omega) (by omega), ih _ _ _ _ (by omega) (EBy_m hm), e]
theorem m_fr_z (f0 : 0 ≤ f ∧ f < 3) : ∀ x (m : MM) d2 d3 d4, 0 ≤ x → MRf m → EE 187 105 [(48, 71), (0, f), d2, d3, d4, (0, x)] [] m = EE 187 136 [(48, 71), (0, f), (9, 0), (9, 0), (9, 0), (0, 0)] [] (FLL m 79 (193 * f + x) (193 * f + 193) 0) := by
  refine up_ind 193 (fun x hx m d2 d3 d4 x0 hm => ?_) (fun x hx ih m d2 d3 d4 x0 hm => ?_)
  · rw [q187_105, if_neg (by omega), FLL_e _ _ (by omega)]
  · rw [q187_105, if_pos hx, hm.c7, nn79, w32_l (x := 193 * f) (by omega) (by omega), w32_l (x := 193 * f + x) (by omega) (by omega), jx79 _ (by omega) (by omega), q187_127, w32_l (by omega) (by omega), ih _ _ _ _ (by omega) (MRf_ag (fun j _ => up_nc _ _ (by omega)) hm), show 193 * f + (x + 1) = 193 * f + x + 1 by omega, FLL_s _ _ (by omega)]
theorem m_fr_t (f0 : 0 ≤ f ∧ f < 3) : ∀ x (m : MM) d2 d3 d4, 0 ≤ x → MRf m → EE 187 159 [(48, 71), (0, f), d2, d3, d4, (0, x)] [] m = some (0, up (FLL m 83 (6 * f + x) (6 * f + 6) NON) 71 10 0) := by
  refine up_ind 6 (fun x hx m d2 d3 d4 x0 hm => ?_) (fun x hx ih m d2 d3 d4 x0 hm => ?_)
  · rw [q187_159, if_neg (by omega), q187_191, FLL_e _ _ (by omega)]
  · rw [q187_159, if_pos hx, hm.c12, nn83, w32_l (x := 6 * f) (by omega) (by omega), w32_l (x := 6 * f + x) (by omega) (by omega), jx83 _ (by omega) (by omega), q187_180, w32_l (by omega) (by omega), ih _ _ _ _ (by omega) (MRf_ag (fun j _ => up_nc _ _ (by omega)) hm), show 6 * f + (x + 1) = 6 * f + x + 1 by omega, FLL_s _ _ (by omega)]
theorem m_frame {m : MM} (hm : MRf m) (f0 : 0 ≤ f ∧ f < 3) (L H W : Int) (d2 d5 : VV) : ∃ m2, EE 187 67 [(48, 71), (0, f), d2, (0, H), (0, W), d5] [] (up m 74 f L) = some (0, m2) ∧ (∀ c i, ¬ (74 ≤ c ∧ c ≤ 76 ∧ i = f) → ¬ (77 ≤ c ∧ c ≤ 78 ∧ i = 10 * f) → ¬ (c = 79 ∧ 193 * f ≤ i ∧ i < 193 * f + 193) → ¬ (c = 83 ∧ 6 * f ≤ i ∧ i < 6 * f + 6) → ¬ (c = 71 ∧ i = 10) → m2 c i = m c i) ∧ m2 74 f = L ∧ m2 75 f = H ∧ m2 76 f = 1 ∧ m2 77 (10 * f) = 0 ∧ m2 78 (10 * f) = W ∧ m2 71 10 = 0 ∧ (∀ i, 6 * f ≤ i → i < 6 * f + 6 → m2 83 i = NON) ∧ (∀ i, 193 * f + 6 ≤ i → i < 193 * f + 66 → m2 79 i = -1) ∧ (∀ i, 193 * f ≤ i → i < 193 * f + 193 → ¬ (193 * f + 6 ≤ i ∧ i < 193 * f + 66) → m2 79 i = 0) := by
  have x10 : w32 (10 * f) = 10 * f := w32_l (by omega) (by omega)
  have b0 : ∀ i, up m 74 f L 71 i = m 71 i := fun i => up_nc _ _ (by omega)
  have b1 : ∀ i, up (up m 74 f L) 75 f H 71 i = m 71 i := fun i => by rw [up_nc _ _ (by omega), b0]
  have b2 : ∀ i, up (up (up m 74 f L) 75 f H) 76 f 1 71 i = m 71 i := fun i => by rw [up_nc _ _ (by omega), b1]
  have b3 : ∀ i, up (up (up (up m 74 f L) 75 f H) 76 f 1) 77 (10 * f) 0 71 i = m 71 i := fun i => by rw [up_nc _ _ (by omega), b2]
  have b4 : ∀ i, up (up (up (up (up m 74 f L) 75 f H) 76 f 1) 77 (10 * f) 0) 78 (10 * f) W 71 i = m 71 i := fun i => by rw [up_nc _ _ (by omega), b3]
  rw [q187_67, b0, hm.c3, nn75, jx75 _ f0.1 f0.2, q187_74, b1, hm.c4, nn76, jx76 _ f0.1 f0.2, q187_81, b2, hm.c5, nn77, x10, jx77 _ (by omega) (by omega), q187_91, b3, hm.c6, nn78, x10, jx78 _ (by omega) (by omega), q187_102]
  generalize hm0 : up (up (up (up (up m 74 f L) 75 f H) 76 f 1) 77 (10 * f) 0) 78 (10 * f) W = m0
  have hq0 : MRf m0 := MRf_ag (fun i _ => by rw [← hm0, b4]) hm
  have a0 : ∀ c i, ¬ (74 ≤ c ∧ c ≤ 76 ∧ i = f) → ¬ (77 ≤ c ∧ c ≤ 78 ∧ i = 10 * f) → m0 c i = m c i := fun c i p q => by rw [← hm0, up_n _ _ (by omega), up_n _ _ (by omega), up_n _ _ (by omega), up_n _ _ (by omega), up_n _ _ (by omega)]
  have w4 : m0 74 f = L := by rw [← hm0, up_nc _ _ (by omega), up_nc _ _ (by omega), up_nc _ _ (by omega), up_nc _ _ (by omega), up_s]
  have w5 : m0 75 f = H := by rw [← hm0, up_nc _ _ (by omega), up_nc _ _ (by omega), up_nc _ _ (by omega), up_s]
  have w6 : m0 76 f = 1 := by rw [← hm0, up_nc _ _ (by omega), up_nc _ _ (by omega), up_s]
  have w7 : m0 77 (10 * f) = 0 := by rw [← hm0, up_nc _ _ (by omega), up_s]
  have w8 : m0 78 (10 * f) = W := by rw [← hm0, up_s]
  rw [m_fr_z f0 _ _ _ _ _ (by omega) hq0, Int.add_zero]
  generalize hm1 : FLL m0 79 (193 * f) (193 * f + 193) 0 = m1
  have a1 : ∀ c i, ¬ (c = 79 ∧ 193 * f ≤ i ∧ i < 193 * f + 193) → m1 c i = m0 c i := fun c i q => by rw [← hm1]; exact FLL_n _ q
  have z1 : ∀ i, 193 * f ≤ i → i < 193 * f + 193 → m1 79 i = 0 := fun i p q => by rw [← hm1]; exact FLL_i _ ⟨p, q⟩
  have hq1 : MRf m1 := MRf_ag (fun i _ => a1 71 i (by omega)) hq0
  rw [m_fr_e f0 _ _ _ _ _ (by omega) hq1]
  generalize hm2 : EBs m1 f 0 = m2
  have a2 : ∀ c i, ¬ (c = 79 ∧ 193 * f + 6 ≤ i ∧ i < 193 * f + 126) → m2 c i = m1 c i := fun c i q => by
    rw [← hm2]
    unfold EBs
    rw [if_neg (by omega), if_neg (by omega)]
  have z2 : ∀ i, 193 * f + 6 ≤ i → i < 193 * f + 66 → m2 79 i = -1 := fun i p q => by
    rw [← hm2]
    unfold EBs
    rw [if_pos (by omega)]
  have z3 : ∀ i, 193 * f + 66 ≤ i → i < 193 * f + 126 → m2 79 i = 0 := fun i p q => by
    rw [← hm2]
    unfold EBs
    rw [if_neg (by omega), if_pos (by omega)]
  have hq2 : MRf m2 := MRf_ag (fun i _ => a2 71 i (by omega)) hq1
  rw [m_fr_t f0 _ _ _ _ _ (by omega) hq2, Int.add_zero]
  have a3 : ∀ c i, ¬ (c = 71 ∧ i = 10) → ¬ (c = 83 ∧ 6 * f ≤ i ∧ i < 6 * f + 6) → up (FLL m2 83 (6 * f) (6 * f + 6) NON) 71 10 0 c i = m2 c i := fun c i p q => by rw [up_n _ _ (by omega), FLL_n _ q]
  refine ⟨_, rfl, fun c i p q r s t => ?_, ?_, ?_, ?_, ?_, ?_, up_s _ _ _ _, fun i p q => ?_, fun i p q => ?_, fun i p q r => ?_⟩
  · rw [a3 c i t s, a2 c i (by omega), a1 c i r, a0 c i p q]
  · rw [a3 _ _ (by omega) (by omega), a2 _ _ (by omega), a1 _ _ (by omega), w4]
  · rw [a3 _ _ (by omega) (by omega), a2 _ _ (by omega), a1 _ _ (by omega), w5]
  · rw [a3 _ _ (by omega) (by omega), a2 _ _ (by omega), a1 _ _ (by omega), w6]
  · rw [a3 _ _ (by omega) (by omega), a2 _ _ (by omega), a1 _ _ (by omega), w7]
  · rw [a3 _ _ (by omega) (by omega), a2 _ _ (by omega), a1 _ _ (by omega), w8]
  · rw [up_nc _ _ (by omega), FLL_i _ ⟨p, q⟩]
  · rw [a3 _ _ (by omega) (by omega), z2 i p q]
  · rw [a3 _ _ (by omega) (by omega)]
    by_cases e : 193 * f + 66 ≤ i ∧ i < 193 * f + 126
    · exact z3 i e.1 e.2
    · rw [a2 _ _ (by omega), z1 i p q]
theorem m_anyoneP {m : MM} (hp : GP m) (hm : MRf m) (f : Int) : ∀ p is, 0 ≤ p → (is = 0 ∨ is = 1) → EE 183 4 [(48, 71), (0, f), (0, is), (0, p)] [] m = some (if is = 1 then 1 else b2i (FU (onF m f) (-1) p 10 ≠ -1), m) := by
  refine up_ind 10 (fun p hp is p0 hi => ?_) (fun p hq ih is p0 hi => ?_)
  · rw [q183_4, if_neg (by omega), FU_e hp, b2i_f (fun q => q rfl)]
    rcases hi with q | q
    · rw [q, zo_0, if_neg (by omega)]
    · rw [q, zo_1, if_pos rfl]
  · have hP := hp p p0 hq
    have hN : NON = -1000000005 := rfl
    have e1 := ih 1 (by omega) (Or.inr rfl)
    have e0 := ih 0 (by omega) (Or.inl rfl)
    rw [if_pos rfl] at e1
    rw [if_neg (by omega)] at e0
    rw [q183_4, if_pos hq, hm.c13, nn84, jx84 _ p0 hq, nn84, jx84 _ p0 hq, w32_l (x := p + 1) (by omega) (by omega), e0, e1, FU_s hq]
    rcases hi with q | q
    · rw [q, if_pos rfl, if_neg (show ¬ (0 : Int) = 1 by omega)]
      by_cases z : m 84 p = -1000000005
      · rw [if_pos z, if_neg (show ¬ onF m f p from fun w => by have := w.1; omega)]
      · rw [if_neg z, td10 (by omega), w32_l (by omega) (by omega)]
        by_cases y : m 84 p / 10 = f
        · rw [if_pos y, if_pos (show onF m f p from ⟨by omega, by rw [show m 39 p = m 84 p by omega]; exact y⟩), b2i_t (by omega)]
        · rw [if_neg y, if_neg (show ¬ onF m f p from fun w => y (by rw [← show m 39 p = m 84 p by omega]; exact w.2))]
    · rw [q, if_neg (by omega), if_pos rfl]
end NM6
