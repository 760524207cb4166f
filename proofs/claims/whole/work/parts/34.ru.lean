/-! over; rules that are broken -/
section TO
variable {M μ μ' : MM} {A f : Int} {V : FV}
theorem c_tiesLoop (hw : WF V) (hs : GS μ) (h : CF μ A V) : ∀ i acc, 0 ≤ i → 0 ≤ acc → acc ≤ i → EE 72 17 [(43, 8), (11, A), (30, 4), (0, acc), (0, i)] [] μ = some (acc + SM (fun j => b2i (vT V (j % 11) (j / 11) ≠ 0 ∧ μ 4 0 < μ 9 j)) i 66, μ) := by
  refine up_ind 66 ?_ ?_
  · intro i hi acc _ _ _
    rw [q72_17, hs.2.2.1.2.1, nn9, cle9, SM_e hi, Int.add_zero, if_neg (by omega)]
  · intro i hi ih acc _ _ _
    rw [q72_17, hs.2.2.1.2.1, nn9, cle9, SM_s hi, if_pos hi, nA0 h.fr, tm11 (by omega), td11 (by omega), w32_l (x := i / 11) (by omega) (by omega), c_hasTie hw h, bnd_s, hs.2.2.1.2.1, nn9, jx9 _ (by omega) (by omega), nn4, jx4 _ (by omega) (by omega), w32_l (x := i + 1) (by omega) (by omega), w32_l (x := acc + 1) (by omega) (by omega)]
    by_cases e : vT V (i % 11) (i / 11) = 0
    · rw [if_pos e, ih _ (by omega) (by omega) (by omega), b2i_f (fun q => q.1 e), Int.zero_add]
    · rw [if_neg e]
      by_cases e2 : μ 4 0 < μ 9 i
      · rw [if_pos e2, ih _ (by omega) (by omega) (by omega), b2i_t ⟨e, e2⟩, Int.add_assoc]
      · rw [if_neg e2, ih _ (by omega) (by omega) (by omega), b2i_f (fun q => e2 q.2), Int.zero_add]
def tov (V : FV) (b s l : Int) : Int := b2i (vT V s l ≠ 0 ∧ b < WT V (6 * s + l))
theorem tov_e (hw : WF V) (b : Int) : SM (fun j => b2i (vT V (j % 11) (j / 11) ≠ 0 ∧ b < WT V (6 * (j % 11) + j / 11))) 0 66 = SM (fun s => SM (tov V b s) 0 (vL V)) 0 (vB V + 1) := by
  have hr := hw.r
  have z : ∀ s l, vT V s l = 0 → tov V b s l = 0 := fun s l e => b2i_f (fun q => q.1 e)
  rw [SM_66]
  have h1 : SM (fun l => SM (fun p => b2i (vT V ((11 * l + p) % 11) ((11 * l + p) / 11) ≠ 0 ∧ b < WT V (6 * ((11 * l + p) % 11) + (11 * l + p) / 11))) 0 11) 0 6 = SM (fun l => SM (fun p => tov V b p l) 0 11) 0 6 := by
    refine SM_c _ (fun l l0 l1 => SM_c _ (fun p p0 p1 => b2i_c ?_))
    rw [show (11 * l + p) % 11 = p by omega, show (11 * l + p) / 11 = l by omega]
  rw [h1, show (6 : Int) = ((6 : Nat) : Int) from rfl, SM_swap 6, SM_sp (m := vB V + 1) (by omega) 0 (by omega), SM_0 (vB V + 1) (fun p p0 p1 => SM_0 0 (fun l l0 l1 => z p l (by have := hw.t p l; omega))), Int.add_zero]
  refine SM_c _ (fun p p0 p1 => ?_)
  rw [SM_sp (m := vL V) (by omega) 0 (by omega), SM_0 (vL V) (fun l l0 l1 => z p l (by have := hw.t p l; omega)), Int.add_zero]
theorem tov_r (hw : WF V) (b s : Int) : 0 ≤ SM (tov V b s) 0 (vL V) ∧ SM (tov V b s) 0 (vL V) ≤ 6 := by
  have hr := hw.r
  have := SM_b (f := tov V b s) (lo := 0) (hi := 1) (n := vL V) 0 (fun j _ _ => b2i_r) (by omega)
  omega
theorem m_tovI (hw : WF V) (hB : vB V ≠ 0) (h : MF μ f V) {s : Int} (s0 : 0 ≤ s) (s1 : s ≤ vB V) : ∀ l acc d, 0 ≤ l → 0 ≤ acc → acc ≤ 6 * s + l → EE 224 59 [(48, 71), (0, f), d, (0, acc), (0, s), (0, l)] [] μ = EE 224 45 [(48, 71), (0, f), (9, 0), (0, acc + SM (tov V (μ 73 0) s) l (vL V)), (0, s + 1), (9, 0)] [] μ := by
  have hr := hw.r
  have hf := h.fr
  refine up_ind (vL V) ?_ ?_
  · intro l hl acc d _ _ _
    rw [q224_59, h.c2, nn74, jx74 _ (by omega) (by omega), h.L, if_neg (by omega), SM_e hl, Int.add_zero, w32_l (by omega) (by omega), q224_45, q224_45]
  · intro l hl ih acc d _ _ _
    have ht := hw.t s l
    rw [q224_59, h.c2, nn74, jx74 _ (by omega) (by omega), h.L, if_pos hl, m_hasTie hw hB h (by omega) (by omega) (by omega) (by omega), bnd_s, SM_s hl, w32_l (x := 6 * s) (by omega) (by omega), w32_l (x := 6 * s + l) (by omega) (by omega), m_windTo hw hB h, bnd_s, h.m.c1, nn73, jx73 _ (by omega) (by omega), w32_l (x := l + 1) (by omega) (by omega), w32_l (x := acc + 1) (by omega) (by omega), Int.add_zero, w32_l (x := acc) (by omega) (by omega)]
    by_cases e : vT V s l = 0
    · have x : tov V (μ 73 0) s l = 0 := b2i_f (fun q => q.1 e)
      rw [if_pos e, ih _ _ (by omega) (by omega) (by omega), x, Int.zero_add]
    · rw [if_neg e]
      by_cases e2 : μ 73 0 < WT V (6 * s + l)
      · have x : tov V (μ 73 0) s l = 1 := b2i_t ⟨e, e2⟩
        rw [if_pos e2, ih _ _ (by omega) (by omega) (by omega), x, Int.add_assoc]
      · have x : tov V (μ 73 0) s l = 0 := b2i_f (fun q => e2 q.2)
        rw [if_neg e2, ih _ _ (by omega) (by omega) (by omega), x, Int.zero_add]
theorem m_tovO (hw : WF V) (hB : vB V ≠ 0) (h : MF μ f V) : ∀ s acc d2 d5, 0 ≤ s → 0 ≤ acc → acc ≤ 6 * s → EE 224 45 [(48, 71), (0, f), d2, (0, acc), (0, s), d5] [] μ = some (acc + SM (fun s => SM (tov V (μ 73 0) s) 0 (vL V)) s (vB V + 1), μ) := by
  have hr := hw.r
  have hf := h.fr
  refine up_ind (vB V + 1) ?_ ?_
  · intro s hs acc d2 d5 _ _ _
    rw [q224_45, h.c4, nn76, jx76 _ (by omega) (by omega), h.B, if_pos (by omega), SM_e hs, Int.add_zero]
  · intro s hs ih acc d2 d5 s0 _ _
    have := tov_r hw (μ 73 0) s
    rw [q224_45, h.c4, nn76, jx76 _ (by omega) (by omega), h.B, if_neg (by omega), m_tovI hw hB h s0 (by omega) _ _ _ (by omega) (by omega) (by omega), ih _ _ _ (by omega) (by omega) (by omega), SM_s hs, Int.add_assoc]
theorem st_over (h : Inv M μ) (f w : Int) : ST M (EE 125 0 [(47, 1), (0, f), (0, w), (9, 0)] [] μ) (fun m => EE 224 0 [(48, 71), (0, f), (0, w), (9, 0), (9, 0), (9, 0)] [] m) := by
  unfold ST
  rw [q125_0, c_frameAt h.s, bnd_s]
  by_cases hf : 0 ≤ f ∧ f ≤ 2
  · have hw := h.wf hf.1 (by omega)
    have hr := hw.r
    have hc := h.cf hf.1 (by omega)
    have hA : 41 + 10 * f ≠ 0 := by omega
    simp only [if_pos hf, if_neg hA, c_within, nn_ok _ hA, hc.c0, b2i_0, ite_not, ne_eq, Decidable.not_not, bnd_s]
    by_cases e1 : 0 ≤ w ∧ w ≤ 1
    · rw [if_pos e1]
      by_cases e2 : vB (VM μ f) = 0
      · rw [if_pos e2]
        refine ⟨_, _, _, rfl, ?_, h⟩
        simp only [q224_0, m_isFrame, m_isIn, b2i_0, ite_not, m_isMissing (h.mf hf.1 (show f < 3 by omega)), bnd_s, if_pos hf, if_pos e1, if_pos e2]
      · rw [if_neg e2]
        have hb4 : μ 4 0 = μ 73 0 := (h.z.2 0 (by omega) (by omega)).1
        by_cases e9 : w = 0
        · rw [if_pos e9, h.s.1.2.2.2.2.2.1, nn8, h.s.1.2.2.1]
          obtain ⟨m1, x1, x2⟩ := c_standardsOver hw e2 h.s hc (fun i i0 i1 => by have := h.z.2 i i0 i1; omega)
          have hI := Inv_sA (kA_sA x2) h
          have hv := VM_sA (kA_sA x2) hw
          have e6 : vB (VM m1 f) ≠ 0 := by rw [hv]; exact e2
          obtain ⟨m2, y1, y2⟩ := m_standardsOver (hI.wf hf.1 (show f < 3 by omega)) e6 (m1 73) (fun i i0 i1 => by have := hI.z.2 i i0 i1; omega) 0 m1 0 (by omega) (by omega) (hI.mf hf.1 (by omega)) rfl
          rw [x1, bnd_s]
          refine ⟨_, _, m2, rfl, ?_, Inv_sA (fA_sA y2) hI⟩
          have hr2 : ORF (ov (VM m1 f) (m1 73)) 0 (vB (VM m1 f) + 1) 0 = ORF (ov (VM μ f) (μ 4)) 0 (vB (VM μ f) + 1) 0 := by
            rw [hv]
            refine ORF_c _ _ (fun s s0 s1 => ?_)
            have hfr := frl_r hw s
            have e7 : m1 73 (frl (VM μ f) s) = μ 4 (frl (VM μ f) s) := by
              rw [x2 73 _ (by omega)]
              exact (h.z.2 _ (by omega) (by omega)).1.symm
            unfold ov
            rw [e7]
          simp only [q224_0, m_isFrame, m_isIn, b2i_0, ite_not, m_isMissing (hI.mf hf.1 (show f < 3 by omega)), bnd_s, if_pos hf, if_pos e1, if_neg e6, if_pos e9, q223_0]
          rw [y1, bnd_s, hr2]
        · rw [if_neg e9, h.s.1.2.2.2.2.2.1, nn8, h.s.1.2.2.1]
          obtain ⟨m1, x1, x2, x3⟩ := c_reckonWind h.s hw hc
          have hI := Inv_sA (wA_sA x2) h
          have hv := VM_sA (wA_sA x2) hw
          have e6 : vB (VM m1 f) ≠ 0 := by rw [hv]; exact e2
          rw [q72_0, nn4, cle4, if_neg (by omega), x1, bnd_s, c_tiesLoop hw (wA_GS x2 h.s) (wA_CF x2 hc) _ _ (by omega) (by omega) (by omega), bnd_s]
          refine ⟨_, _, m1, rfl, ?_, hI⟩
          simp only [q224_0, m_isFrame, m_isIn, b2i_0, ite_not, m_isMissing (hI.mf hf.1 (show f < 3 by omega)), bnd_s, if_pos hf, if_pos e1, if_neg e6, if_neg e9]
          rw [m_tovO (hI.wf hf.1 (by omega)) e6 (hI.mf hf.1 (by omega)) _ _ _ _ (by omega) (by omega) (by omega), hv, ← tov_e hw]
          rw [SM_c (f := fun j => b2i (vT (VM μ f) (j % 11) (j / 11) ≠ 0 ∧ m1 4 0 < m1 9 j)) (g := fun j => b2i (vT (VM μ f) (j % 11) (j / 11) ≠ 0 ∧ m1 73 0 < WT (VM μ f) (6 * (j % 11) + j / 11))) 0 (fun j j0 j1 => b2i_c ?_)]
          have h3 := x3 (6 * (j % 11) + j / 11) (Or.inr ⟨by omega, by omega⟩)
          unfold ws at h3
          rw [if_neg (by omega), cv_p (by omega), show 11 * ((6 * (j % 11) + j / 11) % 6) + (6 * (j % 11) + j / 11) / 6 = j by omega] at h3
          rw [h3, x2 4 0 (by omega), x2 73 0 (by omega), hb4]
    · rw [if_neg e1]
      refine ⟨_, _, _, rfl, ?_, h⟩
      simp only [q224_0, m_isFrame, m_isIn, b2i_0, ite_not, bnd_s, if_pos hf, if_neg e1]
  · simp only [if_neg hf, if_true]
    refine ⟨_, _, _, rfl, ?_, h⟩
    simp only [q224_0, m_isFrame, bnd_s, b2i_0, ite_not, if_neg hf]
end TO
