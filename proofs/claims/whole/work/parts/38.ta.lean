/-! tag -/
section TA
variable {M μ μ' : MM}
theorem m_tag (h : RJ μ) {f l n : Int} (hf : 0 ≤ f ∧ f ≤ 2) (hn : 1 ≤ n ∧ n ≤ 30) (hu : MU μ f (VM μ f) (UM μ f)) (hB : vB (VM μ f) ≠ 0) (hl : inL (VM μ f) l) (hd : 0 ≤ μ 71 14 ∧ μ 71 14 ≤ 1000000) : ∃ μ', yA μ μ' ∧ EE 257 0 [(48, 71), (0, f), (0, l), (0, n), (9, 0)] [] μ = if mayP (VM μ f) (UM μ f) l 0 ∧ ¬ lowB (blO μ f) l ∧ ovO μ f = 0 then some (μ 71 14 + n - 1, up μ' 83 (6 * f + l) (μ 71 14 + n - 1)) else some (-1000000002, μ') := by
  have hw := h.1.2 f hf.1 (show f < 3 by omega)
  have hr := hw.r
  have bn := BL_n (c := μ 71 17) hw hB h.2.1.1 h.2.2.1.1
  obtain ⟨m1, x1, x2⟩ := m_mayTag h hf.1 (by omega) hu hB (Int.le_trans bn.2.2 (by omega)) l 0 (9, 0) (by omega)
  refine ⟨m1, x2, ?_⟩
  have hm : MRf m1 := MRf_ag (fun i q => x2 71 i (by omega)) h.1.1
  simp only [q257_0, m_isFrame, m_isIn, bnd_s, b2i_0, ite_not, if_pos hf, if_pos hn, r_askedL h.1, if_neg hB, if_pos hl, if_true]
  rw [q256_0, x1, bnd_s]
  simp only [b2i_0, ite_not]
  by_cases e : mayP (VM μ f) (UM μ f) l 0 ∧ ¬ lowB (blO μ f) l ∧ ovO μ f = 0
  · rw [if_pos e, if_pos e, hm.c12, nn83, up_nc _ _ (by omega), x2 71 14 (by omega), w32_l (x := 6 * f) (by omega) (by omega), w32_l (x := 6 * f + l) (by omega) (by omega), jx83 _ (by omega) (by omega), w32_l (x := μ 71 14 + n) (by omega) (by omega), w32_l (x := μ 71 14 + n - 1) (by omega) (by omega)]
  · rw [if_neg e, if_neg e]
theorem st_tag (h : Inv M μ) (f l n : Int) : ST M (EE 136 0 [(47, 1), (0, f), (0, l), (0, n), (9, 0), (9, 0)] [] μ) (fun m => EE 257 0 [(48, 71), (0, f), (0, l), (0, n), (9, 0)] [] m) := by
  unfold ST
  have gr := h.r
  unfold GR at gr
  have gd := h.d
  unfold GD at gd
  rw [q136_0, c_frameAt h.s, bnd_s]
  by_cases hf : 0 ≤ f ∧ f ≤ 2
  · have hw := h.wf hf.1 (by omega)
    have hc := h.cf hf.1 (by omega)
    have hA : 41 + 10 * f ≠ 0 := by omega
    have hr := hw.r
    have hcu := h.cu hf.1 (by omega)
    have hmu := h.mu hf.1 (show f < 3 by omega)
    simp only [if_pos hf, if_neg hA, nn_ok _ hA, hc.c0, b2i_0, ite_not, ne_eq, Decidable.not_not, c_within, bnd_s, c_hasLift hc]
    by_cases e1 : 1 ≤ n ∧ n ≤ 30
    · rw [if_pos e1]
      by_cases e2 : vB (VM μ f) = 0
      · rw [if_pos e2]
        refine ⟨_, _, _, rfl, ?_, h⟩
        simp only [q257_0, m_isFrame, m_isIn, r_askedL h.ri, bnd_s, b2i_0, ite_not, if_pos hf, if_pos e1, if_pos e2]
        rfl
      · rw [if_neg e2]
        by_cases e3 : inL (VM μ f) l
        · rw [if_pos e3, q54_0, c_standsUpTo hw hc hcu _ _ (by omega), bnd_s]
          simp only [b2i_0, ite_not]
          by_cases p1 : FU (fun k => k % 66 / 11 ≤ l ∧ isP (VM μ f) k ∧ UM μ f k = 0) (-1) 0 396 = -1
          · rw [if_pos p1, h.s.1.2.2.2.2.2.2.1, nn11]
            obtain ⟨m1, x1, x2, x3, x4⟩ := c_reckon hw e2 h.s hc h.r
            have sa : sA μ m1 := nA_sA x2
            have hI := Inv_sA sa h
            have hs1 := hI.s
            have bn := BL_n (c := μ 71 17) hw e2 (show 0 ≤ μ 71 15 by omega) (show 1 ≤ μ 71 16 by omega)
            have br := BL_r (c := μ 71 17) hw e2 (show 0 ≤ μ 71 15 by omega) (show 1 ≤ μ 71 16 by omega)
            rw [q101_0, x1, bnd_s, c_broken hs1 x3 (by omega) x4 br l _ _ (by omega), bnd_s]
            simp only [b2i_0]
            by_cases p2 : lowB (blO μ f) l
            · rw [if_neg (fun q => q p2)]
              have hv := VM_sA sa hw
              obtain ⟨m3, z1, z2⟩ := m_tag hI.rj (l := l) hf e1 (hI.mu hf.1 (by omega)) (by rw [hv]; exact e2) (by rw [hv]; exact e3) (by have := hI.d; unfold GD at this; omega)
              refine ⟨_, _, m3, rfl, ?_, Inv_sA (yA_sA z1) hI⟩
              show EE 257 0 [(48, 71), (0, f), (0, l), (0, n), (9, 0)] [] m1 = _
              rw [z2, if_neg]
              rw [blO_sA sa hw]
              exact fun q => q.2.1 p2
            · rw [if_pos p2, hs1.1.2.2.2.2.2.1, nn8, hs1.1.2.2.1]
              have hc1 : CF m1 (41 + 10 * f) (VM μ f) := CF_ag (fun c i q => sa c i (by omega)) hc
              obtain ⟨m2, y1, y2⟩ := c_standardsOver hw e2 hs1 hc1 (fun i i0 i1 => by have := hI.z.2 i i0 i1; omega)
              have sa2 : sA μ m2 := sA_t sa (kA_sA y2)
              have hI2 := Inv_sA sa2 h
              have hv := VM_sA sa2 hw
              have ho : ORF (ov (VM μ f) (m1 4)) 0 (vB (VM μ f) + 1) 0 = ovO μ f := by
                refine ORF_c _ _ (fun s s0 s1 => ?_)
                have hfr := frl_r hw s
                have e7 : m1 4 (frl (VM μ f) s) = μ 73 (frl (VM μ f) s) := by
                  rw [sa 4 _ (by omega)]
                  exact (h.z.2 _ (by omega) (by omega)).1
                unfold ov
                rw [e7]
              rw [y1, bnd_s, ho]
              by_cases p3 : ovO μ f = 0
              · rw [if_pos p3, c_setTag hw (CF_ag (fun c i q => sa2 c i (by omega)) hc) _ e3, bnd_s, sa2 1 11 (by omega), gd.1, w32_l (x := μ 71 14 + n) (by omega) (by omega), w32_l (x := μ 71 14 + n - 1) (by omega) (by omega), show 41 + 10 * f + 9 = 50 + 10 * f by omega]
                have rj : RJ (up m2 (50 + 10 * f) l (μ 71 14 + n - 1)) := RJ_ag (fun c i q => up_nc _ _ (by omega)) hI2.rj
                have vv : VM (up m2 (50 + 10 * f) l (μ 71 14 + n - 1)) f = VM μ f := by
                  rw [VM_ag (hI2.wf hf.1 (by omega)).bB (fun c i q => up_nc _ _ (by omega))]
                  exact hv
                have uu : UM (up m2 (50 + 10 * f) l (μ 71 14 + n - 1)) f = UM μ f := by
                  rw [UM_ag (fun i _ _ => up_nc _ _ (by omega))]
                  exact UM_sA sa2
                have mu : MU (up m2 (50 + 10 * f) l (μ 71 14 + n - 1)) f (VM μ f) (UM μ f) := by
                  refine ⟨hmu.1, fun k k0 k1 => ?_⟩
                  rw [up_nc _ _ (by omega), sa2 82 _ (by omega)]
                  exact hmu.2 k k0 k1
                have t4 : up m2 (50 + 10 * f) l (μ 71 14 + n - 1) 71 14 = μ 71 14 := by
                  rw [up_nc _ _ (by omega)]
                  exact sa2 71 14 (by omega)
                obtain ⟨m3, z1, z2⟩ := m_tag rj (l := l) hf e1 (by rw [vv, uu]; exact mu) (by rw [vv]; exact e2) (by rw [vv]; exact e3) (by omega)
                refine ⟨_, _, up m3 83 (6 * f + l) (μ 71 14 + n - 1), rfl, ?_, ?_⟩
                · show EE 257 0 [(48, 71), (0, f), (0, l), (0, n), (9, 0)] [] (up m2 (50 + 10 * f) l (μ 71 14 + n - 1)) = _
                  rw [z2, t4, if_pos]
                  have hb : blO (up m2 (50 + 10 * f) l (μ 71 14 + n - 1)) f = blO μ f := by
                    unfold blO
                    rw [vv, up_nc _ _ (by omega), up_nc _ _ (by omega), up_nc _ _ (by omega), sa2 71 15 (by omega), sa2 71 16 (by omega), sa2 71 17 (by omega)]
                  have hoo : ovO (up m2 (50 + 10 * f) l (μ 71 14 + n - 1)) f = ovO μ f := by
                    unfold ovO
                    rw [vv, show up m2 (50 + 10 * f) l (μ 71 14 + n - 1) 73 = μ 73 by
                      funext j
                      rw [up_nc _ _ (by omega)]
                      exact sa2 73 j (by omega)]
                  rw [vv, uu, hb, hoo]
                  exact ⟨p1, p2, p3⟩
                · have sa3 : sA (up m2 (50 + 10 * f) l (μ 71 14 + n - 1)) m3 := yA_sA z1
                  have hG : Inv M (up (up m2 (50 + 10 * f) l (μ 71 14 + n - 1)) 83 (6 * f + l) (μ 71 14 + n - 1)) := by
                    refine Inv_DT hI2 (fun c i a1 a2 a3 a4 a5 a6 => ?_) ?_ (fun g g0 g1 k k0 k1 => ?_)
                    · rw [up_nc _ _ a6, up_nc _ _ (by omega)]
                    · refine GD_ag (fun c i q => ?_) hI2.d
                      rw [up_nc _ _ (by omega), up_nc _ _ (by omega)]
                    · have hT := hI2.t g0 g1 k k0 k1
                      have e74 : up (up m2 (50 + 10 * f) l (μ 71 14 + n - 1)) 83 (6 * f + l) (μ 71 14 + n - 1) 74 g = m2 74 g := by rw [up_nc _ _ (by omega), up_nc _ _ (by omega)]
                      have e71 : up (up m2 (50 + 10 * f) l (μ 71 14 + n - 1)) 83 (6 * f + l) (μ 71 14 + n - 1) 71 14 = m2 71 14 := by rw [up_nc _ _ (by omega), up_nc _ _ (by omega)]
                      have e71' : m2 71 14 = μ 71 14 := sa2 71 14 (by omega)
                      rw [e74, e71]
                      by_cases q : g = f ∧ k = l
                      · have q1 := q.1
                        have q2 := q.2
                        subst q1
                        subst q2
                        have e5 : k < m2 74 g := by
                          rw [sa2 74 g (by omega)]
                          exact e3.2
                        refine Or.inr (Or.inr ⟨e5, ?_, ?_, ?_⟩)
                        · rw [up_s, up_nc _ _ (by omega), up_s]
                        · rw [up_s]
                          omega
                        · rw [up_s]
                          omega
                      · rw [up_ni _ _ (by omega), up_nc _ _ (by omega), up_nc _ _ (by omega), up_n _ _ (by omega)]
                        exact hT
                  refine Inv_sA (fun c i q => ?_) hG
                  by_cases q2 : c = 83 ∧ i = 6 * f + l
                  · rw [q2.1, q2.2, up_s, up_s]
                  · rw [up_n _ _ (by omega), up_n _ _ (by omega)]
                    exact sa3 c i q
              · rw [if_neg p3]
                obtain ⟨m3, z1, z2⟩ := m_tag hI2.rj (l := l) hf e1 (hI2.mu hf.1 (by omega)) (by rw [hv]; exact e2) (by rw [hv]; exact e3) (by have := hI2.d; unfold GD at this; omega)
                refine ⟨_, _, m3, rfl, ?_, Inv_sA (yA_sA z1) hI2⟩
                show EE 257 0 [(48, 71), (0, f), (0, l), (0, n), (9, 0)] [] m2 = _
                rw [z2, if_neg]
                rw [ovO_sA sa2 hw]
                exact fun q => p3 q.2.2
          · rw [if_neg p1]
            obtain ⟨m3, z1, z2⟩ := m_tag h.rj (l := l) hf e1 hmu e2 e3 (by omega)
            refine ⟨_, _, m3, rfl, ?_, Inv_sA (yA_sA z1) h⟩
            show EE 257 0 [(48, 71), (0, f), (0, l), (0, n), (9, 0)] [] μ = _
            rw [z2, if_neg]
            exact fun q => p1 q.1
        · rw [if_neg e3]
          refine ⟨_, _, _, rfl, ?_, h⟩
          simp only [q257_0, m_isFrame, m_isIn, r_askedL h.ri, bnd_s, b2i_0, ite_not, if_pos hf, if_pos e1, if_neg e2, if_neg e3]
          rfl
    · rw [if_neg e1]
      refine ⟨_, _, _, rfl, ?_, h⟩
      simp only [q257_0, m_isFrame, m_isIn, bnd_s, b2i_0, ite_not, if_pos hf, if_neg e1]
  · simp only [if_neg hf, if_true]
    refine ⟨_, _, _, rfl, ?_, h⟩
    simp only [q257_0, m_isFrame, bnd_s, b2i_0, ite_not, if_neg hf]
end TA
