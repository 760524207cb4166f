/-! board, brace, tie -/
section BB
variable {M μ μ' m m3 : MM} {A f : Int} {V : FV} {U : Int → Int}
theorem keep_mf (hm : MF m f V) (k1 : ∀ c i, c ≠ 80 → ¬ (c = 71 ∧ i = 10) → m3 c i = m c i) : MF m3 f V := MF_ag (MRf_ag (fun i q => k1 71 i (by omega) (by omega)) hm.m) (fun c i q => k1 c i (by omega) (by omega)) hm
theorem m_board (hw : WF V) (hm : MF m f V) (hu : MU m f V U) (k0 : EE 190 0 [(48, 71), (9, 0)] [] m = some (0, m3)) (k1 : ∀ c i, c ≠ 80 → ¬ (c = 71 ∧ i = 10) → m3 c i = m c i) (b l v : Int) : EE 193 0 [(48, 71), (0, f), (0, b), (0, l), (0, v), (9, 0)] [] m = if -1 ≤ v ∧ v ≤ 6 then (if vB V = 0 then some (-1000000002, m) else if inL V l then (if vF V l = 0 then some (-1000000011, m) else if inB V b then (if (l = 0 ∧ gat V b) ∨ U (66 * 3 + 11 * l + b) = 1 then some (-1000000002, m) else some (vC V b l, up m3 79 (193 * f + 6 + 10 * l + b) v)) else some (-1000000013, m)) else some (-1000000013, m)) else some (-1000000001, m) := by
  have hf := hm.fr
  have hr := hw.r
  have m3f := keep_mf hm k1
  rw [q193_0, m_isFrame, bnd_s, b2i_t (by omega), if_neg (by omega), m_isIn, bnd_s]
  simp only [b2i_0, ite_not, m_isMissing hm, m_isLift hw hm, m_isBay hw hm, m_isGate hw hm, bnd_s]
  by_cases e1 : -1 ≤ v ∧ v ≤ 6
  · rw [if_pos e1, if_pos e1]
    by_cases e2 : vB V = 0
    · rw [if_pos e2, if_pos e2]
    · rw [if_neg e2, if_neg e2]
      by_cases e3 : inL V l
      · rw [if_pos e3, if_pos e3, m_hasFloor hw e2 hm e3.1 (by omega), bnd_s]
        by_cases e4 : vF V l = 0
        · rw [if_pos e4, if_pos e4]
        · rw [if_neg e4, if_neg e4]
          by_cases e5 : inB V b
          · have eu := hu.2 (66 * 3 + 11 * l + b) (by omega) (by omega)
            have u01 := hu.1 (66 * 3 + 11 * l + b)
            rw [m_isBay hw hm, bnd_s, b2i_t e5, if_neg (show ¬ (1 : Int) = 0 by omega), if_pos e5]
            by_cases e6 : l = 0
            · rw [if_pos e6, m_isGate hw hm, bnd_s]
              simp only [b2i_0, ite_not]
              by_cases e7 : gat V b
              · rw [if_pos e7, if_pos (Or.inl ⟨e6, e7⟩)]
              · rw [if_neg e7, hm.c11, nn82, w32_l (x := 396 * f) (by omega) (by omega), w32_l (x := 396 * f + 198) (by omega) (by omega), w32_l (x := 11 * l) (by omega) (by omega), w32_l (x := 396 * f + 198 + 11 * l) (by omega) (by omega), w32_l (x := 396 * f + 198 + 11 * l + b) (by omega) (by omega), jx82 _ (by omega) (by omega), show 396 * f + 198 + 11 * l + b = 396 * f + (66 * 3 + 11 * l + b) by omega, eu, k0, bnd_s, m_boardAt e2 m3f (by omega) (by omega) (by omega) (by omega), bnd_s, m3f.c7, nn79, w32_l (x := 193 * f) (by omega) (by omega), w32_l (x := 193 * f + 6) (by omega) (by omega), w32_l (x := 10 * l) (by omega) (by omega), w32_l (x := 193 * f + 6 + 10 * l) (by omega) (by omega), w32_l (x := 193 * f + 6 + 10 * l + b) (by omega) (by omega), jx79 _ (by omega) (by omega)]
                by_cases e8 : U (66 * 3 + 11 * l + b) = 0
                · rw [if_pos e8, if_neg (fun w => w.elim (fun y => e7 y.2) (fun y => by omega))]
                · rw [if_neg e8, if_pos (Or.inr (by omega))]
            · rw [if_neg e6, hm.c11, nn82, w32_l (x := 396 * f) (by omega) (by omega), w32_l (x := 396 * f + 198) (by omega) (by omega), w32_l (x := 11 * l) (by omega) (by omega), w32_l (x := 396 * f + 198 + 11 * l) (by omega) (by omega), w32_l (x := 396 * f + 198 + 11 * l + b) (by omega) (by omega), jx82 _ (by omega) (by omega), show 396 * f + 198 + 11 * l + b = 396 * f + (66 * 3 + 11 * l + b) by omega, eu, k0, bnd_s, m_boardAt e2 m3f (by omega) (by omega) (by omega) (by omega), bnd_s, m3f.c7, nn79, w32_l (x := 193 * f) (by omega) (by omega), w32_l (x := 193 * f + 6) (by omega) (by omega), w32_l (x := 10 * l) (by omega) (by omega), w32_l (x := 193 * f + 6 + 10 * l) (by omega) (by omega), w32_l (x := 193 * f + 6 + 10 * l + b) (by omega) (by omega), jx79 _ (by omega) (by omega)]
              by_cases e8 : U (66 * 3 + 11 * l + b) = 0
              · rw [if_pos e8, if_neg (fun w => w.elim (fun y => e6 y.1) (fun y => by omega))]
              · rw [if_neg e8, if_pos (Or.inr (by omega))]
          · rw [m_isBay hw hm, bnd_s, b2i_f e5, if_pos rfl, if_neg e5]
      · rw [if_neg e3, if_neg e3]
  · rw [if_neg e1, if_neg e1]
theorem st_board (h : Inv M μ) (f b l v : Int) : ST M (EE 111 0 [(47, 1), (0, f), (0, b), (0, l), (0, v), (9, 0), (9, 0)] [] μ) (fun m => EE 193 0 [(48, 71), (0, f), (0, b), (0, l), (0, v), (9, 0)] [] m) := by
  unfold ST
  rw [q111_0, c_frameAt h.s, bnd_s]
  by_cases hf : 0 ≤ f ∧ f ≤ 2
  · have f1 : f < 3 := by omega
    have hw := h.wf hf.1 f1
    have hr := hw.r
    have hc := h.cf hf.1 f1
    have hcu := h.cu hf.1 f1
    have hmu := h.mu hf.1 f1
    have hA : 41 + 10 * f ≠ 0 := by omega
    have hh := h.h.1
    obtain ⟨k3, ka, kb, _, _⟩ := m_keep h.m (by omega)
    have rb := m_board hw (h.mf hf.1 f1) hmu ka kb b l v
    simp only [if_pos hf, if_neg hA, nn_ok _ hA, hc.c0, b2i_0, ite_not, ne_eq, Decidable.not_not, c_within, c_hasLift hc, c_hasRow hw hc, c_hasBay hc, c_isOpening hw hc, c_classOf hw hc, bnd_s]
    by_cases e1 : -1 ≤ v ∧ v ≤ 6
    · rw [if_pos e1] at rb ⊢
      by_cases e2 : vB (VM μ f) = 0
      · rw [if_pos e2] at rb ⊢
        exact ⟨_, _, _, rfl, rb, h⟩
      · rw [if_neg e2] at rb ⊢
        by_cases e3 : inL (VM μ f) l
        · rw [if_pos e3] at rb ⊢
          by_cases e4 : vF (VM μ f) l = 0
          · rw [if_pos e4] at rb ⊢
            exact ⟨_, _, _, rfl, rb, h⟩
          · rw [if_neg e4] at rb ⊢
            by_cases e5 : inB (VM μ f) b
            · rw [if_pos e5] at rb ⊢
              have u01 := hcu.1 (66 * 3 + 11 * l + b)
              by_cases e6 : l = 0 ∧ gat (VM μ f) b
              · rw [if_pos (Or.inl e6)] at rb
                rw [if_pos e6]
                exact ⟨_, _, _, rfl, rb, h⟩
              · rw [if_neg e6, c_pieceAt _ (by omega) (by omega) (by omega), bnd_s, c_stands hc hcu, bnd_s]
                by_cases e7 : UM μ f (66 * 3 + 11 * l + b) = 0
                · rw [if_pos e7, c_classOf hw hc, bnd_s, h.s.1.2.2.2.2.2.2.2.1, nn13]
                  obtain ⟨mn, n0, n1, n2, n3, n4, n5⟩ := c_note h.s hw hc ⟨hh.1, hh.2.1⟩ ⟨hh.2.2.2.1, hh.2.2.2.2⟩ 3 l b (vC (VM μ f) b l)
                  have nr : 15 ≤ nwS μ ∧ nwS μ ≤ 23 := by
                    unfold nwS
                    omega
                  have hcn : CF mn (41 + 10 * f) (VM μ f) := CF_ag (fun c i q => n1 c i (by omega) (by omega) (by omega)) hc
                  have hset : EE 27 0 [(41, 41 + 10 * f), (0, b), (0, l), (0, v)] [] mn = some (0, up mn (41 + 10 * f + 5) (11 * l + b) v) := by
                    rw [q27_0, c_hasBay hcn, bnd_s, b2i_t e5, if_neg (by omega), c_hasLift hcn, bnd_s, b2i_t e3, if_neg (by omega), hcn.c10, nnA hcn.fr _ (by omega), w32_l (x := 11 * l) (by omega) (by omega), w32_l (by omega) (by omega), ix5 hcn.fr _ (by omega) (by omega)]
                  rw [n0, bnd_s, hset, bnd_s]
                  have ca : cA μ (up mn (41 + 10 * f + 5) (11 * l + b) v) := fun c i q => by rw [up_nc _ _ (by omega), n1 c i (by omega) (by omega) (by omega)]
                  obtain ⟨ri, rv⟩ := h.ri.cA ca
                  have hv := rv f hf.1 f1
                  have mf1 := ri.mf hf.1 f1
                  rw [hv] at mf1
                  obtain ⟨m3, k0, k1, k2, k3'⟩ := m_keep ri.1 (by rw [ca 71 10 (by omega)]; omega)
                  have hI := core3 h hf.1 f1 e2 e5 e3 e6 e1 e7 n1 n2 n3 n4 n5 k1 k2 k3'
                  refine ⟨_, _, _, rfl, ?_, hI⟩
                  show EE 193 0 [(48, 71), (0, f), (0, b), (0, l), (0, v), (9, 0)] [] _ = _
                  rw [m_board hw mf1 (MU_cA ca hmu) k0 k1, if_pos e1, if_neg e2, if_pos e3, if_neg e4, if_pos e5, if_neg (fun w => w.elim e6 (fun y => by omega))]
                · rw [if_neg e7]
                  rw [if_pos (Or.inr (by omega))] at rb
                  exact ⟨_, _, _, rfl, rb, h⟩
            · rw [if_neg e5] at rb ⊢
              exact ⟨_, _, _, rfl, rb, h⟩
        · rw [if_neg e3] at rb ⊢
          exact ⟨_, _, _, rfl, rb, h⟩
    · rw [if_neg e1] at rb ⊢
      exact ⟨_, _, _, rfl, rb, h⟩
  · simp only [if_neg hf, if_true]
    refine ⟨_, _, _, rfl, ?_, h⟩
    simp only [q193_0, m_isFrame, bnd_s, b2i_0, ite_not, if_neg hf]
end BB
