/-! brace, tie -/
section BT
variable {M μ μ' m m3 : MM} {A f : Int} {V : FV} {U : Int → Int}
theorem m_brace (hw : WF V) (hm : MF m f V) (hu : MU m f V U) (k0 : EE 190 0 [(48, 71), (9, 0)] [] m = some (0, m3)) (k1 : ∀ c i, c ≠ 80 → ¬ (c = 71 ∧ i = 10) → m3 c i = m c i) (b l v : Int) : EE 194 0 [(48, 71), (0, f), (0, b), (0, l), (0, v), (9, 0)] [] m = if 0 ≤ v ∧ v ≤ 1 then (if vB V = 0 then some (-1000000002, m) else if inL V l then (if inB V b then (if (l = 0 ∧ gat V b) ∨ U (66 * 2 + 11 * l + b) = 1 then some (-1000000002, m) else some (vR V b l, up m3 79 (193 * f + 66 + 10 * l + b) v)) else some (-1000000013, m)) else some (-1000000013, m)) else some (-1000000001, m) := by
  have hf := hm.fr
  have hr := hw.r
  have m3f := keep_mf hm k1
  rw [q194_0, m_isFrame, bnd_s, b2i_t (by omega), if_neg (by omega), m_isIn, bnd_s]
  simp only [b2i_0, ite_not, m_isMissing hm, m_isLift hw hm, bnd_s]
  by_cases e1 : 0 ≤ v ∧ v ≤ 1
  · rw [if_pos e1, if_pos e1]
    by_cases e2 : vB V = 0
    · rw [if_pos e2, if_pos e2]
    · rw [if_neg e2, if_neg e2]
      by_cases e3 : inL V l
      · rw [if_pos e3, if_pos e3, m_isBay hw hm, bnd_s]
        by_cases e5 : inB V b
        · have eu := hu.2 (66 * 2 + 11 * l + b) (by omega) (by omega)
          have u01 := hu.1 (66 * 2 + 11 * l + b)
          have fx := hw.b b l
          have tl : ∀ K : RR, (if vR V b l = 0 then some ((0 : Int), up m3 79 (193 * f + 66 + 10 * l + b) v) else some (1, up m3 79 (193 * f + 66 + 10 * l + b) v)) = some (vR V b l, up m3 79 (193 * f + 66 + 10 * l + b) v) := by
            intro K
            by_cases z : vR V b l = 0
            · rw [if_pos z, z]
            · rw [if_neg z, show vR V b l = 1 by omega]
          rw [b2i_t e5, if_neg (show ¬ (1 : Int) = 0 by omega), if_pos e5]
          by_cases e6 : l = 0
          · rw [if_pos e6, m_isGate hw hm, bnd_s]
            by_cases e7 : gat V b
            · rw [b2i_t e7, if_neg (show ¬ (1 : Int) = 0 by omega), if_pos (Or.inl ⟨e6, e7⟩)]
            · rw [b2i_f e7, if_pos rfl, hm.c11, nn82, w32_l (x := 396 * f) (by omega) (by omega), w32_l (x := 396 * f + 132) (by omega) (by omega), w32_l (x := 11 * l) (by omega) (by omega), w32_l (x := 396 * f + 132 + 11 * l) (by omega) (by omega), w32_l (x := 396 * f + 132 + 11 * l + b) (by omega) (by omega), jx82 _ (by omega) (by omega), show 396 * f + 132 + 11 * l + b = 396 * f + (66 * 2 + 11 * l + b) by omega, eu, k0, bnd_s, m_hasBrace hw e2 m3f (by omega) (by omega) (by omega) (by omega), bnd_s, m3f.c7, nn79, w32_l (x := 193 * f) (by omega) (by omega), w32_l (x := 193 * f + 66) (by omega) (by omega), w32_l (x := 10 * l) (by omega) (by omega), w32_l (x := 193 * f + 66 + 10 * l) (by omega) (by omega), w32_l (x := 193 * f + 66 + 10 * l + b) (by omega) (by omega), jx79 _ (by omega) (by omega), nn79, jx79 _ (by omega) (by omega), tl none]
              by_cases e8 : U (66 * 2 + 11 * l + b) = 0
              · rw [if_pos e8, if_neg (fun w => w.elim (fun y => e7 y.2) (fun y => by omega))]
              · rw [if_neg e8, if_pos (Or.inr (by omega))]
          · rw [if_neg e6, hm.c11, nn82, w32_l (x := 396 * f) (by omega) (by omega), w32_l (x := 396 * f + 132) (by omega) (by omega), w32_l (x := 11 * l) (by omega) (by omega), w32_l (x := 396 * f + 132 + 11 * l) (by omega) (by omega), w32_l (x := 396 * f + 132 + 11 * l + b) (by omega) (by omega), jx82 _ (by omega) (by omega), show 396 * f + 132 + 11 * l + b = 396 * f + (66 * 2 + 11 * l + b) by omega, eu, k0, bnd_s, m_hasBrace hw e2 m3f (by omega) (by omega) (by omega) (by omega), bnd_s, m3f.c7, nn79, w32_l (x := 193 * f) (by omega) (by omega), w32_l (x := 193 * f + 66) (by omega) (by omega), w32_l (x := 10 * l) (by omega) (by omega), w32_l (x := 193 * f + 66 + 10 * l) (by omega) (by omega), w32_l (x := 193 * f + 66 + 10 * l + b) (by omega) (by omega), jx79 _ (by omega) (by omega), nn79, jx79 _ (by omega) (by omega), tl none]
            by_cases e8 : U (66 * 2 + 11 * l + b) = 0
            · rw [if_pos e8, if_neg (fun w => w.elim (fun y => e6 y.1) (fun y => by omega))]
            · rw [if_neg e8, if_pos (Or.inr (by omega))]
        · rw [b2i_f e5, if_pos rfl, if_neg e5]
      · rw [if_neg e3, if_neg e3]
  · rw [if_neg e1, if_neg e1]
theorem st_brace (h : Inv M μ) (f b l v : Int) : ST M (EE 112 0 [(47, 1), (0, f), (0, b), (0, l), (0, v), (9, 0), (9, 0)] [] μ) (fun m => EE 194 0 [(48, 71), (0, f), (0, b), (0, l), (0, v), (9, 0)] [] m) := by
  unfold ST
  rw [q112_0, c_frameAt h.s, bnd_s]
  by_cases hf : 0 ≤ f ∧ f ≤ 2
  · have f1 : f < 3 := by omega
    have hw := h.wf hf.1 f1
    have hr := hw.r
    have hc := h.cf hf.1 f1
    have hcu := h.cu hf.1 f1
    have hmu := h.mu hf.1 f1
    have hA : 41 + 10 * f ≠ 0 := by omega
    have hh := h.h.1
    obtain ⟨k3, ka, kb, _, _⟩ := m_keep h.m (by omega)
    have rb := m_brace hw (h.mf hf.1 f1) hmu ka kb b l v
    simp only [if_pos hf, if_neg hA, nn_ok _ hA, hc.c0, b2i_0, ite_not, ne_eq, Decidable.not_not, c_within, c_hasLift hc, c_hasBay hc, c_isOpening hw hc, bnd_s]
    by_cases e1 : 0 ≤ v ∧ v ≤ 1
    · rw [if_pos e1] at rb ⊢
      by_cases e2 : vB (VM μ f) = 0
      · rw [if_pos e2] at rb ⊢
        exact ⟨_, _, _, rfl, rb, h⟩
      · rw [if_neg e2] at rb ⊢
        by_cases e3 : inL (VM μ f) l
        · rw [if_pos e3] at rb ⊢
          by_cases e5 : inB (VM μ f) b
          · rw [if_pos e5] at rb ⊢
            have u01 := hcu.1 (66 * 2 + 11 * l + b)
            have fx := hw.b b l
            by_cases e6 : l = 0 ∧ gat (VM μ f) b
            · rw [if_pos (Or.inl e6)] at rb
              rw [if_pos e6]
              exact ⟨_, _, _, rfl, rb, h⟩
            · rw [if_neg e6]
              rw [c_pieceAt _ (by omega) (by omega) (by omega), bnd_s, c_stands hc hcu, bnd_s]
              by_cases e7 : UM μ f (66 * 2 + 11 * l + b) = 0
              · rw [if_pos e7, c_hasBrace hw hc, bnd_s, h.s.1.2.2.2.2.2.2.2.1, nn13]
                obtain ⟨mn, n0, n1, n2, n3, n4, n5⟩ := c_note h.s hw hc ⟨hh.1, hh.2.1⟩ ⟨hh.2.2.2.1, hh.2.2.2.2⟩ 2 l b (vR (VM μ f) b l)
                have nr : 15 ≤ nwS μ ∧ nwS μ ≤ 23 := by
                  unfold nwS
                  omega
                have hcn : CF mn (41 + 10 * f) (VM μ f) := CF_ag (fun c i q => n1 c i (by omega) (by omega) (by omega)) hc
                have hset : ∀ w, w = 0 ∨ w = 1 → EE 29 0 [(41, 41 + 10 * f), (0, b), (0, l), (0, w)] [] mn = some (0, up mn (41 + 10 * f + 6) (11 * l + b) w) := by
                  intro w hw2
                  have ez : ∀ K : RR, zo w K = K := by
                    intro K
                    rcases hw2 with e | e
                    · rw [e, zo_0]
                    · rw [e, zo_1]
                  rw [q29_0, c_hasBay hcn, bnd_s, b2i_t e5, if_neg (by omega), c_hasLift hcn, bnd_s, b2i_t e3, if_neg (by omega), hcn.c11, nnA hcn.fr _ (by omega), w32_l (x := 11 * l) (by omega) (by omega), w32_l (by omega) (by omega), ix6 hcn.fr _ (by omega) (by omega), ez]
                have ca : cA μ (up mn (41 + 10 * f + 6) (11 * l + b) v) := fun c i q => by rw [up_nc _ _ (by omega), n1 c i (by omega) (by omega) (by omega)]
                obtain ⟨ri, rv⟩ := h.ri.cA ca
                have hv := rv f hf.1 f1
                have mf1 := ri.mf hf.1 f1
                rw [hv] at mf1
                obtain ⟨m3, k0, k1, k2, k3'⟩ := m_keep ri.1 (by rw [ca 71 10 (by omega)]; omega)
                have hI := core2 h hf.1 f1 e2 e5 e3 e6 (show v = 0 ∨ v = 1 by omega) e7 n1 n2 n3 n4 n5 k1 k2 k3'
                have hans : EE 194 0 [(48, 71), (0, f), (0, b), (0, l), (0, v), (9, 0)] [] (up mn (41 + 10 * f + 6) (11 * l + b) v) = some (vR (VM μ f) b l, up m3 79 (193 * f + 66 + 10 * l + b) v) := by
                  rw [m_brace hw mf1 (MU_cA ca hmu) k0 k1, if_pos e1, if_neg e2, if_pos e3, if_pos e5, if_neg (fun w => w.elim e6 (fun y => by omega))]
                have hcl : (if v = 1 then bnd (EE 29 0 [(41, 41 + 10 * f), (0, b), (0, l), (0, 1)] [] mn) (fun _ m22 => some (vR (VM μ f) b l, m22)) else bnd (EE 29 0 [(41, 41 + 10 * f), (0, b), (0, l), (0, 0)] [] mn) (fun _ m20 => some (vR (VM μ f) b l, m20))) = some (vR (VM μ f) b l, up mn (41 + 10 * f + 6) (11 * l + b) v) := by
                  by_cases z : v = 1
                  · rw [if_pos z, hset 1 (Or.inr rfl), bnd_s, z]
                  · rw [if_neg z, hset 0 (Or.inl rfl), bnd_s, show v = 0 by omega]
                by_cases e8 : vR (VM μ f) b l = 0
                · rw [e8] at n0 hcl hans
                  rw [if_pos e8, n0, bnd_s, hcl]
                  exact ⟨_, _, _, rfl, hans, hI⟩
                · have e9 : vR (VM μ f) b l = 1 := by omega
                  rw [e9] at n0 hcl hans
                  rw [if_neg e8, n0, bnd_s, hcl]
                  exact ⟨_, _, _, rfl, hans, hI⟩
              · rw [if_neg e7]
                rw [if_pos (Or.inr (by omega))] at rb
                exact ⟨_, _, _, rfl, rb, h⟩
          · rw [if_neg e5] at rb ⊢
            exact ⟨_, _, _, rfl, rb, h⟩
        · rw [if_neg e3] at rb ⊢
          exact ⟨_, _, _, rfl, rb, h⟩
    · rw [if_neg e1] at rb ⊢
      exact ⟨_, _, _, rfl, rb, h⟩
  · simp only [if_neg hf, if_true]
    refine ⟨_, _, _, rfl, ?_, h⟩
    simp only [q194_0, m_isFrame, bnd_s, b2i_0, ite_not, if_neg hf]
theorem m_tie (hw : WF V) (hm : MF m f V) (hu : MU m f V U) (k0 : EE 190 0 [(48, 71), (9, 0)] [] m = some (0, m3)) (k1 : ∀ c i, c ≠ 80 → ¬ (c = 71 ∧ i = 10) → m3 c i = m c i) (b l v : Int) : EE 195 0 [(48, 71), (0, f), (0, b), (0, l), (0, v), (9, 0)] [] m = if 0 ≤ v ∧ v ≤ 1 then (if vB V = 0 then some (-1000000002, m) else if inL V l then (if inS V b then (if (l = 0 ∧ ¬ fot V b) ∨ U (66 * 4 + 11 * l + b) = 1 then some (-1000000002, m) else some (vT V b l, up m3 79 (193 * f + 126 + 11 * l + b) v)) else some (-1000000013, m)) else some (-1000000013, m)) else some (-1000000001, m) := by
  have hf := hm.fr
  have hr := hw.r
  have m3f := keep_mf hm k1
  rw [q195_0, m_isFrame, bnd_s, b2i_t (by omega), if_neg (by omega), m_isIn, bnd_s]
  simp only [b2i_0, ite_not, m_isMissing hm, m_isLift hw hm, bnd_s]
  by_cases e1 : 0 ≤ v ∧ v ≤ 1
  · rw [if_pos e1, if_pos e1]
    by_cases e2 : vB V = 0
    · rw [if_pos e2, if_pos e2]
    · rw [if_neg e2, if_neg e2]
      by_cases e3 : inL V l
      · rw [if_pos e3, if_pos e3, m_isStandard e2 hm, bnd_s]
        by_cases e5 : inS V b
        · have eu := hu.2 (66 * 4 + 11 * l + b) (by omega) (by omega)
          have u01 := hu.1 (66 * 4 + 11 * l + b)
          have fx := hw.t b l
          have tl : ∀ K : RR, (if vT V b l = 0 then some ((0 : Int), up m3 79 (193 * f + 126 + 11 * l + b) v) else some (1, up m3 79 (193 * f + 126 + 11 * l + b) v)) = some (vT V b l, up m3 79 (193 * f + 126 + 11 * l + b) v) := by
            intro K
            by_cases z : vT V b l = 0
            · rw [if_pos z, z]
            · rw [if_neg z, show vT V b l = 1 by omega]
          rw [b2i_t e5, if_neg (show ¬ (1 : Int) = 0 by omega), if_pos e5]
          by_cases e6 : l = 0
          · rw [if_pos e6, m_hasFoot hw hm (by omega) (by omega), bnd_s]
            by_cases e7 : ¬ fot V b
            · rw [b2i_f e7, if_pos rfl, if_pos (Or.inl ⟨e6, e7⟩)]
            · rw [b2i_t (Decidable.not_not.1 e7), if_neg (show ¬ (1 : Int) = 0 by omega), hm.c11, nn82, w32_l (x := 396 * f) (by omega) (by omega), w32_l (x := 396 * f + 264) (by omega) (by omega), w32_l (x := 11 * l) (by omega) (by omega), w32_l (x := 396 * f + 264 + 11 * l) (by omega) (by omega), w32_l (x := 396 * f + 264 + 11 * l + b) (by omega) (by omega), jx82 _ (by omega) (by omega), show 396 * f + 264 + 11 * l + b = 396 * f + (66 * 4 + 11 * l + b) by omega, eu, k0, bnd_s, m_hasTie hw e2 m3f (by omega) (by omega) (by omega) (by omega), bnd_s, m3f.c7, nn79, w32_l (x := 193 * f) (by omega) (by omega), w32_l (x := 193 * f + 126) (by omega) (by omega), w32_l (x := 193 * f + 126 + 11 * l) (by omega) (by omega), w32_l (x := 193 * f + 126 + 11 * l + b) (by omega) (by omega), jx79 _ (by omega) (by omega), nn79, jx79 _ (by omega) (by omega), tl none]
              by_cases e8 : U (66 * 4 + 11 * l + b) = 0
              · rw [if_pos e8, if_neg (fun w => w.elim (fun y => e7 y.2) (fun y => by omega))]
              · rw [if_neg e8, if_pos (Or.inr (by omega))]
          · rw [if_neg e6, hm.c11, nn82, w32_l (x := 396 * f) (by omega) (by omega), w32_l (x := 396 * f + 264) (by omega) (by omega), w32_l (x := 11 * l) (by omega) (by omega), w32_l (x := 396 * f + 264 + 11 * l) (by omega) (by omega), w32_l (x := 396 * f + 264 + 11 * l + b) (by omega) (by omega), jx82 _ (by omega) (by omega), show 396 * f + 264 + 11 * l + b = 396 * f + (66 * 4 + 11 * l + b) by omega, eu, k0, bnd_s, m_hasTie hw e2 m3f (by omega) (by omega) (by omega) (by omega), bnd_s, m3f.c7, nn79, w32_l (x := 193 * f) (by omega) (by omega), w32_l (x := 193 * f + 126) (by omega) (by omega), w32_l (x := 193 * f + 126 + 11 * l) (by omega) (by omega), w32_l (x := 193 * f + 126 + 11 * l + b) (by omega) (by omega), jx79 _ (by omega) (by omega), nn79, jx79 _ (by omega) (by omega), tl none]
            by_cases e8 : U (66 * 4 + 11 * l + b) = 0
            · rw [if_pos e8, if_neg (fun w => w.elim (fun y => e6 y.1) (fun y => by omega))]
            · rw [if_neg e8, if_pos (Or.inr (by omega))]
        · rw [b2i_f e5, if_pos rfl, if_neg e5]
      · rw [if_neg e3, if_neg e3]
  · rw [if_neg e1, if_neg e1]
theorem st_tie (h : Inv M μ) (f b l v : Int) : ST M (EE 113 0 [(47, 1), (0, f), (0, b), (0, l), (0, v), (9, 0), (9, 0)] [] μ) (fun m => EE 195 0 [(48, 71), (0, f), (0, b), (0, l), (0, v), (9, 0)] [] m) := by
  unfold ST
  rw [q113_0, c_frameAt h.s, bnd_s]
  by_cases hf : 0 ≤ f ∧ f ≤ 2
  · have f1 : f < 3 := by omega
    have hw := h.wf hf.1 f1
    have hr := hw.r
    have hc := h.cf hf.1 f1
    have hcu := h.cu hf.1 f1
    have hmu := h.mu hf.1 f1
    have hA : 41 + 10 * f ≠ 0 := by omega
    have hh := h.h.1
    obtain ⟨k3, ka, kb, _, _⟩ := m_keep h.m (by omega)
    have rb := m_tie hw (h.mf hf.1 f1) hmu ka kb b l v
    simp only [if_pos hf, if_neg hA, nn_ok _ hA, hc.c0, b2i_0, ite_not, ne_eq, Decidable.not_not, c_within, c_hasLift hc, c_hasStandard hc, bnd_s]
    by_cases e1 : 0 ≤ v ∧ v ≤ 1
    · rw [if_pos e1] at rb ⊢
      by_cases e2 : vB (VM μ f) = 0
      · rw [if_pos e2] at rb ⊢
        exact ⟨_, _, _, rfl, rb, h⟩
      · rw [if_neg e2] at rb ⊢
        by_cases e3 : inL (VM μ f) l
        · rw [if_pos e3] at rb ⊢
          by_cases e5 : inS (VM μ f) b
          · rw [if_pos e5] at rb ⊢
            have u01 := hcu.1 (66 * 4 + 11 * l + b)
            have fx := hw.t b l
            by_cases e6 : l = 0 ∧ ¬ fot (VM μ f) b
            · rw [if_pos (Or.inl e6)] at rb
              rw [c_lowestLift hw hc (by omega) (by omega), bnd_s, b2i_t e6.2, if_pos (by omega)]
              exact ⟨_, _, _, rfl, rb, h⟩
            · rw [c_lowestLift hw hc (by omega) (by omega), bnd_s, if_neg (by
                have := b2i_r (p := ¬ fot (VM μ f) b)
                by_cases z : fot (VM μ f) b
                · rw [b2i_f (fun w => w z)]
                  omega
                · rw [b2i_t z]
                  have : l ≠ 0 := fun w => e6 ⟨w, z⟩
                  omega)]
              rw [c_pieceAt _ (by omega) (by omega) (by omega), bnd_s, c_stands hc hcu, bnd_s]
              by_cases e7 : UM μ f (66 * 4 + 11 * l + b) = 0
              · rw [if_pos e7, c_hasTie hw hc, bnd_s, h.s.1.2.2.2.2.2.2.2.1, nn13]
                obtain ⟨mn, n0, n1, n2, n3, n4, n5⟩ := c_note h.s hw hc ⟨hh.1, hh.2.1⟩ ⟨hh.2.2.2.1, hh.2.2.2.2⟩ 4 l b (vT (VM μ f) b l)
                have nr : 15 ≤ nwS μ ∧ nwS μ ≤ 23 := by
                  unfold nwS
                  omega
                have hcn : CF mn (41 + 10 * f) (VM μ f) := CF_ag (fun c i q => n1 c i (by omega) (by omega) (by omega)) hc
                have hset : ∀ w, w = 0 ∨ w = 1 → EE 31 0 [(41, 41 + 10 * f), (0, b), (0, l), (0, w)] [] mn = some (0, up mn (41 + 10 * f + 7) (11 * l + b) w) := by
                  intro w hw2
                  have ez : ∀ K : RR, zo w K = K := by
                    intro K
                    rcases hw2 with e | e
                    · rw [e, zo_0]
                    · rw [e, zo_1]
                  rw [q31_0, c_hasStandard hcn, bnd_s, b2i_t e5, if_neg (by omega), c_hasLift hcn, bnd_s, b2i_t e3, if_neg (by omega), hcn.c12, nnA hcn.fr _ (by omega), w32_l (x := 11 * l) (by omega) (by omega), w32_l (by omega) (by omega), ix7 hcn.fr _ (by omega) (by omega), ez]
                have ca : cA μ (up mn (41 + 10 * f + 7) (11 * l + b) v) := fun c i q => by rw [up_nc _ _ (by omega), n1 c i (by omega) (by omega) (by omega)]
                obtain ⟨ri, rv⟩ := h.ri.cA ca
                have hv := rv f hf.1 f1
                have mf1 := ri.mf hf.1 f1
                rw [hv] at mf1
                obtain ⟨m3, k0, k1, k2, k3'⟩ := m_keep ri.1 (by rw [ca 71 10 (by omega)]; omega)
                have hI := core4 h hf.1 f1 e2 e5 e3 e6 (show v = 0 ∨ v = 1 by omega) e7 n1 n2 n3 n4 n5 k1 k2 k3'
                have hans : EE 195 0 [(48, 71), (0, f), (0, b), (0, l), (0, v), (9, 0)] [] (up mn (41 + 10 * f + 7) (11 * l + b) v) = some (vT (VM μ f) b l, up m3 79 (193 * f + 126 + 11 * l + b) v) := by
                  rw [m_tie hw mf1 (MU_cA ca hmu) k0 k1, if_pos e1, if_neg e2, if_pos e3, if_pos e5, if_neg (fun w => w.elim e6 (fun y => by omega))]
                have hcl : (if v = 1 then bnd (EE 31 0 [(41, 41 + 10 * f), (0, b), (0, l), (0, 1)] [] mn) (fun _ m22 => some (vT (VM μ f) b l, m22)) else bnd (EE 31 0 [(41, 41 + 10 * f), (0, b), (0, l), (0, 0)] [] mn) (fun _ m20 => some (vT (VM μ f) b l, m20))) = some (vT (VM μ f) b l, up mn (41 + 10 * f + 7) (11 * l + b) v) := by
                  by_cases z : v = 1
                  · rw [if_pos z, hset 1 (Or.inr rfl), bnd_s, z]
                  · rw [if_neg z, hset 0 (Or.inl rfl), bnd_s, show v = 0 by omega]
                by_cases e8 : vT (VM μ f) b l = 0
                · rw [e8] at n0 hcl hans
                  rw [if_pos e8, n0, bnd_s, hcl]
                  exact ⟨_, _, _, rfl, hans, hI⟩
                · have e9 : vT (VM μ f) b l = 1 := by omega
                  rw [e9] at n0 hcl hans
                  rw [if_neg e8, n0, bnd_s, hcl]
                  exact ⟨_, _, _, rfl, hans, hI⟩
              · rw [if_neg e7]
                rw [if_pos (Or.inr (by omega))] at rb
                exact ⟨_, _, _, rfl, rb, h⟩
          · rw [if_neg e5] at rb ⊢
            exact ⟨_, _, _, rfl, rb, h⟩
        · rw [if_neg e3] at rb ⊢
          exact ⟨_, _, _, rfl, rb, h⟩
    · rw [if_neg e1] at rb ⊢
      exact ⟨_, _, _, rfl, rb, h⟩
  · simp only [if_neg hf, if_true]
    refine ⟨_, _, _, rfl, ?_, h⟩
    simp only [q195_0, m_isFrame, bnd_s, b2i_0, ite_not, if_neg hf]
end BT
