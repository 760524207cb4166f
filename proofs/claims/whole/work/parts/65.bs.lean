/-! bay -/
section BS6
variable {M μ μ' : MM} {f : Int}
theorem Inv.u0 (h : Inv M μ) {f : Int} (f0 : 0 ≤ f) (f1 : f < 3) : μ (41 + 10 * f) 5 = SM (UM μ f) 0 396 ∧ 0 ≤ μ (41 + 10 * f) 5 := by
  have gu := h.u f0 f1
  have un := (SM_nz (f := UM μ f) (n := 396) 0 (fun j _ _ => by
    rcases gu.1 j with q | q
    · omega
    · have := q.1
      omega)).1
  have u4 : μ (41 + 10 * f) 5 = SM (UM μ f) 0 396 := gu.2.2.2
  exact ⟨u4, by omega⟩
theorem MU_cA6 {m : MM} (h : Inv M μ) (ca : cA μ m) {f : Int} (f0 : 0 ≤ f) (f1 : f < 3) : MU m f (VM μ f) (UM μ f) := by
  refine ⟨(h.mu f0 f1).1, fun k a b => ?_⟩
  rw [ca 82 _ (by omega)]
  exact (h.mu f0 f1).2 k a b
theorem st_bay (h : Inv M μ) (f k w : Int) : ST M (EE 107 0 [(47, 1), (0, f), (0, k), (0, w), (9, 0)] [] μ) (fun m => EE 188 0 [(48, 71), (0, f), (0, k), (0, w), (9, 0)] [] m) := by
  unfold ST
  rw [q107_0, c_frameAt h.s, bnd_s]
  by_cases hf : 0 ≤ f ∧ f ≤ 2
  · have f1 : f < 3 := by omega
    have hw := h.wf hf.1 f1
    have hr := hw.r
    have hc := h.cf hf.1 f1
    have hA : 41 + 10 * f ≠ 0 := by omega
    simp only [if_pos hf, if_neg hA, nn_ok _ hA, c_within, bnd_s, b2i_0, ite_not]
    by_cases e1 : 0 ≤ k ∧ k ≤ 4
    · rw [if_pos e1]
      by_cases e2 : 1 ≤ w ∧ w ≤ 100
      · rw [if_pos e2, hc.c0]
        by_cases e3 : vB (VM μ f) ≠ 0
        · rw [b2i_t e3, if_neg (by omega)]
          have e3n : ¬ vB (VM μ f) = 0 := e3
          obtain ⟨u4, un⟩ := h.u0 hf.1 f1
          by_cases e4 : 0 < μ (41 + 10 * f) 5
          · rw [if_pos e4]
            refine ⟨_, _, _, rfl, ?_, h⟩
            simp only [q188_0, m_isFrame, m_isIn, bnd_s, b2i_0, ite_not, if_pos hf, if_pos e1, if_pos e2, m_isMissing (h.mf hf.1 f1), if_neg e3n, m_upIn (h.mf hf.1 f1) (h.mu hf.1 f1)]
            rw [← u4, if_pos e4]
          · rw [if_neg e4, hc.c1]
            have u0 : μ (41 + 10 * f) 5 = 0 := by omega
            by_cases e5 : vB (VM μ f) < 10
            · rw [if_pos e5]
              obtain ⟨m2, p1, p2, p3, p4, p5, p6, p7, p8⟩ := c_addBay (m := μ) (A := 41 + 10 * f) hc.fr hc.2.1 (B := vB (VM μ f)) (L := vL (VM μ f)) (k := k) (w := w) (by rw [hc.c0, b2i_t e3]) hc.c1 hc.c2 (by omega) e5 (by omega) (by omega)
              have e17 : m2 1 7 = 13 := by
                rw [p2 1 7 (by omega) (by omega) (by omega)]
                exact h.s.1.2.2.2.2.2.2.2.1
              rw [p1, bnd_s, e17, nn13, q63_0, bnd_s]
              generalize hm3 : up m2 13 0 0 = m3
              have a3 : ∀ c i, ¬ (c = 13 ∧ i = 0) → m3 c i = m2 c i := fun c i q => by rw [← hm3]; exact up_n _ _ (by omega)
              have z3 : m3 13 0 = 0 := by rw [← hm3, up_s]
              have ag : ∀ c i, ¬ (c = 13 ∧ i = 0) → ¬ (c = 41 + 10 * f ∧ i ≤ 4) → ¬ (42 + 10 * f ≤ c ∧ c ≤ 48 + 10 * f) → c ≠ 50 + 10 * f → m3 c i = μ c i := fun c i a b d e => by rw [a3 c i a, p2 c i (by omega) (by omega) (by omega)]
              have ca : cA μ m3 := fun c i q => ag c i (by omega) (by omega) (by omega) (by omega)
              obtain ⟨ri, rv⟩ := h.ri.cA ca
              have hv := rv f hf.1 f1
              have mf1 := ri.mf hf.1 f1
              rw [hv] at mf1
              have mu1 := MU_cA6 h ca hf.1 f1
              have b76 : m3 76 f = vB (VM μ f) := mf1.B
              rw [a3 _ _ (by omega), p3, w32_l (by omega) (by omega), show vB (VM μ f) + 1 - 1 = vB (VM μ f) by omega]
              generalize hB : vB (VM μ f) = B at *
              generalize hKK : (fun b => if b = B then k else vK (VM μ f) b : Int → Int) = K
              have kk : ∀ b, K b = if b = B then k else vK (VM μ f) b := fun b => by rw [← hKK]
              have hK : ∀ b, K b = 1 ↔ 0 ≤ b ∧ b < B + 1 ∧ (if b = B then k else m3 77 (10 * f + b)) = 1 := by
                intro b
                rw [kk]
                by_cases q : b = B
                · rw [if_pos q, if_pos q]
                  omega
                · rw [if_neg q, if_neg q]
                  rcases hw.k b with z | z
                  · rw [mf1.k z.1.1 z.1.2]
                    omega
                  · omega
              obtain ⟨m4, r1, r2, r3, r4, r5, r6, r7, r8, r9, r10⟩ := m_bay (m := m3) (f := f) (K := K) (kd := k) (w := w) ri.1 ⟨hf.1, f1⟩ b76 (by omega) e5 hK
              have cl : ∀ c i, c ≤ 70 → m4 c i = m3 c i := fun c i q => r2 c i (by omega) (by omega) (by omega) (by omega)
              have b4 : vB (VM m4 f) = B + 1 := r3
              have b0 : μ 76 f = B := hB
              have hl6 : vL (VM m4 f) = vL (VM μ f) := by
                show m4 74 f = μ 74 f
                rw [r2 _ _ (by omega) (by omega) (by omega) (by omega), ca _ _ (by omega)]
              have hh6 : vH (VM m4 f) = vH (VM μ f) := by
                show m4 75 f = μ 75 f
                rw [r2 _ _ (by omega) (by omega) (by omega) (by omega), ca _ _ (by omega)]
              have vp : vP (VM m4 f) = vP (VM μ f) := by
                show m4 79 (193 * f + 192) = μ 79 (193 * f + 192)
                rw [r10 _ (by omega), ca _ _ (by omega)]
              have vk : ∀ b, vK (VM m4 f) b = K b := by
                intro b
                rw [kk]
                show vK (VP m4 (m4 79) f) b = if b = B then k else vK (VP μ (μ 79) f) b
                rw [vq_K, vq_K, r3, b0]
                by_cases q : b = B
                · rw [if_pos q, if_pos (by omega), q, r4]
                · rw [if_neg q]
                  by_cases z : 0 ≤ b ∧ b < B
                  · rw [if_pos z, if_pos (by omega), r2 _ _ (by omega) (by omega) (by omega) (by omega), ca _ _ (by omega)]
                  · rw [if_neg z, if_neg (by omega)]
              have vw : ∀ b, vW (VM m4 f) b = if b = B then w else vW (VM μ f) b := by
                intro b
                show vW (VP m4 (m4 79) f) b = if b = B then w else vW (VP μ (μ 79) f) b
                rw [vq_W, vq_W, r3, b0]
                by_cases q : b = B
                · rw [if_pos q, if_pos (by omega), q, r5]
                · rw [if_neg q]
                  by_cases z : 0 ≤ b ∧ b < B
                  · rw [if_pos z, if_pos (by omega), r2 _ _ (by omega) (by omega) (by omega) (by omega), ca _ _ (by omega)]
                  · rw [if_neg z, if_neg (by omega)]
              have vf : ∀ x, vF (VM m4 f) x = vF (VM μ f) x := by
                intro x
                show vF (VP m4 (m4 79) f) x = vF (VP μ (μ 79) f) x
                rw [vq_F, vq_F, r3, b0]
                by_cases q : 0 ≤ x ∧ x < 6
                · rw [if_pos (by omega), if_pos (by omega), r10 _ (by omega), ca _ _ (by omega)]
                · rw [if_neg (by omega), if_neg (by omega)]
              have vc : ∀ b x, vC (VM m4 f) b x = vC (VM μ f) b x := by
                intro b x
                have hx := hw.c b x
                show vC (VP m4 (m4 79) f) b x = vC (VM μ f) b x
                rw [vq_C, r3]
                by_cases q : 0 ≤ b ∧ b < 10 ∧ 0 ≤ x ∧ x < 6
                · rw [if_pos (by omega), r7 b x q.1 q.2.1 q.2.2.1 q.2.2.2, ca _ _ (by omega)]
                  by_cases z : b = B
                  · rw [if_pos z]
                    omega
                  · rw [if_neg z, vC_pl (by omega) q.1 q.2.1 q.2.2.1 q.2.2.2]
                · rw [if_neg (by omega)]
                  omega
              have vr : ∀ b x, vR (VM m4 f) b x = vR (VM μ f) b x := by
                intro b x
                have hx := hw.b b x
                show vR (VP m4 (m4 79) f) b x = vR (VM μ f) b x
                rw [vq_R, r3]
                by_cases q : 0 ≤ b ∧ b < 10 ∧ 0 ≤ x ∧ x < 6
                · rw [if_pos (by omega), r8 b x q.1 q.2.1 q.2.2.1 q.2.2.2, ca _ _ (by omega)]
                  by_cases z : b = B
                  · rw [if_pos z]
                    omega
                  · rw [if_neg z]
                    show _ = vR (VP μ (μ 79) f) b x
                    rw [vq_R, if_pos (by omega)]
                · rw [if_neg (by omega)]
                  omega
              have kn : ∀ b, B < b → K b = -1 := by
                intro b q
                have hx := hw.k b
                rw [kk, if_neg (by omega)]
                omega
              have vt : ∀ s x, vT (VM m4 f) s x = if x = 0 ∧ K (s - 1) = 1 ∧ K s = 1 then 0 else vT (VM μ f) s x := by
                intro s x
                have hx := hw.t s x
                have k1 := kn s
                show vT (VP m4 (m4 79) f) s x = if x = 0 ∧ K (s - 1) = 1 ∧ K s = 1 then 0 else vT (VM μ f) s x
                rw [vq_T, r3]
                by_cases q : 0 ≤ s ∧ s < 11 ∧ 0 ≤ x ∧ x < 6
                · rw [if_pos (by omega), r9 s x q.1 q.2.1 q.2.2.1 q.2.2.2, ca _ _ (by omega)]
                  have pl : vT (VM μ f) s x = μ 79 (193 * f + 126 + 11 * x + s) := by
                    show vT (VP μ (μ 79) f) s x = _
                    rw [vq_T, if_pos (by omega)]
                  rw [← pl]
                  by_cases z : s = B + 1
                  · rw [if_pos z, show vT (VM μ f) s x = 0 by omega]
                    split <;> rfl
                  · rw [if_neg z]
                    by_cases g : x = 0 ∧ K (s - 1) = 1 ∧ K s = 1
                    · rw [if_pos g, if_pos ⟨g.1, by omega, g.2⟩]
                    · rw [if_neg g, if_neg (fun y => g ⟨y.1, y.2.2⟩)]
                · rw [if_neg (by omega), show vT (VM μ f) s x = 0 by omega]
                  split <;> rfl
              have fo : ∀ s, s ≠ B → s ≤ B + 1 → (fot (VM m4 f) s ↔ fot (VM μ f) s) := by
                intro s z z2
                have h1 := hw.k s
                have h2 := hw.k (s - 1)
                have h3 := kn s
                have h4 := kn (s - 1)
                unfold fot
                rw [vk, vk]
                by_cases y : s = B + 1
                · have := h3 (by omega)
                  omega
                · rw [kk s, if_neg z, kk (s - 1), if_neg (by omega)]
              have hI : Inv M m4 := by
                refine Inv_new h hf.1 f1 u0 (fun c i q => ?_) (by rw [cl 13 0 (by omega), z3]) r6 ?_ ?_ ?_
                · by_cases z : c = 79
                  · subst z
                    rw [r10 _ (by omega), ca _ _ (by omega)]
                  · rw [r2 c i (by omega) (by omega) z (by omega), ag c i (by omega) (by omega) (by omega) (by omega)]
                · refine ⟨⟨by omega, by omega, by omega, by omega, by omega, by omega, by omega, by omega, by omega⟩, fun b => ?_, fun x => ?_, fun b x => ?_, fun b x => ?_, fun s x => ?_⟩
                  · have hx := hw.k b
                    rw [vk, vw, kk]
                    by_cases q : b = B
                    · rw [if_pos q, if_pos q]
                      exact Or.inl ⟨⟨by omega, by omega⟩, e1.1, e1.2, e2.1, e2.2⟩
                    · rw [if_neg q, if_neg q]
                      rcases hx with z | z
                      · exact Or.inl ⟨⟨z.1.1, by omega⟩, z.2⟩
                      · exact Or.inr ⟨by omega, z.2⟩
                  · rw [vf]
                    rcases hw.f x with z | z
                    · exact Or.inl z
                    · exact Or.inr ⟨z.1, z.2.1, by omega⟩
                  · rw [vc]
                    rcases hw.c b x with z | ⟨z1, z2, z3, z4, z5⟩
                    · exact Or.inl z
                    · refine Or.inr ⟨z1, z2, ⟨z3.1, by omega⟩, ⟨z4.1, by omega⟩, ?_⟩
                      unfold gat
                      rw [vk, kk, if_neg (by omega)]
                      exact z5
                  · rw [vr]
                    rcases hw.b b x with z | ⟨z1, z3, z4, z5⟩
                    · exact Or.inl z
                    · refine Or.inr ⟨z1, ⟨z3.1, by omega⟩, ⟨z4.1, by omega⟩, ?_⟩
                      unfold gat
                      rw [vk, kk, if_neg (by omega)]
                      exact z5
                  · rw [vt]
                    by_cases g : x = 0 ∧ K (s - 1) = 1 ∧ K s = 1
                    · rw [if_pos g]
                      exact Or.inl rfl
                    · rw [if_neg g]
                      rcases hw.t s x with z | ⟨z1, z3, z4, z5⟩
                      · exact Or.inl z
                      · refine Or.inr ⟨z1, ⟨by omega, z3.2.1, by omega⟩, ⟨z4.1, by omega⟩, ?_⟩
                        intro y
                        apply g
                        refine ⟨y.1, ?_⟩
                        have y2 := y.2
                        unfold fot at y2
                        rw [vk, vk] at y2
                        exact Decidable.not_not.1 y2
                · have c2 : ∀ c i, c ≤ 70 → ¬ (c = 13 ∧ i = 0) → m4 c i = m2 c i := fun c i a b => by rw [cl c i a, a3 c i b]
                  have c3 : ∀ c i, c ≤ 70 → ¬ (c = 13 ∧ i = 0) → ¬ (c = 41 + 10 * f ∧ i = 1) → ¬ ((c = 41 + 10 * f + 1 ∨ c = 41 + 10 * f + 2 ∨ c = 41 + 10 * f + 7) ∧ i = B) → ¬ (c = 41 + 10 * f + 3 ∧ (i = B ∨ i = B + 1)) → m4 c i = μ c i := fun c i a b d e g => by rw [c2 c i a b, p2 c i d e g]
                  refine ⟨hc.fr, ?_, ?_, ?_, ?_, ?_, ?_, fun b b0 b1 => ⟨?_, ?_⟩, fun s s0 s1 => ?_, fun x x0 x1 => ?_, fun b x b0 b1 x0 x1 => ⟨?_, ?_⟩, fun s x s0 s1 x0 x1 => ?_⟩
                  · have q : ∀ i, 5 ≤ i → m4 (41 + 10 * f) i = μ (41 + 10 * f) i := fun i q => c3 _ _ (by omega) (by omega) (by omega) (by omega) (by omega)
                    unfold FRf
                    rw [q 6 (by omega), q 7 (by omega), q 8 (by omega), q 9 (by omega), q 10 (by omega), q 11 (by omega), q 12 (by omega), q 13 (by omega), q 14 (by omega)]
                    exact hc.2.1
                  · rw [c3 _ _ (by omega) (by omega) (by omega) (by omega) (by omega), hc.c0, b2i_t (by omega), b2i_t (by omega)]
                  · rw [c2 _ _ (by omega) (by omega), p3, b4]
                  · rw [c3 _ _ (by omega) (by omega) (by omega) (by omega) (by omega), hc.c2, hl6]
                  · rw [c3 _ _ (by omega) (by omega) (by omega) (by omega) (by omega), hc.c3, hh6]
                  · rw [c3 _ _ (by omega) (by omega) (by omega) (by omega) (by omega), hc.c4, vp]
                  · rw [vk, kk]
                    by_cases q : b = B
                    · rw [if_pos q, q, c2 _ _ (by omega) (by omega), p4]
                    · rw [if_neg q, c3 _ _ (by omega) (by omega) (by omega) (by omega) (by omega), hc.k b0 (by omega)]
                  · rw [vw]
                    by_cases q : b = B
                    · rw [if_pos q, q, c2 _ _ (by omega) (by omega), p5]
                    · rw [if_neg q, c3 _ _ (by omega) (by omega) (by omega) (by omega) (by omega), hc.w b0 (by omega)]
                  · by_cases q : s = B
                    · rw [q, c2 _ _ (by omega) (by omega), p7]
                      refine b2i_c ?_
                      rw [hc.k (b := B - 1) (by omega) (by omega)]
                      unfold fot
                      rw [vk, vk, kk B, if_pos rfl, kk (B - 1), if_neg (by omega)]
                      omega
                    · rw [b2i_c (q := ¬ fot (VM μ f) s) (by rw [fo s q (by omega)])]
                      by_cases z : s = B + 1
                      · rw [z, c2 _ _ (by omega) (by omega), p6, b2i_f]
                        intro y
                        apply y
                        have hx := hw.k (B + 1)
                        intro t
                        omega
                      · rw [c3 _ _ (by omega) (by omega) (by omega) (by omega) (by omega), hc.lo s0 (by omega)]
                  · rw [vf, c3 _ _ (by omega) (by omega) (by omega) (by omega) (by omega), hc.f x0 (by omega)]
                  · rw [vc, c3 _ _ (by omega) (by omega) (by omega) (by omega) (by omega), hc.cX b0 (by omega) x0 (by omega)]
                  · rw [vr, c3 _ _ (by omega) (by omega) (by omega) (by omega) (by omega), hc.bX b0 (by omega) x0 (by omega)]
                  · rw [vt]
                    have hx := hw.t s x
                    by_cases q : x = 0 ∧ s = B
                    · rw [q.1, q.2, show 11 * (0 : Int) + B = B by omega, c2 _ _ (by omega) (by omega), p8, hc.k (b := B - 1) (by omega) (by omega), kk (B - 1), if_neg (show ¬ B - 1 = B by omega), kk B, if_pos rfl]
                      have ht := hc.tX (b := B) (l := 0) (by omega) (by omega) (by omega) (by omega)
                      rw [show 11 * (0 : Int) + B = B by omega] at ht
                      rw [ht]
                      by_cases g : vK (VM μ f) (B - 1) = 1 ∧ k = 1
                      · rw [if_pos ⟨by omega, g⟩, if_pos ⟨rfl, g⟩]
                      · rw [if_neg (fun y => g y.2), if_neg (fun y => g y.2)]
                    · rw [c3 _ _ (by omega) (by omega) (by omega) (by omega) (by omega), hc.tX s0 (by omega) x0 (by omega)]
                      have k1 := kn s
                      by_cases g : x = 0 ∧ K (s - 1) = 1 ∧ K s = 1
                      · rw [if_pos g]
                        rcases hx with z | ⟨z1, z3, z4, z5⟩
                        · exact z
                        · exfalso
                          apply z5
                          refine ⟨g.1, fun y => ?_⟩
                          apply y
                          have g2 := g.2
                          have sB : s < B := by omega
                          rw [kk, if_neg (by omega), kk, if_neg (by omega)] at g2
                          exact g2
                      · rw [if_neg g]
                · refine GT_ag (fun c i q => ?_) (h.t hf.1 f1)
                  by_cases z : c = 50 + 10 * f
                  · rw [cl c i (by omega), a3 c i (by omega), p2 c i (by omega) (by omega) (by omega)]
                  · rw [r2 c i (by omega) (by omega) (by omega) (by omega), ag c i (by omega) (by omega) (by omega) z]
              refine ⟨_, _, m4, rfl, ?_, hI⟩
              simp only [q188_0, m_isFrame, m_isIn, bnd_s, b2i_0, ite_not, if_pos hf, if_pos e1, if_pos e2, m_isMissing mf1, m_upIn mf1 mu1]
              rw [hB, if_neg e3n, ← u4, if_neg e4, ri.1.c4, nn76, jx76 _ hf.1 f1, b76, if_neg (by omega), nn76, jx76 _ hf.1 f1, nn76, jx76 _ hf.1 f1, nn76, jx76 _ hf.1 f1, w32_l (by omega) (by omega)]
              exact r1
            · rw [if_neg e5]
              refine ⟨_, _, _, rfl, ?_, h⟩
              have mf1 := h.mf hf.1 f1
              simp only [q188_0, m_isFrame, m_isIn, bnd_s, b2i_0, ite_not, if_pos hf, if_pos e1, if_pos e2, m_isMissing mf1, if_neg e3n, m_upIn mf1 (h.mu hf.1 f1)]
              rw [← u4, if_neg e4, mf1.c4, nn76, jx76 _ hf.1 f1, mf1.B, if_pos (by omega)]
        · rw [b2i_f e3, if_pos rfl]
          refine ⟨_, _, _, rfl, ?_, h⟩
          simp only [q188_0, m_isFrame, m_isIn, bnd_s, b2i_0, ite_not, if_pos hf, if_pos e1, if_pos e2, m_isMissing (h.mf hf.1 f1)]
          rw [if_pos (by omega)]
      · rw [if_neg e2]
        refine ⟨_, _, _, rfl, ?_, h⟩
        simp only [q188_0, m_isFrame, m_isIn, bnd_s, b2i_0, ite_not, if_pos hf, if_pos e1, if_neg e2]
    · rw [if_neg e1]
      refine ⟨_, _, _, rfl, ?_, h⟩
      simp only [q188_0, m_isFrame, m_isIn, bnd_s, b2i_0, ite_not, if_pos hf, if_neg e1]
  · simp only [if_neg hf, if_true]
    refine ⟨_, _, _, rfl, ?_, h⟩
    simp only [q188_0, m_isFrame, bnd_s, b2i_0, ite_not, if_neg hf]
end BS6
