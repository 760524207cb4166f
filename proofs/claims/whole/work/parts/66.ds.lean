/-! drop -/
section DS6
variable {M μ μ' : MM} {f : Int}
theorem st_drop (h : Inv M μ) (f : Int) : ST M (EE 108 0 [(47, 1), (0, f), (9, 0), (9, 0)] [] μ) (fun m => EE 189 0 [(48, 71), (0, f), (9, 0), (9, 0)] [] m) := by
  unfold ST
  rw [q108_0, c_frameAt h.s, bnd_s]
  by_cases hf : 0 ≤ f ∧ f ≤ 2
  · have f1 : f < 3 := by omega
    have hw := h.wf hf.1 f1
    have hr := hw.r
    have hc := h.cf hf.1 f1
    have hA : 41 + 10 * f ≠ 0 := by omega
    have mf0 := h.mf hf.1 f1
    simp only [if_pos hf, if_neg hA, nn_ok _ hA]
    rw [hc.c0]
    by_cases e3 : vB (VM μ f) ≠ 0
    · rw [b2i_t e3, if_neg (by omega), hc.c1]
      obtain ⟨u4, un⟩ := h.u0 hf.1 f1
      by_cases e5 : 1 < vB (VM μ f)
      · rw [if_pos e5]
        by_cases e4 : 0 < μ (41 + 10 * f) 5
        · rw [if_pos e4]
          refine ⟨_, _, _, rfl, ?_, h⟩
          simp only [q189_0, m_isFrame, bnd_s, b2i_0, ite_not, if_pos hf, m_upIn mf0 (h.mu hf.1 f1)]
          rw [mf0.c4, nn76, jx76 _ hf.1 f1, mf0.B, if_neg (by omega), ← u4, if_pos e4]
        · rw [if_neg e4, w32_l (by omega) (by omega), c_widthOf hw hc, bnd_s]
          have u0 : μ (41 + 10 * f) 5 = 0 := by omega
          have dl := c_dropL (A := 41 + 10 * f) hc.fr (B := vB (VM μ f)) (L := vL (VM μ f)) (by omega) (by omega) (by omega) 0 μ (by omega) hc.2.1 (by rw [hc.c0, b2i_t e3]) hc.c1 hc.c2
          generalize hB : vB (VM μ f) = B at *
          generalize hL : vL (VM μ f) = L at *
          rw [q10_0, hc.c1, hB, if_neg (by omega), dl, bnd_s]
          generalize hm2 : up (up (DBy μ (41 + 10 * f) B L 0) (41 + 10 * f) 1 (B - 1)) (41 + 10 * f + 3) (B - 1) 0 = m2
          have p0 : ∀ c i, ¬ (c = 41 + 10 * f ∧ i = 1) → ¬ (c = 41 + 10 * f + 3 ∧ i = B - 1) → m2 c i = DBy μ (41 + 10 * f) B L 0 c i := fun c i a b => by rw [← hm2, up_n _ _ (by omega), up_n _ _ (by omega)]
          have p2 : ∀ c i, ¬ (c = 41 + 10 * f ∧ i = 1) → ¬ (c = 41 + 10 * f + 3 ∧ i = B - 1) → ¬ (41 + 10 * f + 5 ≤ c ∧ c ≤ 41 + 10 * f + 7) → m2 c i = μ c i := fun c i a b d => by
            rw [p0 c i a b]
            unfold DBy
            rw [if_neg (by omega), if_neg (by omega), if_neg (by omega)]
          have p3 : m2 (41 + 10 * f) 1 = B - 1 := by rw [← hm2, up_nc _ _ (by omega), up_s]
          have p6 : m2 (41 + 10 * f + 3) (B - 1) = 0 := by rw [← hm2, up_s]
          have pc : ∀ b x, 0 ≤ b → b < 10 → 0 ≤ x → x < L → m2 (41 + 10 * f + 5) (11 * x + b) = if b = B - 1 then -1 else vC (VM μ f) b x := by
            intro b x b0 b1 x0 x1
            rw [p0 _ _ (by omega) (by omega)]
            unfold DBy
            by_cases q : b = B - 1
            · rw [if_pos q, if_pos (by omega)]
            · rw [if_neg q, if_neg (by omega), if_neg (by omega), if_neg (by omega), hc.cX b0 b1 x0 (by omega)]
          have pr : ∀ b x, 0 ≤ b → b < 10 → 0 ≤ x → x < L → m2 (41 + 10 * f + 6) (11 * x + b) = if b = B - 1 then 0 else vR (VM μ f) b x := by
            intro b x b0 b1 x0 x1
            rw [p0 _ _ (by omega) (by omega)]
            unfold DBy
            rw [if_neg (by omega)]
            by_cases q : b = B - 1
            · rw [if_pos q, if_pos (by omega)]
            · rw [if_neg q, if_neg (by omega), if_neg (by omega), hc.bX b0 b1 x0 (by omega)]
          have pt : ∀ b x, 0 ≤ b → b < 11 → 0 ≤ x → x < L → m2 (41 + 10 * f + 7) (11 * x + b) = if b = B then 0 else vT (VM μ f) b x := by
            intro b x b0 b1 x0 x1
            rw [p0 _ _ (by omega) (by omega)]
            unfold DBy
            rw [if_neg (by omega), if_neg (by omega)]
            by_cases q : b = B
            · rw [if_pos q, if_pos (by omega)]
            · rw [if_neg q, if_neg (by omega), hc.tX b0 b1 x0 (by omega)]
          have e17 : m2 1 7 = 13 := by
            rw [p2 1 7 (by omega) (by omega) (by omega)]
            exact h.s.1.2.2.2.2.2.2.2.1
          rw [e17, nn13, q63_0, bnd_s]
          generalize hm3 : up m2 13 0 0 = m3
          have a3 : ∀ c i, ¬ (c = 13 ∧ i = 0) → m3 c i = m2 c i := fun c i q => by rw [← hm3]; exact up_n _ _ (by omega)
          have z3 : m3 13 0 = 0 := by rw [← hm3, up_s]
          have ag : ∀ c i, ¬ (c = 13 ∧ i = 0) → ¬ (c = 41 + 10 * f ∧ i ≤ 4) → ¬ (42 + 10 * f ≤ c ∧ c ≤ 48 + 10 * f) → m3 c i = μ c i := fun c i a b d => by rw [a3 c i a, p2 c i (by omega) (by omega) (by omega)]
          have ca : cA μ m3 := fun c i q => ag c i (by omega) (by omega) (by omega)
          obtain ⟨ri, rv⟩ := h.ri.cA ca
          have hv := rv f hf.1 f1
          have mf1 := ri.mf hf.1 f1
          rw [hv] at mf1
          have mu1 := MU_cA6 h ca hf.1 f1
          have b76 : m3 76 f = B := mf1.B.trans hB
          generalize hKK : (fun b => if b < B - 1 then vK (VM μ f) b else -1 : Int → Int) = K
          have kk : ∀ b, K b = if b < B - 1 then vK (VM μ f) b else -1 := fun b => by rw [← hKK]
          have hK : ∀ b, K b = 1 ↔ 0 ≤ b ∧ b < B - 1 ∧ m3 77 (10 * f + b) = 1 := by
            intro b
            rw [kk]
            by_cases q : b < B - 1
            · rw [if_pos q]
              rcases hw.k b with z | z
              · rw [mf1.k z.1.1 z.1.2]
                omega
              · omega
            · rw [if_neg q]
              omega
          obtain ⟨m4, r1, r2, r3, r6, r7, r8, r9, r10⟩ := m_drop (m := m3) (f := f) (K := K) (w := vW (VM μ f) (B - 1)) ri.1 ⟨hf.1, f1⟩ b76 (by omega) (by omega) hK
          have cl : ∀ c i, c ≤ 70 → m4 c i = m3 c i := fun c i q => r2 c i (by omega) (by omega) (by omega)
          have b4 : vB (VM m4 f) = B - 1 := r3
          have b0 : μ 76 f = B := hB
          have hl6 : vL (VM m4 f) = L := by
            rw [← hL]
            show m4 74 f = μ 74 f
            rw [r2 _ _ (by omega) (by omega) (by omega), ca _ _ (by omega)]
          have hh6 : vH (VM m4 f) = vH (VM μ f) := by
            show m4 75 f = μ 75 f
            rw [r2 _ _ (by omega) (by omega) (by omega), ca _ _ (by omega)]
          have vp : vP (VM m4 f) = vP (VM μ f) := by
            show m4 79 (193 * f + 192) = μ 79 (193 * f + 192)
            rw [r10 _ (by omega), ca _ _ (by omega)]
          have vk : ∀ b, vK (VM m4 f) b = K b := by
            intro b
            rw [kk]
            show vK (VP m4 (m4 79) f) b = if b < B - 1 then vK (VP μ (μ 79) f) b else -1
            rw [vq_K, vq_K, r3, b0]
            by_cases z : 0 ≤ b ∧ b < B - 1
            · rw [if_pos z, if_pos z.2, if_pos (by omega), r2 _ _ (by omega) (by omega) (by omega), ca _ _ (by omega)]
            · rw [if_neg z]
              by_cases y : b < B - 1
              · rw [if_pos y, if_neg (by omega)]
              · rw [if_neg y]
          have vw : ∀ b, vW (VM m4 f) b = if b < B - 1 then vW (VM μ f) b else 0 := by
            intro b
            show vW (VP m4 (m4 79) f) b = if b < B - 1 then vW (VP μ (μ 79) f) b else 0
            rw [vq_W, vq_W, r3, b0]
            by_cases z : 0 ≤ b ∧ b < B - 1
            · rw [if_pos z, if_pos z.2, if_pos (by omega), r2 _ _ (by omega) (by omega) (by omega), ca _ _ (by omega)]
            · rw [if_neg z]
              by_cases y : b < B - 1
              · rw [if_pos y, if_neg (by omega)]
              · rw [if_neg y]
          have vf : ∀ x, vF (VM m4 f) x = vF (VM μ f) x := by
            intro x
            show vF (VP m4 (m4 79) f) x = vF (VP μ (μ 79) f) x
            rw [vq_F, vq_F, r3, b0]
            by_cases q : 0 ≤ x ∧ x < 6
            · rw [if_pos (by omega), if_pos (by omega), r10 _ (by omega), ca _ _ (by omega)]
            · rw [if_neg (by omega), if_neg (by omega)]
          have vc : ∀ b x, vC (VM m4 f) b x = if b = B - 1 then -1 else vC (VM μ f) b x := by
            intro b x
            have hx := hw.c b x
            show vC (VP m4 (m4 79) f) b x = if b = B - 1 then -1 else vC (VM μ f) b x
            rw [vq_C, r3]
            by_cases q : 0 ≤ b ∧ b < 10 ∧ 0 ≤ x ∧ x < 6
            · rw [if_pos (by omega), r7 b x q.1 q.2.1 q.2.2.1 q.2.2.2, ca _ _ (by omega), vC_pl (by omega) q.1 q.2.1 q.2.2.1 q.2.2.2]
            · rw [if_neg (by omega)]
              split
              · rfl
              · omega
          have vr : ∀ b x, vR (VM m4 f) b x = if b = B - 1 then 0 else vR (VM μ f) b x := by
            intro b x
            have hx := hw.b b x
            show vR (VP m4 (m4 79) f) b x = if b = B - 1 then 0 else vR (VM μ f) b x
            rw [vq_R, r3]
            by_cases q : 0 ≤ b ∧ b < 10 ∧ 0 ≤ x ∧ x < 6
            · have pl : vR (VM μ f) b x = μ 79 (193 * f + 66 + 10 * x + b) := by
                show vR (VP μ (μ 79) f) b x = _
                rw [vq_R, if_pos (by omega)]
              rw [if_pos (by omega), r8 b x q.1 q.2.1 q.2.2.1 q.2.2.2, ca _ _ (by omega), pl]
            · rw [if_neg (by omega)]
              split
              · rfl
              · omega
          have kf : ∀ s, K (s - 1) = 1 → K s = 1 → vK (VM μ f) (s - 1) = 1 ∧ vK (VM μ f) s = 1 ∧ s < B - 1 := by
            intro s q1 q2
            rw [kk] at q1 q2
            by_cases y : s < B - 1
            · rw [if_pos y] at q2
              rw [if_pos (by omega)] at q1
              exact ⟨q1, q2, y⟩
            · rw [if_neg y] at q2
              omega
          have vt : ∀ s x, vT (VM m4 f) s x = if s = B then 0 else vT (VM μ f) s x := by
            intro s x
            have hx := hw.t s x
            show vT (VP m4 (m4 79) f) s x = if s = B then 0 else vT (VM μ f) s x
            rw [vq_T, r3]
            by_cases q : 0 ≤ s ∧ s < 11 ∧ 0 ≤ x ∧ x < 6
            · have pl : vT (VM μ f) s x = μ 79 (193 * f + 126 + 11 * x + s) := by
                show vT (VP μ (μ 79) f) s x = _
                rw [vq_T, if_pos (by omega)]
              rw [if_pos (by omega), r9 s x q.1 q.2.1 q.2.2.1 q.2.2.2, ca _ _ (by omega), ← pl]
              by_cases z : s = B
              · rw [if_pos z, if_pos z]
              · rw [if_neg z, if_neg z]
                by_cases g : x = 0 ∧ s ≤ B - 1 ∧ K (s - 1) = 1 ∧ K s = 1
                · rw [if_pos g]
                  have hk := kf s g.2.2.1 g.2.2.2
                  omega
                · rw [if_neg g]
            · rw [if_neg (by omega)]
              split
              · rfl
              · omega
          have hI : Inv M m4 := by
            refine Inv_new h hf.1 f1 u0 (fun c i q => ?_) (by rw [cl 13 0 (by omega), z3]) r6 ?_ ?_ ?_
            · by_cases z : c = 79
              · subst z
                rw [r10 _ (by omega), ca _ _ (by omega)]
              · rw [r2 c i (by omega) z (by omega), ag c i (by omega) (by omega) (by omega)]
            · refine ⟨⟨by omega, by omega, by omega, by omega, by omega, by omega, by omega, by omega, by omega⟩, fun b => ?_, fun x => ?_, fun b x => ?_, fun b x => ?_, fun s x => ?_⟩
              · have hx := hw.k b
                rw [vk, vw, kk]
                by_cases q : b < B - 1
                · rw [if_pos q, if_pos q]
                  rcases hx with z | z
                  · exact Or.inl ⟨⟨z.1.1, by omega⟩, z.2⟩
                  · exact Or.inr ⟨by omega, z.2⟩
                · rw [if_neg q, if_neg q]
                  exact Or.inr ⟨by omega, rfl, rfl⟩
              · rw [vf]
                rcases hw.f x with z | z
                · exact Or.inl z
                · exact Or.inr ⟨z.1, z.2.1, by omega⟩
              · rw [vc]
                by_cases q : b = B - 1
                · rw [if_pos q]
                  exact Or.inl rfl
                · rw [if_neg q]
                  rcases hw.c b x with z | ⟨z1, z2, z3, z4, z5⟩
                  · exact Or.inl z
                  · refine Or.inr ⟨z1, z2, ⟨z3.1, by omega⟩, ⟨z4.1, by omega⟩, ?_⟩
                    unfold gat
                    rw [vk, kk, if_pos (by omega)]
                    exact z5
              · rw [vr]
                by_cases q : b = B - 1
                · rw [if_pos q]
                  exact Or.inl rfl
                · rw [if_neg q]
                  rcases hw.b b x with z | ⟨z1, z3, z4, z5⟩
                  · exact Or.inl z
                  · refine Or.inr ⟨z1, ⟨z3.1, by omega⟩, ⟨z4.1, by omega⟩, ?_⟩
                    unfold gat
                    rw [vk, kk, if_pos (by omega)]
                    exact z5
              · rw [vt]
                by_cases q : s = B
                · rw [if_pos q]
                  exact Or.inl rfl
                · rw [if_neg q]
                  rcases hw.t s x with z | ⟨z1, z3, z4, z5⟩
                  · exact Or.inl z
                  · refine Or.inr ⟨z1, ⟨by omega, z3.2.1, by omega⟩, ⟨z4.1, by omega⟩, ?_⟩
                    intro y
                    apply z5
                    refine ⟨y.1, fun t => ?_⟩
                    have y2 := y.2
                    unfold fot at y2
                    rw [vk, vk] at y2
                    have y3 := Decidable.not_not.1 y2
                    have hk := kf s y3.1 y3.2
                    exact t ⟨hk.1, hk.2.1⟩
            · have c2 : ∀ c i, c ≤ 70 → ¬ (c = 13 ∧ i = 0) → m4 c i = m2 c i := fun c i a b => by rw [cl c i a, a3 c i b]
              have c3 : ∀ c i, c ≤ 70 → ¬ (c = 13 ∧ i = 0) → ¬ (c = 41 + 10 * f ∧ i = 1) → ¬ (c = 41 + 10 * f + 3 ∧ i = B - 1) → ¬ (41 + 10 * f + 5 ≤ c ∧ c ≤ 41 + 10 * f + 7) → m4 c i = μ c i := fun c i a b d e g => by rw [c2 c i a b, p2 c i d e g]
              refine ⟨hc.fr, ?_, ?_, ?_, ?_, ?_, ?_, fun b b0 b1 => ⟨?_, ?_⟩, fun s s0 s1 => ?_, fun x x0 x1 => ?_, fun b x b0 b1 x0 x1 => ⟨?_, ?_⟩, fun s x s0 s1 x0 x1 => ?_⟩
              · have q : ∀ i, 5 ≤ i → m4 (41 + 10 * f) i = μ (41 + 10 * f) i := fun i q => c3 _ _ (by omega) (by omega) (by omega) (by omega) (by omega)
                unfold FRf
                rw [q 6 (by omega), q 7 (by omega), q 8 (by omega), q 9 (by omega), q 10 (by omega), q 11 (by omega), q 12 (by omega), q 13 (by omega), q 14 (by omega)]
                exact hc.2.1
              · rw [c3 _ _ (by omega) (by omega) (by omega) (by omega) (by omega), hc.c0, b2i_t (by omega), b2i_t (by omega)]
              · rw [c2 _ _ (by omega) (by omega), p3, b4]
              · rw [c3 _ _ (by omega) (by omega) (by omega) (by omega) (by omega), hc.c2, hl6, hL]
              · rw [c3 _ _ (by omega) (by omega) (by omega) (by omega) (by omega), hc.c3, hh6]
              · rw [c3 _ _ (by omega) (by omega) (by omega) (by omega) (by omega), hc.c4, vp]
              · rw [vk, kk, if_pos (by omega), c3 _ _ (by omega) (by omega) (by omega) (by omega) (by omega), hc.k b0 (by omega)]
              · rw [vw, if_pos (by omega), c3 _ _ (by omega) (by omega) (by omega) (by omega) (by omega), hc.w b0 (by omega)]
              · by_cases q : s = B - 1
                · rw [q, c2 _ _ (by omega) (by omega), p6, b2i_f]
                  intro y
                  apply y
                  intro t
                  rw [vk, vk] at t
                  have hk := kf _ t.1 t.2
                  omega
                · rw [c3 _ _ (by omega) (by omega) (by omega) (by omega) (by omega), hc.lo s0 (by omega)]
                  refine b2i_c ?_
                  unfold fot
                  rw [vk, vk, kk s, if_pos (by omega), kk (s - 1), if_pos (by omega)]
              · rw [vf, c3 _ _ (by omega) (by omega) (by omega) (by omega) (by omega), hc.f x0 (by omega)]
              · rw [vc, c2 _ _ (by omega) (by omega), pc b x b0 (by omega) x0 (by omega)]
              · rw [vr, c2 _ _ (by omega) (by omega), pr b x b0 (by omega) x0 (by omega)]
              · rw [vt, c2 _ _ (by omega) (by omega), pt s x s0 (by omega) x0 (by omega)]
            · refine GT_ag (fun c i q => ?_) (h.t hf.1 f1)
              by_cases z : c = 50 + 10 * f
              · rw [cl c i (by omega), a3 c i (by omega), p2 c i (by omega) (by omega) (by omega)]
              · rw [r2 c i (by omega) (by omega) (by omega), ag c i (by omega) (by omega) (by omega)]
          refine ⟨_, _, m4, rfl, ?_, hI⟩
          simp only [q189_0, m_isFrame, bnd_s, b2i_0, ite_not, if_pos hf, m_upIn mf1 mu1]
          rw [ri.1.c4, nn76, jx76 _ hf.1 f1, b76, if_neg (by omega), ← u4, if_neg e4, nn76, jx76 _ hf.1 f1, w32_l (by omega) (by omega), m_width hw mf1 (by omega) (by omega), bnd_s]
          rw [b76, w32_l (x := B - 1) (by omega) (by omega)] at r1
          exact r1
      · rw [if_neg e5]
        refine ⟨_, _, _, rfl, ?_, h⟩
        simp only [q189_0, m_isFrame, bnd_s, b2i_0, ite_not, if_pos hf]
        rw [mf0.c4, nn76, jx76 _ hf.1 f1, mf0.B, if_pos (by omega)]
    · rw [b2i_f e3, if_pos rfl]
      refine ⟨_, _, _, rfl, ?_, h⟩
      simp only [q189_0, m_isFrame, bnd_s, b2i_0, ite_not, if_pos hf]
      rw [mf0.c4, nn76, jx76 _ hf.1 f1, mf0.B, if_pos (by omega)]
  · simp only [if_neg hf, if_true]
    refine ⟨_, _, _, rfl, ?_, h⟩
    simp only [q189_0, m_isFrame, bnd_s, b2i_0, ite_not, if_neg hf]
end DS6
