/-! frame -/
section FM6
variable {M μ μ' : MM} {f : Int}
theorem UM_cA {m : MM} (e : cA μ m) : UM m f = UM μ f := UM_ag (fun i _ _ => e 82 i (by omega))
theorem st_frame (h : Inv M μ) (f l hh w : Int) : ST M (EE 106 0 [(47, 1), (0, f), (0, l), (0, hh), (0, w), (9, 0)] [] μ) (fun m => EE 187 0 [(48, 71), (0, f), (0, l), (0, hh), (0, w), (9, 0)] [] m) := by
  unfold ST
  rw [q106_0, c_frameAt h.s, bnd_s]
  by_cases hf : 0 ≤ f ∧ f ≤ 2
  · have f1 : f < 3 := by omega
    have hw := h.wf hf.1 f1
    have hc := h.cf hf.1 f1
    have hA : 41 + 10 * f ≠ 0 := by omega
    simp only [if_pos hf, if_neg hA, nn_ok _ hA, c_within, bnd_s, b2i_0, ite_not]
    by_cases e1 : 1 ≤ l ∧ l ≤ 6
    · rw [if_pos e1]
      by_cases e2 : 1 ≤ hh ∧ hh ≤ 20
      · rw [if_pos e2]
        by_cases e3 : 1 ≤ w ∧ w ≤ 100
        · rw [if_pos e3]
          have gu := h.u hf.1 f1
          have u4 : μ (41 + 10 * f) 5 = SM (UM μ f) 0 396 := gu.2.2.2
          by_cases e4 : 0 < μ (41 + 10 * f) 5
          · rw [if_pos e4]
            refine ⟨_, _, _, rfl, ?_, h⟩
            simp only [q187_0, m_isFrame, m_isIn, bnd_s, b2i_0, ite_not, if_pos hf, if_pos e1, if_pos e2, if_pos e3, m_upIn (h.mf hf.1 f1) (h.mu hf.1 f1)]
            rw [← u4, if_pos e4]
          · rw [if_neg e4, q153_0, c_someoneOn h _ _ (by omega), bnd_s]
            have un := (SM_nz (f := UM μ f) (n := 396) 0 (fun j _ _ => by
              rcases gu.1 j with q | q
              · omega
              · have := q.1
                omega)).1
            have u0 : μ (41 + 10 * f) 5 = 0 := by omega
            by_cases e5 : FU (onF μ f) (-1) 0 10 ≠ -1
            · rw [b2i_t e5, if_neg (by omega)]
              refine ⟨_, _, _, rfl, ?_, h⟩
              simp only [q187_0, m_isFrame, m_isIn, bnd_s, b2i_0, ite_not, if_pos hf, if_pos e1, if_pos e2, if_pos e3, m_upIn (h.mf hf.1 f1) (h.mu hf.1 f1)]
              rw [← u4, if_neg e4, q183_0, m_anyoneP h.p h.m f _ _ (by omega) (Or.inl rfl), if_neg (by omega), b2i_t e5, bnd_s, if_neg (by omega)]
            · rw [b2i_f e5, if_pos rfl]
              obtain ⟨m1, x1, x2, x3, y0, y1, y2, y3, y4, y5, y6, y7, y8⟩ := c_begin (m := μ) (A := 41 + 10 * f) hc.fr hc.2.1 l hh
              have hR1 : FRf m1 (41 + 10 * f) := by
                unfold FRf
                rw [x3 6 (by omega), x3 7 (by omega), x3 8 (by omega), x3 9 (by omega), x3 10 (by omega), x3 11 (by omega), x3 12 (by omega), x3 13 (by omega), x3 14 (by omega)]
                exact hc.2.1
              obtain ⟨m2, p1, p2, p3, p4, p5, p6, p7, p8⟩ := c_addBay (m := m1) (A := 41 + 10 * f) hc.fr hR1 (B := 0) (L := l) (k := 0) (w := w) y0 y1 y2 (by omega) (by omega) e1.1 e1.2
              have g0 : ¬ (0 < (0 : Int) ∧ m1 (41 + 10 * f + 1) (0 - 1) = 1 ∧ (0 : Int) = 1) := by omega
              rw [b2i_f g0] at p7
              rw [if_neg g0] at p8
              have e17 : m2 1 7 = 13 := by
                rw [p2 1 7 (by omega) (by omega) (by omega), x2 1 7 (by omega) (by omega) (by omega)]
                exact h.s.1.2.2.2.2.2.2.2.1
              rw [x1, bnd_s, p1, bnd_s, e17, nn13, q63_0, bnd_s]
              generalize hm3 : up m2 13 0 0 = m3
              have a3 : ∀ c i, ¬ (c = 13 ∧ i = 0) → m3 c i = m2 c i := fun c i q => by rw [← hm3]; exact up_n _ _ (by omega)
              have z3 : m3 13 0 = 0 := by rw [← hm3, up_s]
              have ag : ∀ c i, ¬ (c = 13 ∧ i = 0) → ¬ (c = 41 + 10 * f ∧ i ≤ 4) → ¬ (42 + 10 * f ≤ c ∧ c ≤ 48 + 10 * f) → c ≠ 50 + 10 * f → m3 c i = μ c i := fun c i a b d e => by rw [a3 c i a, p2 c i (by omega) (by omega) (by omega), x2 c i (by omega) (by omega) (by omega)]
              have ca : cA μ m3 := fun c i q => ag c i (by omega) (by omega) (by omega) (by omega)
              obtain ⟨ri, rv⟩ := h.ri.cA ca
              have hv := rv f hf.1 f1
              have mf1 := ri.mf hf.1 f1
              have mu1 : MU m3 f (VM m3 f) (UM μ f) := by
                rw [hv]
                refine ⟨(h.mu hf.1 f1).1, fun k a b => ?_⟩
                rw [ca 82 _ (by omega)]
                exact (h.mu hf.1 f1).2 k a b
              have gp3 : GP m3 := GP_ag (fun c i q => ag c i (by omega) (by omega) (by omega) (by omega)) h.p
              have fu3 : FU (onF m3 f) (-1) 0 10 = FU (onF μ f) (-1) 0 10 := FU_c 0 (fun j _ _ => by
                unfold onF
                rw [ag 39 j (by omega) (by omega) (by omega) (by omega)])
              obtain ⟨m4, r1, r2, r3, r4, r5, r6, r7, r8, r9, r10, r11⟩ := m_frame (m := m3) ri.1 ⟨hf.1, f1⟩ l hh w (0, l) (9, 0)
              have cl : ∀ c i, c ≤ 70 → m4 c i = m3 c i := fun c i q => r2 c i (by omega) (by omega) (by omega) (by omega) (by omega)
              have b4 : vB (VM m4 f) = 1 := r5
              have l4 : vL (VM m4 f) = l := r3
              have h4 : vH (VM m4 f) = hh := r4
              have vp : vP (VM m4 f) = 0 := r11 _ (by omega) (by omega) (by omega)
              have vk : ∀ b, vK (VM m4 f) b = if b = 0 then 0 else -1 := by
                intro b
                show vK (VP m4 (m4 79) f) b = _
                rw [vq_K, r5]
                by_cases q : b = 0
                · rw [if_pos q, if_pos (by omega), q, Int.add_zero, r6]
                · rw [if_neg q, if_neg (by omega)]
              have vw : ∀ b, vW (VM m4 f) b = if b = 0 then w else 0 := by
                intro b
                show vW (VP m4 (m4 79) f) b = _
                rw [vq_W, r5]
                by_cases q : b = 0
                · rw [if_pos q, if_pos (by omega), q, Int.add_zero, r7]
                · rw [if_neg q, if_neg (by omega)]
              have vf : ∀ x, vF (VM m4 f) x = 0 := by
                intro x
                show vF (VP m4 (m4 79) f) x = 0
                rw [vq_F]
                split
                · exact r11 _ (by omega) (by omega) (by omega)
                · rfl
              have vc : ∀ b x, vC (VM m4 f) b x = -1 := by
                intro b x
                show vC (VP m4 (m4 79) f) b x = -1
                rw [vq_C]
                split
                · exact r10 _ (by omega) (by omega)
                · rfl
              have vr : ∀ b x, vR (VM m4 f) b x = 0 := by
                intro b x
                show vR (VP m4 (m4 79) f) b x = 0
                rw [vq_R]
                split
                · exact r11 _ (by omega) (by omega) (by omega)
                · rfl
              have vt : ∀ b x, vT (VM m4 f) b x = 0 := by
                intro b x
                show vT (VP m4 (m4 79) f) b x = 0
                rw [vq_T]
                split
                · exact r11 _ (by omega) (by omega) (by omega)
                · rfl
              have hI : Inv M m4 := by
                refine Inv_new h hf.1 f1 u0 (fun c i q => ?_) (by rw [cl 13 0 (by omega), z3]) r8 ?_ ?_ ?_
                · rw [r2 c i (by omega) (by omega) (by omega) (by omega) (by omega), ag c i (by omega) (by omega) (by omega) (by omega)]
                · refine ⟨⟨by omega, by omega, by omega, by omega, by omega, by omega, by omega, by omega, by omega⟩, fun b => ?_, fun x => Or.inl (vf x), fun b x => Or.inl (vc b x), fun b x => Or.inl (vr b x), fun b x => Or.inl (vt b x)⟩
                  by_cases q : b = 0
                  · refine Or.inl ⟨⟨by omega, by omega⟩, ?_, ?_, ?_, ?_⟩
                    · rw [vk, if_pos q]
                      omega
                    · rw [vk, if_pos q]
                      omega
                    · rw [vw, if_pos q]
                      omega
                    · rw [vw, if_pos q]
                      omega
                  · refine Or.inr ⟨by omega, ?_, ?_⟩
                    · rw [vk, if_neg q]
                    · rw [vw, if_neg q]
                · have c2 : ∀ c i, c ≤ 70 → ¬ (c = 13 ∧ i = 0) → m4 c i = m2 c i := fun c i a b => by rw [cl c i a, a3 c i b]
                  refine ⟨hc.fr, ?_, ?_, ?_, ?_, ?_, ?_, fun b b0 b1 => ⟨?_, ?_⟩, fun s s0 s1 => ?_, fun x x0 x1 => ?_, fun b x b0 b1 x0 x1 => ⟨?_, ?_⟩, fun s x s0 s1 x0 x1 => ?_⟩
                  · have q : ∀ i, 5 ≤ i → m4 (41 + 10 * f) i = m1 (41 + 10 * f) i := fun i q => by rw [c2 _ _ (by omega) (by omega), p2 _ _ (by omega) (by omega) (by omega)]
                    unfold FRf
                    rw [q 6 (by omega), q 7 (by omega), q 8 (by omega), q 9 (by omega), q 10 (by omega), q 11 (by omega), q 12 (by omega), q 13 (by omega), q 14 (by omega)]
                    exact hR1
                  · rw [c2 _ _ (by omega) (by omega), p2 _ _ (by omega) (by omega) (by omega), y0, b2i_t (by omega)]
                  · rw [c2 _ _ (by omega) (by omega), p3, b4]
                    rfl
                  · rw [c2 _ _ (by omega) (by omega), p2 _ _ (by omega) (by omega) (by omega), y2, l4]
                  · rw [c2 _ _ (by omega) (by omega), p2 _ _ (by omega) (by omega) (by omega), y3, h4]
                  · rw [c2 _ _ (by omega) (by omega), p2 _ _ (by omega) (by omega) (by omega), y4, vp]
                  · rw [vk, if_pos (by omega), show b = 0 by omega, c2 _ _ (by omega) (by omega), p4]
                  · rw [vw, if_pos (by omega), show b = 0 by omega, c2 _ _ (by omega) (by omega), p5]
                  · have hs : ¬ ¬ fot (VM m4 f) s := by
                      intro q
                      apply q
                      unfold fot
                      rw [vk, vk]
                      repeat' split
                      all_goals omega
                    rw [b2i_f hs, c2 _ _ (by omega) (by omega)]
                    by_cases q : s = 0
                    · rw [q, p7]
                    · rw [show s = 0 + 1 by omega, p6]
                  · rw [vf, c2 _ _ (by omega) (by omega), p2 _ _ (by omega) (by omega) (by omega), y6 x x0 (by omega)]
                  · rw [vc, c2 _ _ (by omega) (by omega), p2 _ _ (by omega) (by omega) (by omega), (y7 _ (by omega) (by omega)).1]
                  · rw [vr, c2 _ _ (by omega) (by omega), p2 _ _ (by omega) (by omega) (by omega), (y7 _ (by omega) (by omega)).2.1]
                  · rw [vt, c2 _ _ (by omega) (by omega)]
                    by_cases q : 11 * x + s = 0
                    · rw [q, p8, (y7 _ (by omega) (by omega)).2.2]
                    · rw [p2 _ _ (by omega) (by omega) (by omega), (y7 _ (by omega) (by omega)).2.2]
                · intro x x0 x1
                  have hN : m4 83 (6 * f + x) = NON := r9 _ (by omega) (by omega)
                  by_cases q : m4 74 f ≤ x
                  · exact Or.inl ⟨q, hN⟩
                  · refine Or.inr (Or.inl ⟨by omega, ?_, Or.inl hN⟩)
                    rw [cl _ _ (by omega), a3 _ _ (by omega), p2 _ _ (by omega) (by omega) (by omega), show 50 + 10 * f = 41 + 10 * f + 9 by omega, y8 x x0 x1]
              refine ⟨_, _, m4, rfl, ?_, hI⟩
              simp only [q187_0, m_isFrame, m_isIn, bnd_s, b2i_0, ite_not, if_pos hf, if_pos e1, if_pos e2, if_pos e3, m_upIn mf1 mu1]
              rw [← u4, if_neg e4, q183_0, m_anyoneP gp3 ri.1 f _ _ (by omega) (Or.inl rfl), if_neg (by omega), fu3, b2i_f e5, bnd_s, if_pos rfl, ri.1.c2, nn74, jx74 _ hf.1 f1]
              exact r1
        · rw [if_neg e3]
          refine ⟨_, _, _, rfl, ?_, h⟩
          simp only [q187_0, m_isFrame, m_isIn, bnd_s, b2i_0, ite_not, if_pos hf, if_pos e1, if_pos e2, if_neg e3]
      · rw [if_neg e2]
        refine ⟨_, _, _, rfl, ?_, h⟩
        simp only [q187_0, m_isFrame, m_isIn, bnd_s, b2i_0, ite_not, if_pos hf, if_pos e1, if_neg e2]
    · rw [if_neg e1]
      refine ⟨_, _, _, rfl, ?_, h⟩
      simp only [q187_0, m_isFrame, m_isIn, bnd_s, b2i_0, ite_not, if_pos hf, if_neg e1]
  · simp only [if_neg hf, if_true]
    refine ⟨_, _, _, rfl, ?_, h⟩
    simp only [q187_0, m_isFrame, bnd_s, b2i_0, ite_not, if_neg hf]
end FM6
