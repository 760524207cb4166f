/-! strip, the call -/
section SS
variable {M μ μ' m m3 : MM} {A f : Int} {V : FV} {U : Int → Int}
theorem st_strip (h : Inv M μ) (f l : Int) : ST M (EE 110 0 [(47, 1), (0, f), (0, l), (9, 0), (9, 0)] [] μ) (fun m => EE 192 0 [(48, 71), (0, f), (0, l), (9, 0), (9, 0)] [] m) := by
  unfold ST
  rw [q110_0, c_frameAt h.s, bnd_s]
  by_cases hf : 0 ≤ f ∧ f ≤ 2
  · have f1 : f < 3 := by omega
    have hw := h.wf hf.1 f1
    have hr := hw.r
    have hc := h.cf hf.1 f1
    have hcu := h.cu hf.1 f1
    have hmu := h.mu hf.1 f1
    have hA : 41 + 10 * f ≠ 0 := by omega
    have hh := h.h.1
    simp only [if_pos hf, if_neg hA, nn_ok _ hA, hc.c0, b2i_0, ite_not, ne_eq, Decidable.not_not, c_hasLift hc, c_hasRow hw hc, bnd_s]
    by_cases e2 : vB (VM μ f) = 0
    · rw [if_pos e2]
      refine ⟨_, _, _, rfl, ?_, h⟩
      simp only [q192_0, m_isFrame, m_isMissing (h.mf hf.1 f1), bnd_s, b2i_0, ite_not, if_pos hf, if_pos e2]
    · rw [if_neg e2]
      by_cases e3 : inL (VM μ f) l
      · rw [if_pos e3]
        have rs : ∀ m, MF m f (VM μ f) → EE 192 0 [(48, 71), (0, f), (0, l), (9, 0), (9, 0)] [] m = if vF (VM μ f) l = 0 then some (-1000000011, m) else EE 192 50 [(48, 71), (0, f), (0, l), (0, 0), (0, 0)] [] m := by
          intro m hm
          simp only [q192_0, m_isFrame, m_isMissing hm, m_isLift hw hm, bnd_s, b2i_0, ite_not, if_pos hf, if_neg e2, if_pos e3]
          rw [m_hasFloor hw e2 hm (by omega) (by omega), bnd_s]
        by_cases e4 : vF (VM μ f) l = 0
        · rw [if_pos e4]
          refine ⟨_, _, _, rfl, ?_, h⟩
          show EE 192 0 [(48, 71), (0, f), (0, l), (9, 0), (9, 0)] [] μ = _
          rw [rs μ (h.mf hf.1 f1), if_pos e4]
        · rw [if_neg e4, q33_0, c_boardsStandOn hw hc hcu e3 _ (by omega), bnd_s]
          simp only [b2i_0]
          by_cases e5 : FU (fun b => UM μ f (198 + 11 * l + b) = 1) (-1) 0 (vB (VM μ f)) ≠ -1
          · rw [if_neg (fun q => q e5)]
            obtain ⟨k3, ka, kb, _, _⟩ := m_keep h.m (by omega)
            refine ⟨_, _, _, rfl, ?_, h⟩
            show EE 192 0 [(48, 71), (0, f), (0, l), (9, 0), (9, 0)] [] μ = _
            rw [rs μ (h.mf hf.1 f1), if_neg e4, m_strip hw e2 (h.mf hf.1 f1) hmu ka kb e3 _ _ (by omega) (by omega) (by omega), if_pos e5]
          · rw [if_pos e5, c_boardsOn hw hc, bnd_s, h.s.1.2.2.2.2.2.2.2.1, nn13]
            obtain ⟨mn, n0, n1, n2, n3, n4, n5⟩ := c_note h.s hw hc ⟨hh.1, hh.2.1⟩ ⟨hh.2.2.2.1, hh.2.2.2.2⟩ 11 l 0 1
            have nr : 15 ≤ nwS μ ∧ nwS μ ≤ 23 := by
              unfold nwS
              omega
            have hcn : CF mn (41 + 10 * f) (VM μ f) := CF_ag (fun c i q => n1 c i (by omega) (by omega) (by omega)) hc
            generalize hm1 : FLL (up mn (41 + 10 * f + 4) l 0) (41 + 10 * f + 5) (11 * l + 0) (11 * l + vB (VM μ f)) (-1) = m1
            have hset : EE 25 0 [(41, 41 + 10 * f), (0, l), (9, 0)] [] mn = some (0, m1) := by
              rw [q25_0, q24_0, c_hasLift hcn, bnd_s, b2i_t e3, if_neg (by omega), hcn.c9, nnA hcn.fr _ (by omega), ix4 hcn.fr _ (by omega) (by omega), zo_0, bnd_s, c_clearL hw hcn.fr e3 _ _ (by omega) (by rw [up_nc _ _ (by omega)]; exact hcn.c1) (by rw [up_nc _ _ (by omega)]; exact hcn.c2) (by rw [up_nc _ _ (by omega)]; exact hcn.c10), hm1]
            have s1 : ∀ c i, ¬ (c = 41 + 10 * f + 4 ∧ i = l) → ¬ (c = 41 + 10 * f + 5 ∧ 11 * l ≤ i ∧ i < 11 * l + vB (VM μ f)) → m1 c i = mn c i := by
              intro c i a b
              rw [← hm1, FLL_n _ (by omega), up_n _ _ (by omega)]
            have ca : cA μ m1 := fun c i q => by rw [s1 c i (by omega) (by omega), n1 c i (by omega) (by omega) (by omega)]
            obtain ⟨ri, rv⟩ := h.ri.cA ca
            have hv := rv f hf.1 f1
            have mf1 := ri.mf hf.1 f1
            rw [hv] at mf1
            obtain ⟨m3, k0, k1, k2, k3⟩ := m_keep ri.1 (by rw [ca 71 10 (by omega)]; omega)
            have e79 : ∀ j, m3 79 j = μ 79 j := fun j => (k1 79 j (by omega) (by omega)).trans (ca 79 j (by omega))
            have p' : ∀ j, stpM m3 f l 79 j = if j = 193 * f + l then 0 else if 193 * f + 6 + 10 * l ≤ j ∧ j < 193 * f + 16 + 10 * l then -1 else μ 79 j := by
              intro j
              unfold stpM
              by_cases q2 : 193 * f + 6 + 10 * l ≤ j ∧ j < 193 * f + 16 + 10 * l
              · rw [FLL_i _ q2, if_neg (by omega), if_pos q2]
              · rw [FLL_n _ (by omega), if_neg q2]
                by_cases q : j = 193 * f + l
                · rw [if_pos q, q, up_s]
                · rw [if_neg q, up_ni _ _ q, e79]
            have vp : vP (VP μ (stpM m3 f l 79) f) = vP (VM μ f) := by
              rw [vq_P, p', if_neg (by omega), if_neg (by omega)]
              rfl
            have vf : ∀ l', vF (VP μ (stpM m3 f l 79) f) l' = if l' = l then 0 else vF (VM μ f) l' := by
              intro l'
              show vF (VP μ (stpM m3 f l 79) f) l' = if l' = l then 0 else vF (VP μ (μ 79) f) l'
              rw [vq_F, vq_F]
              by_cases q : μ 76 f ≠ 0 ∧ 0 ≤ l' ∧ l' < 6
              · rw [if_pos q, if_pos q, p']
                by_cases z : l' = l
                · rw [if_pos z, if_pos (by omega)]
                · rw [if_neg z, if_neg (by omega), if_neg (by omega)]
              · rw [if_neg q, if_neg q, if_neg]
                intro z
                exact q ⟨e2, by omega⟩
            have vc : ∀ b l', vC (VP μ (stpM m3 f l 79) f) b l' = if l' = l then -1 else vC (VM μ f) b l' := by
              intro b l'
              show vC (VP μ (stpM m3 f l 79) f) b l' = if l' = l then -1 else vC (VP μ (μ 79) f) b l'
              rw [vq_C, vq_C]
              by_cases q : μ 76 f ≠ 0 ∧ 0 ≤ b ∧ b < 10 ∧ 0 ≤ l' ∧ l' < 6
              · rw [if_pos q, if_pos q, p', if_neg (by omega)]
                by_cases z : l' = l
                · rw [if_pos z, if_pos (by omega)]
                · rw [if_neg z, if_neg (by omega)]
              · rw [if_neg q, if_neg q]
                split <;> rfl
            have vr : ∀ b l', vR (VP μ (stpM m3 f l 79) f) b l' = vR (VM μ f) b l' := vR_eq (fun j a b => by rw [p', if_neg (by omega), if_neg (by omega)])
            have vt : ∀ b l', vT (VP μ (stpM m3 f l 79) f) b l' = vT (VM μ f) b l' := vT_eq (fun j a b => by rw [p', if_neg (by omega), if_neg (by omega)])
            have u2 : ∀ c i, c ≠ 79 → stpM m3 f l c i = m3 c i := by
              intro c i q
              unfold stpM
              rw [FLL_n _ (by omega), up_nc _ _ q]
            have hF1 : vF (VM μ f) l = 1 := by have := hw.f l; omega
            have hI : Inv M (stpM m3 f l) := by
              refine Inv_plan h hf.1 f1 e2 (kd := 11) (l := l) (p := 0) (o := 1) e3 n1 n2 n3 n4 n5 (fun c i a b => s1 c i (by omega) (by omega)) k1 k2 k3 u2 (fun j q => by rw [p', if_neg (by omega), if_neg (by omega)]) ?_ ?_ ?_ ?_
              · refine Or.inr (Or.inr (Or.inr (Or.inr ⟨Or.inr rfl, Or.inr rfl, fun b b0 b1 q => ?_, fun j a b => ?_⟩)))
                · rw [p', if_neg (by omega), if_pos (by omega)] at q
                  omega
                · rw [p']
                  by_cases q : j = 193 * f + l
                  · rw [if_pos q, q, ← vF_pl e2 e3.1 (by omega), hF1]
                  · rw [if_neg q, if_neg q]
                    by_cases q2 : 193 * f + 6 + 10 * l ≤ j ∧ j < 193 * f + 16 + 10 * l
                    · rw [if_pos q2, vC_pl e2 (by omega) (by omega) e3.1 (by omega)]
                      congr 1
                      omega
                    · rw [if_neg q2, if_neg q2]
              · refine WF_of hw rfl rfl rfl (by rw [vp]; omega) (fun _ => rfl) (fun _ => rfl) (fun l' => ?_) (fun b l' => ?_) (fun b l => by rw [vr]; exact hw.b b l) (fun b l => by rw [vt]; exact hw.t b l)
                · rw [vf]
                  by_cases q : l' = l
                  · rw [if_pos q]
                    exact Or.inl rfl
                  · rw [if_neg q]
                    exact hw.f l'
                · rw [vc]
                  by_cases q : l' = l
                  · rw [if_pos q]
                    exact Or.inl rfl
                  · rw [if_neg q]
                    exact hw.c b l'
              · have am : ∀ c i, 41 + 10 * f ≤ c → c ≤ 48 + 10 * f → ¬ (c = 41 + 10 * f + 4 ∧ i = l) → ¬ (c = 41 + 10 * f + 5 ∧ 11 * l ≤ i ∧ i < 11 * l + vB (VM μ f)) → m1 c i = μ c i := fun c i a b d e => by rw [s1 c i d e, n1 c i (by omega) (by omega) (by omega)]
                refine CF_mk hc hr.2.1 (fun i a b => am _ _ (by omega) (by omega) (by omega) (by omega)) (by rw [am _ _ (by omega) (by omega) (by omega) (by omega), vp]; exact hc.c4) (fun c i a b => am _ _ (by omega) (by omega) (by omega) (by omega)) rfl rfl rfl (fun _ => rfl) (fun _ => rfl) (fun l' a b => ?_) (fun b l' a b2 c d => ⟨?_, ?_⟩) (fun b l' a b2 c d => ?_)
                · rw [vf]
                  by_cases q : l' = l
                  · rw [if_pos q, q, ← hm1, FLL_n _ (by omega), up_s]
                  · rw [if_neg q, am _ _ (by omega) (by omega) (by omega) (by omega)]
                    exact hc.f a b
                · rw [vc]
                  by_cases q : l' = l
                  · rw [if_pos q]
                    by_cases z : b < vB (VM μ f)
                    · rw [q, ← hm1, FLL_i _ (by omega)]
                    · rw [am _ _ (by omega) (by omega) (by omega) (by omega), hc.cX a b2 c d]
                      have hcb := hw.c b l'
                      omega
                  · rw [if_neg q, am _ _ (by omega) (by omega) (by omega) (by omega)]
                    exact hc.cX a b2 c d
                · rw [am _ _ (by omega) (by omega) (by omega) (by omega), vr]
                  exact hc.bX a b2 c d
                · rw [am _ _ (by omega) (by omega) (by omega) (by omega), vt]
                  exact hc.tX a b2 c d
              · intro k hk
                have hkp : isP (VM μ f) k := by
                  rcases hmu.1 k with q | q
                  · omega
                  · exact q.2
                refine ⟨hkp.1, hkp.2.1, PI_cg (V := VM μ f) (V' := VP μ (stpM m3 f l 79) f) rfl rfl (fun _ => rfl) (fun _ x => by rw [vr]; exact x) (fun t x => ?_) (fun _ x => by rw [vt]; exact x) hkp.2.2⟩
                rw [vc]
                by_cases q : k % 66 / 11 = l
                · exfalso
                  have hcx := hw.c (k % 11) (k % 66 / 11)
                  have nf := (FU_n (by omega)).1 (Decidable.not_not.1 e5) (k % 11) (by omega) (by omega)
                  apply nf
                  rw [show 198 + 11 * l + k % 11 = k by omega]
                  exact hk
                · rw [if_neg q]
                  exact x
            rw [n0, bnd_s, hset, bnd_s]
            refine ⟨_, _, stpM m3 f l, rfl, ?_, hI⟩
            show EE 192 0 [(48, 71), (0, f), (0, l), (9, 0), (9, 0)] [] m1 = _
            rw [rs m1 mf1, if_neg e4, m_strip hw e2 mf1 (MU_cA ca hmu) k0 k1 e3 _ _ (by omega) (by omega) (by omega), if_neg e5, Int.zero_add]
      · rw [if_neg e3]
        refine ⟨_, _, _, rfl, ?_, h⟩
        simp only [q192_0, m_isFrame, m_isMissing (h.mf hf.1 f1), m_isLift hw (h.mf hf.1 f1), bnd_s, b2i_0, ite_not, if_pos hf, if_neg e2, if_neg e3]
  · simp only [if_neg hf, if_true]
    refine ⟨_, _, _, rfl, ?_, h⟩
    simp only [q192_0, m_isFrame, bnd_s, b2i_0, ite_not, if_neg hf]
end SS
