/-! floor -/
section FL
variable {M μ μ' m m3 : MM} {A f : Int} {V : FV} {U : Int → Int}
theorem vC_pl (e2 : μ 76 f ≠ 0) {b l : Int} (b0 : 0 ≤ b) (b1 : b < 10) (l0 : 0 ≤ l) (l1 : l < 6) : vC (VM μ f) b l = μ 79 (193 * f + 6 + 10 * l + b) := by
  show vC (VP μ (μ 79) f) b l = _
  rw [vq_C, if_pos ⟨e2, b0, b1, l0, l1⟩]
theorem vF_pl (e2 : μ 76 f ≠ 0) {l : Int} (l0 : 0 ≤ l) (l1 : l < 6) : vF (VM μ f) l = μ 79 (193 * f + l) := by
  show vF (VP μ (μ 79) f) l = _
  rw [vq_F, if_pos ⟨e2, l0, l1⟩]
theorem st_floor (h : Inv M μ) (f l : Int) : ST M (EE 109 0 [(47, 1), (0, f), (0, l), (9, 0), (9, 0)] [] μ) (fun m => EE 191 0 [(48, 71), (0, f), (0, l), (9, 0)] [] m) := by
  unfold ST
  rw [q109_0, c_frameAt h.s, bnd_s]
  by_cases hf : 0 ≤ f ∧ f ≤ 2
  · have f1 : f < 3 := by omega
    have hw := h.wf hf.1 f1
    have hr := hw.r
    have hc := h.cf hf.1 f1
    have hA : 41 + 10 * f ≠ 0 := by omega
    have hh := h.h.1
    have fx := hw.f l
    simp only [if_pos hf, if_neg hA, nn_ok _ hA, hc.c0, b2i_0, ite_not, ne_eq, Decidable.not_not, c_hasLift hc, c_hasRow hw hc, bnd_s]
    by_cases e2 : vB (VM μ f) = 0
    · rw [if_pos e2]
      refine ⟨_, _, _, rfl, ?_, h⟩
      simp only [q191_0, m_isFrame, m_isMissing (h.mf hf.1 f1), bnd_s, b2i_0, ite_not, if_pos hf, if_pos e2]
    · rw [if_neg e2]
      by_cases e3 : inL (VM μ f) l
      · rw [if_pos e3, h.s.1.2.2.2.2.2.2.2.1, nn13]
        obtain ⟨mn, n0, n1, n2, n3, n4, n5⟩ := c_note h.s hw hc ⟨hh.1, hh.2.1⟩ ⟨hh.2.2.2.1, hh.2.2.2.2⟩ 10 l 0 (vF (VM μ f) l)
        have nr : 15 ≤ nwS μ ∧ nwS μ ≤ 23 := by
          unfold nwS
          omega
        have hcn : CF mn (41 + 10 * f) (VM μ f) := CF_ag (fun c i q => n1 c i (by omega) (by omega) (by omega)) hc
        have hset : EE 24 0 [(41, 41 + 10 * f), (0, l), (0, 1)] [] mn = some (0, up mn (41 + 10 * f + 4) l 1) := by
          rw [q24_0, c_hasLift hcn, bnd_s, b2i_t e3, if_neg (by omega), hcn.c9, nnA hcn.fr _ (by omega), ix4 hcn.fr _ (by omega) (by omega), zo_1]
        have ca : cA μ (up mn (41 + 10 * f + 4) l 1) := fun c i q => by rw [up_nc _ _ (by omega), n1 c i (by omega) (by omega) (by omega)]
        obtain ⟨ri, rv⟩ := h.ri.cA ca
        have hv := rv f hf.1 f1
        have mf1 := ri.mf hf.1 f1
        rw [hv] at mf1
        obtain ⟨m3, k0, k1, k2, k3⟩ := m_keep ri.1 (by rw [ca 71 10 (by omega)]; omega)
        have hm3 : MRf m3 := MRf_ag (fun i q => k1 71 i (by omega) (by omega)) ri.1
        have e79 : ∀ j, m3 79 j = μ 79 j := fun j => (k1 79 j (by omega) (by omega)).trans (ca 79 j (by omega))
        have p' : ∀ j, up m3 79 (193 * f + l) 1 79 j = if j = 193 * f + l then 1 else μ 79 j := by
          intro j
          by_cases q : j = 193 * f + l
          · rw [if_pos q, q, up_s]
          · rw [if_neg q, up_ni _ _ q, e79]
        have hFl := vF_pl (μ := μ) e2 e3.1 (show l < 6 by omega)
        have vp : vP (VP μ (up m3 79 (193 * f + l) 1 79) f) = vP (VM μ f) := by
          rw [vq_P, p', if_neg (by omega)]
          rfl
        have vf : ∀ l', vF (VP μ (up m3 79 (193 * f + l) 1 79) f) l' = if l' = l then 1 else vF (VM μ f) l' := by
          intro l'
          show vF (VP μ (up m3 79 (193 * f + l) 1 79) f) l' = if l' = l then 1 else vF (VP μ (μ 79) f) l'
          rw [vq_F, vq_F]
          by_cases q : μ 76 f ≠ 0 ∧ 0 ≤ l' ∧ l' < 6
          · rw [if_pos q, if_pos q, p']
            by_cases z : l' = l
            · rw [if_pos z, if_pos (by omega)]
            · rw [if_neg z, if_neg (by omega)]
          · rw [if_neg q, if_neg q, if_neg]
            intro z
            exact q ⟨e2, by omega⟩
        have vc : ∀ b l', vC (VP μ (up m3 79 (193 * f + l) 1 79) f) b l' = vC (VM μ f) b l' := vC_eq (fun j a b => by rw [p', if_neg (by omega)])
        have vr : ∀ b l', vR (VP μ (up m3 79 (193 * f + l) 1 79) f) b l' = vR (VM μ f) b l' := vR_eq (fun j a b => by rw [p', if_neg (by omega)])
        have vt : ∀ b l', vT (VP μ (up m3 79 (193 * f + l) 1 79) f) b l' = vT (VM μ f) b l' := vT_eq (fun j a b => by rw [p', if_neg (by omega)])
        have hI : Inv M (up m3 79 (193 * f + l) 1) := by
          refine Inv_plan h hf.1 f1 e2 (kd := 10) (l := l) (p := 0) (o := vF (VM μ f) l) e3 n1 n2 n3 n4 n5 (fun c i a b => up_nc _ _ (by omega)) k1 k2 k3 (fun c i q => up_nc _ _ q) (fun j q => by rw [p', if_neg (by omega)]) ?_ ?_ ?_ ?_
          · refine Or.inr (Or.inr (Or.inr (Or.inr ⟨Or.inl rfl, by omega, fun b b0 b1 q => ?_, fun j a b => ?_⟩)))
            · rw [p', if_neg (by omega)] at q
              rw [vC_pl e2 b0 b1 e3.1 (by omega)]
              exact q
            · rw [p']
              by_cases q : j = 193 * f + l
              · rw [if_pos q, q, hFl]
              · rw [if_neg q, if_neg q]
                by_cases q2 : 193 * f + 6 + 10 * l ≤ j ∧ j < 193 * f + 16 + 10 * l
                · rw [if_pos q2, vC_pl e2 (by omega) (by omega) e3.1 (by omega)]
                  congr 1
                  omega
                · rw [if_neg q2]
          · refine WF_of hw rfl rfl rfl (by rw [vp]; omega) (fun _ => rfl) (fun _ => rfl) (fun l' => ?_) (fun b l => by rw [vc]; exact hw.c b l) (fun b l => by rw [vr]; exact hw.b b l) (fun b l => by rw [vt]; exact hw.t b l)
            rw [vf]
            by_cases q : l' = l
            · rw [if_pos q, q]
              exact Or.inr ⟨rfl, e3⟩
            · rw [if_neg q]
              exact hw.f l'
          · have am : ∀ c i, 41 + 10 * f ≤ c → c ≤ 48 + 10 * f → ¬ (c = 41 + 10 * f + 4 ∧ i = l) → up mn (41 + 10 * f + 4) l 1 c i = μ c i := fun c i a b d => by rw [up_n _ _ (by omega), n1 c i (by omega) (by omega) (by omega)]
            refine CF_mk hc hr.2.1 (fun i a b => am _ _ (by omega) (by omega) (by omega)) (by rw [am _ _ (by omega) (by omega) (by omega), vp]; exact hc.c4) (fun c i a b => am _ _ (by omega) (by omega) (by omega)) rfl rfl rfl (fun _ => rfl) (fun _ => rfl) (fun l' a b => ?_) (fun b l' a b2 c d => ?_) (fun b l' a b2 c d => ?_)
            · rw [vf]
              by_cases q : l' = l
              · rw [if_pos q, q, up_s]
              · rw [if_neg q, am _ _ (by omega) (by omega) (by omega)]
                exact hc.f a b
            · rw [am _ _ (by omega) (by omega) (by omega), am _ _ (by omega) (by omega) (by omega), vc, vr]
              exact ⟨hc.cX a b2 c d, hc.bX a b2 c d⟩
            · rw [am _ _ (by omega) (by omega) (by omega), vt]
              exact hc.tX a b2 c d
          · intro k hk
            have hkp : isP (VM μ f) k := by
              rcases (h.mu hf.1 f1).1 k with q | q
              · omega
              · exact q.2
            exact ⟨hkp.1, hkp.2.1, PI_cg (V := VM μ f) (V' := VP μ (up m3 79 (193 * f + l) 1 79) f) rfl rfl (fun _ => rfl) (fun _ x => by rw [vr]; exact x) (fun _ x => by rw [vc]; exact x) (fun _ x => by rw [vt]; exact x) hkp.2.2⟩
        have hans : EE 191 0 [(48, 71), (0, f), (0, l), (9, 0)] [] (up mn (41 + 10 * f + 4) l 1) = some (1 - vF (VM μ f) l, up m3 79 (193 * f + l) 1) := by
          simp only [q191_0, m_isFrame, m_isMissing mf1, m_isLift hw mf1, bnd_s, b2i_0, ite_not, if_pos hf, if_neg e2, if_pos e3]
          rw [k0, bnd_s, hm3.c7, nn79, nn79, w32_l (x := 193 * f) (by omega) (by omega), w32_l (x := 193 * f + l) (by omega) (by omega), jx79 _ (by omega) (by omega), jx79 _ (by omega) (by omega), e79, ← hFl, w32_l (by omega) (by omega)]
        by_cases e4 : vF (VM μ f) l = 0
        · rw [e4] at n0 hans
          rw [if_pos e4, n0, bnd_s, hset, bnd_s]
          exact ⟨_, _, _, rfl, hans, hI⟩
        · have e5 : vF (VM μ f) l = 1 := by omega
          rw [e5] at n0 hans
          rw [if_neg e4, nn13, n0, bnd_s, hset, bnd_s]
          exact ⟨_, _, _, rfl, hans, hI⟩
      · rw [if_neg e3]
        refine ⟨_, _, _, rfl, ?_, h⟩
        simp only [q191_0, m_isFrame, m_isMissing (h.mf hf.1 f1), m_isLift hw (h.mf hf.1 f1), bnd_s, b2i_0, ite_not, if_pos hf, if_neg e2, if_neg e3]
  · simp only [if_neg hf, if_true]
    refine ⟨_, _, _, rfl, ?_, h⟩
    simp only [q191_0, m_isFrame, bnd_s, b2i_0, ite_not, if_neg hf]
end FL
