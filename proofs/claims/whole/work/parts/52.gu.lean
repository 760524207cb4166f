/-! gust, board -/
section GV
variable {M μ μ' : MM} {A f : Int} {V V' : FV} {P P' : Int → Int}
theorem vF_eq (h : ∀ l, 0 ≤ l → l < 6 → P' (193 * f + l) = P (193 * f + l)) (l : Int) : vF (VP μ P' f) l = vF (VP μ P f) l := by
  rw [vq_F, vq_F]
  split
  · exact h l (by omega) (by omega)
  · rfl
theorem vC_eq (h : ∀ j, 193 * f + 6 ≤ j → j < 193 * f + 66 → P' j = P j) (b l : Int) : vC (VP μ P' f) b l = vC (VP μ P f) b l := by
  rw [vq_C, vq_C]
  split
  · exact h _ (by omega) (by omega)
  · rfl
theorem vR_eq (h : ∀ j, 193 * f + 66 ≤ j → j < 193 * f + 126 → P' j = P j) (b l : Int) : vR (VP μ P' f) b l = vR (VP μ P f) b l := by
  rw [vq_R, vq_R]
  split
  · exact h _ (by omega) (by omega)
  · rfl
theorem vT_eq (h : ∀ j, 193 * f + 126 ≤ j → j < 193 * f + 192 → P' j = P j) (b l : Int) : vT (VP μ P' f) b l = vT (VP μ P f) b l := by
  rw [vq_T, vq_T]
  split
  · exact h _ (by omega) (by omega)
  · rfl
theorem WF_of (hw : WF V) (hB : vB V' = vB V) (hL : vL V' = vL V) (hH : vH V' = vH V) (hP : 0 ≤ vP V' ∧ vP V' ≤ 20) (hK : ∀ b, vK V' b = vK V b) (hW : ∀ b, vW V' b = vW V b) (hF : ∀ l, vF V' l = 0 ∨ (vF V' l = 1 ∧ inL V l)) (hC : ∀ b l, vC V' b l = -1 ∨ (0 ≤ vC V' b l ∧ vC V' b l ≤ 6 ∧ inB V b ∧ inL V l ∧ ¬ (l = 0 ∧ gat V b))) (hR : ∀ b l, vR V' b l = 0 ∨ (vR V' b l = 1 ∧ inB V b ∧ inL V l ∧ ¬ (l = 0 ∧ gat V b))) (hT : ∀ s l, vT V' s l = 0 ∨ (vT V' s l = 1 ∧ inS V s ∧ inL V l ∧ ¬ (l = 0 ∧ ¬ fot V s))) : WF V' := by
  have hr := hw.r
  refine ⟨⟨by omega, by omega, by omega, by omega, by omega, by omega, hP.1, hP.2, ?_⟩, ?_, ?_, ?_, ?_, ?_⟩
  · rw [hB, hL]
    exact hr.2.2.2.2.2.2.2.2
  · intro b
    unfold inB
    rw [hB, hK, hW]
    exact hw.k b
  · intro l
    unfold inL
    rw [hL]
    exact hF l
  · intro b l
    unfold inB inL gat
    rw [hB, hL, hK]
    exact hC b l
  · intro b l
    unfold inB inL gat
    rw [hB, hL, hK]
    exact hR b l
  · intro s l
    unfold inS inL fot
    rw [hB, hL, hK, hK]
    exact hT s l
theorem isP_of2 (h : ∀ t l p, PI V t l p → PI V' t l p) {k : Int} (hk : isP V k) : isP V' k := ⟨hk.1, hk.2.1, h _ _ _ hk.2.2⟩
theorem PI_cg (hB : vB V' = vB V) (hL : vL V' = vL V) (hK : ∀ b, vK V' b = vK V b) {t l p : Int} (h2 : t = 2 → vR V p l = 1 → vR V' p l = 1) (h3 : t = 3 → 0 ≤ vC V p l → 0 ≤ vC V' p l) (h4 : t = 4 → vT V p l = 1 → vT V' p l = 1) (h : PI V t l p) : PI V' t l p := by
  unfold PI inS inB inL gat fot at *
  rw [hB, hL, hK, hK]
  rcases h with q | q | q | q | q | q
  · exact Or.inl q
  · exact Or.inr (Or.inl q)
  · exact Or.inr (Or.inr (Or.inl ⟨q.1, h2 q.1 q.2⟩))
  · exact Or.inr (Or.inr (Or.inr (Or.inl ⟨q.1, h3 q.1 q.2⟩)))
  · exact Or.inr (Or.inr (Or.inr (Or.inr (Or.inl ⟨q.1, h4 q.1 q.2⟩))))
  · exact Or.inr (Or.inr (Or.inr (Or.inr (Or.inr q))))
theorem st_gust (h : Inv M μ) (f v : Int) : ST M (EE 114 0 [(47, 1), (0, f), (0, v), (9, 0), (9, 0)] [] μ) (fun m => EE 196 0 [(48, 71), (0, f), (0, v), (9, 0)] [] m) := by
  unfold ST
  rw [q114_0, c_frameAt h.s, bnd_s]
  by_cases hf : 0 ≤ f ∧ f ≤ 2
  · have f1 : f < 3 := by omega
    have hw := h.wf hf.1 f1
    have hr := hw.r
    have hc := h.cf hf.1 f1
    have hA : 41 + 10 * f ≠ 0 := by omega
    have hh := h.h.1
    simp only [if_pos hf, if_neg hA, nn_ok _ hA, hc.c0, b2i_0, ite_not, ne_eq, Decidable.not_not, c_within, bnd_s]
    by_cases e1 : 0 ≤ v ∧ v ≤ 20
    · rw [if_pos e1]
      by_cases e2 : vB (VM μ f) = 0
      · rw [if_pos e2]
        refine ⟨_, _, _, rfl, ?_, h⟩
        simp only [q196_0, m_isFrame, m_isIn, m_isMissing (h.mf hf.1 f1), bnd_s, b2i_0, ite_not, if_pos hf, if_pos e1, if_pos e2]
      · rw [if_neg e2, h.s.1.2.2.2.2.2.2.2.1, nn13, hc.c4]
        obtain ⟨mn, n0, n1, n2, n3, n4, n5⟩ := c_note h.s hw hc ⟨hh.1, hh.2.1⟩ ⟨hh.2.2.2.1, hh.2.2.2.2⟩ 12 0 0 (vP (VM μ f))
        have nr : 15 ≤ nwS μ ∧ nwS μ ≤ 23 := by
          unfold nwS
          omega
        rw [n0, bnd_s]
        have ca : cA μ (up mn (41 + 10 * f) 4 v) := fun c i q => by rw [up_nc _ _ (by omega), n1 c i (by omega) (by omega) (by omega)]
        obtain ⟨ri, rv⟩ := h.ri.cA ca
        have hv := rv f hf.1 f1
        have mf1 := ri.mf hf.1 f1
        rw [hv] at mf1
        obtain ⟨m3, k0, k1, k2, k3⟩ := m_keep ri.1 (by rw [ca 71 10 (by omega)]; omega)
        have hm3 : MRf m3 := MRf_ag (fun i q => k1 71 i (by omega) (by omega)) ri.1
        have e79 : ∀ j, m3 79 j = μ 79 j := fun j => (k1 79 j (by omega) (by omega)).trans (ca 79 j (by omega))
        have p' : ∀ j, up m3 79 (193 * f + 192) v 79 j = if j = 193 * f + 192 then v else μ 79 j := by
          intro j
          by_cases q : j = 193 * f + 192
          · rw [if_pos q, q, up_s]
          · rw [if_neg q, up_ni _ _ q, e79]
        have hPv : vP (VM μ f) = μ 79 (193 * f + 192) := rfl
        have vp : vP (VP μ (up m3 79 (193 * f + 192) v 79) f) = v := by rw [vq_P, p', if_pos rfl]
        have vf : ∀ l, vF (VP μ (up m3 79 (193 * f + 192) v 79) f) l = vF (VM μ f) l := vF_eq (fun l a b => by rw [p', if_neg (by omega)])
        have vc : ∀ b l, vC (VP μ (up m3 79 (193 * f + 192) v 79) f) b l = vC (VM μ f) b l := vC_eq (fun j a b => by rw [p', if_neg (by omega)])
        have vr : ∀ b l, vR (VP μ (up m3 79 (193 * f + 192) v 79) f) b l = vR (VM μ f) b l := vR_eq (fun j a b => by rw [p', if_neg (by omega)])
        have vt : ∀ b l, vT (VP μ (up m3 79 (193 * f + 192) v 79) f) b l = vT (VM μ f) b l := vT_eq (fun j a b => by rw [p', if_neg (by omega)])
        have hI : Inv M (up m3 79 (193 * f + 192) v) := by
          refine Inv_plan h hf.1 f1 e2 (kd := 12) (l := 0) (p := 0) (o := vP (VM μ f)) ⟨by omega, by omega⟩ n1 n2 n3 n4 n5 (fun c i a b => up_n _ _ (by omega)) k1 k2 k3 (fun c i q => up_nc _ _ q) (fun j q => by rw [p', if_neg (by omega)]) ?_ ?_ ?_ ?_
          · refine Or.inr (Or.inr (Or.inr (Or.inl ⟨rfl, fun j a b => ?_⟩)))
            rw [p', hPv]
            by_cases q : j = 193 * f + 192
            · rw [if_pos q, q]
            · rw [if_neg q, if_neg q]
          · exact WF_of hw rfl rfl rfl (by rw [vp]; exact e1) (fun _ => rfl) (fun _ => rfl) (fun l => by rw [vf]; exact hw.f l) (fun b l => by rw [vc]; exact hw.c b l) (fun b l => by rw [vr]; exact hw.b b l) (fun b l => by rw [vt]; exact hw.t b l)
          · have am : ∀ c i, 41 + 10 * f ≤ c → c ≤ 48 + 10 * f → ¬ (c = 41 + 10 * f ∧ i = 4) → up mn (41 + 10 * f) 4 v c i = μ c i := fun c i a b d => by rw [up_n _ _ (by omega), n1 c i (by omega) (by omega) (by omega)]
            refine CF_mk hc hr.2.1 (fun i a b => am _ _ (by omega) (by omega) (by omega)) (by rw [up_s, vp]) (fun c i a b => am _ _ (by omega) (by omega) (by omega)) rfl rfl rfl (fun _ => rfl) (fun _ => rfl) (fun l a b => ?_) (fun b l a b2 c d => ?_) (fun b l a b2 c d => ?_)
            · rw [am _ _ (by omega) (by omega) (by omega), vf]
              exact hc.f a b
            · rw [am _ _ (by omega) (by omega) (by omega), am _ _ (by omega) (by omega) (by omega), vc, vr]
              exact ⟨hc.cX a b2 c d, hc.bX a b2 c d⟩
            · rw [am _ _ (by omega) (by omega) (by omega), vt]
              exact hc.tX a b2 c d
          · intro k hk
            have hkp : isP (VM μ f) k := by
              rcases (h.mu hf.1 f1).1 k with q | q
              · omega
              · exact q.2
            exact isP_of2 (V := VM μ f) (V' := VP μ (up m3 79 (193 * f + 192) v 79) f) (fun t l p w => PI_cg (V := VM μ f) (V' := VP μ (up m3 79 (193 * f + 192) v 79) f) rfl rfl (fun _ => rfl) (fun _ x => by rw [vr]; exact x) (fun _ x => by rw [vc]; exact x) (fun _ x => by rw [vt]; exact x) w) hkp
        refine ⟨_, _, up m3 79 (193 * f + 192) v, rfl, ?_, hI⟩
        simp only [q196_0, m_isFrame, m_isIn, m_isMissing mf1, bnd_s, b2i_0, ite_not, if_pos hf, if_pos e1, if_neg e2]
        rw [k0, bnd_s, hm3.c7, nn79, nn79, w32_l (x := 193 * f) (by omega) (by omega), w32_l (by omega) (by omega), jx79 _ (by omega) (by omega), jx79 _ (by omega) (by omega), e79]
        rfl
    · rw [if_neg e1]
      refine ⟨_, _, _, rfl, ?_, h⟩
      simp only [q196_0, m_isFrame, m_isIn, bnd_s, b2i_0, ite_not, if_pos hf, if_neg e1]
  · simp only [if_neg hf, if_true]
    refine ⟨_, _, _, rfl, ?_, h⟩
    simp only [q196_0, m_isFrame, bnd_s, b2i_0, ite_not, if_neg hf]
end GV
