/-! people, days -/
section MV
variable {M μ μ' : MM}
theorem c_isPerson (h : GS μ) (p : Int) : EE 152 0 [(47, 1), (0, p)] [] μ = some (b2i (0 ≤ p ∧ p ≤ 9), μ) := by
  rw [q152_0, h.1.2.2.2.2.2.2.2.2.2.1, nn39, cle39, w32_l (by omega) (by omega), c_within, bnd_s, b2i_zo, b2i_c (q := 0 ≤ p ∧ p ≤ 9) (by omega)]
theorem st_leave (h : Inv M μ) (p : Int) : ST M (EE 139 0 [(47, 1), (0, p), (9, 0)] [] μ) (fun m => EE 261 0 [(48, 71), (0, p), (9, 0)] [] m) := by
  unfold ST
  have hs := h.s.1
  simp only [q139_0, q261_0, c_isPerson h.s, m_isIn, bnd_s, b2i_0, ite_not, hs.2.2.2.2.2.2.2.2.2.1, nn39]
  by_cases g : 0 ≤ p ∧ p ≤ 9
  · have hp := h.p p g.1 (by omega)
    have hN : NON = -1000000005 := rfl
    simp only [if_pos g]
    rw [jx39 _ (by omega) (by omega)]
    by_cases e : μ 39 p < 0
    · rw [if_pos e]
      refine ⟨_, _, _, rfl, ?_, h⟩
      rw [h.m.c13, nn84, jx84 _ (by omega) (by omega), if_pos (by omega)]
    · rw [if_neg e, jx39 _ (by omega) (by omega)]
      have hN : NON = -1000000005 := rfl
      refine ⟨_, _, up (up μ 39 p (-1)) 84 p NON, rfl, ?_, ?_⟩
      · rw [up_nc _ _ (by omega), h.m.c13, nn84, jx84 _ (by omega) (by omega), up_nc _ _ (by omega), if_neg (by omega), nn84, jx84 _ (by omega) (by omega), nn84, jx84 _ (by omega) (by omega), show μ 84 p = μ 39 p by omega]
      · refine Inv_P h (fun c i _ _ => ?_) (fun q q0 q1 => ?_)
        · rw [up_nc _ _ (by omega), up_nc _ _ (by omega)]
        · have hq := h.p q q0 q1
          unfold up
          repeat' split
          all_goals omega
  · simp only [if_neg g]
    exact ⟨_, _, _, rfl, rfl, h⟩
theorem m_manyOn (h : MRf μ) {f l : Int} (f0 : 0 ≤ f ∧ f < 3) (l0 : 0 ≤ l ∧ l < 6) : ∀ i acc, 0 ≤ i → 0 ≤ acc → acc ≤ i → EE 259 5 [(48, 71), (0, f), (0, l), (0, acc), (0, i)] [] μ = some (acc + SM (fun p => b2i (μ 84 p = 10 * f + l)) i 10, μ) := by
  refine up_ind 10 ?_ ?_
  · intro i hi acc _ _ _
    rw [q259_5, SM_e hi, Int.add_zero, if_neg (by omega)]
  · intro i hi ih acc _ _ _
    rw [q259_5, SM_s hi, if_pos hi, h.c13, nn84, jx84 _ (by omega) (by omega)]
    simp (disch := omega) only [w32_l, Int.add_zero]
    split
    · rename_i e
      rw [ih _ (by omega) (by omega) (by omega), b2i_t e, Int.add_assoc]
    · rename_i e
      rw [ih _ (by omega) (by omega) (by omega), b2i_f e, Int.zero_add]
theorem st_enter (h : Inv M μ) (p f l : Int) : ST M (EE 138 0 [(47, 1), (0, p), (0, f), (0, l), (9, 0)] [] μ) (fun m => EE 260 0 [(48, 71), (0, p), (0, f), (0, l), (9, 0)] [] m) := by
  unfold ST
  have hs := h.s.1
  simp only [q138_0, c_frameAt h.s, c_isPerson h.s, bnd_s, b2i_0, ite_not]
  by_cases g : 0 ≤ p ∧ p ≤ 9
  · simp only [if_pos g]
    by_cases hf : 0 ≤ f ∧ f ≤ 2
    · have hw := h.wf hf.1 (by omega)
      have hc := h.cf hf.1 (by omega)
      have hA : 41 + 10 * f ≠ 0 := by omega
      have hr := hw.r
      have hp := h.p p g.1 (by omega)
      have hN : NON = -1000000005 := rfl
      have hL : vL (VM μ f) = μ 74 f := rfl
      simp only [if_pos hf, if_neg hA, nn_ok _ hA, hc.c0, b2i_0, ite_not, ne_eq, Decidable.not_not, bnd_s, c_hasLift hc, c_hasTag hw hc]
      by_cases e2 : vB (VM μ f) = 0
      · simp only [if_pos e2]
        refine ⟨_, _, _, rfl, ?_, h⟩
        simp only [q260_0, m_isIn, m_isFrame, bnd_s, b2i_0, ite_not, if_pos g, if_pos hf, r_askedL h.ri, if_pos e2]
        rfl
      · simp only [if_neg e2]
        by_cases e3 : inL (VM μ f) l
        · have htg := rtg_c h.d (h.t hf.1 (by omega)) e3.1 (by omega)
          rw [show 41 + 10 * f + 9 = 50 + 10 * f by omega]
          simp only [if_pos e3]
          by_cases e4 : 0 ≤ μ (50 + 10 * f) l
          · rw [if_pos ⟨e3, e4⟩, hs.2.2.2.2.2.2.2.2.2.1, nn39, jx39 _ (by omega) (by omega)]
            rw [if_pos ⟨by omega, e4⟩] at htg
            by_cases e5 : μ 39 p < 0
            · rw [if_pos e5, nn39, jx39 _ (by omega) (by omega), q154_0, w32_l (x := 10 * f) (by omega) (by omega), w32_l (by omega) (by omega), c_peopleAt (GS_ag (fun c i q => up_nc _ _ (by omega)) h.s) _ _ _ (by omega) (by omega) (by omega), bnd_s]
              have hca : cA μ (up μ 39 p (10 * f + l)) := fun c i q => up_nc _ _ (by omega)
              obtain ⟨hri, hvm⟩ := h.ri.cA hca
              refine ⟨_, _, up (up μ 39 p (10 * f + l)) 84 p (10 * f + l), rfl, ?_, ?_⟩
              · simp only [q260_0, m_isIn, m_isFrame, bnd_s, b2i_0, ite_not, if_pos g, if_pos hf, r_askedL hri, hvm f hf.1 (by omega), if_neg e2, if_pos e3, if_true]
                rw [m_tagOf hri.1 hf.1 (by omega) e3.1 (by omega), bnd_s, show rtg (up μ 39 p (10 * f + l)) f l = rtg μ f l by
                  unfold rtg
                  rw [up_nc _ _ (by omega), up_nc _ _ (by omega)], htg, if_neg (by omega), hri.1.c13, nn84, jx84 _ (by omega) (by omega), up_nc _ _ (by omega), if_pos (by omega), nn84, jx84 _ (by omega) (by omega)]
                rw [w32_l (x := 10 * f) (by omega) (by omega), w32_l (by omega) (by omega), q259_0, m_manyOn (MRf_ag (fun i _ => up_nc _ _ (by omega)) hri.1) (by omega) (by omega) _ _ (by omega) (by omega) (by omega), bnd_s]
                rw [SM_c (g := fun q => b2i (up μ 39 p (10 * f + l) 39 q = 10 * f + l)) 0 (fun q q0 q1 => b2i_c ?_)]
                have hq := h.p q q0 q1
                unfold up
                repeat' split
                all_goals omega
              · refine Inv_P h (fun c i _ _ => ?_) (fun q q0 q1 => ?_)
                · rw [up_nc _ _ (by omega), up_nc _ _ (by omega)]
                · have hq := h.p q q0 q1
                  unfold up
                  repeat' split
                  all_goals omega
            · rw [if_neg e5]
              refine ⟨_, _, _, rfl, ?_, h⟩
              simp only [q260_0, m_isIn, m_isFrame, bnd_s, b2i_0, ite_not, if_pos g, if_pos hf, r_askedL h.ri, if_neg e2, if_pos e3, if_true]
              rw [m_tagOf h.m hf.1 (by omega) e3.1 (by omega), bnd_s, htg, if_neg (by omega), h.m.c13, nn84, jx84 _ (by omega) (by omega), if_neg (by omega)]
          · rw [if_neg (fun q => e4 q.2)]
            rw [if_neg (fun q => e4 q.2)] at htg
            refine ⟨_, _, _, rfl, ?_, h⟩
            simp only [q260_0, m_isIn, m_isFrame, bnd_s, b2i_0, ite_not, if_pos g, if_pos hf, r_askedL h.ri, if_neg e2, if_pos e3, if_true]
            rw [m_tagOf h.m hf.1 (by omega) e3.1 (by omega), bnd_s, htg, if_pos rfl]
        · simp only [if_neg e3]
          refine ⟨_, _, _, rfl, ?_, h⟩
          simp only [q260_0, m_isIn, m_isFrame, bnd_s, b2i_0, ite_not, if_pos g, if_pos hf, r_askedL h.ri, if_neg e2, if_neg e3]
          rfl
    · simp only [if_neg hf, if_true]
      refine ⟨_, _, _, rfl, ?_, h⟩
      simp only [q260_0, m_isIn, m_isFrame, bnd_s, b2i_0, ite_not, if_pos g, if_neg hf]
  · simp only [if_neg g]
    refine ⟨_, _, _, rfl, ?_, h⟩
    simp only [q260_0, m_isIn, bnd_s, b2i_0, ite_not, if_neg g]
theorem c_endFrom {A : Int} {V : FV} (hw : WF V) : ∀ i d (μ : MM), 0 ≤ i → CF μ A V → EE 59 2 [(41, A), d, (0, i)] [] μ = some (0, FLL μ (A + 9) i (vL V) (-1)) := by
  have hr := hw.r
  refine up_ind (vL V) ?_ ?_
  · intro i hi d μ _ h
    rw [q59_2, h.c2, if_neg (by omega), FLL_e _ _ hi]
  · intro i hi ih d μ i0 h
    rw [q59_2, h.c2, if_pos hi, c_setTag hw h _ ⟨i0, hi⟩, bnd_s, w32_l (by omega) (by omega), ih _ _ (by omega) (CF_ag (fun c j q => up_nc _ _ (by omega)) h), FLL_s _ _ hi]
theorem c_endBefore {A : Int} {V : FV} (hw : WF V) (n : Int) : ∀ i (μ : MM), 0 ≤ i → CF μ A V → EE 60 2 [(41, A), (0, n), (0, i)] [] μ = some (0, CLB μ (A + 9) i (vL V) n) := by
  have hr := hw.r
  refine up_ind (vL V) ?_ ?_
  · intro i hi μ _ h
    rw [q60_2, h.c2, if_neg (by omega), CLB_e _ _ hi]
  · intro i hi ih μ i0 h
    rw [q60_2, h.c2, if_pos hi, c_tagOf hw h ⟨i0, hi⟩, bnd_s, c_setTag hw h _ ⟨i0, hi⟩, bnd_s, w32_l (by omega) (by omega)]
    split
    · rename_i e
      rw [ih _ (by omega) (CF_ag (fun c j q => up_nc _ _ (by omega)) h), CLB_1 _ hi e]
    · rename_i e
      rw [ih _ (by omega) h, CLB_0 _ e]
/-- only tags of the class (and its day) differ -/
def tA (μ μ' : MM) : Prop := ∀ c i, ¬ (c = 1 ∧ i = 11) → c ≠ 50 → c ≠ 60 → c ≠ 70 → μ' c i = μ c i
theorem tA_CF (e : tA μ μ') {A : Int} {V : FV} (h : CF μ A V) : CF μ' A V := by
  have := h.fr
  unfold Fr at this
  exact CF_ag (fun c i q => e c i (by omega) (by omega) (by omega) (by omega)) h
theorem tA_GS (e : tA μ μ') (h : GS μ) : GS μ' := GS_ag (fun c i q => e c i (by omega) (by omega) (by omega) (by omega)) h
theorem tA_r (μ : MM) : tA μ μ := fun _ _ _ _ _ _ => rfl
theorem tA_t {μ'' : MM} (h1 : tA μ μ') (h2 : tA μ' μ'') : tA μ μ'' := fun c i a b d e => (h2 c i a b d e).trans (h1 c i a b d e)
theorem tA_F {x lo hi v : Int} (hx : x = 50 ∨ x = 60 ∨ x = 70) : tA μ (FLL μ x lo hi v) := fun c i _ _ _ _ => FLL_n _ (by omega)
theorem tA_C {x lo hi v : Int} (hx : x = 50 ∨ x = 60 ∨ x = 70) : tA μ (CLB μ x lo hi v) := fun c i _ _ _ _ => if_neg (by omega)
theorem st_storm (h : Inv M μ) : ST M (EE 135 0 [(47, 1), (9, 0), (9, 0)] [] μ) (fun m => EE 254 0 [(48, 71), (9, 0), (9, 0)] [] m) := by
  unfold ST
  have w0 := h.wf (f := 0) (by omega) (by omega)
  have w1 := h.wf (f := 1) (by omega) (by omega)
  have w2 := h.wf (f := 2) (by omega) (by omega)
  have hL0 : vL (VM μ 0) = μ 74 0 := rfl
  have hL1 : vL (VM μ 1) = μ 74 1 := rfl
  have hL2 : vL (VM μ 2) = μ 74 2 := rfl
  rw [q135_0, c_tagsInAll h, bnd_s, q135_7, h.s.1.2.2.2.1, nn5, cle5, if_pos (by omega), nn5, jx5 _ (by omega) (by omega), h.s.2.1 0 (by omega) (by omega), nn_ok _ (by omega), q59_0, c_endFrom w0 _ _ _ (by omega) (h.cf (by omega) (by omega)), bnd_s]
  have t1 : tA μ (FLL μ (41 + 10 * 0 + 9) 0 (vL (VM μ 0)) (-1)) := tA_F (by omega)
  generalize hm1 : FLL μ (41 + 10 * 0 + 9) 0 (vL (VM μ 0)) (-1) = m1 at *
  rw [q135_7, (tA_GS t1 h.s).1.2.2.2.1, nn5, cle5, show w32 ((0 : Int) + 1) = 1 from rfl, if_pos (by omega), nn5, jx5 _ (by omega) (by omega), (tA_GS t1 h.s).2.1 1 (by omega) (by omega), nn_ok _ (by omega), q59_0, c_endFrom w1 _ _ _ (by omega) (tA_CF t1 (h.cf (by omega) (by omega))), bnd_s]
  have t2 : tA μ (FLL m1 (41 + 10 * 1 + 9) 0 (vL (VM μ 1)) (-1)) := tA_t t1 (tA_F (by omega))
  generalize hm2 : FLL m1 (41 + 10 * 1 + 9) 0 (vL (VM μ 1)) (-1) = m2 at *
  rw [q135_7, (tA_GS t2 h.s).1.2.2.2.1, nn5, cle5, show w32 ((1 : Int) + 1) = 2 from rfl, if_pos (by omega), nn5, jx5 _ (by omega) (by omega), (tA_GS t2 h.s).2.1 2 (by omega) (by omega), nn_ok _ (by omega), q59_0, c_endFrom w2 _ _ _ (by omega) (tA_CF t2 (h.cf (by omega) (by omega))), bnd_s]
  have t3 : tA μ (FLL m2 (41 + 10 * 2 + 9) 0 (vL (VM μ 2)) (-1)) := tA_t t2 (tA_F (by omega))
  generalize hm3 : FLL m2 (41 + 10 * 2 + 9) 0 (vL (VM μ 2)) (-1) = m3 at *
  rw [q135_7, (tA_GS t3 h.s).1.2.2.2.1, nn5, cle5, show w32 ((2 : Int) + 1) = 3 from rfl, if_neg (by omega)]
  refine ⟨_, _, FLL m3 83 0 18 NON, rfl, ?_, ?_⟩
  · have hM : MRf m3 := (tA_GS t3 h.s).2.2.2.2.2
    have loop : ∀ i (m : MM) v, 0 ≤ i → MRf m → EE 254 7 [(48, 71), (0, v), (0, i)] [] m = some (v, FLL m 83 i 18 NON) := by
      refine up_ind 18 ?_ ?_
      · intro i hi m v _ _
        rw [q254_7, if_neg (by omega), FLL_e _ _ hi]
      · intro i hi ih m v _ hm
        rw [q254_7, if_pos hi, hm.c12, nn83, jx83 _ (by omega) (by omega), w32_l (by omega) (by omega), ih _ _ (by omega) (MRf_ag (fun i _ => up_nc _ _ (by omega)) hm), FLL_s _ _ hi]
    show EE 254 0 [(48, 71), (9, 0), (9, 0)] [] m3 = some (rts μ, FLL m3 83 0 18 NON)
    rw [q254_0, m_tagsNow hM, bnd_s, loop _ _ _ (by omega) hM]
    have : ∀ f l, rtg m3 f l = rtg μ f l := by
      intro f l
      unfold rtg
      rw [t3 83 _ (by omega) (by omega) (by omega) (by omega), t3 71 _ (by omega) (by omega) (by omega) (by omega)]
    unfold rts
    simp only [this]
  · refine Inv_DT h (fun c i _ _ _ _ _ _ => ?_) ?_ (fun f f0 f1 l l0 l1 => ?_)
    · rw [FLL_n _ (by omega)]
      exact t3 c i (by omega) (by omega) (by omega) (by omega)
    · refine GD_ag (fun c i q => ?_) h.d
      rw [FLL_n _ (by omega), ← hm3, FLL_n _ (by omega), ← hm2, FLL_n _ (by omega), ← hm1, FLL_n _ (by omega)]
    · rw [FLL_n _ (by omega), t3 74 f (by omega) (by omega) (by omega) (by omega), FLL_i _ (by omega), FLL_n _ (by omega)]
      by_cases e : l < μ 74 f
      · refine Or.inr (Or.inl ⟨e, ?_, Or.inl rfl⟩)
        have hf : f = 0 ∨ f = 1 ∨ f = 2 := by omega
        rcases hf with q | q | q
        · subst q
          rw [← hm3, FLL_n _ (by omega), ← hm2, FLL_n _ (by omega), ← hm1]
          exact if_pos (by omega)
        · subst q
          rw [← hm3, FLL_n _ (by omega), ← hm2]
          exact if_pos (by omega)
        · subst q
          rw [← hm3]
          exact if_pos (by omega)
      · exact Or.inl ⟨by omega, rfl⟩
theorem st_day (h : Inv M μ) (n : Int) : ST M (EE 134 0 [(47, 1), (0, n), (9, 0)] [] μ) (fun m => EE 252 0 [(48, 71), (0, n)] [] m) := by
  unfold ST
  have hN : NON = -1000000005 := rfl
  have hd := h.d
  unfold GD at hd
  simp only [q134_0, q252_0, c_within, m_isIn, bnd_s, b2i_0, ite_not]
  by_cases g : 0 ≤ n ∧ n ≤ 1000
  · simp only [if_pos g]
    rw [w32_l (by omega) (by omega), hd.1]
    by_cases g2 : 1000000 < μ 71 14 + n
    · rw [if_pos g2]
      refine ⟨_, _, _, rfl, ?_, h⟩
      rw [w32_l (by omega) (by omega), if_pos g2]
    · rw [if_neg g2]
      have w0 := h.wf (f := 0) (by omega) (by omega)
      have w1 := h.wf (f := 1) (by omega) (by omega)
      have w2 := h.wf (f := 2) (by omega) (by omega)
      have hL0 : vL (VM μ 0) = μ 74 0 := rfl
      have hL1 : vL (VM μ 1) = μ 74 1 := rfl
      have hL2 : vL (VM μ 2) = μ 74 2 := rfl
      have t0 : tA μ (up μ 1 11 (μ 71 14 + n)) := fun c i _ _ _ _ => up_n _ _ (by omega)
      generalize hm0 : up μ 1 11 (μ 71 14 + n) = m0 at *
      have d0 : m0 1 11 = μ 71 14 + n := by rw [← hm0, up_s]
      rw [q134_37, (tA_GS t0 h.s).1.2.2.2.1, nn5, cle5, if_pos (by omega), nn5, jx5 _ (by omega) (by omega), (tA_GS t0 h.s).2.1 0 (by omega) (by omega), nn_ok _ (by omega), d0, q60_0, c_endBefore w0 _ _ _ (by omega) (tA_CF t0 (h.cf (by omega) (by omega))), bnd_s]
      have t1 : tA μ (CLB m0 (41 + 10 * 0 + 9) 0 (vL (VM μ 0)) (μ 71 14 + n)) := tA_t t0 (tA_C (by omega))
      have d1 : CLB m0 (41 + 10 * 0 + 9) 0 (vL (VM μ 0)) (μ 71 14 + n) 1 11 = μ 71 14 + n := by rw [← d0]; exact if_neg (by omega)
      generalize hm1 : CLB m0 (41 + 10 * 0 + 9) 0 (vL (VM μ 0)) (μ 71 14 + n) = m1 at *
      rw [q134_37, (tA_GS t1 h.s).1.2.2.2.1, nn5, cle5, show w32 ((0 : Int) + 1) = 1 from rfl, if_pos (by omega), nn5, jx5 _ (by omega) (by omega), (tA_GS t1 h.s).2.1 1 (by omega) (by omega), nn_ok _ (by omega), d1, q60_0, c_endBefore w1 _ _ _ (by omega) (tA_CF t1 (h.cf (by omega) (by omega))), bnd_s]
      have t2 : tA μ (CLB m1 (41 + 10 * 1 + 9) 0 (vL (VM μ 1)) (μ 71 14 + n)) := tA_t t1 (tA_C (by omega))
      have d2 : CLB m1 (41 + 10 * 1 + 9) 0 (vL (VM μ 1)) (μ 71 14 + n) 1 11 = μ 71 14 + n := by rw [← d1]; exact if_neg (by omega)
      generalize hm2 : CLB m1 (41 + 10 * 1 + 9) 0 (vL (VM μ 1)) (μ 71 14 + n) = m2 at *
      rw [q134_37, (tA_GS t2 h.s).1.2.2.2.1, nn5, cle5, show w32 ((1 : Int) + 1) = 2 from rfl, if_pos (by omega), nn5, jx5 _ (by omega) (by omega), (tA_GS t2 h.s).2.1 2 (by omega) (by omega), nn_ok _ (by omega), d2, q60_0, c_endBefore w2 _ _ _ (by omega) (tA_CF t2 (h.cf (by omega) (by omega))), bnd_s]
      have t3 : tA μ (CLB m2 (41 + 10 * 2 + 9) 0 (vL (VM μ 2)) (μ 71 14 + n)) := tA_t t2 (tA_C (by omega))
      have d3 : CLB m2 (41 + 10 * 2 + 9) 0 (vL (VM μ 2)) (μ 71 14 + n) 1 11 = μ 71 14 + n := by rw [← d2]; exact if_neg (by omega)
      generalize hm3 : CLB m2 (41 + 10 * 2 + 9) 0 (vL (VM μ 2)) (μ 71 14 + n) = m3 at *
      rw [q134_37, (tA_GS t3 h.s).1.2.2.2.1, nn5, cle5, show w32 ((2 : Int) + 1) = 3 from rfl, if_neg (by omega), d3]
      refine ⟨_, _, up m3 71 14 (μ 71 14 + n), rfl, ?_, ?_⟩
      · rw [t3 71 14 (by omega) (by omega) (by omega) (by omega), w32_l (by omega) (by omega), if_neg g2, up_s]
      · refine Inv_DT h (fun c i _ _ _ _ _ _ => ?_) ?_ (fun f f0 f1 l l0 l1 => ?_)
        · rw [up_n _ _ (by omega)]
          exact t3 c i (by omega) (by omega) (by omega) (by omega)
        · unfold GD
          rw [up_s, up_nc _ _ (by omega), d3]
          omega
        · have hT := h.t f0 f1 l l0 l1
          rw [up_s, up_nc _ _ (by omega), up_nc _ _ (by omega), up_nc _ _ (by omega), t3 74 f (by omega) (by omega) (by omega) (by omega), t3 83 _ (by omega) (by omega) (by omega) (by omega)]
          have key : l < μ 74 f → m3 (50 + 10 * f) l = if μ (50 + 10 * f) l < μ 71 14 + n then -1 else μ (50 + 10 * f) l := by
            intro e
            have hf : f = 0 ∨ f = 1 ∨ f = 2 := by omega
            rcases hf with q | q | q
            · subst q
              rw [← hm3]
              unfold CLB
              rw [if_neg (by omega), ← hm2]
              unfold CLB
              rw [if_neg (by omega), ← hm1]
              unfold CLB
              rw [← hm0, up_nc _ _ (by omega), up_nc _ _ (by omega), show (41 : Int) + 10 * 0 + 9 = 50 by omega, show (50 : Int) + 10 * 0 = 50 by omega]
              repeat' split
              all_goals first | rfl | omega
            · subst q
              rw [← hm3]
              unfold CLB
              rw [if_neg (by omega), ← hm2]
              unfold CLB
              rw [show (41 : Int) + 10 * 1 + 9 = 60 by omega, show (50 : Int) + 10 * 1 = 60 by omega, show m1 60 l = μ 60 l by
                rw [← hm1]
                unfold CLB
                rw [if_neg (by omega), ← hm0, up_nc _ _ (by omega)]]
              repeat' split
              all_goals first | rfl | omega
            · subst q
              rw [← hm3]
              unfold CLB
              rw [show (41 : Int) + 10 * 2 + 9 = 70 by omega, show (50 : Int) + 10 * 2 = 70 by omega, show m2 70 l = μ 70 l by
                rw [← hm2]
                unfold CLB
                rw [if_neg (by omega), ← hm1]
                unfold CLB
                rw [if_neg (by omega), ← hm0, up_nc _ _ (by omega)]]
              repeat' split
              all_goals first | rfl | omega
          rcases hT with q | q | q
          · exact Or.inl q
          · rw [key q.1, q.2.1]
            refine Or.inr (Or.inl ⟨q.1, ?_, ?_⟩)
            · split <;> rfl
            · omega
          · rw [key q.1, q.2.1]
            split
            · refine Or.inr (Or.inl ⟨q.1, rfl, ?_⟩)
              omega
            · refine Or.inr (Or.inr ⟨q.1, rfl, ?_⟩)
              omega
  · simp only [if_neg g]
    exact ⟨_, _, _, rfl, rfl, h⟩
end MV
