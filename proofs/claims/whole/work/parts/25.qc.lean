/-! tags, people -/
def rtg (μ : MM) (f l : Int) : Int := if μ 83 (6 * f + l) = NON ∨ μ 83 (6 * f + l) < μ 71 14 then NON else μ 83 (6 * f + l)
section QC
variable {M μ : MM}
theorem m_tagOf (h : MRf μ) {f l : Int} (f0 : 0 ≤ f) (f1 : f < 3) (l0 : 0 ≤ l) (l1 : l < 6) : EE 251 0 [(48, 71), (0, f), (0, l), (9, 0)] [] μ = some (rtg μ f l, μ) := by
  rw [q251_0, h.c12]
  simp (disch := omega) only [w32_l, nn83, jx83]
  have hN : NON = -1000000005 := rfl
  unfold rtg
  repeat' split
  all_goals first | rfl | omega
theorem rtg_c {f l : Int} (hd : GD μ) (h : GT μ f) (l0 : 0 ≤ l) (l1 : l < 6) : rtg μ f l = if l < μ 74 f ∧ 0 ≤ μ (50 + 10 * f) l then μ (50 + 10 * f) l else NON := by
  have h1 := h l l0 l1
  have h2 := hd.2.1
  have hN : NON = -1000000005 := rfl
  unfold rtg
  repeat' split
  all_goals omega
theorem st_tagged (h : Inv M μ) (f l : Int) : QQ (EE 137 0 [(47, 1), (0, f), (0, l), (9, 0)] [] μ) (EE 258 0 [(48, 71), (0, f), (0, l), (9, 0)] [] μ) μ := by
  rw [q137_0, q258_0, c_frameAt h.s, bnd_s, m_askedL h, bnd_s]
  by_cases hf : 0 ≤ f ∧ f ≤ 2
  · have hw := h.wf hf.1 (by omega)
    have hc := h.cf hf.1 (by omega)
    have hA : 41 + 10 * f ≠ 0 := by omega
    simp only [if_pos hf, if_neg hA, nn_ok _ hA, hc.c0, b2i_0, ite_not, ne_eq, Decidable.not_not, bnd_s, c_hasLift hc, c_hasTag hw hc]
    by_cases e2 : vB (VM μ f) = 0
    · simp only [if_pos e2]
      exact ⟨_, rfl, rfl⟩
    · simp only [if_neg e2]
      by_cases e3 : inL (VM μ f) l
      · have hr := hw.r
        simp only [if_pos e3, if_true]
        rw [c_tagOf hw hc e3, m_tagOf h.m hf.1 (by omega) e3.1 (by omega), bnd_s, bnd_s, rtg_c h.d (h.t hf.1 (by omega)) e3.1 (by omega), show 41 + 10 * f + 9 = 50 + 10 * f by omega]
        have e4 : l < μ 74 f := e3.2
        unfold QQ
        by_cases e5 : 0 ≤ μ (50 + 10 * f) l
        · rw [if_pos ⟨e3, e5⟩, if_pos ⟨e4, e5⟩]
          exact ⟨_, rfl, rfl⟩
        · rw [if_neg (fun q => e5 q.2), if_neg (fun q => e5 q.2)]
          exact ⟨_, rfl, rfl⟩
      · simp only [if_neg e3]
        exact ⟨_, rfl, rfl⟩
  · simp only [if_neg hf, if_true]
    exact ⟨_, rfl, rfl⟩
theorem m_tagsNow_i (h : MRf μ) {f : Int} (f0 : 0 ≤ f) (f1 : f < 3) : ∀ i acc, 0 ≤ i → 0 ≤ acc → acc ≤ 6 * f + i → EE 253 11 [(48, 71), (0, acc), (0, f), (0, i)] [] μ = EE 253 4 [(48, 71), (0, acc + SM (fun l => b2i (rtg μ f l ≠ NON)) i 6), (0, f + 1), (9, 0)] [] μ := by
  refine up_ind 6 ?_ ?_
  · intro i hi acc _ _ _
    rw [q253_11, SM_e hi, Int.add_zero, if_neg (by omega), w32_l (by omega) (by omega), q253_4, q253_4]
  · intro i hi ih acc _ _ _
    rw [q253_11, SM_s hi, if_pos hi, m_tagOf h f0 f1 (by omega) hi, bnd_s]
    simp (disch := omega) only [w32_l, Int.add_zero]
    split
    · rename_i e
      rw [ih _ (by omega) (by omega) (by omega), b2i_f (fun q => q e), Int.zero_add]
    · rename_i e
      rw [ih _ (by omega) (by omega) (by omega), b2i_t e, Int.add_assoc]
theorem rts_r (μ : MM) (f : Int) : 0 ≤ SM (fun l => b2i (rtg μ f l ≠ NON)) 0 6 ∧ SM (fun l => b2i (rtg μ f l ≠ NON)) 0 6 ≤ 6 := by
  have := SM_b (f := fun l => b2i (rtg μ f l ≠ NON)) (lo := 0) (hi := 1) (n := 6) 0 (fun j _ _ => b2i_r) (by omega)
  omega
def rts (μ : MM) : Int := SM (fun l => b2i (rtg μ 0 l ≠ NON)) 0 6 + SM (fun l => b2i (rtg μ 1 l ≠ NON)) 0 6 + SM (fun l => b2i (rtg μ 2 l ≠ NON)) 0 6
theorem m_tagsNow (h : MRf μ) : EE 253 0 [(48, 71), (9, 0), (9, 0), (9, 0)] [] μ = some (rts μ, μ) := by
  have h0 := rts_r μ 0
  have h1 := rts_r μ 1
  rw [q253_0, q253_4, if_pos (by omega), m_tagsNow_i h (by omega) (by omega) _ _ (by omega) (by omega) (by omega)]
  rw [q253_4, if_pos (by omega), show (0 : Int) + 1 = 1 from rfl, m_tagsNow_i h (by omega) (by omega) _ _ (by omega) (by omega) (by omega)]
  rw [q253_4, if_pos (by omega), show (1 : Int) + 1 = 2 from rfl, m_tagsNow_i h (by omega) (by omega) _ _ (by omega) (by omega) (by omega)]
  rw [q253_4, if_neg (by omega), Int.zero_add]
  rfl
def cts (μ : MM) (f : Int) : Int := SM (fun l => b2i (0 ≤ μ (50 + 10 * f) l)) 0 (vL (VM μ f))
theorem cts_r {f : Int} (hw : WF (VM μ f)) : 0 ≤ cts μ f ∧ cts μ f ≤ 6 := by
  have := hw.r
  have := SM_b (f := fun l => b2i (0 ≤ μ (50 + 10 * f) l)) (lo := 0) (hi := 1) (n := vL (VM μ f)) 0 (fun j _ _ => b2i_r) (by omega)
  unfold cts
  omega
theorem cts_m {f : Int} (hw : WF (VM μ f)) (hd : GD μ) (h : GT μ f) : cts μ f = SM (fun l => b2i (rtg μ f l ≠ NON)) 0 6 := by
  have hr := hw.r
  have hN : NON = -1000000005 := rfl
  rw [SM_sp (m := vL (VM μ f)) (by omega) 0 (by omega), SM_0 (vL (VM μ f)) (fun l l0 l1 => ?_), Int.add_zero]
  · refine SM_c _ (fun l l0 l1 => b2i_c ?_)
    have l2 : l < μ 74 f := l1
    rw [rtg_c hd h l0 (by omega)]
    by_cases q : 0 ≤ μ (50 + 10 * f) l
    · rw [if_pos ⟨l2, q⟩]
      exact ⟨fun _ => by omega, fun _ => q⟩
    · rw [if_neg (fun z => q z.2)]
      exact ⟨fun z => absurd z q, fun z => absurd rfl z⟩
  · have l2 : μ 74 f ≤ l := l0
    show b2i (rtg μ f l ≠ NON) = 0
    rw [rtg_c hd h (by omega) l1, if_neg (by omega)]
    exact b2i_f (fun q => q rfl)
theorem c_tagsHere0 (h : Inv M μ) {f : Int} (f0 : 0 ≤ f) (f1 : f < 3) : EE 58 0 [(41, 41 + 10 * f), (9, 0), (9, 0)] [] μ = some (cts μ f, μ) := by
  rw [q58_0, c_tagsHere (h.wf f0 f1) (h.cf f0 f1) _ _ (by omega) (by omega) (by omega), Int.zero_add, show 41 + 10 * f + 9 = 50 + 10 * f by omega]
  rfl
theorem c_tagsInAll (h : Inv M μ) : EE 157 0 [(47, 1), (9, 0), (9, 0)] [] μ = some (rts μ, μ) := by
  have f0 := h.s.2.1 0 (by omega) (by omega)
  have f1 := h.s.2.1 1 (by omega) (by omega)
  have f2 := h.s.2.1 2 (by omega) (by omega)
  have w0 := cts_r (h.wf (f := 0) (by omega) (by omega))
  have w1 := cts_r (h.wf (f := 1) (by omega) (by omega))
  have w2 := cts_r (h.wf (f := 2) (by omega) (by omega))
  have hs := h.s.1
  rw [q157_0, q157_4, hs.2.2.2.1, nn5, cle5, if_pos (by omega), nn5, jx5 _ (by omega) (by omega), f0, nn_ok _ (by omega), c_tagsHere0 h (by omega) (by omega), bnd_s]
  rw [q157_4, hs.2.2.2.1, nn5, cle5, show w32 ((0 : Int) + 1) = 1 from rfl, if_pos (by omega), nn5, jx5 _ (by omega) (by omega), f1, nn_ok _ (by omega), c_tagsHere0 h (by omega) (by omega), bnd_s]
  rw [q157_4, hs.2.2.2.1, nn5, cle5, show w32 ((1 : Int) + 1) = 2 from rfl, if_pos (by omega), nn5, jx5 _ (by omega) (by omega), f2, nn_ok _ (by omega), c_tagsHere0 h (by omega) (by omega), bnd_s]
  rw [q157_4, hs.2.2.2.1, nn5, cle5, show w32 ((2 : Int) + 1) = 3 from rfl, if_neg (by omega), w32_l (x := 0 + cts μ 0) (by omega) (by omega), w32_l (x := 0 + cts μ 0 + cts μ 1) (by omega) (by omega), w32_l (by omega) (by omega), Int.zero_add]
  rw [cts_m (h.wf (by omega) (by omega)) h.d (h.t (by omega) (by omega)), cts_m (h.wf (by omega) (by omega)) h.d (h.t (by omega) (by omega)), cts_m (h.wf (by omega) (by omega)) h.d (h.t (by omega) (by omega))]
  rfl
theorem c_peopleAt (h : GS μ) (x : Int) : ∀ i acc, 0 ≤ i → 0 ≤ acc → acc ≤ i → EE 154 4 [(47, 1), (0, x), (0, acc), (0, i)] [] μ = some (acc + SM (fun p => b2i (μ 39 p = x)) i 10, μ) := by
  refine up_ind 10 ?_ ?_
  · intro i hi acc _ _ _
    rw [q154_4, h.1.2.2.2.2.2.2.2.2.2.1, nn39, cle39, SM_e hi, Int.add_zero, if_neg (by omega)]
  · intro i hi ih acc _ _ _
    rw [q154_4, h.1.2.2.2.2.2.2.2.2.2.1, nn39, cle39, SM_s hi, if_pos (by omega), nn39, jx39 _ (by omega) (by omega)]
    simp (disch := omega) only [w32_l]
    split
    · rename_i e
      rw [ih _ (by omega) (by omega) (by omega), b2i_t e, Int.add_assoc]
    · rename_i e
      rw [ih _ (by omega) (by omega) (by omega), b2i_f e, Int.zero_add]
theorem m_peopleAll (h : MRf μ) : ∀ i acc d, 0 ≤ i → 0 ≤ acc → acc ≤ i → EE 271 101 [(48, 71), d, (0, acc), (0, i)] [] μ = some (acc + SM (fun p => b2i (μ 84 p ≠ NON)) i 10, μ) := by
  refine up_ind 10 ?_ ?_
  · intro i hi acc d _ _ _
    rw [q271_101, SM_e hi, Int.add_zero, if_neg (by omega)]
  · intro i hi ih acc d _ _ _
    rw [q271_101, SM_s hi, if_pos (by omega), h.c13, nn84, jx84 _ (by omega) (by omega)]
    simp (disch := omega) only [w32_l, Int.add_zero]
    split
    · rename_i e
      rw [ih _ _ (by omega) (by omega) (by omega), b2i_f (fun q => q e), Int.zero_add]
    · rename_i e
      rw [ih _ _ (by omega) (by omega) (by omega), b2i_t e, Int.add_assoc]
theorem UM_r {f : Int} (h : GU μ f) : 0 ≤ SM (UM μ f) 0 396 ∧ SM (UM μ f) 0 396 ≤ 396 := by
  have := SM_b (f := UM μ f) (lo := 0) (hi := 1) (n := 396) 0 (fun j _ _ => by have := h.1 j; omega) (by omega)
  omega
theorem c_framesAll (h : Inv M μ) : ∀ i acc, 0 ≤ i → 0 ≤ acc → acc ≤ i → EE 155 4 [(47, 1), (0, acc), (0, i)] [] μ = some (acc + SM (fun f => b2i (vB (VM μ f) ≠ 0)) i 3, μ) := by
  refine up_ind 3 ?_ ?_
  · intro i hi acc _ _ _
    rw [q155_4, h.s.1.2.2.2.1, nn5, cle5, SM_e hi, Int.add_zero, if_neg (by omega)]
  · intro i hi ih acc _ _ _
    rw [q155_4, h.s.1.2.2.2.1, nn5, cle5, SM_s hi, if_pos (by omega), nn5, jx5 _ (by omega) (by omega), h.s.2.1 i (by omega) hi, nn_ok _ (by omega), (h.cf (by omega) hi).c0]
    simp (disch := omega) only [w32_l, b2i_0]
    split
    · rename_i e
      rw [ih _ (by omega) (by omega) (by omega), b2i_f e, Int.zero_add]
    · rename_i e
      rw [ih _ (by omega) (by omega) (by omega), b2i_t (Decidable.not_not.1 e), Int.add_assoc]
theorem m_framesAll (h : Inv M μ) : ∀ i acc d, 0 ≤ i → 0 ≤ acc → acc ≤ i → EE 271 42 [(48, 71), d, (0, acc), (0, i)] [] μ = some (acc + SM (fun f => b2i (vB (VM μ f) ≠ 0)) i 3, μ) := by
  refine up_ind 3 ?_ ?_
  · intro i hi acc d _ _ _
    rw [q271_42, SM_e hi, Int.add_zero, if_neg (by omega)]
  · intro i hi ih acc d _ _ _
    rw [q271_42, SM_s hi, if_pos (by omega), m_isMissing (h.mf (by omega) hi), bnd_s]
    simp (disch := omega) only [w32_l, b2i_0, Int.add_zero]
    split
    · rename_i e
      rw [ih _ _ (by omega) (by omega) (by omega), b2i_t e, Int.add_assoc]
    · rename_i e
      rw [ih _ _ (by omega) (by omega) (by omega), b2i_f e, Int.zero_add]
theorem st_count (h : Inv M μ) (w : Int) : QQ (EE 145 0 [(47, 1), (0, w)] [] μ) (EE 271 0 [(48, 71), (0, w), (9, 0), (9, 0)] [] μ) μ := by
  have f0 := h.s.2.1 0 (by omega) (by omega)
  have f1 := h.s.2.1 1 (by omega) (by omega)
  have f2 := h.s.2.1 2 (by omega) (by omega)
  have hs := h.s.1
  rw [q145_0, q271_0]
  by_cases e0 : w = 0
  · rw [if_pos e0, if_pos e0]
    rw [q155_0, c_framesAll h _ _ (by omega) (by omega) (by omega), bnd_s, m_framesAll h _ _ _ (by omega) (by omega) (by omega)]
    exact ⟨_, rfl, rfl⟩
  rw [if_neg e0, if_neg e0]
  by_cases e1 : w = 1
  · rw [if_pos e1, if_pos e1]
    have u0 := h.u (f := 0) (by omega) (by omega)
    have u1 := h.u (f := 1) (by omega) (by omega)
    have u2 := h.u (f := 2) (by omega) (by omega)
    have r0 := UM_r u0
    have r1 := UM_r u1
    have r2 := UM_r u2
    have c0 : μ (41 + 10 * 0) 5 = _ := u0.2.2.2
    have c1 : μ (41 + 10 * 1) 5 = _ := u1.2.2.2
    have c2 : μ (41 + 10 * 2) 5 = _ := u2.2.2.2
    rw [q156_0, q156_4, hs.2.2.2.1, nn5, cle5, if_pos (by omega), nn5, jx5 _ (by omega) (by omega), f0, nn_ok _ (by omega), c0]
    rw [q156_4, hs.2.2.2.1, nn5, cle5, show w32 ((0 : Int) + 1) = 1 from rfl, if_pos (by omega), nn5, jx5 _ (by omega) (by omega), f1, nn_ok _ (by omega), c1]
    rw [q156_4, hs.2.2.2.1, nn5, cle5, show w32 ((1 : Int) + 1) = 2 from rfl, if_pos (by omega), nn5, jx5 _ (by omega) (by omega), f2, nn_ok _ (by omega), c2]
    rw [q156_4, hs.2.2.2.1, nn5, cle5, show w32 ((2 : Int) + 1) = 3 from rfl, if_neg (by omega), bnd_s]
    rw [q271_73, if_pos (by omega), m_upIn (h.mf (f := 0) (by omega) (by omega)) (h.mu (by omega) (by omega)), bnd_s]
    rw [q271_73, if_pos (by decide), show w32 ((0 : Int) + 1) = 1 from rfl, m_upIn (h.mf (f := 1) (by omega) (by omega)) (h.mu (by omega) (by omega)), bnd_s]
    rw [q271_73, if_pos (by decide), show w32 ((1 : Int) + 1) = 2 from rfl, m_upIn (h.mf (f := 2) (by omega) (by omega)) (h.mu (by omega) (by omega)), bnd_s]
    rw [q271_73, if_neg (by decide)]
    exact ⟨_, rfl, rfl⟩
  rw [if_neg e1, if_neg e1]
  by_cases e2 : w = 2
  · rw [if_pos e2, if_pos e2, c_tagsInAll h, m_tagsNow h.m]
    exact ⟨_, rfl, rfl⟩
  rw [if_neg e2, if_neg e2]
  by_cases e3 : w = 3
  · rw [if_pos e3, if_pos e3, q154_0, c_peopleAt h.s _ _ _ (by omega) (by omega) (by omega), bnd_s, m_peopleAll h.m _ _ _ (by omega) (by omega) (by omega)]
    have t := SM_b (f := fun p => b2i (μ 39 p = -1) + b2i (μ 84 p ≠ NON)) (lo := 1) (hi := 1) (n := 10) 0 (fun p p0 p1 => by
      show 1 ≤ b2i (μ 39 p = -1) + b2i (μ 84 p ≠ NON) ∧ b2i (μ 39 p = -1) + b2i (μ 84 p ≠ NON) ≤ 1
      have hN : NON = -1000000005 := rfl
      rcases h.p p p0 p1 with q | q
      · rw [b2i_t q.1, b2i_f (fun z => z q.2)]
        omega
      · rw [b2i_f (by omega), b2i_t (by omega)]
        omega) (by omega)
    rw [SM_add] at t
    have t2 := SM_b (f := fun p => b2i (μ 84 p ≠ NON)) (lo := 0) (hi := 1) (n := 10) 0 (fun j _ _ => b2i_r) (by omega)
    rw [show w32 (10 - (0 + SM (fun p => b2i (μ 39 p = -1)) 0 10)) = 0 + SM (fun p => b2i (μ 84 p ≠ NON)) 0 10 by
      rw [w32_l (by omega) (by omega)]
      omega]
    exact ⟨_, rfl, rfl⟩
  rw [if_neg e3, if_neg e3]
  rw [h.d.1, hs.2.2.2.2.2.2.2.1, nn13, h.h.1.2.2.1]
  unfold QQ
  repeat' split
  all_goals exact ⟨_, rfl, rfl⟩
/-- who is stranded -/
abbrev sdC (μ : MM) (p : Int) : Prop := 0 ≤ μ 39 p ∧ ¬ (inL (VM μ (μ 39 p / 10)) (μ 39 p % 10) ∧ 0 ≤ μ (41 + 10 * (μ 39 p / 10) + 9) (μ 39 p % 10))
abbrev sdM (μ : MM) (p : Int) : Prop := μ 84 p ≠ NON ∧ rtg μ (μ 84 p / 10) (μ 84 p % 10) = NON
theorem c_stranded (h : Inv M μ) : ∀ i acc d3 d4, 0 ≤ i → EE 140 4 [(47, 1), (0, acc), (0, i), d3, d4] [] μ = some (ORF (sdC μ) i 10 acc, μ) := by
  have hs := h.s.1
  refine up_ind 10 ?_ ?_
  · intro i hi acc d3 d4 _
    rw [q140_4, hs.2.2.2.2.2.2.2.2.2.1, nn39, cle39, ORF_e hi, if_neg (by omega)]
  · intro i hi ih acc d3 d4 _
    rw [q140_4, hs.2.2.2.2.2.2.2.2.2.1, nn39, cle39, ORF_s hi, if_pos hi, nn39, jx39 _ (by omega) (by omega), w32_l (x := i + 1) (by omega) (by omega)]
    by_cases e : μ 39 i < 0
    · rw [if_pos e, ih _ _ _ (by omega), if_neg (fun q : sdC μ i => by have := q.1; omega)]
    · have hp := h.p i (by omega) (by omega)
      rw [if_neg e, td10 (by omega), tm10 (by omega), w32_l (by omega) (by omega), c_frameAt h.s, bnd_s, if_pos (show 0 ≤ μ 39 i / 10 ∧ μ 39 i / 10 ≤ 2 by omega)]
      rw [if_neg (by omega), nn_ok _ (by omega), c_hasTag (h.wf (by omega) (by omega)) (h.cf (by omega) (by omega)), bnd_s]
      simp only [b2i_0]
      by_cases q : inL (VM μ (μ 39 i / 10)) (μ 39 i % 10) ∧ 0 ≤ μ (41 + 10 * (μ 39 i / 10) + 9) (μ 39 i % 10)
      · rw [if_neg (fun z => z q), ih _ _ _ (by omega), if_neg (fun z : sdC μ i => z.2 q)]
      · rw [if_pos q, ih _ _ _ (by omega), if_pos (show sdC μ i from ⟨by omega, q⟩)]
theorem m_stranded (h : Inv M μ) : ∀ i acc, 0 ≤ i → (-2147483648 ≤ acc ∧ acc < 2147483648) → EE 262 4 [(48, 71), (0, acc), (0, i)] [] μ = some (ORF (sdM μ) i 10 acc, μ) := by
  refine up_ind 10 ?_ ?_
  · intro i hi acc _ _
    rw [q262_4, ORF_e hi, if_neg (by omega)]
  · intro i hi ih acc _ ha
    rw [q262_4, ORF_s hi, if_pos hi, h.m.c13, nn84, jx84 _ (by omega) (by omega), w32_l (x := i + 1) (by omega) (by omega), b4_0 ha]
    by_cases e : μ 84 i = NON
    · rw [if_pos e, ih _ (by omega) ha, if_neg (fun q : sdM μ i => q.1 e)]
    · have hp := h.p i (by omega) (by omega)
      rw [if_neg e, nn84, jx84 _ (by omega) (by omega), nn84, jx84 _ (by omega) (by omega), td10 (by omega), tm10 (by omega), w32_l (by omega) (by omega), m_tagOf h.m (by omega) (by omega) (by omega) (by omega), bnd_s]
      by_cases q : rtg μ (μ 84 i / 10) (μ 84 i % 10) = NON
      · rw [if_pos q, ih _ (by omega) (b4_r _ _), if_pos (show sdM μ i from ⟨e, q⟩)]
      · rw [if_neg q, ih _ (by omega) ha, if_neg (fun z : sdM μ i => q z.2)]
theorem st_stranded (h : Inv M μ) : QQ (EE 140 0 [(47, 1), (9, 0), (9, 0), (9, 0), (9, 0)] [] μ) (EE 262 0 [(48, 71), (9, 0), (9, 0)] [] μ) μ := by
  rw [q140_0, q262_0, c_stranded h _ _ _ _ (by omega), m_stranded h _ _ (by omega) (by omega), ORF_c (p := sdC μ) (q := sdM μ) 0 0 (fun p p0 p1 => ?_)]
  · exact ⟨_, rfl, rfl⟩
  · have hp := h.p p p0 p1
    have hN : NON = -1000000005 := rfl
    unfold sdC sdM
    rcases hp with q | q
    · constructor
      · intro z
        have := z.1
        omega
      · intro z
        exact absurd q.2 z.1
    · rw [q.1, rtg_c h.d (h.t (by omega) (by omega)) (by omega) (by omega), show 41 + 10 * (μ 84 p / 10) + 9 = 50 + 10 * (μ 84 p / 10) by omega]
      have hL : vL (VM μ (μ 84 p / 10)) = μ 74 (μ 84 p / 10) := rfl
      unfold inL
      rw [hL]
      constructor
      · intro z
        exact ⟨by omega, if_neg (fun y => z.2 ⟨⟨by omega, y.1⟩, y.2⟩)⟩
      · intro z
        refine ⟨by omega, fun y => ?_⟩
        have z2 := z.2
        rw [if_pos ⟨y.1.2, y.2⟩] at z2
        have := y.2
        omega
end QC
