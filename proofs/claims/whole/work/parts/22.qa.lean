/-! calls that only ask -/
theorem SM_nz {f : Int → Int} {n : Int} : ∀ i, (∀ j, i ≤ j → j < n → 0 ≤ f j) → 0 ≤ SM f i n ∧ (SM f i n = 0 → ∀ j, i ≤ j → j < n → f j = 0) := by
  refine up_ind n ?_ ?_
  · intro i hi _
    rw [SM_e hi]
    exact ⟨by omega, fun _ j a b => by omega⟩
  · intro i hi ih h
    have h1 := ih (fun j a b => h j (by omega) b)
    have h2 := h i (by omega) hi
    rw [SM_s hi]
    refine ⟨by omega, fun q j a b => ?_⟩
    by_cases e : j = i
    · rw [e]
      omega
    · exact h1.2 (by omega) j (by omega) b
theorem HN_0 {V : FV} {U : Int → Int} {k : Int} : HN V U k = 0 ↔ ∀ j, 0 ≤ j → j < 396 → ¬ ndH V U k j := by
  have t := SM_nz (f := fun j => b2i (U j = 1 ∧ nd V j 0 = k) + b2i (U j = 1 ∧ nd V j 1 = k)) (n := 396) 0 (fun j _ _ => by
    have h1 := b2i_r (p := U j = 1 ∧ nd V j 0 = k)
    have h2 := b2i_r (p := U j = 1 ∧ nd V j 1 = k)
    show 0 ≤ b2i (U j = 1 ∧ nd V j 0 = k) + b2i (U j = 1 ∧ nd V j 1 = k)
    omega)
  constructor
  · intro q j j0 j1 ⟨a, b⟩
    have h := t.2 q j j0 j1
    have h1 := b2i_r (p := U j = 1 ∧ nd V j 0 = k)
    have h2 := b2i_r (p := U j = 1 ∧ nd V j 1 = k)
    have h : b2i (U j = 1 ∧ nd V j 0 = k) + b2i (U j = 1 ∧ nd V j 1 = k) = 0 := h
    rcases b with b | b
    · rw [b2i_t ⟨a, b.symm⟩] at h
      omega
    · rw [b2i_t (p := U j = 1 ∧ nd V j 1 = k) ⟨a, b.symm⟩] at h
      omega
  · intro q
    unfold HN
    apply SM_0
    intro j j0 j1
    have := q j j0 j1
    show b2i (U j = 1 ∧ nd V j 0 = k) + b2i (U j = 1 ∧ nd V j 1 = k) = 0
    rw [b2i_f (fun z => this ⟨z.1, Or.inl z.2.symm⟩), b2i_f (fun z => this ⟨z.1, Or.inr z.2.symm⟩)]
    rfl
theorem mTk_c {μ : MM} {A : Int} {V : FV} {U : Int → Int} (h : GUx μ A V U) (k : Int) : (U k = 1 ∧ μ (A + 8) k = 0) ↔ mTk V U k := by
  have h1 := h.1 k
  constructor
  · intro ⟨a, b⟩
    have hp : isP V k := by
      rcases h1 with e | e
      · omega
      · exact e.2
    have h2 := h.2.2.1 k hp.1 hp.2.1
    refine ⟨hp, a, (FU_n (by omega)).2 (HN_0.1 ?_)⟩
    rcases h2 with e | e
    · omega
    · omega
  · intro ⟨hp, a, b⟩
    have h2 := h.2.2.1 k hp.1 hp.2.1
    have h3 := HN_0.2 ((FU_n (by omega)).1 b)
    refine ⟨a, ?_⟩
    rcases h2 with e | e
    · omega
    · omega
section QA
variable {M μ : MM}
theorem m_asked (h : Inv M μ) (f : Int) : EE 206 0 [(48, 71), (0, f)] [] μ = some (if 0 ≤ f ∧ f ≤ 2 then (if vB (VM μ f) = 0 then -1000000002 else 0) else -1000000001, μ) := by
  rw [q206_0, m_isFrame, bnd_s]
  simp only [b2i_0, ite_not]
  by_cases hf : 0 ≤ f ∧ f ≤ 2
  · simp only [if_pos hf, m_isMissing (h.mf hf.1 (by omega)), bnd_s, b2i_0, ite_not]
    split <;> rfl
  · simp only [if_neg hf]
theorem m_askedS (h : Inv M μ) (f s : Int) : EE 207 0 [(48, 71), (0, f), (0, s), (9, 0)] [] μ = some (if 0 ≤ f ∧ f ≤ 2 then (if vB (VM μ f) = 0 then -1000000002 else if inS (VM μ f) s then 0 else -1000000013) else -1000000001, μ) := by
  rw [q207_0, m_asked h, bnd_s]
  by_cases hf : 0 ≤ f ∧ f ≤ 2
  · simp only [if_pos hf]
    by_cases e : vB (VM μ f) = 0
    · simp only [if_pos e]
      rfl
    · simp only [if_neg e, if_true, m_isStandard e (h.mf hf.1 (by omega)), bnd_s, b2i_0, ite_not]
      split <;> rfl
  · simp only [if_neg hf]
    rfl
theorem m_askedL (h : Inv M μ) (f l : Int) : EE 255 0 [(48, 71), (0, f), (0, l), (9, 0)] [] μ = some (if 0 ≤ f ∧ f ≤ 2 then (if vB (VM μ f) = 0 then -1000000002 else if inL (VM μ f) l then 0 else -1000000013) else -1000000001, μ) := by
  rw [q255_0, m_asked h, bnd_s]
  by_cases hf : 0 ≤ f ∧ f ≤ 2
  · simp only [if_pos hf]
    by_cases e : vB (VM μ f) = 0
    · simp only [if_pos e]
      rfl
    · simp only [if_neg e, if_true, m_isLift (h.wf hf.1 (by omega)) (h.mf hf.1 (by omega)), bnd_s, b2i_0, ite_not]
      split <;> rfl
  · simp only [if_neg hf]
    rfl
theorem st_told (h : Inv M μ) (f b w : Int) : QQ (EE 117 0 [(47, 1), (0, f), (0, b), (0, w), (9, 0)] [] μ) (EE 201 0 [(48, 71), (0, f), (0, b), (0, w)] [] μ) μ := by
  rw [q117_0, q201_0, c_frameAt h.s, bnd_s, m_isFrame, bnd_s]
  simp only [b2i_0, ite_not, c_within, m_isIn, bnd_s]
  by_cases hf : 0 ≤ f ∧ f ≤ 2
  · have hw := h.wf hf.1 (by omega)
    have hc := h.cf hf.1 (by omega)
    have hm := h.mf hf.1 (by omega)
    have hA : 41 + 10 * f ≠ 0 := by omega
    simp only [if_pos hf, if_neg hA, nn_ok _ hA, hc.c0, b2i_0, ite_not, ne_eq, Decidable.not_not, m_isMissing hm, bnd_s, c_hasBay hc, m_isBay hw hm, c_kindOf hw hc, c_widthOf hw hc]
    by_cases e : inB (VM μ f) b
    · simp only [if_pos e, m_kind hw hm e.1 e.2, m_width hw hm e.1 e.2, bnd_s]
      unfold QQ
      repeat' split
      all_goals exact ⟨_, rfl, rfl⟩
    · simp only [if_neg e]
      unfold QQ
      repeat' split
      all_goals exact ⟨_, rfl, rfl⟩
  · simp only [if_neg hf, if_true]
    exact ⟨_, rfl, rfl⟩
theorem st_isOf (h : Inv M μ) (f b w : Int) : QQ (EE 118 0 [(47, 1), (0, f), (0, b), (0, w), (9, 0)] [] μ) (EE 202 0 [(48, 71), (0, f), (0, b), (0, w), (9, 0)] [] μ) μ := by
  rw [q118_0, q202_0, c_frameAt h.s, bnd_s, m_isFrame, bnd_s]
  simp only [b2i_0, ite_not, c_within, m_isIn, bnd_s]
  by_cases hf : 0 ≤ f ∧ f ≤ 2
  · have hw := h.wf hf.1 (by omega)
    have hc := h.cf hf.1 (by omega)
    have hm := h.mf hf.1 (by omega)
    have hA : 41 + 10 * f ≠ 0 := by omega
    simp only [if_pos hf, if_neg hA, nn_ok _ hA, hc.c0, b2i_0, ite_not, ne_eq, Decidable.not_not, m_isMissing hm, bnd_s, c_hasBay hc, m_isBay hw hm, c_isOfKind hw hc]
    by_cases e : inB (VM μ f) b
    · simp only [if_pos e, m_kind hw hm e.1 e.2, bnd_s]
      unfold QQ
      by_cases e1 : 0 ≤ w ∧ w ≤ 4
      · by_cases e2 : vB (VM μ f) = 0
        · simp only [if_pos e1, if_pos e2]
          exact ⟨_, rfl, rfl⟩
        · simp only [if_pos e1, if_neg e2, if_b2i]
          refine ⟨_, rfl, ?_⟩
          unfold b2i
          repeat' split
          all_goals first | rfl | omega
      · simp only [if_neg e1]
        exact ⟨_, rfl, rfl⟩
    · simp only [if_neg e]
      unfold QQ
      repeat' split
      all_goals exact ⟨_, rfl, rfl⟩
  · simp only [if_neg hf, if_true]
    exact ⟨_, rfl, rfl⟩
theorem if01 {x : Int} (hx : x = 0 ∨ x = 1) (μ : MM) : (if x = 0 then some ((0 : Int), μ) else some (1, μ)) = some (x, μ) := by
  rcases hx with e | e
  · rw [e, if_pos rfl]
  · rw [e, if_neg (by decide)]
theorem st_plan (h : Inv M μ) (f b l w : Int) : QQ (EE 119 0 [(47, 1), (0, f), (0, b), (0, l), (0, w), (9, 0), (9, 0), (9, 0)] [] μ) (EE 203 0 [(48, 71), (0, f), (0, b), (0, l), (0, w), (9, 0)] [] μ) μ := by
  rw [q119_0, q203_0, c_frameAt h.s, bnd_s, m_isFrame, bnd_s]
  simp only [b2i_0, ite_not, c_within, m_isIn, bnd_s]
  by_cases hf : 0 ≤ f ∧ f ≤ 2
  · have hw := h.wf hf.1 (by omega)
    have hc := h.cf hf.1 (by omega)
    have hm := h.mf hf.1 (by omega)
    have hA : 41 + 10 * f ≠ 0 := by omega
    have hR : vR (VM μ f) b l = 0 ∨ vR (VM μ f) b l = 1 := by have := hw.b b l; omega
    have hT : vT (VM μ f) b l = 0 ∨ vT (VM μ f) b l = 1 := by have := hw.t b l; omega
    simp only [if_pos hf, if_neg hA, nn_ok _ hA, hc.c0, b2i_0, ite_not, ne_eq, Decidable.not_not, m_isMissing hm, bnd_s, c_hasBay hc, c_hasStandard hc, c_hasLift hc, m_isBay hw hm, m_isLift hw hm, c_classOf hw hc, c_hasBrace hw hc, c_hasTie hw hc, if01 hR, if01 hT]
    by_cases e1 : 0 ≤ w ∧ w ≤ 2
    · by_cases e2 : vB (VM μ f) = 0
      · simp only [if_pos e1, if_pos e2]
        exact ⟨_, rfl, rfl⟩
      · have r := hw.r
        simp only [if_pos e1, if_neg e2, m_isStandard e2 hm, m_isLift hw hm, bnd_s, b2i_0, ite_not]
        by_cases e3 : inL (VM μ f) l
        · simp only [if_pos e3]
          by_cases e4 : w = 2
          · simp only [if_pos e4]
            by_cases e5 : inS (VM μ f) b
            · simp only [if_pos e5]
              rw [if_neg (by omega), if_neg (by omega), if_neg (by omega), if_neg (by omega), m_hasTie hw e2 hm (by omega) (by omega) (by omega) (by omega), bnd_s, if01 hT]
              exact ⟨_, rfl, rfl⟩
            · simp only [if_neg e5]
              exact ⟨_, rfl, rfl⟩
          · simp only [if_neg e4]
            by_cases e5 : inB (VM μ f) b
            · simp only [if_pos e5]
              by_cases e6 : w = 0
              · simp only [if_pos e6]
                rw [m_boardAt e2 hm (by omega) (by omega) (by omega) (by omega), bnd_s]
                exact ⟨_, rfl, rfl⟩
              · simp only [if_neg e6]
                rw [if_pos (by omega), if_pos (by omega), m_hasBrace hw e2 hm (by omega) (by omega) (by omega) (by omega), bnd_s, if01 hR]
                exact ⟨_, rfl, rfl⟩
            · simp only [if_neg e5]
              exact ⟨_, rfl, rfl⟩
        · simp only [if_neg e3]
          unfold QQ
          repeat' split
          all_goals exact ⟨_, rfl, rfl⟩
    · simp only [if_neg e1]
      exact ⟨_, rfl, rfl⟩
  · simp only [if_neg hf, if_true]
    exact ⟨_, rfl, rfl⟩
theorem st_load (h : Inv M μ) (f s : Int) : QQ (EE 120 0 [(47, 1), (0, f), (0, s), (9, 0)] [] μ) (EE 208 0 [(48, 71), (0, f), (0, s), (9, 0)] [] μ) μ := by
  rw [q120_0, q208_0, c_frameAt h.s, bnd_s, m_askedS h, bnd_s]
  by_cases hf : 0 ≤ f ∧ f ≤ 2
  · have hw := h.wf hf.1 (by omega)
    have hc := h.cf hf.1 (by omega)
    have hm := h.mf hf.1 (by omega)
    have hA : 41 + 10 * f ≠ 0 := by omega
    simp only [if_pos hf, if_neg hA, nn_ok _ hA, hc.c0, b2i_0, ite_not, ne_eq, Decidable.not_not, bnd_s, c_hasStandard hc]
    by_cases e2 : vB (VM μ f) = 0
    · simp only [if_pos e2]
      exact ⟨_, rfl, rfl⟩
    · simp only [if_neg e2]
      by_cases e3 : inS (VM μ f) s
      · simp only [if_pos e3]
        rw [c_twiceLoad hw hc e3.2.1 e3.2.2 e2, m_twiceLoad hw e2 hm e3.2.1 e3.2.2]
        exact ⟨_, rfl, rfl⟩
      · simp only [if_neg e3]
        exact ⟨_, rfl, rfl⟩
  · simp only [if_neg hf, if_true]
    exact ⟨_, rfl, rfl⟩
theorem st_free (h : Inv M μ) (f s : Int) : QQ (EE 124 0 [(47, 1), (0, f), (0, s), (9, 0)] [] μ) (EE 221 0 [(48, 71), (0, f), (0, s), (9, 0)] [] μ) μ := by
  rw [q124_0, q221_0, c_frameAt h.s, bnd_s, m_askedS h, bnd_s]
  by_cases hf : 0 ≤ f ∧ f ≤ 2
  · have hw := h.wf hf.1 (by omega)
    have hc := h.cf hf.1 (by omega)
    have hm := h.mf hf.1 (by omega)
    have hA : 41 + 10 * f ≠ 0 := by omega
    simp only [if_pos hf, if_neg hA, nn_ok _ hA, hc.c0, b2i_0, ite_not, ne_eq, Decidable.not_not, bnd_s, c_hasStandard hc]
    by_cases e2 : vB (VM μ f) = 0
    · simp only [if_pos e2]
      exact ⟨_, rfl, rfl⟩
    · simp only [if_neg e2]
      by_cases e3 : inS (VM μ f) s
      · simp only [if_pos e3]
        rw [c_freeLifts hw hc e3.2.1 e3.2.2, m_freeOf hw e2 hm e3.2.1 e3.2.2]
        exact ⟨_, rfl, rfl⟩
      · simp only [if_neg e3]
        exact ⟨_, rfl, rfl⟩
  · simp only [if_neg hf, if_true]
    exact ⟨_, rfl, rfl⟩
theorem st_isUp (h : Inv M μ) (f k : Int) : QQ (EE 133 0 [(47, 1), (0, f), (0, k), (9, 0)] [] μ) (EE 250 0 [(48, 71), (0, f), (0, k), (9, 0)] [] μ) μ := by
  rw [q133_0, q250_0, c_frameAt h.s, bnd_s, m_asked h, bnd_s]
  by_cases hf : 0 ≤ f ∧ f ≤ 2
  · have hw := h.wf hf.1 (by omega)
    have hc := h.cf hf.1 (by omega)
    have hm := h.mf hf.1 (by omega)
    have hA : 41 + 10 * f ≠ 0 := by omega
    simp only [if_pos hf, if_neg hA, nn_ok _ hA, hc.c0, b2i_0, ite_not, ne_eq, Decidable.not_not, bnd_s, c_hasPiece hw hc, c_stands hc (h.cu hf.1 (by omega)), m_isPiece hw hm]
    by_cases e2 : vB (VM μ f) = 0
    · simp only [if_pos e2]
      exact ⟨_, rfl, rfl⟩
    · simp only [if_neg e2]
      by_cases e3 : isP (VM μ f) k
      · simp only [if_pos e3, if_true]
        rw [m_isUpNow hm (h.mu hf.1 (by omega)) e3.1 e3.2.1, bnd_s]
        unfold QQ
        split
        all_goals exact ⟨_, rfl, rfl⟩
      · simp only [if_neg e3]
        exact ⟨_, rfl, rfl⟩
  · simp only [if_neg hf, if_true]
    exact ⟨_, rfl, rfl⟩
theorem st_next (h : Inv M μ) (f w : Int) : QQ (EE 131 0 [(47, 1), (0, f), (0, w), (9, 0)] [] μ) (EE 248 0 [(48, 71), (0, f), (0, w)] [] μ) μ := by
  rw [q131_0, q248_0, c_frameAt h.s, bnd_s, m_isFrame, bnd_s]
  simp only [b2i_0, ite_not, c_within, m_isIn, bnd_s]
  by_cases hf : 0 ≤ f ∧ f ≤ 2
  · have hw := h.wf hf.1 (by omega)
    have hc := h.cf hf.1 (by omega)
    have hm := h.mf hf.1 (by omega)
    have hu := h.u hf.1 (by omega)
    have hA : 41 + 10 * f ≠ 0 := by omega
    have hcu := h.cu hf.1 (by omega)
    have hmu := h.mu hf.1 (by omega)
    simp only [if_pos hf, if_neg hA, nn_ok _ hA, hc.c0, b2i_0, ite_not, ne_eq, Decidable.not_not, m_isMissing hm, bnd_s, q49_0, q50_0, q51_0, q245_0, q246_0, q247_0]
    rw [c_leastToRaise hw hc hcu _ _ (by omega), c_greatestToLower hc hcu _ _ (by omega), c_leastDown hw hc hcu _ (by omega)]
    rw [m_leastPut hw hm hmu _ (by omega), m_greatestTaken hw hm hmu _ (by omega), m_leastDown hw hm hmu _ (by omega)]
    simp only [bnd_s]
    rw [FU_c (p := cR (VM μ f) (UM μ f)) (q := mPt (VM μ f) (UM μ f)) 0 (fun j _ _ => cR_mP hw hcu.1 j)]
    rw [FD_c (q := mTk (VM μ f) (UM μ f)) 395 (fun j _ _ => mTk_c hu j)]
    unfold QQ
    repeat' split
    all_goals exact ⟨_, rfl, rfl⟩
  · simp only [if_neg hf, if_true]
    exact ⟨_, rfl, rfl⟩
end QA
