/-! the class' frame: its pieces -/
abbrev PI (V : FV) (t l p : Int) : Prop := (t = 0 ∧ inS V p ∧ inL V l ∧ ¬ (l = 0 ∧ ¬ fot V p)) ∨ (t = 1 ∧ inB V p ∧ inL V l ∧ ¬ (l = 0 ∧ gat V p)) ∨ (t = 2 ∧ vR V p l = 1) ∨ (t = 3 ∧ 0 ≤ vC V p l) ∨ (t = 4 ∧ vT V p l = 1) ∨ (t = 5 ∧ inL V l ∧ l = 0 ∧ gat V p)
abbrev isP (V : FV) (k : Int) : Prop := 0 ≤ k ∧ k < 396 ∧ PI V (k / 66) (k % 66 / 11) (k % 11)
def ndT (V : FV) (s l w : Int) : Int := if b2i (¬ fot V s) < l then (if w = 0 then 11 * (l - 1) + s else -1) else if fot V s then -1 else 330 + (s - 1 + w)
def nd (V : FV) (k w : Int) : Int :=
  if k / 66 = 0 then ndT V (k % 11) (k % 66 / 11) w else if k / 66 = 1 then 11 * (k % 66 / 11) + (k % 11 + w) else
  if k / 66 = 2 then (if w = 0 then 66 + 11 * (k % 66 / 11) + k % 11 else -1) else if k / 66 = 3 then (if w = 0 then 66 + 11 * (k % 66 / 11) + k % 11 else -1) else
  if k / 66 = 4 then (if w = 0 then 11 * (k % 66 / 11) + k % 11 else -1) else (if w = 0 then LF V (k % 11) else RF V (k % 11 + 1))
def szOf (V : FV) (t p : Int) : Int := if t = 0 then vH V else if t = 4 then 1 else vW V p
abbrev cR (V : FV) (U : Int → Int) (k : Int) : Prop := U k = 0 ∧ isP V k ∧ (nd V k 0 < 0 ∨ U (nd V k 0) = 1) ∧ (nd V k 1 < 0 ∨ U (nd V k 1) = 1)
/-- what is up of the class' frame -/
def CU (μ : MM) (A : Int) (V : FV) (U : Int → Int) : Prop := (∀ k, U k = 0 ∨ (U k = 1 ∧ isP V k)) ∧ (∀ k, 0 ≤ k → k < 396 → (0 ≤ μ (A + 8) k ↔ U k = 1))
section CP
variable {μ : MM} {A : Int} {V : FV} {U : Int → Int}
theorem fot0 (hw : WF V) : fot V 0 := by
  have := hw.k (0 - 1)
  intro q
  omega
theorem fotB (hw : WF V) : fot V (vB V) := by
  have := hw.k (vB V)
  intro q
  omega
theorem LF_r (hw : WF V) {s : Int} (h : 0 ≤ s) : 0 ≤ LF V s ∧ LF V s ≤ s ∧ fot V (LF V s) ∧ ∀ j, LF V s < j → j ≤ s → ¬ fot V j := by
  rcases FD_p (p := fun j => fot V j) (d := -1) s with ⟨_, e⟩ | e
  · exact absurd (fot0 hw) (e 0 (by omega) h)
  · exact e
theorem RF_r (hw : WF V) {s : Int} (h : s ≤ vB V) : s ≤ RF V s ∧ RF V s ≤ vB V ∧ fot V (RF V s) ∧ ∀ j, s ≤ j → j < RF V s → ¬ fot V j := by
  rcases FU_p (p := fun j => fot V j) (d := -1) (n := vB V + 1) s with ⟨_, e⟩ | e
  · exact absurd (fotB hw) (e (vB V) h (by omega))
  · unfold RF
    exact ⟨e.1, by omega, e.2.2⟩
theorem c_pieceAt {t l p : Int} (μ : MM) (ht : -100 ≤ t ∧ t ≤ 100) (hl : -100 ≤ l ∧ l ≤ 100) (hp : -100 ≤ p ∧ p ≤ 100) : EE 147 0 [(0, t), (0, l), (0, p)] [] μ = some (66 * t + 11 * l + p, μ) := by
  rw [q147_0]
  simp (disch := omega) only [w32_l]
theorem c_hasPiece (hw : WF V) (h : CF μ A V) (k : Int) : EE 37 0 [(41, A), (0, k), (9, 0), (9, 0)] [] μ = some (b2i (isP V k), μ) := by
  rw [q37_0]
  by_cases e0 : k < 0
  · rw [if_pos e0, b2i_f (fun q => by omega)]
  by_cases e1 : k < 396
  · rw [if_neg e0, if_pos e1]
    simp (disch := omega) only [td66, tm66, td11, tm11, w32_l]
    have k0 : isP V k ↔ PI V (k / 66) (k % 66 / 11) (k % 11) := ⟨fun q => q.2.2, fun q => ⟨by omega, e1, q⟩⟩
    rw [b2i_c k0]
    have h1 : 0 ≤ k % 66 / 11 ∧ k % 66 / 11 < 6 := by omega
    have h2 : 0 ≤ k % 11 ∧ k % 11 < 11 := by omega
    have h3 : 0 ≤ k / 66 ∧ k / 66 < 6 := by omega
    revert h1 h2 h3
    generalize k / 66 = t
    generalize k % 66 / 11 = l
    generalize k % 11 = p
    intro h1 h2 h3
    have r := hw.r
    have r1 := hw.b p l
    have r2 := hw.t p l
    have r3 := hw.k p
    by_cases t0 : t = 0
    · rw [if_pos t0, c_hasStandard h, bnd_s]
      simp only [b2i_0, ite_not]
      by_cases e : inS V p
      · rw [if_pos e, c_hasLift h, bnd_s]
        simp only [b2i_0, ite_not]
        by_cases e2 : inL V l
        · rw [if_pos e2, c_lowestLift hw h (by omega) (by omega), bnd_s]
          by_cases e3 : fot V p
          · rw [if_neg (by rw [b2i_f (fun q => q e3)]; omega), b2i_t (Or.inl ⟨t0, e, e2, fun q => q.2 e3⟩)]
          · rw [b2i_t e3]
            split
            · rw [b2i_f]
              omega
            · rw [b2i_t]
              omega
        · rw [if_neg e2, b2i_f]
          omega
      · rw [if_neg e, b2i_f]
        omega
    rw [if_neg t0]
    by_cases t1 : t = 1
    · rw [if_pos t1, c_hasBay h, bnd_s]
      simp only [c_hasLift h, c_isOpening hw h, bnd_s, b2i_0, ite_not]
      unfold b2i
      repeat' split
      all_goals first | rfl | omega
    rw [if_neg t1]
    by_cases t2 : t = 2
    · rw [if_pos t2, c_hasBrace hw h, bnd_s]
      rcases r1 with e | e
      · rw [show b2i (PI V t l p) = 0 from b2i_f (by omega), e, zo_0]
      · rw [show b2i (PI V t l p) = 1 from b2i_t (by omega), e.1, zo_1]
    rw [if_neg t2]
    by_cases t3 : t = 3
    · rw [if_pos t3, c_classOf hw h, bnd_s]
      unfold b2i
      repeat' split
      all_goals first | rfl | omega
    rw [if_neg t3]
    by_cases t4 : t = 4
    · rw [if_pos t4, c_hasTie hw h, bnd_s]
      rcases r2 with e | e
      · rw [show b2i (PI V t l p) = 0 from b2i_f (by omega), e, zo_0]
      · rw [show b2i (PI V t l p) = 1 from b2i_t (by omega), e.1, zo_1]
    rw [if_neg t4]
    simp only [c_hasLift h, c_isOpening hw h, bnd_s, b2i_0, ite_not]
    unfold b2i
    repeat' split
    all_goals first | rfl | omega
  · rw [if_neg e0, if_neg e1, b2i_f (fun q => by omega)]
theorem c_piecesOf_l (hw : WF V) (h : CF μ A V) {t : Int} (h0 : 0 ≤ t) (h1 : t ≤ 5) : ∀ i acc, 0 ≤ i → 0 ≤ acc → acc ≤ i → EE 38 4 [(41, A), (0, t), (0, acc), (0, i)] [] μ = some (acc + SM (fun s => b2i (isP V (66 * t + s))) i 66, μ) := by
  refine up_ind 66 ?_ ?_
  · intro i hi acc _ _ _
    rw [q38_4, SM_e hi, Int.add_zero, if_neg (by omega)]
  · intro i hi ih acc _ _ _
    rw [q38_4, SM_s hi, if_pos (by omega)]
    simp (disch := omega) only [w32_l, c_hasPiece hw h, bnd_s]
    simp only [b2i_0]
    split
    · rename_i e
      rw [ih _ (by omega) (by omega) (by omega), b2i_f e, Int.zero_add]
    · rename_i e
      rw [ih _ (by omega) (by omega) (by omega), b2i_t (Decidable.not_not.1 e), Int.add_assoc]
theorem c_piecesOf (hw : WF V) (h : CF μ A V) {t : Int} (h0 : 0 ≤ t) (h1 : t ≤ 5) : EE 38 0 [(41, A), (0, t), (9, 0), (9, 0)] [] μ = some (SM (fun s => b2i (isP V (66 * t + s))) 0 66, μ) := by
  rw [q38_0, c_piecesOf_l hw h h0 h1 _ _ (by omega) (by omega) (by omega), Int.zero_add]
theorem c_sizeOf (hw : WF V) (h : CF μ A V) (t p : Int) : EE 40 0 [(41, A), (0, t), (0, p)] [] μ = some (szOf V t p, μ) := by
  rw [q40_0, h.c3, c_widthOf hw h, bnd_s]
  unfold szOf
  repeat' split
  all_goals rfl
theorem c_piecesOfSize_l (hw : WF V) (h : CF μ A V) {t z : Int} (h0 : 0 ≤ t) (h1 : t ≤ 5) : ∀ i acc, 0 ≤ i → 0 ≤ acc → acc ≤ i → EE 39 5 [(41, A), (0, t), (0, z), (0, acc), (0, i)] [] μ = some (acc + SM (fun s => b2i (isP V (66 * t + s) ∧ szOf V t (s % 11) = z)) i 66, μ) := by
  refine up_ind 66 ?_ ?_
  · intro i hi acc _ _ _
    rw [q39_5, SM_e hi, Int.add_zero, if_neg (by omega)]
  · intro i hi ih acc _ _ _
    rw [q39_5, SM_s hi, if_pos (by omega)]
    simp (disch := omega) only [w32_l, c_hasPiece hw h, c_sizeOf hw h, bnd_s, tm11]
    simp only [b2i_0]
    split
    · rename_i e
      rw [ih _ (by omega) (by omega) (by omega), b2i_f (fun q => e q.1), Int.zero_add]
    · rename_i e
      split
      · rename_i e2
        rw [ih _ (by omega) (by omega) (by omega), b2i_t ⟨Decidable.not_not.1 e, e2⟩, Int.add_assoc]
      · rename_i e2
        rw [ih _ (by omega) (by omega) (by omega), b2i_f (fun q => e2 q.2), Int.zero_add]
theorem c_piecesOfSize (hw : WF V) (h : CF μ A V) {t : Int} (z : Int) (h0 : 0 ≤ t) (h1 : t ≤ 5) : EE 39 0 [(41, A), (0, t), (0, z), (9, 0), (9, 0)] [] μ = some (SM (fun s => b2i (isP V (66 * t + s) ∧ szOf V t (s % 11) = z)) 0 66, μ) := by
  rw [q39_0, c_piecesOfSize_l hw h h0 h1 _ _ (by omega) (by omega) (by omega), Int.zero_add]
theorem c_need (hw : WF V) (h : CF μ A V) {k w : Int} (hk : isP V k) (hw2 : w = 0 ∨ w = 1) : EE 41 0 [(41, A), (0, k), (0, w), (9, 0), (9, 0)] [] μ = some (nd V k w, μ) := by
  obtain ⟨e0, e1, hp⟩ := hk
  rw [q41_0]
  unfold nd
  simp (disch := omega) only [td66, tm66, td11, tm11, w32_l]
  have h1 : 0 ≤ k % 66 / 11 ∧ k % 66 / 11 < 6 := by omega
  have h2 : 0 ≤ k % 11 ∧ k % 11 < 11 := by omega
  have h3 : 0 ≤ k / 66 ∧ k / 66 < 6 := by omega
  revert h1 h2 h3 hp
  generalize k / 66 = t
  generalize k % 66 / 11 = l
  generalize k % 11 = p
  intro hp h1 h2 h3
  have r := hw.r
  have r3 := hw.k p
  simp (disch := omega) only [c_pieceAt, bnd_s]
  by_cases t0 : t = 0
  · rw [if_pos t0, if_pos t0, q42_0, c_lowestLift hw h (by omega) (by omega), bnd_s]
    unfold ndT
    simp (disch := omega) only [w32_l, c_pieceAt, bnd_s, b2i_0]
    by_cases e : fot V p
    · simp only [b2i_f (show ¬ ¬ fot V p from fun q => q e), if_pos e, if_pos (show ¬ ¬ fot V p from fun q => q e)]
      split
      · split
        · rw [bnd_s]
          congr 2
          omega
        · rfl
      · rfl
    · simp only [b2i_t e, if_neg e, if_neg (show ¬ ¬ ¬ fot V p from fun q => q e)]
      split
      · split
        · rw [bnd_s]
          congr 2
          omega
        · rfl
      · rfl
  rw [if_neg t0, if_neg t0]
  by_cases t1 : t = 1
  · rw [if_pos t1, if_pos t1]
    congr 2
    omega
  rw [if_neg t1, if_neg t1]
  by_cases t2 : t = 2
  · rw [if_pos t2, if_pos t2]
    split
    · congr 2
    · rfl
  rw [if_neg t2, if_neg t2]
  by_cases t3 : t = 3
  · rw [if_pos t3, if_pos t3]
    split
    · congr 2
    · rfl
  rw [if_neg t3, if_neg t3]
  by_cases t4 : t = 4
  · rw [if_pos t4, if_pos t4]
    split
    · congr 2
      omega
    · rfl
  rw [if_neg t4, if_neg t4]
  have l1 := LF_r hw h2.1
  have l2 := RF_r hw (s := p + 1) (by omega)
  simp (disch := omega) only [q21_0, c_footL hw h, c_footR hw h, bnd_s, c_pieceAt]
  split
  · congr 2
    omega
  · congr 2
    omega
theorem c_stands (h : CF μ A V) (hu : CU μ A V U) (k : Int) : EE 43 0 [(41, A), (0, k)] [] μ = some (U k, μ) := by
  have h1 := hu.1 k
  rw [q43_0, h.c13]
  by_cases e0 : k < 0
  · rw [if_pos e0, show U k = 0 by omega]
  by_cases e1 : k < 396
  · have h2 := hu.2 k (by omega) e1
    rw [if_neg e0, if_pos e1]
    simp (disch := omega) only [nnA h.fr, ix8 h.fr]
    split
    · rw [show U k = 0 by omega]
    · rw [show U k = 1 by omega]
  · rw [if_neg e0, if_neg e1, show U k = 0 by omega]
theorem c_canRaise (hw : WF V) (h : CF μ A V) (hu : CU μ A V U) (k : Int) : EE 44 0 [(41, A), (0, k), (9, 0), (9, 0)] [] μ = some (b2i (cR V U k), μ) := by
  have h1 := hu.1 k
  rw [q44_0, c_stands h hu, bnd_s]
  by_cases e0 : U k = 0
  · rw [if_pos e0, c_hasPiece hw h, bnd_s]
    simp only [b2i_0, ite_not]
    by_cases e1 : isP V k
    · rw [if_pos e1, c_need hw h e1 (Or.inl rfl), bnd_s, c_need hw h e1 (Or.inr rfl), bnd_s]
      simp only [c_stands h hu, bnd_s]
      have h2 := hu.1 (nd V k 0)
      have h3 := hu.1 (nd V k 1)
      by_cases e2 : nd V k 0 < 0
      · by_cases e3 : nd V k 1 < 0
        · rw [if_pos e2, if_pos e3, b2i_t ⟨e0, e1, Or.inl e2, Or.inl e3⟩]
        · rw [if_pos e2, if_neg e3]
          split
          · rw [b2i_f (fun q => by omega)]
          · rw [b2i_t ⟨e0, e1, Or.inl e2, Or.inr (by omega)⟩]
      · rw [if_neg e2]
        split
        · rw [b2i_f (fun q => by omega)]
        · by_cases e3 : nd V k 1 < 0
          · rw [if_pos e3, b2i_t ⟨e0, e1, Or.inr (by omega), Or.inl e3⟩]
          · rw [if_neg e3]
            split
            · rw [b2i_f (fun q => by omega)]
            · rw [b2i_t ⟨e0, e1, Or.inr (by omega), Or.inr (by omega)⟩]
    · rw [if_neg e1, b2i_f (fun q => e1 q.2.1)]
  · rw [if_neg e0, b2i_f (fun q => e0 q.1)]
theorem c_canLower (h : CF μ A V) (hu : CU μ A V U) (k : Int) : EE 45 0 [(41, A), (0, k)] [] μ = some (b2i (U k = 1 ∧ μ (A + 8) k = 0), μ) := by
  have h1 := hu.1 k
  rw [q45_0, c_stands h hu, bnd_s, h.c13]
  by_cases e0 : U k = 0
  · rw [if_pos e0, b2i_f (by omega)]
  · rw [if_neg e0]
    simp (disch := omega) only [nnA h.fr, ix8 h.fr]
    unfold b2i
    repeat' split
    all_goals first | rfl | omega
theorem c_leastToRaise (hw : WF V) (h : CF μ A V) (hu : CU μ A V U) : ∀ i d, 0 ≤ i → EE 49 2 [(41, A), d, (0, i)] [] μ = some (FU (cR V U) (-1000000005) i 396, μ) := by
  refine up_ind 396 ?_ ?_
  · intro i hi d _
    rw [q49_2, FU_e hi, if_neg (by omega)]
  · intro i hi ih d _
    rw [q49_2, FU_s hi, if_pos hi, c_canRaise hw h hu, bnd_s]
    simp (disch := omega) only [w32_l, b2i_0, ite_not, ih]
    split <;> rfl
theorem c_greatestToLower (h : CF μ A V) (hu : CU μ A V U) : ∀ i d, i ≤ 395 → EE 50 2 [(41, A), d, (0, i)] [] μ = some (FD (fun k => U k = 1 ∧ μ (A + 8) k = 0) (-1000000005) i, μ) := by
  refine dn_ind 0 ?_ ?_
  · intro i hi d _
    rw [q50_2, FD_e hi, if_pos (by omega)]
  · intro i hi ih d _
    rw [q50_2, FD_s hi, if_neg (by omega), c_canLower h hu, bnd_s]
    simp (disch := omega) only [w32_l, b2i_0, ite_not, show i + -1 = i - 1 by omega, ih]
    split <;> rfl
theorem c_leastDown (hw : WF V) (h : CF μ A V) (hu : CU μ A V U) : ∀ i, 0 ≤ i → EE 51 2 [(41, A), (0, i)] [] μ = some (FU (fun k => isP V k ∧ U k = 0) (-1000000005) i 396, μ) := by
  refine up_ind 396 ?_ ?_
  · intro i hi _
    rw [q51_2, FU_e hi, if_neg (by omega)]
  · intro i hi ih _
    rw [q51_2, FU_s hi, if_pos hi, c_hasPiece hw h, bnd_s]
    simp (disch := omega) only [w32_l, b2i_0, ite_not, ih, c_stands h hu, bnd_s]
    by_cases e : isP V i
    · rw [if_pos e]
      by_cases e2 : U i = 0
      · rw [if_pos e2, if_pos ⟨e, e2⟩]
      · rw [if_neg e2, if_neg (fun q => e2 q.2)]
    · rw [if_neg e, if_neg (fun q => e q.1)]
theorem c_standsUpTo (hw : WF V) (h : CF μ A V) (hu : CU μ A V U) (l : Int) : ∀ i, 0 ≤ i → EE 54 2 [(41, A), (0, l), (0, i)] [] μ = some (b2i (FU (fun k => k % 66 / 11 ≤ l ∧ isP V k ∧ U k = 0) (-1) i 396 = -1), μ) := by
  refine up_ind 396 ?_ ?_
  · intro i hi _
    rw [q54_2, FU_e hi, if_neg (by omega), b2i_t rfl]
  · intro i hi ih _
    rw [q54_2, FU_s hi, if_pos hi, c_hasPiece hw h, bnd_s]
    simp (disch := omega) only [w32_l, b2i_0, ite_not, ih, c_stands h hu, bnd_s, tm66, td11]
    by_cases e0 : l < i % 66 / 11
    · rw [if_pos e0, if_neg (fun q => by omega)]
    rw [if_neg e0]
    by_cases e : isP V i
    · rw [if_pos e]
      by_cases e2 : U i = 0
      · rw [if_pos e2, if_pos ⟨by omega, e, e2⟩, b2i_f (by omega)]
      · rw [if_neg e2, if_neg (fun q => e2 q.2.2)]
    · rw [if_neg e, if_neg (fun q => e q.2.1)]
theorem c_boardsStandOn (hw : WF V) (h : CF μ A V) (hu : CU μ A V U) {l : Int} (hl : inL V l) : ∀ i, 0 ≤ i → EE 33 2 [(41, A), (0, l), (0, i)] [] μ = some (b2i (FU (fun b => U (198 + 11 * l + b) = 1) (-1) i (vB V) ≠ -1), μ) := by
  have := hw.r
  refine up_ind (vB V) ?_ ?_
  · intro i hi _
    rw [q33_2, h.c1, FU_e hi, if_neg (by omega), b2i_f (by omega)]
  · intro i hi ih _
    rw [q33_2, h.c1, FU_s hi, if_pos hi, c_pieceAt _ (by omega) (by omega) (by omega), bnd_s, c_stands h hu, bnd_s]
    simp (disch := omega) only [w32_l, ih]
    have h1 := hu.1 (198 + 11 * l + i)
    rw [show (66 : Int) * 3 = 198 by rfl]
    by_cases e2 : U (198 + 11 * l + i) = 0
    · rw [if_pos e2, if_neg (by omega)]
    · rw [if_neg e2, if_pos (by omega), b2i_t (by omega)]
theorem c_hasTag (hw : WF V) (h : CF μ A V) (l : Int) : EE 55 0 [(41, A), (0, l)] [] μ = some (b2i (inL V l ∧ 0 ≤ μ (A + 9) l), μ) := by
  have := hw.r
  rw [q55_0, c_hasLift h, bnd_s, h.c14]
  simp only [b2i_0, ite_not]
  by_cases e : inL V l
  · rw [if_pos e]
    simp (disch := omega) only [nnA h.fr, ix9 h.fr]
    unfold b2i
    repeat' split
    all_goals first | rfl | omega
  · rw [if_neg e, b2i_f (fun q => e q.1)]
theorem c_tagOf (hw : WF V) (h : CF μ A V) {l : Int} (hl : inL V l) : EE 56 0 [(41, A), (0, l)] [] μ = some (μ (A + 9) l, μ) := by
  have := hw.r
  rw [q56_0, c_hasLift h, bnd_s, h.c14]
  simp only [b2i_0, ite_not]
  rw [if_pos hl]
  simp (disch := omega) only [nnA h.fr, ix9 h.fr]
theorem c_setTag (hw : WF V) (h : CF μ A V) {l : Int} (v : Int) (hl : inL V l) : EE 57 0 [(41, A), (0, l), (0, v)] [] μ = some (0, up μ (A + 9) l v) := by
  have := hw.r
  rw [q57_0, c_hasLift h, bnd_s, h.c14]
  simp only [b2i_0, ite_not]
  rw [if_pos hl]
  simp (disch := omega) only [nnA h.fr, ix9 h.fr]
theorem c_tagsHere (hw : WF V) (h : CF μ A V) : ∀ i acc, 0 ≤ i → 0 ≤ acc → acc ≤ i → EE 58 4 [(41, A), (0, acc), (0, i)] [] μ = some (acc + SM (fun l => b2i (0 ≤ μ (A + 9) l)) i (vL V), μ) := by
  have := hw.r
  refine up_ind (vL V) ?_ ?_
  · intro i hi acc _ _ _
    rw [q58_4, h.c2, SM_e hi, Int.add_zero, if_neg (by omega)]
  · intro i hi ih acc _ _ _
    rw [q58_4, h.c2, SM_s hi, if_pos (by omega), c_hasTag hw h, bnd_s]
    simp (disch := omega) only [w32_l, b2i_0]
    split
    · rw [ih _ (by omega) (by omega) (by omega), b2i_f (by omega), Int.zero_add]
    · rw [ih _ (by omega) (by omega) (by omega), b2i_t (by omega), Int.add_assoc]
end CP
