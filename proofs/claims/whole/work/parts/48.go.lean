/-! put, take, go -/
section GO
variable {M μ μ' : MM} {A f : Int} {V : FV} {U : Int → Int}
theorem c_raise (hw : WF V) (h : CF μ A V) (hu : GUx μ A V U) {p : Int} (hp : cR V U p) : ∃ μ', EE 46 0 [(41, A), (0, p)] [] μ = some (0, μ') ∧ mvA A μ μ' ∧ GUx μ' A V (uPd U p 1) ∧ ∀ l, μ' (A + 9) l = if p % 66 / 11 ≤ l ∧ l < vL V then -1 else μ (A + 9) l := by
  obtain ⟨m1, x1, x2, x3, x4⟩ := c_moveT (p := p) (v := 1) hw h hu (Or.inr rfl) hp.2.1 hp.1 (fun _ => hp.2.2) (fun e => absurd e (by omega))
  have hA := fr_p h.fr
  have p0 := hp.2.1.1
  have p1 := hp.2.1.2.1
  have r := SM_b (f := U) (lo := 0) (hi := 1) (n := 396) 0 (fun j _ _ => by have := hu.1 j; omega) (by omega)
  have g4 := hu.2.2.2
  refine ⟨m1, ?_, x2, x3, x4⟩
  rw [q46_0, c_canRaise hw h hu.cu, bnd_s, b2i_t hp, if_neg (by omega), h.c13, nnA h.fr _ (by omega), ix8 h.fr _ p0 p1, up_nc _ _ (by omega), w32_l (by omega) (by omega), tm66 p0, td11 (by omega), w32_l (by omega) (by omega)]
  exact x1
theorem c_lower (hw : WF V) (h : CF μ A V) (hu : GUx μ A V U) {p : Int} (hp : U p = 1 ∧ μ (A + 8) p = 0) : ∃ μ', EE 47 0 [(41, A), (0, p)] [] μ = some (0, μ') ∧ mvA A μ μ' ∧ GUx μ' A V (uPd U p 0) ∧ ∀ l, μ' (A + 9) l = if p % 66 / 11 ≤ l ∧ l < vL V then -1 else μ (A + 9) l := by
  have hP : isP V p := by
    rcases hu.1 p with e | e
    · omega
    · exact e.2
  have hz : HN V U p = 0 := by
    have := hu.2.2.1 p hP.1 hP.2.1
    omega
  obtain ⟨m1, x1, x2, x3, x4⟩ := c_moveT (p := p) (v := 0) hw h hu (Or.inl rfl) hP hp.1 (fun e => absurd e (by omega)) (fun _ => hz)
  have hA := fr_p h.fr
  have p0 := hP.1
  have p1 := hP.2.1
  have r := SM_b (f := U) (lo := 0) (hi := 1) (n := 396) 0 (fun j _ _ => by have := hu.1 j; omega) (by omega)
  have g4 := hu.2.2.2
  refine ⟨m1, ?_, x2, x3, x4⟩
  rw [q47_0, c_canLower h hu.cu, bnd_s, b2i_t hp, if_neg (by omega), h.c13, nnA h.fr _ (by omega), ix8 h.fr _ p0 p1, up_nc _ _ (by omega), w32_l (by omega) (by omega), tm66 p0, td11 (by omega), w32_l (by omega) (by omega)]
  exact x1
/-- what the reference's set does -/
def stM (μ : MM) (f p v : Int) : MM := FLL (up μ 82 (396 * f + p) v) 83 (6 * f + p % 66 / 11) (6 * f + 6) NON
theorem m_set (hm : MRf μ) (f0 : 0 ≤ f) (f1 : f < 3) {p v : Int} (p0 : 0 ≤ p) (p1 : p < 396) (hv : v = 0 ∨ v = 1) : EE 241 0 [(48, 71), (0, f), (0, p), (0, v), (9, 0)] [] μ = some (0, stM μ f p v) := by
  have loop : ∀ l (m : MM) d2 d3, 0 ≤ l → MRf m → EE 241 22 [(48, 71), (0, f), d2, d3, (0, l)] [] m = some (0, FLL m 83 (6 * f + l) (6 * f + 6) NON) := by
    refine up_ind 6 (fun l hl m d2 d3 l0 hm => ?_) (fun l hl ih m d2 d3 l0 hm => ?_)
    · rw [q241_22, if_neg (by omega), FLL_e _ _ (by omega)]
    · rw [q241_22, if_pos hl, hm.c12, nn83, w32_l (x := 6 * f) (by omega) (by omega), w32_l (x := 6 * f + l) (by omega) (by omega), jx83 _ (by omega) (by omega), w32_l (by omega) (by omega), ih _ _ _ (by omega) (MRf_ag (fun i _ => up_nc _ _ (by omega)) hm), show 6 * f + (l + 1) = 6 * f + l + 1 by omega, FLL_s _ _ (by omega)]
  have ez : ∀ K : RR, zo v K = K := by
    intro K
    rcases hv with e | e
    · rw [e, zo_0]
    · rw [e, zo_1]
  rw [q241_0, hm.c11, nn82, w32_l (x := 396 * f) (by omega) (by omega), w32_l (x := 396 * f + p) (by omega) (by omega), jx82 _ (by omega) (by omega), ez, tm66 p0, td11 (by omega), w32_l (by omega) (by omega), loop _ _ _ _ (by omega) (MRf_ag (fun i _ => up_nc _ _ (by omega)) hm)]
  rfl
theorem stM_a {p v : Int} : ∀ c i, ¬ (c = 82 ∧ i = 396 * f + p) → ¬ (c = 83 ∧ 6 * f + p % 66 / 11 ≤ i ∧ i < 6 * f + 6) → stM μ f p v c i = μ c i := by
  intro c i x y
  unfold stM
  rw [FLL_n _ y, up_n _ _ (by omega)]
theorem stM_u {p v : Int} (p0 : 0 ≤ p) (p1 : p < 396) : UM (stM μ f p v) f = uPd (UM μ f) p v := by
  funext k
  unfold UM uPd
  by_cases e : k = p
  · subst e
    rw [if_pos ⟨p0, p1⟩, if_pos rfl]
    unfold stM
    rw [FLL_n _ (by omega), up_s]
  · rw [if_neg e]
    show _ = if 0 ≤ k ∧ k < 396 then μ 82 (396 * f + k) else 0
    by_cases q : 0 ≤ k ∧ k < 396
    · rw [if_pos q, if_pos q, stM_a _ _ (by omega) (by omega)]
    · rw [if_neg q, if_neg q]
theorem Inv_UT (h : Inv M μ) (f0 : 0 ≤ f) (f1 : f < 3) (e : ∀ c i, ¬ (c = 41 + 10 * f ∧ i = 5) → c ≠ 49 + 10 * f → c ≠ 50 + 10 * f → ¬ (c = 82 ∧ 396 * f ≤ i ∧ i < 396 * f + 396) → ¬ (c = 83 ∧ 6 * f ≤ i ∧ i < 6 * f + 6) → μ' c i = μ c i) (hu : GU μ' f) (ht : GT μ' f) : Inv M μ' := by
  refine ⟨GS_ag (fun c i q => e c i (by omega) (by omega) (by omega) (by omega) (by omega)) h.s, fun g g0 g1 => ?_, GP_ag (fun c i q => e c i (by omega) (by omega) (by omega) (by omega) (by omega)) h.p, GD_ag (fun c i q => e c i (by omega) (by omega) (by omega) (by omega) (by omega)) h.d, GZ_ag (fun c i q => e c i (by omega) (by omega) (by omega) (by omega) (by omega)) h.z, GK_ag (fun c i q => e c i (by omega) (by omega) (by omega) (by omega) (by omega)) h.k, GR_ag (fun c i q => e c i (by omega) (by omega) (by omega) (by omega) (by omega)) h.r, GH_ag (fun c i q => e c i (by omega) (by omega) (by omega) (by omega) (by omega)) h.h, fun c i q => (e c i (by omega) (by omega) (by omega) (by omega) (by omega)).trans (h.x c i q)⟩
  refine ⟨GF_ag (fun c i q => e c i (by omega) (by omega) (by omega) (by omega) (by omega)) (h.f g0 g1), ?_⟩
  by_cases z : g = f
  · subst z
    exact ⟨hu, ht⟩
  · exact ⟨GU_ag (h.wf g0 g1) (fun c i q => e c i (by omega) (by omega) (by omega) (by omega) (by omega)) (h.u g0 g1), GT_ag (fun c i q => e c i (by omega) (by omega) (by omega) (by omega) (by omega)) (h.t g0 g1)⟩
/-- both sides moved: what holds between calls holds again -/
theorem Inv_mv (h : Inv M μ) (f0 : 0 ≤ f) (f1 : f < 3) {m1 m2 : MM} {U' : Int → Int} {lo : Int} (lo0 : 0 ≤ lo) (a1 : mvA (41 + 10 * f) μ m1) (u1 : GUx m1 (41 + 10 * f) (VM μ f) U') (t1 : ∀ l, m1 (41 + 10 * f + 9) l = if lo ≤ l ∧ l < vL (VM μ f) then -1 else μ (41 + 10 * f + 9) l)
    (a2 : ∀ c i, ¬ (c = 82 ∧ 396 * f ≤ i ∧ i < 396 * f + 396) → ¬ (c = 83 ∧ 6 * f ≤ i ∧ i < 6 * f + 6) → m2 c i = m1 c i) (u2 : UM m2 f = U') (t2 : ∀ l, 0 ≤ l → l < 6 → m2 83 (6 * f + l) = if lo ≤ l then NON else μ 83 (6 * f + l)) : Inv M m2 := by
  have ag : ∀ c i, ¬ (c = 41 + 10 * f ∧ i = 5) → c ≠ 49 + 10 * f → c ≠ 50 + 10 * f → ¬ (c = 82 ∧ 396 * f ≤ i ∧ i < 396 * f + 396) → ¬ (c = 83 ∧ 6 * f ≤ i ∧ i < 6 * f + 6) → m2 c i = μ c i := by
    intro c i q1 q2 q3 q4 q5
    rw [a2 c i q4 q5]
    exact a1 c i q1 (by omega) (by omega)
  have hv : VM m2 f = VM μ f := VM_ag (h.wf f0 f1).bB (fun c i q => ag c i (by omega) (by omega) (by omega) (by omega) (by omega))
  refine Inv_UT h f0 f1 ag ?_ (fun l l0 l1 => ?_)
  · unfold GU
    rw [hv, u2]
    obtain ⟨b1, b2, b3, b4⟩ := u1
    refine ⟨b1, b2, fun k k0 k1 => ?_, ?_⟩
    · rw [a2 _ _ (by omega) (by omega)]
      exact b3 k k0 k1
    · rw [a2 _ _ (by omega) (by omega)]
      exact b4
  · have hT := h.t f0 f1 l l0 l1
    have hN : NON = -1000000005 := rfl
    have hL : vL (VM μ f) = μ 74 f := rfl
    have e1 := t1 l
    rw [show 41 + 10 * f + 9 = 50 + 10 * f by omega] at e1
    have e2 := t2 l l0 l1
    rw [ag 74 f (by omega) (by omega) (by omega) (by omega) (by omega), ag 71 14 (by omega) (by omega) (by omega) (by omega) (by omega), a2 (50 + 10 * f) l (by omega) (by omega), e1, e2, hL]
    by_cases q : lo ≤ l
    · rw [if_pos q]
      by_cases q2 : l < μ 74 f
      · rw [if_pos ⟨q, q2⟩]
        exact Or.inr (Or.inl ⟨q2, rfl, Or.inl rfl⟩)
      · exact Or.inl ⟨by omega, rfl⟩
    · rw [if_neg q, if_neg (fun w => q w.1)]
      exact hT
theorem mv_cA (hA : 41 ≤ A ∧ A ≤ 61) (e : mvA A μ μ') : cA μ μ' := fun c i q => e c i (by omega) (by omega) (by omega)
theorem MU_cA (e : cA μ μ') (h : MU μ f V U) : MU μ' f V U := ⟨h.1, fun k k0 k1 => by rw [e 82 _ (by omega)]; exact h.2 k k0 k1⟩
theorem st_put (h : Inv M μ) (f p : Int) : ST M (EE 129 0 [(47, 1), (0, f), (0, p), (9, 0)] [] μ) (fun m => EE 243 0 [(48, 71), (0, f), (0, p)] [] m) := by
  unfold ST
  rw [q129_0, c_frameAt h.s, bnd_s]
  by_cases hf : 0 ≤ f ∧ f ≤ 2
  · have f1 : f < 3 := by omega
    have hw := h.wf hf.1 f1
    have hc := h.cf hf.1 f1
    have hu : GUx μ (41 + 10 * f) (VM μ f) (UM μ f) := h.u hf.1 f1
    have hmu := h.mu hf.1 f1
    have hA : 41 + 10 * f ≠ 0 := by omega
    simp only [if_pos hf, if_neg hA, nn_ok _ hA, hc.c0, b2i_0, ite_not, ne_eq, Decidable.not_not, c_hasPiece hw hc, c_canRaise hw hc hu.cu, bnd_s]
    by_cases e2 : vB (VM μ f) = 0
    · rw [if_pos e2]
      refine ⟨_, _, _, rfl, ?_, h⟩
      simp only [q243_0, q242_0, r_asked h.ri, bnd_s, if_pos hf, if_pos e2]
      rfl
    · rw [if_neg e2]
      by_cases e3 : isP (VM μ f) p
      · rw [if_pos e3]
        by_cases e4 : cR (VM μ f) (UM μ f) p
        · rw [if_pos e4]
          obtain ⟨m1, x1, x2, x3, x4⟩ := c_raise hw hc hu e4
          have ca := mv_cA (by omega) x2
          obtain ⟨ri, rv⟩ := h.ri.cA ca
          have hv := rv f hf.1 f1
          have u1 : UM m1 f = UM μ f := UM_ag (fun i _ _ => ca 82 i (by omega))
          have mu1 : MU m1 f (VM μ f) (UM μ f) := MU_cA ca hmu
          have mf1 := ri.mf hf.1 f1
          rw [hv] at mf1
          have hI : Inv M (stM m1 f p 1) := Inv_mv h hf.1 f1 (lo := p % 66 / 11) (by omega) x2 x3 x4 (fun c i q1 q2 => stM_a c i (by omega) (by omega)) (by rw [stM_u e3.1 e3.2.1, u1]) (fun l l0 l1 => by
            unfold stM
            by_cases q : p % 66 / 11 ≤ l
            · rw [if_pos q, FLL_i _ (by omega)]
            · rw [if_neg q, FLL_n _ (by omega), up_nc _ _ (by omega), ca 83 _ (by omega)])
          rw [x1, bnd_s]
          refine ⟨_, _, stM m1 f p 1, rfl, ?_, hI⟩
          have ups : m1 (41 + 10 * f) 5 = SM (uPd (UM μ f) p 1) 0 396 := x3.2.2.2
          simp only [q243_0, q242_0, r_asked ri, hv, bnd_s, if_pos hf, if_neg e2, if_true]
          rw [m_isPiece hw mf1, bnd_s, b2i_t e3, if_neg (by omega), if_neg (by omega), m_mayPut hw mf1 mu1, bnd_s, b2i_t ((cR_mP hw hmu.1 p).1 e4), if_neg (by omega), m_set ri.1 hf.1 f1 e3.1 e3.2.1 (Or.inr rfl), bnd_s, m_upIn (hI.mf hf.1 f1) (hI.mu hf.1 f1), bnd_s, bnd_s, stM_u e3.1 e3.2.1, u1, ups]
        · rw [if_neg e4]
          refine ⟨_, _, _, rfl, ?_, h⟩
          simp only [q243_0, q242_0, r_asked h.ri, bnd_s, if_pos hf, if_neg e2, if_true]
          rw [m_isPiece hw (h.mf hf.1 f1), bnd_s, b2i_t e3, if_neg (by omega), if_neg (by omega), m_mayPut hw (h.mf hf.1 f1) hmu, bnd_s, b2i_f (fun w => e4 ((cR_mP hw hmu.1 p).2 w)), if_pos rfl, bnd_s]
      · rw [if_neg e3]
        refine ⟨_, _, _, rfl, ?_, h⟩
        simp only [q243_0, q242_0, r_asked h.ri, bnd_s, if_pos hf, if_neg e2, if_true]
        rw [m_isPiece hw (h.mf hf.1 f1), bnd_s, b2i_f e3, if_pos rfl, bnd_s]
  · simp only [if_neg hf, if_true]
    refine ⟨_, _, _, rfl, ?_, h⟩
    simp only [q243_0, q242_0, r_asked h.ri, bnd_s, if_neg hf]
    rfl
theorem st_take (h : Inv M μ) (f p : Int) : ST M (EE 130 0 [(47, 1), (0, f), (0, p), (9, 0)] [] μ) (fun m => EE 244 0 [(48, 71), (0, f), (0, p)] [] m) := by
  unfold ST
  rw [q130_0, c_frameAt h.s, bnd_s]
  by_cases hf : 0 ≤ f ∧ f ≤ 2
  · have f1 : f < 3 := by omega
    have hw := h.wf hf.1 f1
    have hc := h.cf hf.1 f1
    have hu : GUx μ (41 + 10 * f) (VM μ f) (UM μ f) := h.u hf.1 f1
    have hmu := h.mu hf.1 f1
    have hA : 41 + 10 * f ≠ 0 := by omega
    simp only [if_pos hf, if_neg hA, nn_ok _ hA, hc.c0, b2i_0, ite_not, ne_eq, Decidable.not_not, c_hasPiece hw hc, c_canLower hc hu.cu, bnd_s]
    by_cases e2 : vB (VM μ f) = 0
    · rw [if_pos e2]
      refine ⟨_, _, _, rfl, ?_, h⟩
      simp only [q244_0, q242_0, r_asked h.ri, bnd_s, if_pos hf, if_pos e2]
      rfl
    · rw [if_neg e2]
      by_cases e3 : isP (VM μ f) p
      · rw [if_pos e3]
        by_cases e4 : UM μ f p = 1 ∧ μ (41 + 10 * f + 8) p = 0
        · rw [if_pos e4]
          obtain ⟨m1, x1, x2, x3, x4⟩ := c_lower hw hc hu e4
          have ca := mv_cA (by omega) x2
          obtain ⟨ri, rv⟩ := h.ri.cA ca
          have hv := rv f hf.1 f1
          have u1 : UM m1 f = UM μ f := UM_ag (fun i _ _ => ca 82 i (by omega))
          have mu1 : MU m1 f (VM μ f) (UM μ f) := MU_cA ca hmu
          have mf1 := ri.mf hf.1 f1
          rw [hv] at mf1
          have hI : Inv M (stM m1 f p 0) := Inv_mv h hf.1 f1 (lo := p % 66 / 11) (by omega) x2 x3 x4 (fun c i q1 q2 => stM_a c i (by omega) (by omega)) (by rw [stM_u e3.1 e3.2.1, u1]) (fun l l0 l1 => by
            unfold stM
            by_cases q : p % 66 / 11 ≤ l
            · rw [if_pos q, FLL_i _ (by omega)]
            · rw [if_neg q, FLL_n _ (by omega), up_nc _ _ (by omega), ca 83 _ (by omega)])
          rw [x1, bnd_s]
          refine ⟨_, _, stM m1 f p 0, rfl, ?_, hI⟩
          have ups : m1 (41 + 10 * f) 5 = SM (uPd (UM μ f) p 0) 0 396 := x3.2.2.2
          simp only [q244_0, q242_0, r_asked ri, hv, bnd_s, if_pos hf, if_neg e2, if_true]
          rw [m_isPiece hw mf1, bnd_s, b2i_t e3, if_neg (by omega), m_mayTake hw mf1 mu1, bnd_s, b2i_t ((mTk_c hu p).1 e4), if_neg (by omega), m_set ri.1 hf.1 f1 e3.1 e3.2.1 (Or.inl rfl), bnd_s, m_upIn (hI.mf hf.1 f1) (hI.mu hf.1 f1), bnd_s, bnd_s, stM_u e3.1 e3.2.1, u1, ups]
        · rw [if_neg e4]
          refine ⟨_, _, _, rfl, ?_, h⟩
          simp only [q244_0, q242_0, r_asked h.ri, bnd_s, if_pos hf, if_neg e2, if_true]
          rw [m_isPiece hw (h.mf hf.1 f1), bnd_s, b2i_t e3, if_neg (by omega), m_mayTake hw (h.mf hf.1 f1) hmu, bnd_s, b2i_f (fun w => e4 ((mTk_c hu p).2 w)), if_pos rfl, bnd_s]
      · rw [if_neg e3]
        refine ⟨_, _, _, rfl, ?_, h⟩
        simp only [q244_0, q242_0, r_asked h.ri, bnd_s, if_pos hf, if_neg e2, if_true]
        rw [m_isPiece hw (h.mf hf.1 f1), bnd_s, b2i_f e3, if_pos rfl, bnd_s]
  · simp only [if_neg hf, if_true]
    refine ⟨_, _, _, rfl, ?_, h⟩
    simp only [q244_0, q242_0, r_asked h.ri, bnd_s, if_neg hf]
    rfl
end GO
