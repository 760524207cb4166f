/-! small changes -/
def FLL (μ : MM) (x lo hi v : Int) : MM := fun c j => if c = x ∧ lo ≤ j ∧ j < hi then v else μ c j
theorem FLL_e (μ : MM) {x lo hi : Int} (v : Int) (h : hi ≤ lo) : FLL μ x lo hi v = μ := by
  funext c j
  unfold FLL
  exact if_neg (by omega)
theorem FLL_s (μ : MM) {x lo hi : Int} (v : Int) (h : lo < hi) : FLL (up μ x lo v) x (lo + 1) hi v = FLL μ x lo hi v := by
  funext c j
  unfold FLL up
  repeat' split
  all_goals first | rfl | omega
theorem FLL_n (μ : MM) {x lo hi v c j : Int} (h : ¬ (c = x ∧ lo ≤ j ∧ j < hi)) : FLL μ x lo hi v c j = μ c j := if_neg h
theorem FLL_i (μ : MM) {x lo hi v j : Int} (h : lo ≤ j ∧ j < hi) : FLL μ x lo hi v x j = v := if_pos ⟨rfl, h⟩
def CLB (μ : MM) (x lo hi d : Int) : MM := fun c j => if c = x ∧ lo ≤ j ∧ j < hi ∧ μ x j < d then -1 else μ c j
theorem CLB_e (μ : MM) {x lo hi : Int} (d : Int) (h : hi ≤ lo) : CLB μ x lo hi d = μ := by
  funext c j
  unfold CLB
  exact if_neg (by omega)
theorem CLB_1 (μ : MM) {x lo hi d : Int} (h : lo < hi) (h2 : μ x lo < d) : CLB (up μ x lo (-1)) x (lo + 1) hi d = CLB μ x lo hi d := by
  funext c j
  unfold CLB
  by_cases e : j = lo
  · subst e
    rw [if_neg (by omega)]
    by_cases e2 : c = x
    · subst e2
      rw [up_s, if_pos ⟨rfl, by omega, h, h2⟩]
    · rw [up_nc _ _ e2, if_neg (fun q => e2 q.1)]
  · rw [up_n μ (x := x) (i := lo) (y := c) (j := j) (-1) (Or.inr e), up_n μ (x := x) (i := lo) (y := x) (j := j) (-1) (Or.inr e)]
    repeat' split
    all_goals first | rfl | omega
theorem CLB_0 (μ : MM) {x lo hi d : Int} (h2 : ¬ μ x lo < d) : CLB μ x (lo + 1) hi d = CLB μ x lo hi d := by
  funext c j
  unfold CLB
  by_cases e : j = lo
  · subst e
    rw [if_neg (by omega), if_neg (fun q => h2 q.2.2.2)]
  · repeat' split
    all_goals first | rfl | omega
/-- what the reference reads of its frames -/
def RI (μ : MM) : Prop := MRf μ ∧ ∀ f, 0 ≤ f → f < 3 → WF (VM μ f)
/-- a change in the class' cells alone -/
def cA (μ μ' : MM) : Prop := ∀ c i, c ≤ 0 ∨ 71 ≤ c → μ' c i = μ c i
section MU
variable {M μ μ' : MM}
theorem Inv.ri (h : Inv M μ) : RI μ := ⟨h.m, fun _ a b => h.wf a b⟩
theorem RI.mf (h : RI μ) {f : Int} (f0 : 0 ≤ f) (f1 : f < 3) : MF μ f (VM μ f) := MF_of h.1 f0 f1
theorem RI.cA (h : RI μ) (e : cA μ μ') : RI μ' ∧ ∀ f, 0 ≤ f → f < 3 → VM μ' f = VM μ f := by
  have hv : ∀ f, 0 ≤ f → f < 3 → VM μ' f = VM μ f := fun f f0 f1 => VM_ag (h.2 f f0 f1).bB (fun c i q => e c i (by omega))
  refine ⟨⟨MRf_ag (fun i _ => e 71 i (by omega)) h.1, fun f f0 f1 => ?_⟩, hv⟩
  rw [hv f f0 f1]
  exact h.2 f f0 f1
theorem r_asked (h : RI μ) (f : Int) : EE 206 0 [(48, 71), (0, f)] [] μ = some (if 0 ≤ f ∧ f ≤ 2 then (if vB (VM μ f) = 0 then -1000000002 else 0) else -1000000001, μ) := by
  rw [q206_0, m_isFrame, bnd_s]
  simp only [b2i_0, ite_not]
  by_cases hf : 0 ≤ f ∧ f ≤ 2
  · simp only [if_pos hf, m_isMissing (h.mf hf.1 (by omega)), bnd_s, b2i_0, ite_not]
    split <;> rfl
  · simp only [if_neg hf]
theorem r_askedS (h : RI μ) (f s : Int) : EE 207 0 [(48, 71), (0, f), (0, s), (9, 0)] [] μ = some (if 0 ≤ f ∧ f ≤ 2 then (if vB (VM μ f) = 0 then -1000000002 else if inS (VM μ f) s then 0 else -1000000013) else -1000000001, μ) := by
  rw [q207_0, r_asked h, bnd_s]
  by_cases hf : 0 ≤ f ∧ f ≤ 2
  · simp only [if_pos hf]
    by_cases e : vB (VM μ f) = 0
    · simp only [if_pos e]
      rfl
    · simp only [if_neg e, if_true, m_isStandard e (h.mf hf.1 (by omega)), bnd_s, b2i_0, ite_not]
      split <;> rfl
  · simp only [if_neg hf]
    rfl
theorem r_askedL (h : RI μ) (f l : Int) : EE 255 0 [(48, 71), (0, f), (0, l), (9, 0)] [] μ = some (if 0 ≤ f ∧ f ≤ 2 then (if vB (VM μ f) = 0 then -1000000002 else if inL (VM μ f) l then 0 else -1000000013) else -1000000001, μ) := by
  rw [q255_0, r_asked h, bnd_s]
  by_cases hf : 0 ≤ f ∧ f ≤ 2
  · simp only [if_pos hf]
    by_cases e : vB (VM μ f) = 0
    · simp only [if_pos e]
      rfl
    · simp only [if_neg e, if_true, m_isLift (h.2 f hf.1 (by omega)) (h.mf hf.1 (by omega)), bnd_s, b2i_0, ite_not]
      split <;> rfl
  · simp only [if_neg hf]
    rfl
/-! sizes -/
theorem c_table (h : GS μ) (t p v : Int) : EE 103 0 [(47, 1), (0, t), (0, p), (0, v), (9, 0), (9, 0)] [] μ = if (t = 0 ∨ t = 1) ∧ (0 ≤ p ∧ p ≤ 5) ∧ 0 ≤ v ∧ v ≤ 100 then some (μ (2 + t) p, up μ (2 + t) p v) else if t = 2 ∧ (0 ≤ p ∧ p ≤ 6) ∧ 0 ≤ v ∧ v ≤ 1000000 then some (μ 4 p, up μ 4 p v) else some (-1000000001, μ) := by
  rw [q103_0, q150_0, h.1.1, h.1.2.1, h.1.2.2.1]
  by_cases t0 : t = 0
  · subst t0
    rw [if_pos rfl, bnd_s, if_neg (by omega), nn2, cle2, w32_l (by omega) (by omega), c_within, bnd_s]
    rw [show (2 : Int) + 0 = 2 from rfl]
    simp only [b2i_0, ite_not, c_within, bnd_s, nn2]
    by_cases e : 0 ≤ p ∧ p ≤ 6 - 1
    · rw [if_pos e, if_neg (by omega), jx2 _ (by omega) (by omega), jx2 _ (by omega) (by omega)]
      repeat' split
      all_goals first | rfl | omega | (exfalso; simp_all; done) | (exfalso; simp_all; omega)
    · rw [if_neg e, if_neg (by omega), if_neg (by omega)]
  rw [if_neg t0]
  by_cases t1 : t = 1
  · subst t1
    rw [if_pos rfl, bnd_s, if_neg (by omega), nn3, cle3, w32_l (by omega) (by omega), c_within, bnd_s]
    rw [show (2 : Int) + 1 = 3 from rfl]
    simp only [b2i_0, ite_not, c_within, bnd_s, nn3]
    by_cases e : 0 ≤ p ∧ p ≤ 6 - 1
    · rw [if_pos e, if_neg (by omega), jx3 _ (by omega) (by omega), jx3 _ (by omega) (by omega)]
      repeat' split
      all_goals first | rfl | omega | (exfalso; simp_all; done) | (exfalso; simp_all; omega)
    · rw [if_neg e, if_neg (by omega), if_neg (by omega)]
  rw [if_neg t1]
  by_cases t2 : t = 2
  · subst t2
    rw [if_pos rfl, bnd_s, if_neg (by omega), nn4, cle4, w32_l (by omega) (by omega), c_within, bnd_s]
    simp only [b2i_0, ite_not, c_within, bnd_s, nn4]
    by_cases e : 0 ≤ p ∧ p ≤ 7 - 1
    · rw [if_pos e, if_pos trivial, jx4 _ (by omega) (by omega), jx4 _ (by omega) (by omega)]
      repeat' split
      all_goals first | rfl | omega | (exfalso; simp_all; done) | (exfalso; simp_all; omega)
    · rw [if_neg e, if_neg (by omega), if_neg (by omega)]
  · rw [if_neg t2, bnd_s, if_pos rfl, if_neg (by omega), if_neg (by omega)]
theorem m_table_93 (h : MRf μ) {t p : Int} (v s : Int) (d4 d5 : VV) (hg : ((t = 0 ∨ t = 1) ∧ 0 ≤ p ∧ p ≤ 5) ∨ (t = 2 ∧ 0 ≤ p ∧ p ≤ 6)) : EE 160 93 [(48, 71), (0, t), (0, p), (0, v), d4, d5] [(0, s)] μ = some (s, if t = 2 then up μ 73 p v else up μ 72 (6 * t + p) v) := by
  rw [q160_93, h.c0, h.c1]
  by_cases t2 : t = 2
  · rw [if_pos t2, if_pos t2, nn73, jx73 _ (by omega) (by omega), q160_122]
  · rw [if_neg t2, if_neg t2, nn72, w32_l (x := 6 * t) (by omega) (by omega), w32_l (by omega) (by omega), jx72 _ (by omega) (by omega), q160_122]
theorem m_table (h : MRf μ) (t p v : Int) : EE 160 0 [(48, 71), (0, t), (0, p), (0, v), (9, 0), (9, 0)] [] μ = if (t = 0 ∨ t = 1) ∧ (0 ≤ p ∧ p ≤ 5) ∧ 0 ≤ v ∧ v ≤ 100 then some (μ 72 (6 * t + p), up μ 72 (6 * t + p) v) else if t = 2 ∧ (0 ≤ p ∧ p ≤ 6) ∧ 0 ≤ v ∧ v ≤ 1000000 then some (μ 73 p, up μ 73 p v) else some (-1000000001, μ) := by
  rw [q160_0, m_isIn, bnd_s]
  simp only [b2i_0, ite_not, m_isIn, bnd_s, q160_28, q160_53, q160_57, q160_58, if_true]
  simp only [show ¬ ((1 : Int) = 0) by decide, if_false, h.c0, h.c1, nn72, nn73]
  by_cases g1 : (t = 0 ∨ t = 1) ∧ (0 ≤ p ∧ p ≤ 5) ∧ 0 ≤ v ∧ v ≤ 100
  · rw [if_pos g1, if_pos (by omega), if_pos (by omega), if_pos (by omega), if_neg (by omega), w32_l (x := 6 * t) (by omega) (by omega), w32_l (by omega) (by omega), jx72 _ (by omega) (by omega), m_table_93 h _ _ _ _ (by omega), if_neg (by omega)]
  · rw [if_neg g1]
    by_cases g2 : t = 2 ∧ (0 ≤ p ∧ p ≤ 6) ∧ 0 ≤ v ∧ v ≤ 1000000
    · rw [if_pos g2, if_neg (by omega), if_pos (by omega), if_pos (by omega), if_pos (by omega), if_pos (by omega), jx73 _ (by omega) (by omega), m_table_93 h _ _ _ _ (by omega), if_pos (by omega)]
    · rw [if_neg g2]
      repeat' split
      all_goals first | rfl | omega
theorem Inv_Z (h : Inv M μ) (e : ∀ c i, c ≠ 2 → c ≠ 3 → c ≠ 4 → c ≠ 72 → c ≠ 73 → μ' c i = μ c i) (hz : GZ μ') : Inv M μ' :=
  ⟨GS_ag (fun c i q => e c i (by omega) (by omega) (by omega) (by omega) (by omega)) h.s, fun f f0 f1 => ⟨GF_ag (fun c i q => e c i (by omega) (by omega) (by omega) (by omega) (by omega)) (h.f f0 f1), GU_ag (h.wf f0 f1) (fun c i q => e c i (by omega) (by omega) (by omega) (by omega) (by omega)) (h.u f0 f1), GT_ag (fun c i q => e c i (by omega) (by omega) (by omega) (by omega) (by omega)) (h.t f0 f1)⟩,
    GP_ag (fun c i q => e c i (by omega) (by omega) (by omega) (by omega) (by omega)) h.p, GD_ag (fun c i q => e c i (by omega) (by omega) (by omega) (by omega) (by omega)) h.d, hz, GK_ag (fun c i q => e c i (by omega) (by omega) (by omega) (by omega) (by omega)) h.k, GR_ag (fun c i q => e c i (by omega) (by omega) (by omega) (by omega) (by omega)) h.r, GH_ag (fun c i q => e c i (by omega) (by omega) (by omega) (by omega) (by omega)) h.h,
    fun c i q => (e c i (by omega) (by omega) (by omega) (by omega) (by omega)).trans (h.x c i q)⟩
theorem Inv_K (h : Inv M μ) (e : ∀ c i, c ≠ 40 → c ≠ 85 → μ' c i = μ c i) (hz : GK μ') : Inv M μ' :=
  ⟨GS_ag (fun c i q => e c i (by omega) (by omega)) h.s, fun f f0 f1 => ⟨GF_ag (fun c i q => e c i (by omega) (by omega)) (h.f f0 f1), GU_ag (h.wf f0 f1) (fun c i q => e c i (by omega) (by omega)) (h.u f0 f1), GT_ag (fun c i q => e c i (by omega) (by omega)) (h.t f0 f1)⟩,
    GP_ag (fun c i q => e c i (by omega) (by omega)) h.p, GD_ag (fun c i q => e c i (by omega) (by omega)) h.d, GZ_ag (fun c i q => e c i (by omega) (by omega)) h.z, hz, GR_ag (fun c i q => e c i (by omega) (by omega)) h.r, GH_ag (fun c i q => e c i (by omega) (by omega)) h.h, fun c i q => (e c i (by omega) (by omega)).trans (h.x c i q)⟩
theorem Inv_P (h : Inv M μ) (e : ∀ c i, c ≠ 39 → c ≠ 84 → μ' c i = μ c i) (hz : GP μ') : Inv M μ' :=
  ⟨GS_ag (fun c i q => e c i (by omega) (by omega)) h.s, fun f f0 f1 => ⟨GF_ag (fun c i q => e c i (by omega) (by omega)) (h.f f0 f1), GU_ag (h.wf f0 f1) (fun c i q => e c i (by omega) (by omega)) (h.u f0 f1), GT_ag (fun c i q => e c i (by omega) (by omega)) (h.t f0 f1)⟩,
    hz, GD_ag (fun c i q => e c i (by omega) (by omega)) h.d, GZ_ag (fun c i q => e c i (by omega) (by omega)) h.z, GK_ag (fun c i q => e c i (by omega) (by omega)) h.k, GR_ag (fun c i q => e c i (by omega) (by omega)) h.r, GH_ag (fun c i q => e c i (by omega) (by omega)) h.h, fun c i q => (e c i (by omega) (by omega)).trans (h.x c i q)⟩
theorem Inv_R (h : Inv M μ) (e : ∀ c i, ¬ (c = 11 ∧ i ≤ 2) → ¬ (c = 71 ∧ 15 ≤ i ∧ i ≤ 17) → μ' c i = μ c i) (hz : GR μ') : Inv M μ' :=
  ⟨GS_ag (fun c i q => e c i (by omega) (by omega)) h.s, fun f f0 f1 => ⟨GF_ag (fun c i q => e c i (by omega) (by omega)) (h.f f0 f1), GU_ag (h.wf f0 f1) (fun c i q => e c i (by omega) (by omega)) (h.u f0 f1), GT_ag (fun c i q => e c i (by omega) (by omega)) (h.t f0 f1)⟩,
    GP_ag (fun c i q => e c i (by omega) (by omega)) h.p, GD_ag (fun c i q => e c i (by omega) (by omega)) h.d, GZ_ag (fun c i q => e c i (by omega) (by omega)) h.z, GK_ag (fun c i q => e c i (by omega) (by omega)) h.k, hz, GH_ag (fun c i q => e c i (by omega) (by omega)) h.h, fun c i q => (e c i (by omega) (by omega)).trans (h.x c i q)⟩
/-- today and tags -/
theorem Inv_DT (h : Inv M μ) (e : ∀ c i, ¬ (c = 1 ∧ i = 11) → ¬ (c = 71 ∧ i = 14) → c ≠ 50 → c ≠ 60 → c ≠ 70 → c ≠ 83 → μ' c i = μ c i) (hd : GD μ') (ht : ∀ f, 0 ≤ f → f < 3 → GT μ' f) : Inv M μ' :=
  ⟨GS_ag (fun c i q => e c i (by omega) (by omega) (by omega) (by omega) (by omega) (by omega)) h.s, fun f f0 f1 => ⟨GF_ag (fun c i q => e c i (by omega) (by omega) (by omega) (by omega) (by omega) (by omega)) (h.f f0 f1), GU_ag (h.wf f0 f1) (fun c i q => e c i (by omega) (by omega) (by omega) (by omega) (by omega) (by omega)) (h.u f0 f1), ht f f0 f1⟩,
    GP_ag (fun c i q => e c i (by omega) (by omega) (by omega) (by omega) (by omega) (by omega)) h.p, hd, GZ_ag (fun c i q => e c i (by omega) (by omega) (by omega) (by omega) (by omega) (by omega)) h.z, GK_ag (fun c i q => e c i (by omega) (by omega) (by omega) (by omega) (by omega) (by omega)) h.k, GR_ag (fun c i q => e c i (by omega) (by omega) (by omega) (by omega) (by omega) (by omega)) h.r, GH_ag (fun c i q => e c i (by omega) (by omega) (by omega) (by omega) (by omega) (by omega)) h.h,
    fun c i q => (e c i (by omega) (by omega) (by omega) (by omega) (by omega) (by omega)).trans (h.x c i q)⟩
theorem st_table (h : Inv M μ) (t p v : Int) : ST M (EE 103 0 [(47, 1), (0, t), (0, p), (0, v), (9, 0), (9, 0)] [] μ) (fun m => EE 160 0 [(48, 71), (0, t), (0, p), (0, v), (9, 0), (9, 0)] [] m) := by
  unfold ST
  rw [c_table h.s]
  by_cases g1 : (t = 0 ∨ t = 1) ∧ (0 ≤ p ∧ p ≤ 5) ∧ 0 ≤ v ∧ v ≤ 100
  · have hz := h.z.1 p (by omega) (by omega)
    rw [if_pos g1]
    refine ⟨_, _, up (up μ (2 + t) p v) 72 (6 * t + p) v, rfl, ?_, ?_⟩
    · show EE 160 0 [(48, 71), (0, t), (0, p), (0, v), (9, 0), (9, 0)] [] (up μ (2 + t) p v) = _
      rw [m_table (MRf_ag (fun i _ => up_nc _ _ (by omega)) h.m), if_pos g1, up_nc _ _ (by omega)]
      have : μ 72 (6 * t + p) = μ (2 + t) p := by
        rcases g1.1 with e | e
        · subst e
          rw [show (6 : Int) * 0 + p = p by omega]
          exact hz.1.symm
        · subst e
          exact hz.2.2.2.1.symm
      rw [this]
    · refine Inv_Z h (fun c i _ _ _ _ _ => ?_) ⟨fun i i0 i1 => ?_, fun i i0 i1 => ?_⟩
      · rw [up_nc _ _ (by omega), up_nc _ _ (by omega)]
      · have hi := h.z.1 i i0 i1
        unfold up
        repeat' split
        all_goals omega
      · have hi := h.z.2 i i0 i1
        rw [up_nc _ _ (by omega), up_nc _ _ (by omega), up_nc _ _ (by omega), up_nc _ _ (by omega)]
        exact hi
  · rw [if_neg g1]
    by_cases g2 : t = 2 ∧ (0 ≤ p ∧ p ≤ 6) ∧ 0 ≤ v ∧ v ≤ 1000000
    · have hz := h.z.2 p (by omega) (by omega)
      rw [if_pos g2]
      refine ⟨_, _, up (up μ 4 p v) 73 p v, rfl, ?_, ?_⟩
      · show EE 160 0 [(48, 71), (0, t), (0, p), (0, v), (9, 0), (9, 0)] [] (up μ 4 p v) = _
        rw [m_table (MRf_ag (fun i _ => up_nc _ _ (by omega)) h.m), if_neg g1, if_pos g2, up_nc _ _ (by omega), hz.1]
      · refine Inv_Z h (fun c i _ _ _ _ _ => ?_) ⟨fun i i0 i1 => ?_, fun i i0 i1 => ?_⟩
        · rw [up_nc _ _ (by omega), up_nc _ _ (by omega)]
        · have hi := h.z.1 i i0 i1
          unfold up
          repeat' split
          all_goals omega
        · have hi := h.z.2 i i0 i1
          unfold up
          repeat' split
          all_goals omega
    · rw [if_neg g2]
      refine ⟨_, _, _, rfl, ?_, h⟩
      show EE 160 0 [(48, 71), (0, t), (0, p), (0, v), (9, 0), (9, 0)] [] μ = _
      rw [m_table h.m, if_neg g1, if_neg g2]
/-! rules -/
theorem c_rule (w v : Int) : EE 93 0 [(46, 11), (0, w), (0, v), (9, 0)] [] μ = if w = 0 ∧ 0 ≤ v ∧ v ≤ 9 then some (μ 11 0, up μ 11 0 v) else if w = 1 ∧ 1 ≤ v ∧ v ≤ 6 then some (μ 11 1, up μ 11 1 v) else if w = 2 ∧ 0 ≤ v ∧ v ≤ 10 then some (μ 11 2, up μ 11 2 v) else some (-1000000001, μ) := by
  rw [q93_0]
  simp only [b2i_0, ite_not, c_within, bnd_s]
  repeat' split
  all_goals first | rfl | omega
theorem m_rule (w v : Int) : EE 225 0 [(48, 71), (0, w), (0, v), (9, 0), (9, 0)] [] μ = if w = 0 ∧ 0 ≤ v ∧ v ≤ 9 then some (μ 71 15, up μ 71 15 v) else if w = 1 ∧ 1 ≤ v ∧ v ≤ 6 then some (μ 71 16, up μ 71 16 v) else if w = 2 ∧ 0 ≤ v ∧ v ≤ 10 then some (μ 71 17, up μ 71 17 v) else some (-1000000001, μ) := by
  rw [q225_0]
  simp only [b2i_0, ite_not, m_isIn, bnd_s, q225_14, q225_29, q225_44, q225_48, q225_49, q225_84, q225_116, if_true]
  simp only [show ¬ ((1 : Int) = 0) by decide, if_false]
  repeat' split
  all_goals first | rfl | omega
theorem st_rule (h : Inv M μ) (w v : Int) : ST M (EE 126 0 [(47, 1), (0, w), (0, v)] [] μ) (fun m => EE 225 0 [(48, 71), (0, w), (0, v), (9, 0), (9, 0)] [] m) := by
  unfold ST
  have hr := h.r
  simp only [q126_0, h.s.1.2.2.2.2.2.2.1, nn11, c_rule, m_rule]
  have key : ∀ j, 0 ≤ j → j ≤ 2 → GR (up (up μ 11 j v) 71 (15 + j) v) → Inv M (up (up μ 11 j v) 71 (15 + j) v) := by
    intro j j0 j1 hg
    refine Inv_R h (fun c i _ _ => ?_) hg
    rw [up_n _ _ (by omega), up_n _ _ (by omega)]
  unfold GR at hr
  by_cases g0 : w = 0 ∧ 0 ≤ v ∧ v ≤ 9
  · simp only [if_pos g0, bnd_s]
    refine ⟨_, _, _, rfl, ?_, key 0 (by omega) (by omega) ?_⟩
    · rw [up_nc _ _ (by omega), hr.1.1]
      rfl
    · unfold GR up
      simp
      omega
  simp only [if_neg g0]
  by_cases g1 : w = 1 ∧ 1 ≤ v ∧ v ≤ 6
  · simp only [if_pos g1, bnd_s]
    refine ⟨_, _, _, rfl, ?_, key 1 (by omega) (by omega) ?_⟩
    · rw [up_nc _ _ (by omega), hr.2.1.1]
      rfl
    · unfold GR up
      simp
      omega
  simp only [if_neg g1]
  by_cases g2 : w = 2 ∧ 0 ≤ v ∧ v ≤ 10
  · simp only [if_pos g2, bnd_s]
    refine ⟨_, _, _, rfl, ?_, key 2 (by omega) (by omega) ?_⟩
    · rw [up_nc _ _ (by omega), hr.2.2.1]
      rfl
    · unfold GR up
      simp
      omega
  simp only [if_neg g2, bnd_s]
  exact ⟨_, _, _, rfl, rfl, h⟩
/-! stocks -/
theorem st_stock (h : Inv M μ) (t z v : Int) : ST M (EE 141 0 [(47, 1), (0, t), (0, z), (0, v), (9, 0), (9, 0)] [] μ) (fun m => EE 264 0 [(48, 71), (0, t), (0, z), (0, v), (9, 0)] [] m) := by
  unfold ST
  have hs := h.s.1
  simp only [q141_0, q264_0, c_isPS, m_isWare, bnd_s, b2i_0, ite_not, c_within, m_isIn, q149_0, hs.2.2.2.2.2.2.2.2.2.2, nn40]
  by_cases g : (0 ≤ t ∧ t ≤ 5) ∧ 1 ≤ z ∧ z ≤ 100
  · simp only [if_pos g]
    by_cases g2 : 0 ≤ v ∧ v ≤ 100000
    · have hk := h.k (101 * t + z) (by omega) (by omega)
      simp only [if_pos g2]
      rw [w32_l (x := t * 101) (by omega) (by omega), w32_l (by omega) (by omega), jx40 _ (by omega) (by omega), jx40 _ (by omega) (by omega), show t * 101 + z = 101 * t + z by omega]
      refine ⟨_, _, up (up μ 40 (101 * t + z) v) 85 (101 * t + z) v, rfl, ?_, ?_⟩
      · rw [up_nc _ _ (by omega), h.m.c18, nn85, nn85, w32_l (x := 101 * t) (by omega) (by omega), w32_l (by omega) (by omega), jx85 _ (by omega) (by omega), jx85 _ (by omega) (by omega), up_nc _ _ (by omega), hk.1]
      · refine Inv_K h (fun c i _ _ => ?_) (fun i i0 i1 => ?_)
        · rw [up_nc _ _ (by omega), up_nc _ _ (by omega)]
        · have hi := h.k i i0 i1
          unfold up
          repeat' split
          all_goals omega
    · simp only [if_neg g2]
      exact ⟨_, _, _, rfl, rfl, h⟩
  · simp only [if_neg g]
    exact ⟨_, _, _, rfl, rfl, h⟩
end MU
