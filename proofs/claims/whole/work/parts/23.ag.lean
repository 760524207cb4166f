/-! what a change leaves as it was -/
abbrev rS (c i : Int) : Prop := (c = 1 ∧ i ≤ 10) ∨ c = 5 ∨ c = 14 ∨ c = 27 ∨ (c = 6 ∧ i = 2) ∨ (c = 8 ∧ 3 ≤ i) ∨ (c = 11 ∧ i = 4) ∨ (c = 13 ∧ i = 2) ∨ (c = 25 ∧ 1 ≤ i) ∨ (15 ≤ c ∧ c ≤ 23 ∧ i = 5) ∨
  (c = 71 ∧ (i ≤ 9 ∨ (11 ≤ i ∧ i ≤ 13) ∨ (18 ≤ i ∧ i ≤ 20) ∨ i = 23 ∨ i = 29))
abbrev rF (f c i : Int) : Prop := rV f c i ∨ (c = 41 + 10 * f ∧ i ≠ 5) ∨ (42 + 10 * f ≤ c ∧ c ≤ 48 + 10 * f)
abbrev rU (f c i : Int) : Prop := rV f c i ∨ (c = 41 + 10 * f ∧ i = 5) ∨ c = 49 + 10 * f ∨ (c = 82 ∧ 396 * f ≤ i ∧ i < 396 * f + 396)
abbrev rT (f c i : Int) : Prop := (c = 74 ∧ i = f) ∨ (c = 83 ∧ 6 * f ≤ i ∧ i < 6 * f + 6) ∨ (c = 71 ∧ i = 14) ∨ c = 50 + 10 * f
abbrev rH (c i : Int) : Prop := (c = 13 ∧ i ≤ 1) ∨ (c = 71 ∧ i = 10) ∨ (15 ≤ c ∧ c ≤ 24) ∨ (74 ≤ c ∧ c ≤ 80)
section AGs
variable {M μ μ' : MM}
theorem MRf_ag (e : ∀ i, i ≤ 9 ∨ (11 ≤ i ∧ i ≤ 13) ∨ (18 ≤ i ∧ i ≤ 20) ∨ i = 23 ∨ i = 29 → μ' 71 i = μ 71 i) (h : MRf μ) : MRf μ' := by
  unfold MRf
  simp only [e 0 (by omega), e 1 (by omega), e 2 (by omega), e 3 (by omega), e 4 (by omega), e 5 (by omega), e 6 (by omega), e 7 (by omega), e 8 (by omega), e 9 (by omega), e 11 (by omega), e 12 (by omega), e 13 (by omega), e 18 (by omega), e 19 (by omega), e 20 (by omega), e 23 (by omega), e 29 (by omega)]
  exact h
theorem GS_ag (e : ∀ c i, rS c i → μ' c i = μ c i) (h : GS μ) : GS μ' := by
  obtain ⟨h1, h2, h3, h4, h5, h6⟩ := h
  refine ⟨?_, ?_, ?_, ?_, ?_, MRf_ag (fun i q => e 71 i (by omega)) h6⟩
  · simp only [e 1 0 (by omega), e 1 1 (by omega), e 1 2 (by omega), e 1 3 (by omega), e 1 4 (by omega), e 1 5 (by omega), e 1 6 (by omega), e 1 7 (by omega), e 1 8 (by omega), e 1 9 (by omega), e 1 10 (by omega)]
    exact h1
  · intro f f0 f1
    rw [e 5 f (by omega)]
    exact h2 f f0 f1
  · simp only [e 6 2 (by omega), e 8 3 (by omega), e 8 4 (by omega), e 11 4 (by omega), e 13 2 (by omega), e 25 1 (by omega), e 25 2 (by omega)]
    exact h3
  · intro k k0 k1
    rw [e 14 k (by omega), e (15 + 2 * k) 5 (by omega)]
    exact h4 k k0 k1
  · intro a a0 a1
    rw [e 27 a (by omega)]
    exact h5 a a0 a1
theorem CF_ag {A : Int} {V : FV} (e : ∀ c i, (c = A ∧ i ≠ 5) ∨ (A + 1 ≤ c ∧ c ≤ A + 7) → μ' c i = μ c i) (h : CF μ A V) : CF μ' A V := by
  unfold CF FRf
  have e1 : ∀ i, μ' (A + 1) i = μ (A + 1) i := fun i => e _ _ (by omega)
  have e2 : ∀ i, μ' (A + 2) i = μ (A + 2) i := fun i => e _ _ (by omega)
  have e3 : ∀ i, μ' (A + 3) i = μ (A + 3) i := fun i => e _ _ (by omega)
  have e4 : ∀ i, μ' (A + 4) i = μ (A + 4) i := fun i => e _ _ (by omega)
  have e5 : ∀ i, μ' (A + 5) i = μ (A + 5) i := fun i => e _ _ (by omega)
  have e6 : ∀ i, μ' (A + 6) i = μ (A + 6) i := fun i => e _ _ (by omega)
  have e7 : ∀ i, μ' (A + 7) i = μ (A + 7) i := fun i => e _ _ (by omega)
  simp only [e1, e2, e3, e4, e5, e6, e7, e A 0 (by omega), e A 1 (by omega), e A 2 (by omega), e A 3 (by omega), e A 4 (by omega), e A 6 (by omega), e A 7 (by omega), e A 8 (by omega), e A 9 (by omega), e A 10 (by omega), e A 11 (by omega), e A 12 (by omega), e A 13 (by omega), e A 14 (by omega)]
  exact h
theorem WF.bB {f : Int} {P : Int → Int} (h : WF (VP μ P f)) : 0 ≤ μ 76 f ∧ μ 76 f ≤ 10 := ⟨h.r.1, h.r.2.1⟩
theorem GF_ag {f : Int} (e : ∀ c i, rF f c i → μ' c i = μ c i) (h : GF μ f) : GF μ' f := by
  have hV : VM μ' f = VM μ f := VM_ag h.1.bB (fun c i q => e c i (Or.inl q))
  unfold GF
  rw [hV]
  exact ⟨h.1, CF_ag (fun c i q => e c i (by omega)) h.2⟩
theorem UM_ag {f : Int} (e : ∀ i, 396 * f ≤ i → i < 396 * f + 396 → μ' 82 i = μ 82 i) : UM μ' f = UM μ f := by
  funext k
  unfold UM
  split
  · exact e _ (by omega) (by omega)
  · rfl
theorem GU_ag {f : Int} (hw : WF (VM μ f)) (e : ∀ c i, rU f c i → μ' c i = μ c i) (h : GU μ f) : GU μ' f := by
  have hV : VM μ' f = VM μ f := VM_ag hw.bB (fun c i q => e c i (Or.inl q))
  have hU : UM μ' f = UM μ f := UM_ag (fun i a b => e 82 i (by omega))
  have e8 : ∀ k, μ' (41 + 10 * f + 8) k = μ (41 + 10 * f + 8) k := fun k => e _ _ (by omega)
  unfold GU GUx
  simp only [hV, hU, e8, e (41 + 10 * f) 5 (by omega)]
  exact h
theorem GT_ag {f : Int} (e : ∀ c i, rT f c i → μ' c i = μ c i) (h : GT μ f) : GT μ' f := by
  intro l l0 l1
  have := h l l0 l1
  rw [e 74 f (by omega), e 83 (6 * f + l) (by omega), e 71 14 (by omega), e (50 + 10 * f) l (by omega)]
  exact this
theorem GP_ag (e : ∀ c i, c = 39 ∨ c = 84 → μ' c i = μ c i) (h : GP μ) : GP μ' := by
  intro p p0 p1
  rw [e 39 p (by omega), e 84 p (by omega)]
  exact h p p0 p1
theorem GD_ag (e : ∀ c i, (c = 1 ∧ i = 11) ∨ (c = 71 ∧ i = 14) → μ' c i = μ c i) (h : GD μ) : GD μ' := by
  unfold GD
  rw [e 1 11 (by omega), e 71 14 (by omega)]
  exact h
theorem GZ_ag (e : ∀ c i, c = 2 ∨ c = 3 ∨ c = 4 ∨ c = 72 ∨ c = 73 → μ' c i = μ c i) (h : GZ μ) : GZ μ' := by
  refine ⟨fun i i0 i1 => ?_, fun i i0 i1 => ?_⟩
  · rw [e 2 i (by omega), e 3 i (by omega), e 72 i (by omega), e 72 (6 + i) (by omega)]
    exact h.1 i i0 i1
  · rw [e 4 i (by omega), e 73 i (by omega)]
    exact h.2 i i0 i1
theorem GK_ag (e : ∀ c i, c = 40 ∨ c = 85 → μ' c i = μ c i) (h : GK μ) : GK μ' := by
  intro i i0 i1
  rw [e 40 i (by omega), e 85 i (by omega)]
  exact h i i0 i1
theorem GR_ag (e : ∀ c i, (c = 11 ∧ i ≤ 2) ∨ (c = 71 ∧ 15 ≤ i ∧ i ≤ 17) → μ' c i = μ c i) (h : GR μ) : GR μ' := by
  unfold GR
  rw [e 11 0 (by omega), e 11 1 (by omega), e 11 2 (by omega), e 71 15 (by omega), e 71 16 (by omega), e 71 17 (by omega)]
  exact h
theorem LK_ag {c : Int} {P S : Int → Int} (e : ∀ i, μ' c i = μ c i) (e1 : ∀ i, μ' (c + 1) i = μ (c + 1) i) (e4 : ∀ i, μ' 74 i = μ 74 i) (e6 : ∀ i, μ' 76 i = μ 76 i) (h : LK μ c P S) : LK μ' c P S := by
  unfold LK
  simp only [e, e1, e4, e6]
  exact h
theorem GH_ag (e : ∀ c i, rH c i → μ' c i = μ c i) (h : GH μ) : GH μ' := by
  have e10 := e 71 10 (by omega)
  have e0 := e 13 0 (by omega)
  have e1 := e 13 1 (by omega)
  have hp : ∀ i, plA μ' i = plA μ i := by
    intro i
    unfold plA
    split
    · funext j
      exact e 79 j (by omega)
    · funext j
      rw [e10, e 80 _ (by omega)]
  have hc : ∀ i, chg μ' i = chg μ i := by
    intro i
    unfold chg
    rw [e1]
  refine ⟨?_, fun i i0 i1 => ?_⟩
  · rw [e10, e0, e1]
    exact h.1
  · rw [e0] at i1
    rw [hp, hp, hc]
    obtain ⟨h1, h2⟩ := h.2 i i0 i1
    have h3 := h.1
    have hr : 15 ≤ chg μ i ∧ chg μ i ≤ 23 := by
      unfold chg
      omega
    refine ⟨LK_ag (fun i => e _ _ (by omega)) (fun i => e _ _ (by omega)) (fun i => e _ _ (by omega)) (fun i => e _ _ (by omega)) h1, fun f f0 f1 => ?_⟩
    rw [VP_ag (P := plA μ (i + 1)) (h2 f f0 f1).bB (fun c j q => e c j (by omega)) (fun _ _ _ => rfl)]
    exact h2 f f0 f1
/-- the cells that hold nothing between calls -/
abbrev SCR (c i : Int) : Prop := (c = 6 ∧ i ≤ 1) ∨ c = 7 ∨ (c = 8 ∧ i ≤ 2) ∨ c = 9 ∨ c = 10 ∨ (c = 11 ∧ i = 3) ∨ c = 12 ∨ (c = 25 ∧ i = 0) ∨ c = 26 ∨ (28 ≤ c ∧ c ≤ 38) ∨ c = 81 ∨ (86 ≤ c ∧ c ≤ 89) ∨ (c = 71 ∧ (i = 21 ∨ i = 22 ∨ (24 ≤ i ∧ i ≤ 28)))
def sA (μ μ' : MM) : Prop := ∀ c i, ¬ SCR c i → μ' c i = μ c i
theorem sA_r (μ : MM) : sA μ μ := fun _ _ _ => rfl
theorem sA_t {μ'' : MM} (h1 : sA μ μ') (h2 : sA μ' μ'') : sA μ μ'' := fun c i q => (h2 c i q).trans (h1 c i q)
theorem sA_u {x j : Int} (v : Int) (h : SCR x j) : sA μ (up μ x j v) := by
  intro c i q
  apply up_n
  by_cases e : c = x
  · right
    intro e2
    exact q (e ▸ e2 ▸ h)
  · exact Or.inl e
theorem Inv_sA (e : sA μ μ') (h : Inv M μ) : Inv M μ' := by
  refine ⟨GS_ag (fun c i q => e c i (by omega)) h.s, fun f f0 f1 => ⟨GF_ag (fun c i q => e c i (by omega)) (h.f f0 f1), GU_ag (h.wf f0 f1) (fun c i q => e c i (by omega)) (h.u f0 f1), GT_ag (fun c i q => e c i (by omega)) (h.t f0 f1)⟩, GP_ag (fun c i q => e c i (by omega)) h.p, GD_ag (fun c i q => e c i (by omega)) h.d, GZ_ag (fun c i q => e c i (by omega)) h.z, GK_ag (fun c i q => e c i (by omega)) h.k, GR_ag (fun c i q => e c i (by omega)) h.r, GH_ag (fun c i q => e c i (by omega)) h.h, fun c i q => ?_⟩
  rw [e c i (by omega)]
  exact h.x c i q
theorem VM_sA {f : Int} (e : sA μ μ') (h : WF (VM μ f)) : VM μ' f = VM μ f := VM_ag h.bB (fun c i q => e c i (by omega))
theorem UM_sA {f : Int} (e : sA μ μ') : UM μ' f = UM μ f := UM_ag (fun i a b => e 82 i (by omega))
end AGs
/-- one call of the law: both answer alike, and what holds between calls holds again -/
def ST (M : MM) (c : RR) (r : MM → RR) : Prop := ∃ v μ1 μ2, c = some (v, μ1) ∧ r μ1 = some (v, μ2) ∧ Inv M μ2
theorem ST_q {M μ : MM} {c : RR} {r : MM → RR} (h : Inv M μ) (q : QQ c (r μ) μ) : ST M c r := by
  obtain ⟨v, h1, h2⟩ := q
  exact ⟨v, μ, μ, h1, h2, h⟩
