/-! what bears too much -/
theorem SM_swap {g : Int → Int → Int} {m : Int} (n : Nat) : SM (fun i => SM (fun j => g i j) 0 m) 0 n = SM (fun j => SM (fun i => g i j) 0 n) 0 m := by
  induction n with
  | zero =>
    rw [SM_e (by omega), SM_0 (f := fun j => SM (fun i => g i j) 0 ((0 : Nat) : Int)) 0 (fun j _ _ => SM_e (by omega))]
  | succ n ih =>
    rw [show ((n + 1 : Nat) : Int) = (n : Int) + 1 from rfl, SM_l _ (by omega), ih, ← SM_add]
    refine SM_c _ (fun j _ _ => ?_)
    rw [SM_l _ (by omega)]
abbrev ov (V : FV) (B : Int → Int) (s : Int) : Prop := (¬ fot V s ∧ 2 * B (frl V s) < tl V s) ∨ (fot V s ∧ B (frl V s) * BE V s < AB V s)
def kA (μ μ' : MM) : Prop := ∀ c i, ¬ (c = 10 ∨ (c = 8 ∧ i ≤ 1)) → μ' c i = μ c i
section OV
variable {M μ μ' : MM} {A f : Int} {V : FV}
theorem kA_sA (h : kA μ μ') : sA μ μ' := fun c i q => h c i (by omega)
theorem c_isOver (hw : WF V) (hB : vB V ≠ 0) (hs : GS μ) (h : CF μ A V) (tw : TW μ V) (hb : ∀ i, 0 ≤ i → i < 7 → 0 ≤ μ 4 i ∧ μ 4 i ≤ 1000000) {s : Int} (s0 : 0 ≤ s) (s1 : s ≤ vB V) : ∃ μ', EE 71 0 [(43, 8), (11, A), (0, s), (30, 4), (9, 0), (9, 0), (9, 0)] [] μ = some (b2i (ov V (μ 4) s), μ') ∧ bA μ μ' := by
  have hr := hw.r
  have hf := frl_r hw s
  have b := hb (frl V s) (by omega) (by omega)
  have ht := tl_r hw s
  rw [q71_0, nA0 h.fr, c_freeLifts hw h s0 s1, bnd_s, nn4, cle4, w32_l (by omega) (by omega), c_within, bnd_s, b2i_t (by omega), if_neg (by omega), hs.2.2.1.2.2.1, nn10, cle10, w32_l (by omega) (by omega), c_within, bnd_s, b2i_t (by omega), if_neg (by omega), nn4, jx4 _ (by omega) (by omega), nA0 h.fr, c_hasFoot hw h, bnd_s]
  simp only [b2i_0]
  by_cases e : fot V s
  · rw [if_neg (fun q => q ⟨⟨hB, s0, s1⟩, e⟩)]
    obtain ⟨m1, x1, x2, x3, x4⟩ := c_reckonFoot hw hs h tw s0 s1
    have r := AB_r hw s0 s1
    have p := mul_b (a := μ 4 (frl V s)) (b := BE V s) (c := 1000000) (d := 2000000) (by omega) (by omega) (by omega) (by omega)
    rw [x1, bnd_s, x3, x4, w64_l (by omega) (by omega)]
    refine ⟨m1, ?_, x2⟩
    by_cases z : μ 4 (frl V s) * BE V s < AB V s
    · rw [if_pos (sgp.2 z), b2i_t (Or.inr ⟨e, z⟩)]
    · rw [if_neg (fun q => z (sgp.1 q)), b2i_f (fun q => q.elim (fun w => w.1 e) (fun w => z w.2))]
  · rw [if_pos (fun q => e q.2), hs.2.2.1.2.2.1, nn10, jx10 _ (by omega) (by omega), tw s s0 s1, w64_l (by omega) (by omega)]
    refine ⟨μ, ?_, bA_r μ⟩
    by_cases z : 2 * μ 4 (frl V s) < tl V s
    · rw [if_pos (sgp.2 z), b2i_t (Or.inl ⟨e, z⟩)]
    · rw [if_neg (fun q => z (sgp.1 q)), b2i_f (fun q => q.elim (fun w => z w.2) (fun w => e w.1))]
theorem c_overLoop (hw : WF V) (hB : vB V ≠ 0) (B : Int → Int) (hb : ∀ i, 0 ≤ i → i < 7 → 0 ≤ B i ∧ B i ≤ 1000000) : ∀ i (μ : MM) acc, 0 ≤ i → GS μ → CF μ A V → TW μ V → μ 4 = B → ∃ μ', EE 70 10 [(43, 8), (11, A), (30, 4), (0, acc), (0, i)] [] μ = some (ORF (ov V B) i (vB V + 1) acc, μ') ∧ bA μ μ' := by
  have hr := hw.r
  refine up_ind (vB V + 1) ?_ ?_
  · intro i hi μ acc i0 hs h tw hm
    rw [q70_10, nA0 h.fr, h.c1, if_pos (by omega), ORF_e hi]
    exact ⟨μ, rfl, bA_r μ⟩
  · intro i hi ih μ acc i0 hs h tw hm
    obtain ⟨m1, x1, x2⟩ := c_isOver hw hB hs h tw (by rw [hm]; exact hb) i0 (show i ≤ vB V by omega)
    rw [hm] at x1
    have tw1 : TW m1 V := fun j j0 j1 => by rw [x2 10 j (by omega)]; exact tw j j0 j1
    have hm1 : m1 4 = B := by
      rw [← hm]
      funext j
      exact x2 4 j (by omega)
    rw [q70_10, nA0 h.fr, h.c1, if_neg (by omega), hs.2.2.1.2.2.1, nn10, cle10, if_pos (by omega), x1, bnd_s, w32_l (by omega) (by omega), ORF_s hi]
    simp only [b2i_0]
    by_cases e : ov V B i
    · rw [if_neg (fun q => q e), if_pos e]
      obtain ⟨m2, y1, y2⟩ := ih m1 (bin 4 acc (bin 5 1 i)) (by omega) (bA_GS x2 hs) (bA_CF x2 h) tw1 hm1
      exact ⟨m2, y1, bA_t x2 y2⟩
    · rw [if_pos e, if_neg e]
      obtain ⟨m2, y1, y2⟩ := ih m1 acc (by omega) (bA_GS x2 hs) (bA_CF x2 h) tw1 hm1
      exact ⟨m2, y1, bA_t x2 y2⟩
theorem c_standardsOver (hw : WF V) (hB : vB V ≠ 0) (hs : GS μ) (h : CF μ A V) (hb : ∀ i, 0 ≤ i → i < 7 → 0 ≤ μ 4 i ∧ μ 4 i ≤ 1000000) : ∃ μ', EE 70 0 [(43, 8), (11, A), (30, 4), (9, 0), (9, 0)] [] μ = some (ORF (ov V (μ 4)) 0 (vB V + 1) 0, μ') ∧ kA μ μ' := by
  obtain ⟨m1, x1, x2, x3, x4⟩ := c_weigh (A := A) hw hB 0 μ (by omega) hs h
  have hs1 : GS m1 := GS_ag (fun c i q => x2 c i (by omega)) hs
  have h1 : CF m1 A V := CF_ag (fun c i q => x2 c i (by have := fr_p h.fr; omega)) h
  obtain ⟨m2, y1, y2⟩ := c_overLoop (A := A) hw hB (μ 4) hb 0 m1 0 (by omega) hs1 h1 x3 (by funext j; exact x2 4 j (by omega))
  refine ⟨m2, ?_, fun c i q => ?_⟩
  · rw [q70_0, q66_0, x1, bnd_s, y1]
  · rw [y2 c i (by omega)]
    exact x2 c i (by omega)
theorem m_isOver (hw : WF V) (hB : vB V ≠ 0) (h : MF μ f V) (hb : ∀ i, 0 ≤ i → i < 7 → 0 ≤ μ 73 i ∧ μ 73 i ≤ 1000000) {s : Int} (s0 : 0 ≤ s) (s1 : s ≤ vB V) : ∃ μ', EE 222 0 [(48, 71), (0, f), (0, s), (9, 0), (9, 0)] [] μ = some (b2i (ov V (μ 73) s), μ') ∧ fA μ μ' := by
  have hr := hw.r
  have hf := frl_r hw s
  have b := hb (frl V s) (by omega) (by omega)
  have ht := tl_r hw s
  rw [q222_0, m_freeOf hw hB h s0 s1, bnd_s, h.m.c1, nn73, jx73 _ (by omega) (by omega), m_hasFoot hw h (by omega) (by omega), bnd_s]
  simp only [b2i_0]
  by_cases e : fot V s
  · rw [if_neg (fun q => q e)]
    obtain ⟨m1, x1, x2, x3, x4⟩ := m_findFoot hw hB h e s0 s1
    have r := AB_r hw s0 s1
    have p := mul_b (a := μ 73 (frl V s)) (b := BE V s) (c := 1000000) (d := 2000000) (by omega) (by omega) (by omega) (by omega)
    rw [x1, bnd_s, x3, x4, w64_l (by omega) (by omega)]
    refine ⟨m1, ?_, x2⟩
    by_cases z : μ 73 (frl V s) * BE V s < AB V s
    · rw [if_pos (sgp.2 z), b2i_t (Or.inr ⟨e, z⟩)]
    · rw [if_neg (fun q => z (sgp.1 q)), b2i_f (fun q => q.elim (fun w => w.1 e) (fun w => z w.2))]
  · rw [if_pos e, m_twiceLoad hw hB h s0 s1, bnd_s, w64_l (by omega) (by omega)]
    refine ⟨μ, ?_, fA_r μ⟩
    by_cases z : 2 * μ 73 (frl V s) < tl V s
    · rw [if_pos (sgp.2 z), b2i_t (Or.inl ⟨e, z⟩)]
    · rw [if_neg (fun q => z (sgp.1 q)), b2i_f (fun q => q.elim (fun w => z w.2) (fun w => e w.1))]
theorem m_standardsOver (hw : WF V) (hB : vB V ≠ 0) (B : Int → Int) (hb : ∀ i, 0 ≤ i → i < 7 → 0 ≤ B i ∧ B i ≤ 1000000) : ∀ i (μ : MM) acc, 0 ≤ i → (-2147483648 ≤ acc ∧ acc < 2147483648) → MF μ f V → μ 73 = B → ∃ μ', EE 223 4 [(48, 71), (0, f), (0, acc), (0, i)] [] μ = some (ORF (ov V B) i (vB V + 1) acc, μ') ∧ fA μ μ' := by
  have hr := hw.r
  refine up_ind (vB V + 1) ?_ ?_
  · intro i hi μ acc i0 ha h hm
    have hf := h.fr
    rw [q223_4, h.c4, nn76, jx76 _ (by omega) (by omega), h.B, if_pos (by omega), ORF_e hi]
    exact ⟨μ, rfl, fA_r μ⟩
  · intro i hi ih μ acc i0 ha h hm
    have hf := h.fr
    obtain ⟨m1, x1, x2⟩ := m_isOver hw hB h (by rw [hm]; exact hb) i0 (show i ≤ vB V by omega)
    rw [hm] at x1
    have hm1 : m1 73 = B := by
      rw [← hm]
      funext j
      exact x2 73 j (by omega)
    rw [q223_4, h.c4, nn76, jx76 _ (by omega) (by omega), h.B, if_neg (by omega), x1, bnd_s, w32_l (by omega) (by omega), ORF_s hi, b4_0 ha]
    simp only [b2i_0]
    by_cases e : ov V B i
    · rw [if_neg (fun q => q e), if_pos e]
      obtain ⟨m2, y1, y2⟩ := ih m1 (bin 4 acc (bin 5 1 i)) (by omega) (b4_r _ _) (MF_fA x2 h) hm1
      exact ⟨m2, y1, fA_t x2 y2⟩
    · rw [if_pos e, if_neg e]
      obtain ⟨m2, y1, y2⟩ := ih m1 acc (by omega) ha (MF_fA x2 h) hm1
      exact ⟨m2, y1, fA_t x2 y2⟩
theorem st_foot (h : Inv M μ) (f s w : Int) : ST M (EE 121 0 [(47, 1), (0, f), (0, s), (0, w), (9, 0)] [] μ) (fun m => EE 214 0 [(48, 71), (0, f), (0, s), (0, w), (9, 0)] [] m) := by
  unfold ST
  rw [q121_0, c_frameAt h.s, bnd_s]
  by_cases hf : 0 ≤ f ∧ f ≤ 2
  · have hw := h.wf hf.1 (by omega)
    have hr := hw.r
    have hc := h.cf hf.1 (by omega)
    have hA : 41 + 10 * f ≠ 0 := by omega
    simp only [if_pos hf, if_neg hA, c_within, nn_ok _ hA, hc.c0, b2i_0, ite_not, ne_eq, Decidable.not_not, c_hasStandard hc, c_hasFoot hw hc, bnd_s]
    by_cases e1 : 0 ≤ w ∧ w ≤ 1
    · rw [if_pos e1]
      by_cases e2 : vB (VM μ f) = 0
      · rw [if_pos e2]
        refine ⟨_, _, _, rfl, ?_, h⟩
        simp only [q214_0, m_isFrame, m_isIn, b2i_0, ite_not, r_askedS h.ri, bnd_s, if_pos hf, if_pos e1, if_pos e2]
        rfl
      · rw [if_neg e2]
        by_cases e4 : inS (VM μ f) s
        · rw [if_pos e4]
          by_cases e5 : fot (VM μ f) s
          · rw [if_pos ⟨e4, e5⟩, h.s.1.2.2.2.2.2.1, nn8]
            obtain ⟨m1, x1, x2, x3, x4⟩ := c_weigh (A := 41 + 10 * f) hw e2 0 μ (by omega) h.s hc
            have hs1 : GS m1 := GS_ag (fun c i q => x2 c i (by omega)) h.s
            have h1 : CF m1 (41 + 10 * f) (VM μ f) := CF_ag (fun c i q => x2 c i (by omega)) hc
            obtain ⟨m2, y1, y2, y3, y4⟩ := c_reckonFoot hw hs1 h1 x3 e4.2.1 e4.2.2
            have sa : sA μ m2 := fun c i q => by rw [y2 c i (by omega), x2 c i (by omega)]
            have hI := Inv_sA sa h
            have hv := VM_sA sa hw
            have e6 : vB (VM m2 f) ≠ 0 := by rw [hv]; exact e2
            have e7 : inS (VM m2 f) s := by rw [hv]; exact e4
            have e8 : fot (VM m2 f) s := by rw [hv]; exact e5
            obtain ⟨m3, z1, z2, z3, z4⟩ := m_findFoot (hI.wf hf.1 (by omega)) e6 (hI.mf hf.1 (by omega)) e8 e7.2.1 e7.2.2
            rw [hv] at z3 z4
            rw [q66_0, x1, bnd_s, hs1.1.2.2.2.2.2.1, nn8, y1, bnd_s, (bA_GS y2 hs1).1.2.2.2.2.2.1, nn8, y3, y4]
            have hr2 : EE 214 0 [(48, 71), (0, f), (0, s), (0, w), (9, 0)] [] m2 = if w = 0 then some (AB (VM μ f) s, m3) else some (BE (VM μ f) s, m3) := by
              simp only [q214_0, m_isFrame, m_isIn, b2i_0, ite_not, r_askedS hI.ri, bnd_s, if_pos hf, if_pos e1, if_neg e6, if_pos e7, if_true]
              rw [m_hasFoot (hI.wf hf.1 (by omega)) (hI.mf hf.1 (by omega)) (by omega) (by omega), bnd_s, b2i_t e8, if_neg (by omega), z1, bnd_s, z3, z4]
            by_cases e9 : w = 0
            · rw [if_pos e9] at hr2 ⊢
              exact ⟨_, _, _, rfl, hr2, Inv_sA (fA_sA z2) hI⟩
            · rw [if_neg e9] at hr2 ⊢
              exact ⟨_, _, _, rfl, hr2, Inv_sA (fA_sA z2) hI⟩
          · rw [if_neg (fun q => e5 q.2)]
            refine ⟨_, _, _, rfl, ?_, h⟩
            simp only [q214_0, m_isFrame, m_isIn, b2i_0, ite_not, r_askedS h.ri, bnd_s, if_pos hf, if_pos e1, if_neg e2, if_pos e4, if_true]
            rw [m_hasFoot hw (h.mf hf.1 (by omega)) (by omega) (by omega), bnd_s, b2i_f e5, if_pos rfl]
        · rw [if_neg e4]
          refine ⟨_, _, _, rfl, ?_, h⟩
          simp only [q214_0, m_isFrame, m_isIn, b2i_0, ite_not, r_askedS h.ri, bnd_s, if_pos hf, if_pos e1, if_neg e2, if_neg e4]
          rfl
    · rw [if_neg e1]
      refine ⟨_, _, _, rfl, ?_, h⟩
      simp only [q214_0, m_isFrame, m_isIn, b2i_0, ite_not, bnd_s, if_pos hf, if_neg e1]
  · simp only [if_neg hf, if_true]
    refine ⟨_, _, _, rfl, ?_, h⟩
    simp only [q214_0, m_isFrame, bnd_s, b2i_0, ite_not, if_neg hf]
end OV
