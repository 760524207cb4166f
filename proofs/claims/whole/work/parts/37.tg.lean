/-! breaches, breach, tag -/
abbrev blO (μ : MM) (f : Int) : List Int := BL (VM μ f) (μ 71 15) (μ 71 16) (μ 71 17)
def nA (μ μ' : MM) : Prop := ∀ c i, ¬ (c = 12 ∨ (c = 11 ∧ i = 3)) → μ' c i = μ c i
def yA (μ μ' : MM) : Prop := ∀ c i, ¬ (c = 71 ∧ 24 ≤ i ∧ i ≤ 28) → μ' c i = μ c i
theorem nA_sA {μ μ' : MM} (h : nA μ μ') : sA μ μ' := fun c i q => h c i (by omega)
theorem yA_sA {μ μ' : MM} (h : yA μ μ') : sA μ μ' := fun c i q => h c i (by omega)
theorem yA_t {μ μ' μ'' : MM} (h1 : yA μ μ') (h2 : yA μ' μ'') : yA μ μ'' := fun c i q => (h2 c i q).trans (h1 c i q)
theorem Nt_yA {μ μ' : MM} {xs : List Int} {n i : Int} (h : Nt μ μ' xs n i) : yA μ μ' := fun c j q => h.1 c j (by omega)
theorem fA_yA {μ μ' : MM} (h : fA μ μ') : yA μ μ' := fun c j q => h c j (by omega)
section TG
variable {M μ μ' : MM}
theorem blO_sA {f : Int} (e : sA μ μ') (hw : WF (VM μ f)) : blO μ' f = blO μ f := by
  unfold blO
  rw [VM_sA e hw, e 71 15 (by omega), e 71 16 (by omega), e 71 17 (by omega)]
/-- what the reference reads -/
def RJ (μ : MM) : Prop := RI μ ∧ (0 ≤ μ 71 15 ∧ μ 71 15 ≤ 9) ∧ (1 ≤ μ 71 16 ∧ μ 71 16 ≤ 6) ∧ (0 ≤ μ 71 17 ∧ μ 71 17 ≤ 10) ∧ ∀ i, 0 ≤ i → i < 7 → 0 ≤ μ 73 i ∧ μ 73 i ≤ 1000000
theorem Inv.rj (h : Inv M μ) : RJ μ := by
  have hr := h.r
  unfold GR at hr
  refine ⟨h.ri, by omega, by omega, by omega, fun i i0 i1 => ?_⟩
  have := h.z.2 i i0 i1
  omega
theorem RJ_ag (e : ∀ c i, (c = 71 ∧ (i ≤ 9 ∨ (11 ≤ i ∧ i ≤ 13) ∨ (15 ≤ i ∧ i ≤ 20) ∨ i = 23 ∨ i = 29)) ∨ (73 ≤ c ∧ c ≤ 79) → μ' c i = μ c i) (h : RJ μ) : RJ μ' := by
  obtain ⟨h1, h2, h3, h4, h5⟩ := h
  have hv : ∀ f, 0 ≤ f → f < 3 → VM μ' f = VM μ f := fun f f0 f1 => VM_ag (h1.2 f f0 f1).bB (fun c i q => e c i (by omega))
  refine ⟨⟨MRf_ag (fun i q => e 71 i (by omega)) h1.1, fun f f0 f1 => ?_⟩, ?_, ?_, ?_, fun i i0 i1 => ?_⟩
  · rw [hv f f0 f1]
    exact h1.2 f f0 f1
  · rw [e 71 15 (by omega)]
    exact h2
  · rw [e 71 16 (by omega)]
    exact h3
  · rw [e 71 17 (by omega)]
    exact h4
  · rw [e 73 i (by omega)]
    exact h5 i i0 i1
theorem RJ_sA (e : sA μ μ') (h : RJ μ) : RJ μ' := RJ_ag (fun c i q => e c i (by omega)) h
theorem m_fbj (h : RJ μ) {f : Int} (f0 : 0 ≤ f) (f1 : f < 3) (hB : vB (VM μ f) ≠ 0) (i : Int) : ∃ μ', EE 230 0 [(48, 71), (0, f), (0, i), (9, 0), (9, 0), (9, 0), (9, 0), (9, 0), (9, 0)] [] μ = some (((blO μ f).length : Int), μ') ∧ Nt μ μ' (blO μ f) 0 i :=
  m_findBreaches (h.1.2 f f0 f1) hB (h.1.mf f0 f1) ⟨rfl, h.2.1⟩ ⟨rfl, h.2.2.1⟩ ⟨rfl, h.2.2.2.1⟩ i
theorem m_fb (h : Inv M μ) {f : Int} (f0 : 0 ≤ f) (f1 : f < 3) (hB : vB (VM μ f) ≠ 0) (i : Int) : ∃ μ', EE 230 0 [(48, 71), (0, f), (0, i), (9, 0), (9, 0), (9, 0), (9, 0), (9, 0), (9, 0)] [] μ = some (((blO μ f).length : Int), μ') ∧ Nt μ μ' (blO μ f) 0 i := by
  have hr := h.r
  unfold GR at hr
  exact m_findBreaches (h.wf f0 f1) hB (h.mf f0 f1) ⟨rfl, by omega⟩ ⟨rfl, by omega⟩ ⟨rfl, by omega⟩ i
theorem st_breaches (h : Inv M μ) (f : Int) : ST M (EE 127 0 [(47, 1), (0, f), (9, 0)] [] μ) (fun m => EE 231 0 [(48, 71), (0, f), (9, 0)] [] m) := by
  unfold ST
  rw [q127_0, c_frameAt h.s, bnd_s]
  by_cases hf : 0 ≤ f ∧ f ≤ 2
  · have hw := h.wf hf.1 (by omega)
    have hc := h.cf hf.1 (by omega)
    have hA : 41 + 10 * f ≠ 0 := by omega
    simp only [if_pos hf, if_neg hA, nn_ok _ hA, hc.c0, b2i_0, ne_eq, Decidable.not_not]
    by_cases e2 : vB (VM μ f) = 0
    · rw [if_pos e2]
      refine ⟨_, _, _, rfl, ?_, h⟩
      simp only [q231_0, r_asked h.ri, bnd_s, if_pos hf, if_pos e2]
      rfl
    · rw [if_neg e2, h.s.1.2.2.2.2.2.2.1, nn11]
      obtain ⟨m1, x1, x2, _, _⟩ := c_reckon hw e2 h.s hc h.r
      have sa : sA μ m1 := nA_sA x2
      have hI := Inv_sA sa h
      have hv := VM_sA sa hw
      have e6 : vB (VM m1 f) ≠ 0 := by rw [hv]; exact e2
      obtain ⟨m2, y1, y2⟩ := m_fb hI hf.1 (by omega) e6 (-1)
      rw [x1, bnd_s]
      refine ⟨_, _, m2, rfl, ?_, Inv_sA (Nt_sA y2) hI⟩
      simp only [q231_0, r_asked hI.ri, bnd_s, if_pos hf, if_neg e6, if_true]
      rw [y1, bnd_s, blO_sA sa hw]
  · simp only [if_neg hf, if_true]
    refine ⟨_, _, _, rfl, ?_, h⟩
    simp only [q231_0, r_asked h.ri, bnd_s, if_neg hf]
    rfl
theorem c_partOf (hs : GS μ) {xs : List Int} (hn : μ 11 3 = xs.length) (hx : (xs.length : Int) ≤ 132) (hc : ∀ i : Int, 0 ≤ i → i < xs.length → μ 12 i = cd xs i) (hr : ∀ x ∈ xs, 0 ≤ x ∧ x < 132) {i : Int} (i0 : 0 ≤ i) (i1 : i < xs.length) (w : Int) : EE 100 0 [(46, 11), (0, i), (0, w)] [] μ = some (if w = 0 then cd xs i / 66 else if w = 1 then cd xs i % 66 / 11 else cd xs i % 11, μ) := by
  have h1 := hr _ (cd_m i0 i1)
  rw [q100_0, hn, w32_l (by omega) (by omega), c_within, bnd_s, b2i_t (by omega), if_neg (by omega), hs.2.2.1.2.2.2.1, nn12, cle12, if_pos (by omega), nn12, jx12 _ (by omega) (by omega), hc i i0 i1, td66 (by omega), tm66 (by omega), tm11 (by omega), td11 (by omega), w32_l (by omega) (by omega), w32_l (by omega) (by omega)]
  simp only [nn12, jx12 _ i0 (show i < 132 by omega)]
  repeat' split
  all_goals rfl
theorem st_breach (h : Inv M μ) (f i w : Int) : ST M (EE 128 0 [(47, 1), (0, f), (0, i), (0, w), (9, 0)] [] μ) (fun m => EE 232 0 [(48, 71), (0, f), (0, i), (0, w)] [] m) := by
  unfold ST
  have gr := h.r
  unfold GR at gr
  rw [q128_0, c_frameAt h.s, bnd_s]
  by_cases hf : 0 ≤ f ∧ f ≤ 2
  · have hw := h.wf hf.1 (by omega)
    have hc := h.cf hf.1 (by omega)
    have hA : 41 + 10 * f ≠ 0 := by omega
    simp only [if_pos hf, if_neg hA, nn_ok _ hA, hc.c0, b2i_0, ite_not, ne_eq, Decidable.not_not, c_within, bnd_s]
    by_cases e0 : i < 0
    · rw [if_pos e0]
      refine ⟨_, _, _, rfl, ?_, h⟩
      simp only [q232_0, m_isFrame, bnd_s, b2i_0, ite_not, if_pos hf, if_pos e0]
    · rw [if_neg e0]
      by_cases e1 : 0 ≤ w ∧ w ≤ 2
      · rw [if_pos e1]
        by_cases e2 : vB (VM μ f) = 0
        · rw [if_pos e2]
          refine ⟨_, _, _, rfl, ?_, h⟩
          simp only [q232_0, m_isFrame, m_isIn, m_isMissing (h.mf hf.1 (show f < 3 by omega)), bnd_s, b2i_0, ite_not, if_pos hf, if_neg e0, if_pos e1, if_pos e2]
        · rw [if_neg e2, h.s.1.2.2.2.2.2.2.1, nn11]
          obtain ⟨m1, x1, x2, x3, x4⟩ := c_reckon hw e2 h.s hc h.r
          have sa : sA μ m1 := nA_sA x2
          have hI := Inv_sA sa h
          have hv := VM_sA sa hw
          have e6 : vB (VM m1 f) ≠ 0 := by rw [hv]; exact e2
          have bn := BL_n (c := μ 71 17) hw e2 (show 0 ≤ μ 71 15 by omega) (show 1 ≤ μ 71 16 by omega)
          have br := BL_r (c := μ 71 17) hw e2 (show 0 ≤ μ 71 15 by omega) (show 1 ≤ μ 71 16 by omega)
          obtain ⟨m2, y1, y2⟩ := m_fb hI hf.1 (by omega) e6 i
          rw [blO_sA sa hw] at y1 y2
          have hm : EE 232 0 [(48, 71), (0, f), (0, i), (0, w)] [] m1 = if i < (blO μ f).length then (if w = 0 then some (m2 71 26, m2) else if w = 1 then some (m2 71 27, m2) else some (m2 71 28, m2)) else some (-1000000005, m2) := by
            simp only [q232_0, m_isFrame, m_isIn, m_isMissing (hI.mf hf.1 (show f < 3 by omega)), bnd_s, b2i_0, ite_not, if_pos hf, if_neg e0, if_pos e1, if_neg e6]
            rw [y1, bnd_s]
          rw [x1, bnd_s]
          by_cases e7 : i < (blO μ f).length
          · have hn := y2.2.1 i (by omega) e7 (by omega)
            rw [if_pos e7] at hm ⊢
            rw [(GS_ag (fun c j q => x2 c j (by omega)) h.s).1.2.2.2.2.2.2.1, nn11, c_partOf (GS_ag (fun c j q => x2 c j (by omega)) h.s) x3 (by omega) x4 br (by omega) e7 w, bnd_s]
            refine ⟨_, _, m2, rfl, ?_, Inv_sA (Nt_sA y2) hI⟩
            show EE 232 0 [(48, 71), (0, f), (0, i), (0, w)] [] m1 = _
            rw [hm, hn.1, hn.2.1, hn.2.2]
            repeat' split
            all_goals rfl
          · rw [if_neg e7] at hm ⊢
            exact ⟨_, _, m2, rfl, hm, Inv_sA (Nt_sA y2) hI⟩
      · rw [if_neg e1]
        refine ⟨_, _, _, rfl, ?_, h⟩
        simp only [q232_0, m_isFrame, m_isIn, bnd_s, b2i_0, ite_not, if_pos hf, if_neg e0, if_neg e1]
  · simp only [if_neg hf, if_true]
    refine ⟨_, _, _, rfl, ?_, h⟩
    simp only [q232_0, m_isFrame, bnd_s, b2i_0, ite_not, if_neg hf]
abbrev lowB (xs : List Int) (l : Int) : Prop := FU (fun j => cd xs j % 66 / 11 ≤ l) (-1) 0 xs.length ≠ -1
theorem c_broken (hs : GS μ) {xs : List Int} (hn : μ 11 3 = xs.length) (hx : (xs.length : Int) ≤ 132) (hc : ∀ i : Int, 0 ≤ i → i < xs.length → μ 12 i = cd xs i) (hr : ∀ x ∈ xs, 0 ≤ x ∧ x < 132) (l : Int) : ∀ j d, 0 ≤ j → EE 101 9 [(46, 11), d, (0, l), (0, (xs.length : Int)), (0, j)] [] μ = some (b2i (FU (fun j => cd xs j % 66 / 11 ≤ l) (-1) j xs.length ≠ -1), μ) := by
  refine up_ind (xs.length : Int) ?_ ?_
  · intro j hj d _
    rw [q101_9, if_neg (by omega), FU_e hj, b2i_f (fun q => q rfl)]
  · intro j hj ih d j0
    rw [q101_9, if_pos hj, c_partOf hs hn hx hc hr j0 hj 1, bnd_s, if_neg (show ¬ (1 : Int) = 0 by omega), if_pos rfl, FU_s hj]
    by_cases e : cd xs j % 66 / 11 ≤ l
    · rw [if_neg (by omega), if_pos e, b2i_t (by omega)]
    · rw [if_pos (by omega), if_neg e, w32_l (by omega) (by omega), ih _ (by omega)]
abbrev ovO (μ : MM) (f : Int) : Int := ORF (ov (VM μ f) (μ 73)) 0 (vB (VM μ f) + 1) 0
theorem ovO_sA {f : Int} (e : sA μ μ') (hw : WF (VM μ f)) : ovO μ' f = ovO μ f := by
  have e3 : μ' 73 = μ 73 := by
    funext j
    exact e 73 j (by omega)
  unfold ovO
  rw [VM_sA e hw, e3]
theorem m_mayTag2 {f : Int} (f0 : 0 ≤ f) (f1 : f < 3) {xs : List Int} {o : Int} {V : FV} (hB : vB V ≠ 0) (hx : (xs.length : Int) ≤ 132) (l : Int) : ∀ j (μ : MM), 0 ≤ j → RJ μ → VM μ f = V → blO μ f = xs → ovO μ f = o → ∃ μ', EE 256 56 [(48, 71), (0, f), (0, l), (0, (xs.length : Int)), (0, j)] [] μ = some (b2i (FU (fun j => cd xs j % 66 / 11 ≤ l) (-1) j xs.length = -1 ∧ o = 0), μ') ∧ yA μ μ' := by
  refine up_ind (xs.length : Int) ?_ ?_
  · intro j hj μ j0 h hv hb ho
    have hB2 : vB (VM μ f) ≠ 0 := by rw [hv]; exact hB
    obtain ⟨m2, y1, y2⟩ := m_standardsOver (h.1.2 f f0 f1) hB2 (μ 73) h.2.2.2.2 0 μ 0 (by omega) (by omega) (h.1.mf f0 f1) rfl
    have y3 : EE 223 4 [(48, 71), (0, f), (0, 0), (0, 0)] [] μ = some (o, m2) := by rw [y1, ← ho]
    rw [q256_56, if_neg (by omega), q223_0, y3, bnd_s, FU_e hj]
    refine ⟨m2, ?_, fA_yA y2⟩
    by_cases e : o = 0
    · rw [if_pos e, b2i_t ⟨rfl, e⟩]
    · rw [if_neg e, b2i_f (fun q => e q.2)]
  · intro j hj ih μ j0 h hv hb ho
    have hB2 : vB (VM μ f) ≠ 0 := by rw [hv]; exact hB
    obtain ⟨m1, x1, x2⟩ := m_fbj h f0 f1 hB2 j
    rw [hb] at x1 x2
    have hn := x2.2.1 j j0 hj (by omega)
    have sa := yA_sA (Nt_yA x2)
    have hw := h.1.2 f f0 f1
    rw [q256_56, if_pos hj, x1, bnd_s, hn.2.1, FU_s hj]
    by_cases e : cd xs j % 66 / 11 ≤ l
    · rw [if_neg (by omega), if_pos e, b2i_f (fun q => by have := q.1; omega)]
      exact ⟨m1, rfl, Nt_yA x2⟩
    · rw [if_pos (by omega), if_neg e, w32_l (by omega) (by omega)]
      obtain ⟨m2, y1, y2⟩ := ih m1 (by omega) (RJ_sA sa h) (by rw [VM_sA sa hw]; exact hv) (by rw [blO_sA sa hw]; exact hb) (by rw [ovO_sA sa hw]; exact ho)
      exact ⟨m2, y1, yA_t (Nt_yA x2) y2⟩
abbrev mayP (V : FV) (U : Int → Int) (l i : Int) : Prop := FU (fun k => k % 66 / 11 ≤ l ∧ isP V k ∧ U k = 0) (-1) i 396 = -1
theorem m_mayTag (h : RJ μ) {f : Int} (f0 : 0 ≤ f) (f1 : f < 3) (hu : MU μ f (VM μ f) (UM μ f)) (hB : vB (VM μ f) ≠ 0) (hx : ((blO μ f).length : Int) ≤ 132) (l : Int) : ∀ k d, 0 ≤ k → ∃ μ', EE 256 2 [(48, 71), (0, f), (0, l), (0, k), d] [] μ = some (b2i (mayP (VM μ f) (UM μ f) l k ∧ ¬ lowB (blO μ f) l ∧ ovO μ f = 0), μ') ∧ yA μ μ' := by
  have hw := h.1.2 f f0 f1
  have hm := h.1.mf f0 f1
  refine up_ind 396 ?_ ?_
  · intro k hk d k0
    obtain ⟨m1, x1, x2⟩ := m_fbj h f0 f1 hB (-1)
    have sa := yA_sA (Nt_yA x2)
    obtain ⟨m2, y1, y2⟩ := m_mayTag2 f0 f1 (xs := blO μ f) (o := ovO μ f) hB hx l 0 m1 (by omega) (RJ_sA sa h) (VM_sA sa hw) (blO_sA sa hw) (ovO_sA sa hw)
    refine ⟨m2, ?_, yA_t (Nt_yA x2) y2⟩
    rw [q256_2, if_neg (by omega), x1, bnd_s, y1, b2i_c (q := mayP (VM μ f) (UM μ f) l k ∧ ¬ lowB (blO μ f) l ∧ ovO μ f = 0)]
    constructor
    · intro q
      exact ⟨FU_e hk, fun z => z q.1, q.2⟩
    · intro q
      exact ⟨Decidable.not_not.1 q.2.1, q.2.2⟩
  · intro k hk ih d k0
    obtain ⟨m2, y1, y2⟩ := ih (9, 0) (by omega)
    rw [q256_2, if_pos hk, m_isPiece hw hm, bnd_s, w32_l (x := k + 1) (by omega) (by omega), tm66 (by omega), td11 (by omega), w32_l (x := k % 66 / 11) (by omega) (by omega), m_isUpNow hm hu k0 hk, bnd_s, y1]
    simp only [b2i_0]
    have e9 : ∀ (q : ¬ (k % 66 / 11 ≤ l ∧ isP (VM μ f) k ∧ UM μ f k = 0)), mayP (VM μ f) (UM μ f) l k ↔ mayP (VM μ f) (UM μ f) l (k + 1) := by
      intro q
      unfold mayP
      rw [FU_s hk, if_neg q]
    have e8 : ∀ (q : ¬ (k % 66 / 11 ≤ l ∧ isP (VM μ f) k ∧ UM μ f k = 0)), b2i (mayP (VM μ f) (UM μ f) l (k + 1) ∧ ¬ lowB (blO μ f) l ∧ ovO μ f = 0) = b2i (mayP (VM μ f) (UM μ f) l k ∧ ¬ lowB (blO μ f) l ∧ ovO μ f = 0) := fun q => b2i_c (by rw [e9 q])
    by_cases e1 : isP (VM μ f) k
    · rw [if_neg (fun q => q e1)]
      by_cases e2 : l < k % 66 / 11
      · rw [if_pos e2]
        refine ⟨m2, ?_, y2⟩
        rw [e8 (fun q => by have := q.1; omega)]
      · rw [if_neg e2]
        by_cases e3 : UM μ f k = 0
        · rw [if_pos e3]
          refine ⟨μ, ?_, fun _ _ _ => rfl⟩
          rw [b2i_f]
          intro q
          have z := q.1
          unfold mayP at z
          rw [FU_s hk, if_pos ⟨by omega, e1, e3⟩] at z
          omega
        · rw [if_neg e3]
          refine ⟨m2, ?_, y2⟩
          rw [e8 (fun q => e3 q.2.2)]
    · rw [if_pos e1]
      refine ⟨m2, ?_, y2⟩
      rw [e8 (fun q => e1 q.2.1)]
end TG
