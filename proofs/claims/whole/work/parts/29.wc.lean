/-! the wind, as the class reckons it -/
abbrev okc (c : Int) : Prop := c = -1 ∨ (0 ≤ c ∧ c < 66)
def ws (μ : MM) (c : Int) : Int := if c < 0 then μ 8 2 else μ 9 (cv c)
def wA (μ μ' : MM) : Prop := ∀ c i, ¬ (c = 9 ∨ (c = 8 ∧ i = 2)) → μ' c i = μ c i
theorem cv_p {c : Int} (h : 0 ≤ c) : cv c = 11 * (c % 6) + c / 6 := if_neg (by omega)
theorem wA_r (μ : MM) : wA μ μ := fun _ _ _ => rfl
section WC
variable {M μ μ' : MM} {A f : Int} {V : FV}
theorem wA_t {μ'' : MM} (h1 : wA μ μ') (h2 : wA μ' μ'') : wA μ μ'' := fun c i q => (h2 c i q).trans (h1 c i q)
theorem wA_sA (h : wA μ μ') : sA μ μ' := fun c i q => h c i (by omega)
theorem wA_GS (e : wA μ μ') (h : GS μ) : GS μ' := GS_ag (fun c i q => e c i (by omega)) h
theorem wA_CF (e : wA μ μ') (h : CF μ A V) : CF μ' A V := CF_ag (fun c i q => e c i (by have := fr_p h.fr; omega)) h
theorem c_blow (hs : GS μ) (hw : WF V) (h : CF μ A V) {b l : Int} (b0 : 0 ≤ b) (b1 : b < 100) (l0 : 0 ≤ l) (l1 : l < 100) (hb : ∀ c, okc c → 0 ≤ ws μ c ∧ ws μ c ≤ 2000000000) : ∃ μ', EE 74 0 [(43, 8), (11, A), (0, b), (0, l), (9, 0), (9, 0)] [] μ = some (0, μ') ∧ wA μ μ' ∧ ∀ c, okc c → ws μ' c = ws μ c + wtL V c b l := by
  have hF := frc_r hw b
  have hq := NT_q hw b l
  rw [q74_0, nA0 h.fr, nA0 h.fr, c_widthOf hw h, bnd_s, nA0 h.fr, c_near hw h ⟨b0, b1⟩ ⟨l0, l1⟩, bnd_s, hs.2.2.1.2.1, nn9, cle9, w32_l (x := 66 - 1) (by omega) (by omega), c_within, bnd_s, h.c3, h.c4, w32_l (x := vP V * vW V b) (by omega) (by omega), show vP V * vW V b * vH V = frc V b from rfl, w32_l (x := frc V b) (by omega) (by omega)]
  simp only [b2i_0, ite_not]
  rcases hq with e | e
  · have hx : cv (NT V b l) = -1 := by rw [e]; rfl
    have h2 : ws μ (-1) = μ 8 2 := rfl
    have h3 := hb (-1) (Or.inl rfl)
    rw [hx, if_neg (by omega), w32_l (by omega) (by omega)]
    refine ⟨_, rfl, fun c i q => up_n _ _ (by omega), fun c hc => ?_⟩
    unfold ws wtL
    rw [e]
    rcases hc with q | q
    · rw [if_pos (by omega), if_pos (by omega), if_pos q.symm, up_s]
    · rw [if_neg (by omega), if_neg (by omega), if_neg (by omega), up_nc _ _ (by omega), Int.add_zero]
  · have hx := cv_p e.1
    have h2 : ws μ (NT V b l) = μ 9 (cv (NT V b l)) := if_neg (by omega)
    have h3 := hb (NT V b l) (Or.inr ⟨e.1, e.2.1⟩)
    rw [if_pos (by omega), hs.2.2.1.2.1, nn9, jx9 _ (by omega) (by omega), nn9, jx9 _ (by omega) (by omega), w32_l (by omega) (by omega)]
    refine ⟨_, rfl, fun c i q => up_n _ _ (by omega), fun c hc => ?_⟩
    unfold ws wtL
    rcases hc with q | q
    · rw [if_pos (by omega), if_pos (by omega), if_neg (by omega), up_nc _ _ (by omega), Int.add_zero]
    · rw [if_neg (by omega), if_neg (by omega)]
      by_cases e2 : NT V b l = c
      · rw [if_pos e2, e2, up_s]
      · have hy := cv_p q.1
        rw [if_neg e2, up_ni _ _ (by omega), Int.add_zero]
theorem c_windI (hw : WF V) {b : Int} (b0 : 0 ≤ b) (b1 : b < vB V) : ∀ l (μ : MM), 0 ≤ l → GS μ → CF μ A V → (∀ c, okc c → 0 ≤ ws μ c ∧ ws μ c ≤ 240000 * b + 40000 * l) → ∃ μ', EE 73 34 [(43, 8), (11, A), (0, b), (0, l)] [] μ = EE 73 15 [(43, 8), (11, A), (0, b + 1), (9, 0)] [] μ' ∧ wA μ μ' ∧ ∀ c, okc c → ws μ' c = ws μ c + SM (wtL V c b) l (vL V) := by
  have hr := hw.r
  refine up_ind (vL V) ?_ ?_
  · intro l hl μ _ hs h _
    refine ⟨μ, ?_, wA_r μ, fun c _ => ?_⟩
    · rw [q73_34, nA0 h.fr, h.c2, if_neg (by omega), w32_l (by omega) (by omega), q73_15, q73_15]
    · rw [SM_e hl, Int.add_zero]
  · intro l hl ih μ l0 hs h hb
    obtain ⟨m1, e1, a1, s1⟩ := c_blow hs hw h b0 (by omega) l0 (by omega) (fun c hc => by have := hb c hc; omega)
    obtain ⟨m2, e2, a2, s2⟩ := ih m1 (by omega) (wA_GS a1 hs) (wA_CF a1 h) (fun c hc => by
      have := hb c hc
      have := wtL_r hw c b l
      rw [s1 c hc]
      omega)
    refine ⟨m2, ?_, wA_t a1 a2, fun c hc => ?_⟩
    · rw [q73_34, nA0 h.fr, h.c2, if_pos hl, e1, bnd_s, w32_l (by omega) (by omega), e2]
    · rw [s2 c hc, s1 c hc, SM_s hl, Int.add_assoc]
theorem c_windO (hw : WF V) : ∀ b (μ : MM) d, 0 ≤ b → GS μ → CF μ A V → (∀ c, okc c → 0 ≤ ws μ c ∧ ws μ c ≤ 240000 * b) → ∃ μ', EE 73 15 [(43, 8), (11, A), (0, b), d] [] μ = some (0, μ') ∧ wA μ μ' ∧ ∀ c, okc c → ws μ' c = ws μ c + SM (wtB V c) b (vB V) := by
  have hr := hw.r
  refine up_ind (vB V) ?_ ?_
  · intro b hb μ d _ hs h _
    refine ⟨μ, ?_, wA_r μ, fun c _ => ?_⟩
    · rw [q73_15, nA0 h.fr, h.c1, if_neg (by omega)]
    · rw [SM_e hb, Int.add_zero]
  · intro b hb ih μ d b0 hs h hx
    rw [q73_15, nA0 h.fr, h.c1, if_pos hb, nA0 h.fr, c_isOfKind hw h, bnd_s]
    simp only [b2i_0, ite_not]
    by_cases e : vK V b = 4
    · rw [if_pos ⟨⟨b0, hb⟩, Or.inr (Or.inl e)⟩]
      obtain ⟨m1, e1, a1, s1⟩ := c_windI (A := A) hw b0 hb 0 μ (by omega) hs h (fun c hc => by have := hx c hc; omega)
      have s3 : ∀ c, okc c → ws m1 c = ws μ c + wtB V c b := by
        intro c hc
        rw [s1 c hc]
        unfold wtB
        rw [if_pos e]
      obtain ⟨m2, e2, a2, s2⟩ := ih m1 (9, 0) (by omega) (wA_GS a1 hs) (wA_CF a1 h) (fun c hc => by
        have := hx c hc
        have := wtB_r hw c b
        rw [s3 c hc]
        omega)
      refine ⟨m2, ?_, wA_t a1 a2, fun c hc => ?_⟩
      · rw [e1, e2]
      · rw [s2 c hc, s3 c hc, SM_s hb, Int.add_assoc]
    · rw [if_neg (fun q => by have := q.2; omega), w32_l (by omega) (by omega)]
      obtain ⟨m2, e2, a2, s2⟩ := ih μ (9, 0) (by omega) hs h (fun c hc => by have := hx c hc; omega)
      refine ⟨m2, e2, a2, fun c hc => ?_⟩
      have : wtB V c b = 0 := if_neg e
      rw [s2 c hc, SM_s hb, this, Int.zero_add]
theorem c_fill {x : Int} (v : Int) (hx : x ≠ 0) (hl : 0 ≤ cln x ∧ cln x < 100000) : ∀ i (μ : MM), 0 ≤ i → EE 272 5 [(30, x), (0, v), (0, i), (0, cln x)] [] μ = some (0, FLL μ x i (cln x) v) := by
  refine up_ind (cln x) ?_ ?_
  · intro i hi μ _
    rw [q272_5, if_neg (by omega), FLL_e _ _ hi]
  · intro i hi ih μ i0
    rw [q272_5, if_pos hi, nn_ok _ hx, ix_ok _ i0 hi, w32_l (by omega) (by omega), ih _ (by omega), FLL_s _ _ hi]
theorem c_fill0 {x : Int} (v : Int) (hx : x ≠ 0) (hl : 0 ≤ cln x ∧ cln x < 100000) (μ : MM) : EE 272 0 [(30, x), (0, v), (9, 0), (9, 0)] [] μ = some (0, FLL μ x 0 (cln x) v) := by
  rw [q272_0, nn_ok _ hx, c_fill v hx hl _ _ (by omega)]
theorem c_reckonWind (hs : GS μ) (hw : WF V) (h : CF μ A V) : ∃ μ', EE 73 0 [(43, 8), (11, A), (9, 0), (9, 0)] [] μ = some (0, μ') ∧ wA μ μ' ∧ ∀ c, okc c → ws μ' c = WT V c := by
  have a0 : wA μ (FLL (up μ 8 2 0) 9 0 66 0) := by
    intro c i q
    rw [FLL_n _ (by omega), up_n _ _ (by omega)]
  have s0 : ∀ c, okc c → ws (FLL (up μ 8 2 0) 9 0 66 0) c = 0 := by
    intro c hc
    unfold ws
    rcases hc with q | q
    · rw [if_pos (by omega), FLL_n _ (by omega), up_s]
    · have := cv_p q.1
      rw [if_neg (by omega), FLL_i _ (by omega)]
  obtain ⟨m2, e2, a2, s2⟩ := c_windO (A := A) hw 0 (FLL (up μ 8 2 0) 9 0 66 0) (9, 0) (by omega) (wA_GS a0 hs) (wA_CF a0 h) (fun c hc => by rw [s0 c hc]; omega)
  refine ⟨m2, ?_, wA_t a0 a2, fun c hc => ?_⟩
  · rw [q73_0, up_ni _ _ (by omega), hs.2.2.1.2.1, c_fill0 _ (by omega) (by rw [cle9]; omega), bnd_s, cle9, e2]
  · rw [s2 c hc, s0 c hc, Int.zero_add]
    rfl
theorem st_lost (h : Inv M μ) (f : Int) : ST M (EE 123 0 [(47, 1), (0, f), (9, 0)] [] μ) (fun m => EE 219 0 [(48, 71), (0, f), (9, 0)] [] m) := by
  unfold ST
  rw [q123_0, c_frameAt h.s, bnd_s]
  by_cases hf : 0 ≤ f ∧ f ≤ 2
  · have hw := h.wf hf.1 (by omega)
    have hc := h.cf hf.1 (by omega)
    have hA : 41 + 10 * f ≠ 0 := by omega
    simp only [if_pos hf, if_neg hA, nn_ok _ hA, hc.c0, b2i_0, ne_eq, Decidable.not_not]
    by_cases e2 : vB (VM μ f) = 0
    · rw [if_pos e2]
      refine ⟨_, _, _, rfl, ?_, h⟩
      simp only [q219_0, r_asked h.ri, bnd_s, if_pos hf, if_pos e2]
      rfl
    · rw [if_neg e2, h.s.1.2.2.2.2.2.1, nn8]
      obtain ⟨m1, e1, a1, s1⟩ := c_reckonWind h.s hw hc
      have h1 := Inv_sA (wA_sA a1) h
      have hv := VM_sA (wA_sA a1) hw
      have e3 : vB (VM m1 f) ≠ 0 := by rw [hv]; exact e2
      rw [e1, bnd_s, (wA_GS a1 h.s).1.2.2.2.2.2.1, nn8]
      refine ⟨_, _, m1, rfl, ?_, h1⟩
      have h2 := s1 (-1) (Or.inl rfl)
      simp only [q219_0, r_asked h1.ri, bnd_s, if_pos hf, if_neg e3, if_true, m_windTo (h1.wf hf.1 (by omega)) e3 (h1.mf hf.1 (by omega))]
      rw [hv, ← h2]
      rfl
  · simp only [if_neg hf, if_true]
    refine ⟨_, _, _, rfl, ?_, h⟩
    simp only [q219_0, r_asked h.ri, bnd_s, if_neg hf]
    rfl
theorem WT_0 (hw : WF V) {c : Int} (h0 : 0 ≤ c) (h : vT V (c / 6) (c % 6) = 0) : WT V c = 0 := by
  have : ∀ b l, wtL V c b l = 0 := by
    intro b l
    have hq := NT_q hw b l
    refine if_neg (fun e => ?_)
    rw [e] at hq
    omega
  refine SM_0 _ (fun b _ _ => ?_)
  unfold wtB
  rw [SM_0 _ (fun l _ _ => this b l)]
  split <;> rfl
theorem st_wind (h : Inv M μ) (f s l : Int) : ST M (EE 122 0 [(47, 1), (0, f), (0, s), (0, l), (9, 0)] [] μ) (fun m => EE 218 0 [(48, 71), (0, f), (0, s), (0, l), (9, 0)] [] m) := by
  unfold ST
  rw [q122_0, c_frameAt h.s, bnd_s]
  by_cases hf : 0 ≤ f ∧ f ≤ 2
  · have hw := h.wf hf.1 (by omega)
    have hr := hw.r
    have hc := h.cf hf.1 (by omega)
    have hA : 41 + 10 * f ≠ 0 := by omega
    simp only [if_pos hf, if_neg hA, nn_ok _ hA, hc.c0, b2i_0, ite_not, ne_eq, Decidable.not_not, c_hasStandard hc, c_hasLift hc, bnd_s]
    by_cases e2 : vB (VM μ f) = 0
    · rw [if_pos e2]
      refine ⟨_, _, _, rfl, ?_, h⟩
      simp only [q218_0, r_askedS h.ri, bnd_s, if_pos hf, if_pos e2]
      rfl
    · rw [if_neg e2]
      by_cases e4 : inS (VM μ f) s
      · rw [if_pos e4]
        by_cases e5 : inL (VM μ f) l
        · rw [if_pos e5, h.s.1.2.2.2.2.2.1, nn8]
          obtain ⟨m1, e1, a1, s1⟩ := c_reckonWind h.s hw hc
          have h1 := Inv_sA (wA_sA a1) h
          have hv := VM_sA (wA_sA a1) hw
          have e3 : vB (VM m1 f) ≠ 0 := by rw [hv]; exact e2
          have e6 : inS (VM m1 f) s := by rw [hv]; exact e4
          have e7 : inL (VM m1 f) l := by rw [hv]; exact e5
          have hcv : cv (6 * s + l) = 11 * l + s := by
            rw [cv_p (by omega)]
            omega
          have h2 : m1 9 (11 * l + s) = WT (VM μ f) (6 * s + l) := by
            rw [← s1 _ (Or.inr ⟨by omega, by omega⟩), ← hcv]
            exact (if_neg (by omega)).symm
          rw [e1, bnd_s, (wA_GS a1 h.s).1.2.2.2.2.2.1, nn8, q76_0, (wA_GS a1 h.s).2.2.1.2.1, nn9, cle9, w32_l (x := 66 - 1) (by omega) (by omega), w32_l (x := 11 * l) (by omega) (by omega), w32_l (x := 11 * l + s) (by omega) (by omega), c_within, bnd_s, b2i_t (by omega), if_neg (by omega), (wA_GS a1 h.s).2.2.1.2.1, nn9, jx9 _ (by omega) (by omega), bnd_s, h2]
          refine ⟨_, _, m1, rfl, ?_, h1⟩
          have hw1 := h1.wf hf.1 (show f < 3 by omega)
          have ht := hw1.t s l
          simp only [q218_0, r_askedS h1.ri, bnd_s, if_pos hf, if_neg e3, if_pos e6, if_true, m_isLift hw1 (h1.mf hf.1 (by omega)), b2i_0, ite_not, if_pos e7]
          rw [m_hasTie hw1 e3 (h1.mf hf.1 (by omega)) (by omega) (by omega) (by omega) (by omega), bnd_s, w32_l (x := 6 * s) (by omega) (by omega), w32_l (by omega) (by omega), m_windTo hw1 e3 (h1.mf hf.1 (by omega)), bnd_s, hv]
          by_cases e8 : vT (VM μ f) s l = 0
          · rw [if_pos e8, WT_0 hw (by omega) (by rw [show (6 * s + l) / 6 = s by omega, show (6 * s + l) % 6 = l by omega]; exact e8)]
          · rw [if_neg e8]
        · rw [if_neg e5]
          refine ⟨_, _, _, rfl, ?_, h⟩
          simp only [q218_0, r_askedS h.ri, bnd_s, if_pos hf, if_neg e2, if_pos e4, if_true, m_isLift hw (h.mf hf.1 (by omega)), b2i_0, ite_not, if_neg e5]
      · rw [if_neg e4]
        refine ⟨_, _, _, rfl, ?_, h⟩
        simp only [q218_0, r_askedS h.ri, bnd_s, if_pos hf, if_neg e2, if_neg e4]
        rfl
  · simp only [if_neg hf, if_true]
    refine ⟨_, _, _, rfl, ?_, h⟩
    simp only [q218_0, r_askedS h.ri, bnd_s, if_neg hf]
    rfl
end WC
