/-! breaches, the reference; tags -/
theorem BL_n {V : FV} (hw : WF V) (hB : vB V ≠ 0) {a b c : Int} (ha : 0 ≤ a) (hb : 1 ≤ b) : ((BL1 V a b).length : Int) ≤ 66 ∧ ((BL2 V c).length : Int) ≤ 60 ∧ ((BL V a b c).length : Int) ≤ 126 := by
  have hr := hw.r
  have h1 : ((BL1 V a b).length : Int) ≤ 66 := by
    unfold BL1
    split
    · have e1 : 1 ≤ sdO V a ∧ sdO V a ≤ vB V + 1 := by unfold sdO; split <;> omega
      have e2 : 1 ≤ hiO V b ∧ hiO V b ≤ vL V := by unfold hiO; split <;> omega
      have := LO_n (F := tRow V (sdO V a) (hiO V b)) (w := 11) (n := vL V + 1 - hiO V b) (by omega) (fun l => by
        have := (LSt_n (q := TDp V (sdO V a) (hiO V b) l) (k := 11 * l) (n := vB V + 2 - sdO V a) 0).1
        rw [if_pos (by omega)] at this
        unfold tRow
        omega) 0 (by omega)
      omega
    · simp
  have h2 : ((BL2 V c).length : Int) ≤ 60 := by
    unfold BL2
    split
    · have e1 : 1 ≤ wdO V c ∧ wdO V c ≤ vB V := by unfold wdO; split <;> omega
      have := LO_n (F := bRow V (wdO V c)) (w := 10) (n := vL V) (by omega) (fun l => by
        have := (LSt_n (q := BRp V (wdO V c) l) (k := 66 + 11 * l) (n := vB V + 1 - wdO V c) 0).1
        rw [if_pos (by omega)] at this
        unfold bRow
        omega) 0 (by omega)
      omega
    · simp
  refine ⟨h1, h2, ?_⟩
  unfold BL
  rw [List.length_append]
  omega
section BM
variable {M μ μ' : MM} {A f : Int} {V : FV}
theorem Nt_MF {xs : List Int} {n i : Int} (e : Nt μ μ' xs n i) (h : MF μ f V) : MF μ' f V := MF_ag (MRf_ag (fun i q => e.1 71 i (by omega)) h.m) (fun c i q => e.1 c i (by omega)) h
theorem m_tiedI (hw : WF V) (hB : vB V ≠ 0) (h : MF μ f V) {s sd l hi k : Int} (hh : 0 ≤ hi) (l0 : 0 ≤ l) (l1 : l + hi ≤ vL V) (k0 : 0 ≤ k) (k1 : k ≤ vB V) : ∀ j is, l ≤ j → j ≤ 20 → (is = 0 ∨ is = 1) → EE 227 18 [(48, 71), (0, f), (0, s), (0, sd), (0, l), (0, hi), (0, is), (0, k), (0, j)] [] μ = EE 227 6 [(48, 71), (0, f), (0, s), (0, sd), (0, l), (0, hi), (0, if is = 1 then 1 else b2i (FU (fun l' => vT V k l' ≠ 0) (-1) j (l + hi) ≠ -1)), (0, k + 1), (9, 0)] [] μ := by
  have hr := hw.r
  refine up_ind (l + hi) ?_ ?_
  · intro j hj is j0 j1 hi2
    have e : (if is = 1 then (1 : Int) else b2i (FU (fun l' => vT V k l' ≠ 0) (-1) j (l + hi) ≠ -1)) = is := by
      rw [FU_e hj, b2i_f (fun q => q rfl)]
      split <;> omega
    rw [q227_18, w32_l (x := l + hi) (by omega) (by omega), if_neg (by omega), w32_l (by omega) (by omega), e, q227_6, q227_6]
  · intro j hj ih is j0 j1 hi2
    have ht := hw.t k j
    rw [q227_18, w32_l (x := l + hi) (by omega) (by omega), if_pos hj, w32_l (x := j + 1) (by omega) (by omega), m_hasTie hw hB h (by omega) (by omega) (by omega) (by omega), bnd_s]
    have e1 := ih 1 (by omega) (by omega) (Or.inr rfl)
    have e0 := ih 0 (by omega) (by omega) (Or.inl rfl)
    rw [if_pos rfl] at e1
    rw [if_neg (by omega)] at e0
    rw [e0, e1, FU_s hj]
    rcases hi2 with z | z
    · rw [z, if_pos rfl, if_neg (show ¬ (0 : Int) = 1 by omega)]
      by_cases y : vT V k j = 0
      · rw [if_pos y, if_neg (show ¬ vT V k j ≠ 0 from fun q => q y)]
      · rw [if_neg y, if_pos y, b2i_t (by omega)]
    · rw [z, if_neg (by omega), if_pos rfl]
theorem m_tiedO (hw : WF V) (hB : vB V ≠ 0) (h : MF μ f V) {s sd l hi : Int} (hh : 0 ≤ hi) (hd : 0 ≤ sd) (l0 : 0 ≤ l) (l2 : l ≤ 20) (l1 : l + hi ≤ vL V) (s0 : 0 ≤ s) (s1 : s + sd ≤ vB V + 1) : ∀ k is d, s ≤ k → k ≤ 20 → (is = 0 ∨ is = 1) → EE 227 6 [(48, 71), (0, f), (0, s), (0, sd), (0, l), (0, hi), (0, is), (0, k), d] [] μ = some (if is = 1 then 1 else b2i (FU (fun k => FU (fun l' => vT V k l' ≠ 0) (-1) l (l + hi) ≠ -1) (-1) k (s + sd) ≠ -1), μ) := by
  have hr := hw.r
  refine up_ind (s + sd) ?_ ?_
  · intro k hk is d k0 k2 hi2
    rw [q227_6, w32_l (x := s + sd) (by omega) (by omega), if_neg (by omega), FU_e hk, b2i_f (fun q => q rfl)]
    rcases hi2 with z | z
    · rw [z, zo_0, if_neg (by omega)]
    · rw [z, zo_1, if_pos rfl]
  · intro k hk ih is d k0 k2 hi2
    rw [q227_6, w32_l (x := s + sd) (by omega) (by omega), if_pos hk, m_tiedI hw hB h hh l0 l1 (by omega) (by omega) _ _ (by omega) (by omega) hi2, FU_s hk]
    have e1 := ih 1 (9, 0) (by omega) (by omega) (Or.inr rfl)
    have e0 := ih 0 (9, 0) (by omega) (by omega) (Or.inl rfl)
    rw [if_pos rfl] at e1
    rw [if_neg (by omega)] at e0
    rcases hi2 with z | z
    · rw [z, if_neg (by omega), if_neg (by omega)]
      by_cases y : FU (fun l' => vT V k l' ≠ 0) (-1) l (l + hi) ≠ -1
      · rw [b2i_t y, if_pos y, b2i_t (by omega), e1]
      · rw [b2i_f y, if_neg y, e0]
    · rw [z, if_pos rfl, if_pos rfl, e1]
theorem td_m (V : FV) {s sd l hi : Int} (s0 : 0 ≤ s) (l0 : 0 ≤ l) : (FU (fun k => FU (fun l' => vT V k l' ≠ 0) (-1) l (l + hi) ≠ -1) (-1) s (s + sd) ≠ -1) ↔ TDp V sd hi l s := by
  unfold TDp
  constructor
  · intro a b
    refine a ((FU_n s0).2 (fun k k0 k1 c => c ((FU_n l0).2 (fun j j0 j1 d => ?_))))
    have e := (FU_n l0).1 b j j0 j1
    exact (FU_n s0).1 (Decidable.not_not.1 e) k k0 k1 d
  · intro a b
    refine a ((FU_n l0).2 (fun k k0 k1 c => c ((FU_n s0).2 (fun j j0 j1 d => ?_))))
    have e := (FU_n s0).1 b j j0 j1
    exact (FU_n l0).1 (Decidable.not_not.1 e) k k0 k1 d
theorem m_isTied (hw : WF V) (hB : vB V ≠ 0) (h : MF μ f V) {s sd l hi : Int} (l0 : 0 ≤ l) (h1 : 1 ≤ hi) (l1 : l + hi ≤ vL V) (s0 : 0 ≤ s) (d1 : 1 ≤ sd) (s1 : s + sd ≤ vB V + 1) : EE 227 0 [(48, 71), (0, f), (0, s), (0, sd), (0, l), (0, hi), (9, 0), (9, 0), (9, 0)] [] μ = some (b2i (TDp V sd hi l s), μ) := by
  have hr := hw.r
  rw [q227_0, m_tiedO hw hB h (by omega) (by omega) l0 (by omega) l1 s0 s1 _ _ _ (by omega) (by omega) (Or.inl rfl), if_neg (by omega), b2i_c (td_m V s0 l0)]
theorem m_isBraced (hw : WF V) (hB : vB V ≠ 0) (h : MF μ f V) {b wd l : Int} (hd : 0 ≤ wd) (l0 : 0 ≤ l) (l1 : l < vL V) (b0 : 0 ≤ b) (b1 : b + wd ≤ vB V) : ∀ j is, b ≤ j → j ≤ 20 → (is = 0 ∨ is = 1) → EE 228 6 [(48, 71), (0, f), (0, b), (0, wd), (0, l), (0, is), (0, j)] [] μ = some (if is = 1 then 1 else b2i (FU (fun b' => vR V b' l ≠ 0 ∨ (l = 0 ∧ gat V b')) (-1) j (b + wd) ≠ -1), μ) := by
  have hr := hw.r
  refine up_ind (b + wd) ?_ ?_
  · intro j hj is j0 j1 hi2
    rw [q228_6, w32_l (x := b + wd) (by omega) (by omega), if_neg (by omega), FU_e hj, b2i_f (fun q => q rfl)]
    rcases hi2 with z | z
    · rw [z, zo_0, if_neg (by omega)]
    · rw [z, zo_1, if_pos rfl]
  · intro j hj ih is j0 j1 hi2
    have e1 := ih 1 (by omega) (by omega) (Or.inr rfl)
    have e0 := ih 0 (by omega) (by omega) (Or.inl rfl)
    rw [if_pos rfl] at e1
    rw [if_neg (by omega)] at e0
    rw [q228_6, w32_l (x := b + wd) (by omega) (by omega), if_pos hj, w32_l (x := j + 1) (by omega) (by omega), m_hasBrace hw hB h (by omega) (by omega) (by omega) (by omega), bnd_s, m_isGate hw h, bnd_s, e0, e1, FU_s hj]
    simp only [b2i_0]
    rcases hi2 with z | z
    · rw [z, if_pos rfl, if_neg (show ¬ (0 : Int) = 1 by omega)]
      by_cases y : vR V j l = 0
      · rw [if_pos y]
        by_cases y2 : l = 0
        · rw [if_pos y2]
          by_cases y3 : gat V j
          · rw [if_neg (fun q => q y3), if_pos (Or.inr ⟨y2, y3⟩), b2i_t (by omega)]
          · rw [if_pos y3, if_neg (show ¬ (vR V j l ≠ 0 ∨ (l = 0 ∧ gat V j)) from fun q => q.elim (fun w => w y) (fun w => y3 w.2))]
        · rw [if_neg y2, if_neg (show ¬ (vR V j l ≠ 0 ∨ (l = 0 ∧ gat V j)) from fun q => q.elim (fun w => w y) (fun w => y2 w.1))]
      · rw [if_neg y, if_pos (Or.inl y), b2i_t (by omega)]
    · rw [z, if_neg (by omega), if_pos rfl]
theorem Nt_1 {k l p : Int} (hl : 0 ≤ l ∧ l < 6) (hp : 0 ≤ p ∧ p < 11) {n : Int} : Nt μ (up (up (up μ 71 26 k) 71 27 l) 71 28 p) [66 * k + 11 * l + p] n n := by
  refine ⟨fun c j q => ?_, fun i a b e => ?_, fun q => ?_⟩
  · rw [up_n _ _ (by omega), up_n _ _ (by omega), up_n _ _ (by omega)]
  · have e2 : i = 0 := by omega
    subst e2
    have e3 : cd [66 * k + 11 * l + p] 0 = 66 * k + 11 * l + p := rfl
    have u1 : up (up (up μ 71 26 k) 71 27 l) 71 28 p 71 26 = k := by rw [up_ni _ _ (by omega), up_ni _ _ (by omega), up_s]
    have u2 : up (up (up μ 71 26 k) 71 27 l) 71 28 p 71 27 = l := by rw [up_ni _ _ (by omega), up_s]
    rw [e3, u1, u2, up_s]
    omega
  · exfalso
    have : ([66 * k + 11 * l + p].length : Int) = 1 := rfl
    omega
theorem Nt_0 (μ : MM) {x n i : Int} (h : n ≠ i) : Nt μ μ [x] n i := by
  refine ⟨fun _ _ _ => rfl, fun k a b e => ?_, fun _ _ => rfl⟩
  have : ([x].length : Int) = 1 := rfl
  omega
theorem m_tieRow (hw : WF V) (hB : vB V ≠ 0) {i sd hi l : Int} (d0 : 1 ≤ sd) (d1 : sd ≤ vB V + 1) (h0 : 1 ≤ hi) (h1 : l + hi ≤ vL V) (l0 : 0 ≤ l) : ∀ s (μ : MM) n d8, 0 ≤ s → s ≤ 20 → MF μ f V → 0 ≤ n → n ≤ 11 * l + s → ∃ μ', EE 230 63 [(48, 71), (0, f), (0, i), (0, n), (0, sd), (0, hi), (0, l), (0, s), d8] [] μ = EE 230 39 [(48, 71), (0, f), (0, i), (0, n + (LSt (TDp V sd hi l) (11 * l) s (vB V + 2 - sd)).length), (0, sd), (0, hi), (0, l + 1), (9, 0), (9, 0)] [] μ' ∧ Nt μ μ' (LSt (TDp V sd hi l) (11 * l) s (vB V + 2 - sd)) n i := by
  have hr := hw.r
  refine up_ind (vB V + 2 - sd) ?_ ?_
  · intro s hs μ n d8 s0 s2 h _ _
    have hf := h.fr
    refine ⟨μ, ?_, ?_⟩
    · rw [q230_63, h.c4, nn76, jx76 _ (by omega) (by omega), h.B, w32_l (x := vB V + 1) (by omega) (by omega), w32_l (x := s + sd) (by omega) (by omega), if_pos (by omega), w32_l (by omega) (by omega), LSt_e hs, q230_39, q230_39]
      simp only [List.length_nil, Int.natCast_zero, Int.add_zero]
    · rw [LSt_e hs]
      exact Nt_r _ _ _
  · intro s hs ih μ n d8 s0 s2 h n0 n1
    have hf := h.fr
    rw [q230_63, h.c4, nn76, jx76 _ (by omega) (by omega), h.B, w32_l (x := vB V + 1) (by omega) (by omega), w32_l (x := s + sd) (by omega) (by omega), if_neg (by omega), m_isTied hw hB h l0 h0 h1 s0 d0 (by omega), bnd_s, w32_l (x := s + 1) (by omega) (by omega), w32_l (x := n + 1) (by omega) (by omega), LSt_s hs]
    simp only [b2i_0]
    by_cases z : TDp V sd hi l s
    · rw [if_neg (fun q => q z), if_pos z]
      obtain ⟨m2, y1, y2⟩ := ih μ n (9, 0) (by omega) (by omega) h n0 (by omega)
      exact ⟨m2, y1, y2⟩
    · rw [if_pos z, if_neg z]
      have el : (([11 * l + s] ++ LSt (TDp V sd hi l) (11 * l) (s + 1) (vB V + 2 - sd)).length : Int) = 1 + (LSt (TDp V sd hi l) (11 * l) (s + 1) (vB V + 2 - sd)).length := by
        rw [List.length_append]
        simp
      by_cases y : n = i
      · subst y
        have x2 := Nt_1 (μ := μ) (k := 0) (l := l) (p := s) (n := n) (by omega) (by omega)
        rw [if_pos rfl, q229_0, bnd_s]
        obtain ⟨m2, y1, y2⟩ := ih _ (n + 1) (9, 0) (by omega) (by omega) (Nt_MF x2 h) (by omega) (by omega)
        refine ⟨m2, ?_, ?_⟩
        · rw [y1, el, Int.add_assoc]
        · rw [show (66 : Int) * 0 + 11 * l + s = 11 * l + s by omega] at x2
          exact Nt_t x2 y2
      · have x2 := Nt_0 μ (x := 11 * l + s) y
        rw [if_neg y]
        obtain ⟨m2, y1, y2⟩ := ih μ (n + 1) (9, 0) (by omega) (by omega) h (by omega) (by omega)
        refine ⟨m2, ?_, ?_⟩
        · rw [y1, el, Int.add_assoc]
        · exact Nt_t x2 y2
theorem m_tieRows (hw : WF V) (hB : vB V ≠ 0) {i sd hi a c : Int} (d0 : 1 ≤ sd) (d1 : sd ≤ vB V + 1) (h0 : 1 ≤ hi) (h1 : hi ≤ vL V) (ha : 0 < a) : ∀ l (μ : MM) n d7 d8, 0 ≤ l → l ≤ 20 → MF μ f V → μ 71 15 = a → μ 71 17 = c → 0 ≤ n → n ≤ 11 * l → ∃ μ', EE 230 39 [(48, 71), (0, f), (0, i), (0, n), (0, sd), (0, hi), (0, l), d7, d8] [] μ = EE 230 142 [(48, 71), (0, f), (0, i), (0, n + (LO (tRow V sd hi) l (vL V + 1 - hi)).length), (9, 0), (9, 0), (0, wdO V c), (0, 0), (9, 0)] [] μ' ∧ Nt μ μ' (LO (tRow V sd hi) l (vL V + 1 - hi)) n i := by
  have hr := hw.r
  have ew : ∀ μ : MM, EE 226 0 [(0, c), (0, vB V)] [] μ = some (wdO V c, μ) := by
    intro μ
    rw [q226_0]
    unfold wdO
    repeat' split
    all_goals first | rfl | omega | (rw [show c = vB V by omega])
  refine up_ind (vL V + 1 - hi) ?_ ?_
  · intro l hl μ n d7 d8 l0 l2 h e15 e17 _ _
    have hf := h.fr
    refine ⟨μ, ?_, ?_⟩
    · rw [q230_39, h.c2, nn74, jx74 _ (by omega) (by omega), h.L, w32_l (by omega) (by omega), if_pos (by omega), h.c4, nn76, jx76 _ (by omega) (by omega), h.B, e17, ew, bnd_s, LO_e hl, q230_142, q230_142]
      simp only [List.length_nil, Int.natCast_zero, Int.add_zero]
    · rw [LO_e hl]
      exact Nt_r _ _ _
  · intro l hl ih μ n d7 d8 l0 l2 h e15 e17 n0 n1
    have hf := h.fr
    obtain ⟨m1, x1, x2⟩ := m_tieRow hw hB (i := i) d0 d1 h0 (l := l) (by omega) l0 0 μ n (9, 0) (by omega) (by omega) h n0 (by omega)
    have e2 := (LSt_n (q := TDp V sd hi l) (k := 11 * l) (n := vB V + 2 - sd) 0).1
    rw [if_pos (by omega)] at e2
    obtain ⟨m2, y1, y2⟩ := ih m1 (n + (LSt (TDp V sd hi l) (11 * l) 0 (vB V + 2 - sd)).length) (9, 0) (9, 0) (by omega) (by omega) (Nt_MF x2 h) (by rw [x2.1 71 15 (by omega)]; exact e15) (by rw [x2.1 71 17 (by omega)]; exact e17) (by omega) (by omega)
    refine ⟨m2, ?_, ?_⟩
    · rw [q230_39, h.c2, nn74, jx74 _ (by omega) (by omega), h.L, w32_l (by omega) (by omega), if_neg (by omega), e15, if_pos ha, x1, y1, LO_s hl, List.length_append, Int.natCast_add, Int.add_assoc]
      rfl
    · rw [LO_s hl]
      exact Nt_t x2 y2
theorem m_braceRow (hw : WF V) (hB : vB V ≠ 0) {i wd l : Int} (d0 : 1 ≤ wd) (d1 : wd ≤ vB V) (h1 : l < vL V) (l0 : 0 ≤ l) : ∀ s (μ : MM) n d4 d5, 0 ≤ s → s ≤ 20 → MF μ f V → 0 ≤ n → n ≤ 66 + 10 * l + s → ∃ μ', EE 230 163 [(48, 71), (0, f), (0, i), (0, n), d4, d5, (0, wd), (0, l), (0, s)] [] μ = EE 230 142 [(48, 71), (0, f), (0, i), (0, n + (LSt (BRp V wd l) (66 + 11 * l) s (vB V + 1 - wd)).length), (9, 0), (9, 0), (0, wd), (0, l + 1), (9, 0)] [] μ' ∧ Nt μ μ' (LSt (BRp V wd l) (66 + 11 * l) s (vB V + 1 - wd)) n i := by
  have hr := hw.r
  refine up_ind (vB V + 1 - wd) ?_ ?_
  · intro s hs μ n d4 d5 s0 s2 h _ _
    have hf := h.fr
    refine ⟨μ, ?_, ?_⟩
    · rw [q230_163, h.c4, nn76, jx76 _ (by omega) (by omega), h.B, w32_l (x := s + wd) (by omega) (by omega), if_pos (by omega), w32_l (by omega) (by omega), LSt_e hs, q230_142, q230_142]
      simp only [List.length_nil, Int.natCast_zero, Int.add_zero]
    · rw [LSt_e hs]
      exact Nt_r _ _ _
  · intro s hs ih μ n d4 d5 s0 s2 h n0 n1
    have hf := h.fr
    rw [q230_163, h.c4, nn76, jx76 _ (by omega) (by omega), h.B, w32_l (x := s + wd) (by omega) (by omega), if_neg (by omega), q228_0, m_isBraced hw hB h (by omega) l0 h1 s0 (by omega) _ _ (by omega) (by omega) (Or.inl rfl), if_neg (show ¬ (0 : Int) = 1 by omega), bnd_s, w32_l (x := s + 1) (by omega) (by omega), w32_l (x := n + 1) (by omega) (by omega), LSt_s hs]
    simp only [b2i_0]
    by_cases z : BRp V wd l s
    · rw [if_neg (fun q => q z), if_pos z]
      obtain ⟨m2, y1, y2⟩ := ih μ n (9, 0) (9, 0) (by omega) (by omega) h n0 (by omega)
      exact ⟨m2, y1, y2⟩
    · rw [if_pos z, if_neg z]
      have el : (([66 + 11 * l + s] ++ LSt (BRp V wd l) (66 + 11 * l) (s + 1) (vB V + 1 - wd)).length : Int) = 1 + (LSt (BRp V wd l) (66 + 11 * l) (s + 1) (vB V + 1 - wd)).length := by
        rw [List.length_append]
        simp
      by_cases y : n = i
      · subst y
        have x2 := Nt_1 (μ := μ) (k := 1) (l := l) (p := s) (n := n) (by omega) (by omega)
        rw [if_pos rfl, q229_0, bnd_s]
        obtain ⟨m2, y1, y2⟩ := ih _ (n + 1) (9, 0) (9, 0) (by omega) (by omega) (Nt_MF x2 h) (by omega) (by omega)
        refine ⟨m2, ?_, ?_⟩
        · rw [y1, el, Int.add_assoc]
        · rw [show (66 : Int) * 1 + 11 * l + s = 66 + 11 * l + s by omega] at x2
          exact Nt_t x2 y2
      · have x2 := Nt_0 μ (x := 66 + 11 * l + s) y
        rw [if_neg y]
        obtain ⟨m2, y1, y2⟩ := ih μ (n + 1) (9, 0) (9, 0) (by omega) (by omega) h (by omega) (by omega)
        refine ⟨m2, ?_, ?_⟩
        · rw [y1, el, Int.add_assoc]
        · exact Nt_t x2 y2
theorem m_braceRows (hw : WF V) (hB : vB V ≠ 0) {i wd c : Int} (d0 : 1 ≤ wd) (d1 : wd ≤ vB V) (hc : 0 < c) : ∀ l (μ : MM) n d4 d5 d8, 0 ≤ l → l ≤ 20 → MF μ f V → μ 71 17 = c → 0 ≤ n → n ≤ 66 + 10 * l → ∃ μ', EE 230 142 [(48, 71), (0, f), (0, i), (0, n), d4, d5, (0, wd), (0, l), d8] [] μ = some (n + (LO (bRow V wd) l (vL V)).length, μ') ∧ Nt μ μ' (LO (bRow V wd) l (vL V)) n i := by
  have hr := hw.r
  refine up_ind (vL V) ?_ ?_
  · intro l hl μ n d4 d5 d8 l0 l2 h e17 _ _
    have hf := h.fr
    refine ⟨μ, ?_, ?_⟩
    · rw [q230_142, h.c2, nn74, jx74 _ (by omega) (by omega), h.L, if_neg (by omega), LO_e hl]
      simp only [List.length_nil, Int.natCast_zero, Int.add_zero]
    · rw [LO_e hl]
      exact Nt_r _ _ _
  · intro l hl ih μ n d4 d5 d8 l0 l2 h e17 n0 n1
    have hf := h.fr
    obtain ⟨m1, x1, x2⟩ := m_braceRow hw hB (i := i) d0 d1 hl l0 0 μ n (9, 0) (9, 0) (by omega) (by omega) h n0 (by omega)
    have e2 := (LSt_n (q := BRp V wd l) (k := 66 + 11 * l) (n := vB V + 1 - wd) 0).1
    rw [if_pos (by omega)] at e2
    obtain ⟨m2, y1, y2⟩ := ih m1 (n + (LSt (BRp V wd l) (66 + 11 * l) 0 (vB V + 1 - wd)).length) (9, 0) (9, 0) (9, 0) (by omega) (by omega) (Nt_MF x2 h) (by rw [x2.1 71 17 (by omega)]; exact e17) (by omega) (by omega)
    refine ⟨m2, ?_, ?_⟩
    · rw [q230_142, h.c2, nn74, jx74 _ (by omega) (by omega), h.L, if_pos hl, e17, if_pos hc, x1, y1, LO_s hl, List.length_append, Int.natCast_add, Int.add_assoc]
      rfl
    · rw [LO_s hl]
      exact Nt_t x2 y2
theorem m_findBreaches (hw : WF V) (hB : vB V ≠ 0) (h : MF μ f V) {a b c : Int} (ha : μ 71 15 = a ∧ 0 ≤ a ∧ a ≤ 9) (hb : μ 71 16 = b ∧ 1 ≤ b ∧ b ≤ 6) (hc : μ 71 17 = c ∧ 0 ≤ c ∧ c ≤ 10) (i : Int) : ∃ μ', EE 230 0 [(48, 71), (0, f), (0, i), (9, 0), (9, 0), (9, 0), (9, 0), (9, 0), (9, 0)] [] μ = some (((BL V a b c).length : Int), μ') ∧ Nt μ μ' (BL V a b c) 0 i := by
  have hr := hw.r
  have hf := h.fr
  have e1 : 1 ≤ sdO V a ∧ sdO V a ≤ vB V + 1 := by unfold sdO; split <;> omega
  have e2 : 1 ≤ hiO V b ∧ hiO V b ≤ vL V := by unfold hiO; split <;> omega
  have bn := BL_n (c := c) hw hB ha.2.1 hb.2.1
  have es : EE 226 0 [(0, a + 1), (0, vB V + 1)] [] μ = some (sdO V a, μ) := by
    rw [q226_0]
    unfold sdO
    repeat' split
    all_goals first | rfl | omega | (rw [show a + 1 = vB V + 1 by omega])
  have eh : EE 226 0 [(0, b), (0, vL V)] [] μ = some (hiO V b, μ) := by
    rw [q226_0]
    unfold hiO
    repeat' split
    all_goals first | rfl | omega | (rw [show b = vL V by omega])
  have ew : ∀ m : MM, EE 226 0 [(0, c), (0, vB V)] [] m = some (wdO V c, m) := by
    intro m
    rw [q226_0]
    unfold wdO
    repeat' split
    all_goals first | rfl | omega | (rw [show c = vB V by omega])
  rw [q230_0, h.c4, nn76, jx76 _ (by omega) (by omega), h.B, ha.1, w32_l (x := a + 1) (by omega) (by omega), w32_l (x := vB V + 1) (by omega) (by omega), es, bnd_s, h.c2, nn74, jx74 _ (by omega) (by omega), h.L, hb.1, eh, bnd_s]
  have s1 : ∃ m1, EE 230 39 [(48, 71), (0, f), (0, i), (0, 0), (0, sdO V a), (0, hiO V b), (0, 0), (9, 0), (9, 0)] [] μ = EE 230 142 [(48, 71), (0, f), (0, i), (0, ((BL1 V a b).length : Int)), (9, 0), (9, 0), (0, wdO V c), (0, 0), (9, 0)] [] m1 ∧ Nt μ m1 (BL1 V a b) 0 i := by
    unfold BL1
    by_cases z : 0 < a
    · rw [if_pos z]
      obtain ⟨m1, x1, x2⟩ := m_tieRows hw hB (i := i) (c := c) e1.1 e1.2 e2.1 e2.2 z 0 μ 0 (9, 0) (9, 0) (by omega) (by omega) h ha.1 hc.1 (by omega) (by omega)
      refine ⟨m1, ?_, x2⟩
      rw [x1, Int.zero_add]
    · rw [if_neg z]
      refine ⟨μ, ?_, Nt_r _ _ _⟩
      rw [q230_39, h.c2, nn74, jx74 _ (by omega) (by omega), h.L, w32_l (by omega) (by omega), if_neg (by omega), ha.1, if_neg z, h.c4, nn76, jx76 _ (by omega) (by omega), h.B, hc.1, ew, bnd_s, q230_142, q230_142]
      simp only [List.length_nil, Int.natCast_zero]
  obtain ⟨m1, x1, x2⟩ := s1
  have h1 := Nt_MF x2 h
  have e17 : m1 71 17 = c := by rw [x2.1 71 17 (by omega)]; exact hc.1
  have s2 : ∃ m2, EE 230 142 [(48, 71), (0, f), (0, i), (0, ((BL1 V a b).length : Int)), (9, 0), (9, 0), (0, wdO V c), (0, 0), (9, 0)] [] m1 = some (((BL1 V a b).length : Int) + (BL2 V c).length, m2) ∧ Nt m1 m2 (BL2 V c) (BL1 V a b).length i := by
    unfold BL2
    by_cases z : 0 < c
    · have e3 : 1 ≤ wdO V c ∧ wdO V c ≤ vB V := by unfold wdO; split <;> omega
      rw [if_pos z]
      obtain ⟨m2, y1, y2⟩ := m_braceRows hw hB (i := i) e3.1 e3.2 z 0 m1 (BL1 V a b).length (9, 0) (9, 0) (9, 0) (by omega) (by omega) h1 e17 (by omega) (by omega)
      exact ⟨m2, y1, y2⟩
    · rw [if_neg z]
      refine ⟨m1, ?_, Nt_r _ _ _⟩
      rw [q230_142, h1.c2, nn74, jx74 _ (by omega) (by omega), h1.L, if_pos (by omega), e17, if_neg z]
      simp only [List.length_nil, Int.natCast_zero, Int.add_zero]
  obtain ⟨m2, y1, y2⟩ := s2
  refine ⟨m2, ?_, ?_⟩
  · rw [x1, y1]
    unfold BL
    rw [List.length_append, Int.natCast_add]
  · refine Nt_t x2 ?_
    rw [Int.zero_add]
    exact y2
end BM
