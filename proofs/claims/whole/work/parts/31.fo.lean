/-! what comes down at a foot: the reference -/
def eL (V : FV) (s : Int) : Int := LF V (s - 1)
def eR (V : FV) (s : Int) : Int := RF V (s + 1)
def aL (V : FV) (s : Int) : Int := if eL V s < 0 then 1 else SM (vW V) (eL V s) s
def aR (V : FV) (s : Int) : Int := if eR V s < 0 then 1 else SM (vW V) s (eR V s)
def hgL (V : FV) (s j : Int) : Int := if eL V s < j ∧ j < s then tl V j * SM (vW V) (eL V s) j else 0
def hgR (V : FV) (s j : Int) : Int := if s < j ∧ j < eR V s then tl V j * SM (vW V) j (eR V s) else 0
def fN (V : FV) (s k : Int) : Int := tl V s * aL V s * aR V s + SM (hgL V s) 0 k * aR V s + SM (hgR V s) 0 k * aL V s
def fD2 (V : FV) (s : Int) : Int := 2 * aL V s * aR V s
section FO
variable {μ μ' : MM} {f : Int} {V : FV}
theorem MF_ag (hm : MRf μ') (e : ∀ c i, 74 ≤ c ∧ c ≤ 79 → μ' c i = μ c i) (h : MF μ f V) : MF μ' f V := by
  obtain ⟨h1, _, h3⟩ := h
  refine ⟨h1, hm, ?_⟩
  have e4 : ∀ i, μ' 74 i = μ 74 i := fun i => e _ _ (by omega)
  have e5 : ∀ i, μ' 75 i = μ 75 i := fun i => e _ _ (by omega)
  have e6 : ∀ i, μ' 76 i = μ 76 i := fun i => e _ _ (by omega)
  have e7 : ∀ i, μ' 77 i = μ 77 i := fun i => e _ _ (by omega)
  have e8 : ∀ i, μ' 78 i = μ 78 i := fun i => e _ _ (by omega)
  have e9 : ∀ i, μ' 79 i = μ 79 i := fun i => e _ _ (by omega)
  simp only [e4, e5, e6, e7, e8, e9]
  exact h3
theorem MF_fA (e : fA μ μ') (h : MF μ f V) : MF μ' f V := MF_ag (MRf_ag (fun i q => e 71 i (by omega)) h.m) (fun c i q => e c i (by omega)) h
theorem sW_r (hw : WF V) {a b : Int} (h0 : 0 ≤ a) (h1 : a ≤ b) (h2 : b ≤ vB V) : b - a ≤ SM (vW V) a b ∧ SM (vW V) a b ≤ 100 * (b - a) := by
  have := SM_b (f := vW V) (lo := 1) (hi := 100) (n := b) a (fun j j0 j1 => by have := hw.k j; omega) h1
  omega
theorem eL_p (hw : WF V) {s : Int} (h : 0 < s) : 0 ≤ eL V s ∧ eL V s ≤ s - 1 ∧ fot V (eL V s) ∧ ∀ j, eL V s < j → j ≤ s - 1 → ¬ fot V j := LF_r hw (by omega)
theorem eR_p (hw : WF V) {s : Int} (h : s < vB V) : s + 1 ≤ eR V s ∧ eR V s ≤ vB V ∧ fot V (eR V s) ∧ ∀ j, s + 1 ≤ j → j < eR V s → ¬ fot V j := RF_r hw (by omega)
theorem eL_0 : eL V 0 = -1 := FD_e (by omega)
theorem eR_B : eR V (vB V) = -1 := FU_e (by omega)
theorem aL_r (hw : WF V) {s : Int} (s0 : 0 ≤ s) (s1 : s ≤ vB V) : 1 ≤ aL V s ∧ aL V s ≤ 1000 := by
  have hr := hw.r
  unfold aL
  by_cases e : s = 0
  · subst e
    rw [eL_0, if_pos (by omega)]
    omega
  · have h := eL_p hw (s := s) (by omega)
    have := sW_r hw (a := eL V s) (b := s) (by omega) (by omega) s1
    rw [if_neg (by omega)]
    omega
theorem aR_r (hw : WF V) {s : Int} (s0 : 0 ≤ s) (s1 : s ≤ vB V) : 1 ≤ aR V s ∧ aR V s ≤ 1000 := by
  have hr := hw.r
  unfold aR
  by_cases e : s = vB V
  · subst e
    rw [eR_B, if_pos (by omega)]
    omega
  · have h := eR_p hw (s := s) (by omega)
    have := sW_r hw (a := s) (b := eR V s) (by omega) (by omega) (by omega)
    rw [if_neg (by omega)]
    omega
theorem hgL_r (hw : WF V) {s : Int} (s0 : 0 ≤ s) (s1 : s ≤ vB V) (j : Int) : 0 ≤ hgL V s j ∧ hgL V s j ≤ 4056000 := by
  have hr := hw.r
  unfold hgL
  split
  · rename_i e
    by_cases z : s = 0
    · subst z
      rw [eL_0] at e
      omega
    · have h := eL_p hw (s := s) (by omega)
      have a := sW_r hw (a := eL V s) (b := j) (by omega) (by omega) (by omega)
      have b := tl_r hw j
      exact mul_b (c := 4056) (d := 1000) (by omega) (by omega) (by omega) (by omega)
  · omega
theorem hgR_r (hw : WF V) {s : Int} (s0 : 0 ≤ s) (s1 : s ≤ vB V) (j : Int) : 0 ≤ hgR V s j ∧ hgR V s j ≤ 4056000 := by
  have hr := hw.r
  unfold hgR
  split
  · rename_i e
    by_cases z : s = vB V
    · subst z
      rw [eR_B] at e
      omega
    · have h := eR_p hw (s := s) (by omega)
      have a := sW_r hw (a := j) (b := eR V s) (by omega) (by omega) (by omega)
      have b := tl_r hw j
      exact mul_b (c := 4056) (d := 1000) (by omega) (by omega) (by omega) (by omega)
  · omega
theorem sgL_r (hw : WF V) {s : Int} (s0 : 0 ≤ s) (s1 : s ≤ vB V) {k : Int} (k0 : 0 ≤ k) (k1 : k ≤ 11) : 0 ≤ SM (hgL V s) 0 k ∧ SM (hgL V s) 0 k ≤ 44616000 := by
  have := SM_b (f := hgL V s) (lo := 0) (hi := 4056000) (n := k) 0 (fun j _ _ => hgL_r hw s0 s1 j) k0
  omega
theorem sgR_r (hw : WF V) {s : Int} (s0 : 0 ≤ s) (s1 : s ≤ vB V) {k : Int} (k0 : 0 ≤ k) (k1 : k ≤ 11) : 0 ≤ SM (hgR V s) 0 k ∧ SM (hgR V s) 0 k ≤ 44616000 := by
  have := SM_b (f := hgR V s) (lo := 0) (hi := 4056000) (n := k) 0 (fun j _ _ => hgR_r hw s0 s1 j) k0
  omega
theorem fN_r (hw : WF V) {s : Int} (s0 : 0 ≤ s) (s1 : s ≤ vB V) {k : Int} (k0 : 0 ≤ k) (k1 : k ≤ 11) : 0 ≤ fN V s k ∧ fN V s k ≤ 1000000000000 := by
  have a := aL_r hw s0 s1
  have b := aR_r hw s0 s1
  have c := sgL_r hw s0 s1 k0 k1
  have d := sgR_r hw s0 s1 k0 k1
  have t := tl_r hw s
  have p1 := mul_b (a := tl V s) (b := aL V s) (c := 4056) (d := 1000) (by omega) (by omega) (by omega) (by omega)
  have p2 := mul_b (a := tl V s * aL V s) (b := aR V s) (c := 4056000) (d := 1000) (by omega) (by omega) (by omega) (by omega)
  have p3 := mul_b (a := SM (hgL V s) 0 k) (b := aR V s) (c := 44616000) (d := 1000) (by omega) (by omega) (by omega) (by omega)
  have p4 := mul_b (a := SM (hgR V s) 0 k) (b := aL V s) (c := 44616000) (d := 1000) (by omega) (by omega) (by omega) (by omega)
  unfold fN
  omega
theorem fD2_r (hw : WF V) {s : Int} (s0 : 0 ≤ s) (s1 : s ≤ vB V) : 0 < fD2 V s ∧ fD2 V s ≤ 2000000 := by
  have a := aL_r hw s0 s1
  have b := aR_r hw s0 s1
  have p1 := mul_b (a := 2 * aL V s) (b := aR V s) (c := 2000) (d := 1000) (by omega) (by omega) (by omega) (by omega)
  have p2 : 0 < 2 * aL V s * aR V s := Int.mul_pos (by omega) (by omega)
  unfold fD2
  omega
theorem ft_R (hw : WF V) {s k : Int} (hs : fot V s) (s0 : 0 ≤ s) (s1 : s ≤ vB V) (hk : ¬ fot V k) (k0 : 0 ≤ k) (k1 : k ≤ vB V) : (LF V (k - 1) = s ∧ s < k ∧ k < eR V s ∧ RF V (k + 1) = eR V s) ∨ (LF V (k - 1) ≠ s ∧ ¬ (s < k ∧ k < eR V s)) := by
  have k2 : k ≠ 0 := fun e => hk (e ▸ fot0 hw)
  have k3 : k ≠ vB V := fun e => hk (e ▸ fotB hw)
  have l := LF_r hw (s := k - 1) (by omega)
  have r := RF_r hw (s := k + 1) (by omega)
  by_cases e : LF V (k - 1) = s
  · left
    have q := eR_p hw (s := s) (by omega)
    have h1 : k < eR V s := by
      by_cases z : k < eR V s
      · exact z
      · exfalso
        by_cases z2 : eR V s = k
        · exact hk (z2 ▸ q.2.2.1)
        · exact l.2.2.2 _ (by omega) (by omega) q.2.2.1
    have h2 : RF V (k + 1) = eR V s := by
      by_cases z : RF V (k + 1) < eR V s
      · exact absurd r.2.2.1 (q.2.2.2 _ (by omega) z)
      · by_cases z2 : eR V s < RF V (k + 1)
        · exact absurd q.2.2.1 (r.2.2.2 _ (by omega) z2)
        · omega
    exact ⟨e, by omega, h1, h2⟩
  · right
    refine ⟨e, fun z => e ?_⟩
    have q := eR_p hw (s := s) (by omega)
    by_cases w : LF V (k - 1) < s
    · exact absurd hs (l.2.2.2 s w (by omega))
    · by_cases w2 : s < LF V (k - 1)
      · exact absurd l.2.2.1 (q.2.2.2 _ (by omega) (by omega))
      · omega
theorem ft_L (hw : WF V) {s k : Int} (hs : fot V s) (s0 : 0 ≤ s) (s1 : s ≤ vB V) (hk : ¬ fot V k) (k0 : 0 ≤ k) (k1 : k ≤ vB V) : (RF V (k + 1) = s ∧ eL V s < k ∧ k < s ∧ LF V (k - 1) = eL V s) ∨ (RF V (k + 1) ≠ s ∧ ¬ (eL V s < k ∧ k < s)) := by
  have k2 : k ≠ 0 := fun e => hk (e ▸ fot0 hw)
  have k3 : k ≠ vB V := fun e => hk (e ▸ fotB hw)
  have l := LF_r hw (s := k - 1) (by omega)
  have r := RF_r hw (s := k + 1) (by omega)
  by_cases e : RF V (k + 1) = s
  · left
    have q := eL_p hw (s := s) (by omega)
    have h1 : eL V s < k := by
      by_cases z : eL V s < k
      · exact z
      · exfalso
        by_cases z2 : eL V s = k
        · exact hk (z2 ▸ q.2.2.1)
        · exact r.2.2.2 _ (by omega) (by omega) q.2.2.1
    have h2 : LF V (k - 1) = eL V s := by
      by_cases z : eL V s < LF V (k - 1)
      · exact absurd l.2.2.1 (q.2.2.2 _ z (by omega))
      · by_cases z2 : LF V (k - 1) < eL V s
        · exact absurd q.2.2.1 (l.2.2.2 _ z2 (by omega))
        · omega
    exact ⟨e, h1, by omega, h2⟩
  · right
    refine ⟨e, fun z => e ?_⟩
    have q := eL_p hw (s := s) (by omega)
    by_cases w : s < RF V (k + 1)
    · exact absurd hs (r.2.2.2 s (by omega) w)
    · by_cases w2 : RF V (k + 1) < s
      · exact absurd r.2.2.1 (q.2.2.2 _ (by omega) (by omega))
      · omega
theorem g_0 (hw : WF V) {s k : Int} (s0 : 0 ≤ s) (s1 : s ≤ vB V) (k0 : 0 ≤ k) (hk : fot V k) : hgL V s k = 0 ∧ hgR V s k = 0 := by
  constructor
  · refine if_neg (fun z => ?_)
    exact (eL_p hw (s := s) (by omega)).2.2.2 k z.1 (by omega) hk
  · refine if_neg (fun z => ?_)
    by_cases e : s = vB V
    · subst e
      rw [eR_B] at z
      omega
    · exact (eR_p hw (s := s) (by omega)).2.2.2 k (by omega) z.2 hk
theorem fN_s {s k : Int} (k0 : 0 ≤ k) : fN V s (k + 1) = fN V s k + hgL V s k * aR V s + hgR V s k * aL V s := by
  unfold fN
  rw [SM_l _ k0, SM_l _ k0, Int.add_mul, Int.add_mul]
  omega
theorem m_footLoop (hw : WF V) (hB : vB V ≠ 0) {s : Int} (hs : fot V s) (s0 : 0 ≤ s) (s1 : s ≤ vB V) : ∀ k (μ : MM) (d4 d5 d6 d7 d8 d9 : VV), 0 ≤ k → k ≤ vB V + 1 → MF μ f V → μ 71 24 = R1 (fN V s k) (fD2 V s) → μ 71 25 = R2 (fN V s k) (fD2 V s) →
    ∃ μ', EE 213 26 [(48, 71), (0, f), (0, s), (0, k), d4, d5, d6, d7, d8, d9] [] μ = some (0, μ') ∧ fA μ μ' ∧ μ' 71 24 = R1 (fN V s (vB V + 1)) (fD2 V s) ∧ μ' 71 25 = R2 (fN V s (vB V + 1)) (fD2 V s) := by
  have hr := hw.r
  have hD := fD2_r hw s0 s1
  have hl := aL_r hw s0 s1
  have hrr := aR_r hw s0 s1
  refine up_ind (vB V + 1) ?_ ?_
  · intro k hk μ d4 d5 d6 d7 d8 d9 k0 k1 h h24 h25
    have hf := h.fr
    have e : k = vB V + 1 := by omega
    subst e
    rw [q213_26, h.c4, nn76, jx76 _ (by omega) (by omega), h.B, if_pos (by omega)]
    exact ⟨μ, rfl, fA_r μ, h24, h25⟩
  · intro k hk ih μ d4 d5 d6 d7 d8 d9 k0 k1 h h24 h25
    have hf := h.fr
    have hN := fN_r hw s0 s1 k0 (by omega)
    have hN1 := fN_r hw s0 s1 (k := k + 1) (by omega) (by omega)
    have ht := tl_r hw k
    rw [q213_26, h.c4, nn76, jx76 _ (by omega) (by omega), h.B, if_neg (by omega), m_hasFoot hw h (by omega) (by omega), bnd_s]
    simp only [b2i_0]
    by_cases hk2 : fot V k
    · have g0 := g_0 hw s0 s1 k0 hk2
      have e : fN V s (k + 1) = fN V s k := by
        rw [fN_s k0, g0.1, g0.2]
        omega
      rw [if_neg (fun z => z hk2), q213_141, w32_l (by omega) (by omega)]
      exact ih μ _ _ _ _ _ _ (by omega) (by omega) h (by rw [e]; exact h24) (by rw [e]; exact h25)
    · have k2 : k ≠ 0 := fun e => hk2 (e ▸ fot0 hw)
      have k3 : k ≠ vB V := fun e => hk2 (e ▸ fotB hw)
      have l := LF_r hw (s := k - 1) (by omega)
      have r := RF_r hw (s := k + 1) (by omega)
      have wa := sW_r hw (a := LF V (k - 1)) (b := k) (by omega) (by omega) (by omega)
      have wb := sW_r hw (a := k) (b := RF V (k + 1)) (by omega) (by omega) (by omega)
      have wab : SM (vW V) (LF V (k - 1)) (RF V (k + 1)) = SM (vW V) (LF V (k - 1)) k + SM (vW V) k (RF V (k + 1)) := SM_sp (by omega) _ (by omega)
      rw [if_pos hk2, q209_0, w32_l (x := k - 1) (by omega) (by omega), m_leftFoot hw h _ _ (by omega) (by omega), bnd_s, q213_53, q210_0, w32_l (x := k + 1) (by omega) (by omega), m_rightFoot hw h _ _ (by omega) (by omega), bnd_s, q213_61, q199_0, m_widthTo hw h (by omega) _ _ _ (by omega) (by omega) (by omega), bnd_s, q213_72, q199_0, m_widthTo hw h (by omega) _ _ _ (by omega) (by omega) (by omega), bnd_s, q213_83, Int.zero_add, Int.zero_add]
      generalize ea : SM (vW V) (LF V (k - 1)) k = a at *
      generalize eb : SM (vW V) k (RF V (k + 1)) = b at *
      have pb := mul_b (a := tl V k) (b := b) (c := 4056) (d := 1000) (by omega) (by omega) (by omega) (by omega)
      have pa := mul_b (a := tl V k) (b := a) (c := 4056) (d := 1000) (by omega) (by omega) (by omega) (by omega)
      rcases ft_R hw hs s0 s1 hk2 k0 (by omega) with ⟨q1, q2, q3, q4⟩ | ⟨q1, q2⟩
      · have eg1 : hgR V s k = tl V k * b := by
          unfold hgR
          rw [if_pos ⟨q2, q3⟩, ← q4, eb]
        have eg2 : hgL V s k = 0 := if_neg (by omega)
        have ear : aR V s = a + b := by
          unfold aR
          rw [if_neg (by omega), ← q4, ← wab, q1]
        obtain ⟨m1, x1, x2, x3, x4⟩ := m_add (a := tl V k * b) (b := 2 * (a + b)) h24 h25 (by omega) (by omega) (by omega) (by omega)
        have key := R_eq (n := fN V s k * (2 * (a + b)) + tl V k * b * fD2 V s) (d := fD2 V s * (2 * (a + b))) (n' := fN V s (k + 1)) (d' := fD2 V s) (Int.add_nonneg (Int.mul_nonneg (by omega) (by omega)) (Int.mul_nonneg (by omega) (by omega))) (Int.mul_pos (by omega) (by omega)) (by omega) (by omega) (by
          rw [fN_s k0, eg1, eg2, ← ear]
          unfold fD2
          grind)
        obtain ⟨m2, y1, y2, y3, y4⟩ := ih m1 (9, 0) (0, RF V (k + 1)) (1, a) (9, 0) (1, b) (9, 0) (by omega) (by omega) (MF_fA x2 h) (by rw [x3]; exact key.1) (by rw [x4]; exact key.2)
        refine ⟨m2, ?_, fA_t x2 y2, y3, y4⟩
        rw [if_pos q1, m_twiceLoad hw hB h k0 (by omega), bnd_s, w64_l (x := tl V k * b) (by omega) (by omega), w64_l (x := a + b) (by omega) (by omega), w64_l (x := 2 * (a + b)) (by omega) (by omega), x1, bnd_s, q213_112, if_neg (by omega), q213_141, w32_l (by omega) (by omega), ← y1, q213_26, q213_26]
      · have eg1 : hgR V s k = 0 := if_neg q2
        rw [if_neg q1, q213_112]
        rcases ft_L hw hs s0 s1 hk2 k0 (by omega) with ⟨p1, p2, p3, p4⟩ | ⟨p1, p2⟩
        · have eg2 : hgL V s k = tl V k * a := by
            unfold hgL
            rw [if_pos ⟨p2, p3⟩, ← p4, ea]
          have eal : aL V s = a + b := by
            unfold aL
            rw [if_neg (by omega), ← p4, ← wab, p1]
          obtain ⟨m1, x1, x2, x3, x4⟩ := m_add (a := tl V k * a) (b := 2 * (a + b)) h24 h25 (by omega) (by omega) (by omega) (by omega)
          have key := R_eq (n := fN V s k * (2 * (a + b)) + tl V k * a * fD2 V s) (d := fD2 V s * (2 * (a + b))) (n' := fN V s (k + 1)) (d' := fD2 V s) (Int.add_nonneg (Int.mul_nonneg (by omega) (by omega)) (Int.mul_nonneg (by omega) (by omega))) (Int.mul_pos (by omega) (by omega)) (by omega) (by omega) (by
            rw [fN_s k0, eg1, eg2, ← eal]
            unfold fD2
            grind)
          obtain ⟨m2, y1, y2, y3, y4⟩ := ih m1 (9, 0) (0, RF V (k + 1)) (1, a) (9, 0) (1, b) (9, 0) (by omega) (by omega) (MF_fA x2 h) (by rw [x3]; exact key.1) (by rw [x4]; exact key.2)
          refine ⟨m2, ?_, fA_t x2 y2, y3, y4⟩
          rw [if_pos p1, m_twiceLoad hw hB h k0 (by omega), bnd_s, w64_l (x := tl V k * a) (by omega) (by omega), w64_l (x := a + b) (by omega) (by omega), w64_l (x := 2 * (a + b)) (by omega) (by omega), x1, bnd_s, q213_141, w32_l (by omega) (by omega), ← y1, q213_26, q213_26]
        · have eg2 : hgL V s k = 0 := if_neg p2
          have e : fN V s (k + 1) = fN V s k := by
            rw [fN_s k0, eg1, eg2]
            omega
          rw [if_neg p1, q213_141, w32_l (by omega) (by omega)]
          exact ih μ _ _ _ _ _ _ (by omega) (by omega) h (by rw [e]; exact h24) (by rw [e]; exact h25)
/-- the fraction at a foot -/
def AB (V : FV) (s : Int) : Int := R1 (fN V s (vB V + 1)) (fD2 V s)
def BE (V : FV) (s : Int) : Int := R2 (fN V s (vB V + 1)) (fD2 V s)
theorem AB_r (hw : WF V) {s : Int} (s0 : 0 ≤ s) (s1 : s ≤ vB V) : 0 ≤ AB V s ∧ AB V s ≤ 1000000000000 ∧ 0 < BE V s ∧ BE V s ≤ 2000000 := by
  have hr := hw.r
  have h1 := fN_r hw s0 s1 (k := vB V + 1) (by omega) (by omega)
  have h2 := fD2_r hw s0 s1
  have := R_r h1.1 h2.1
  unfold AB BE
  omega
theorem m_findFoot (hw : WF V) (hB : vB V ≠ 0) (h : MF μ f V) {s : Int} (hs : fot V s) (s0 : 0 ≤ s) (s1 : s ≤ vB V) : ∃ μ', EE 213 0 [(48, 71), (0, f), (0, s), (9, 0), (9, 0), (9, 0), (9, 0), (9, 0), (9, 0), (9, 0)] [] μ = some (0, μ') ∧ fA μ μ' ∧ μ' 71 24 = AB V s ∧ μ' 71 25 = BE V s := by
  have hr := hw.r
  have a0 : fA μ (up (up μ 71 24 0) 71 25 1) := by
    intro c i q
    rw [up_n _ _ (by omega), up_n _ _ (by omega)]
  have ht := tl_r hw s
  have hD := fD2_r hw s0 s1
  have hN := fN_r hw s0 s1 (k := 0) (by omega) (by omega)
  obtain ⟨m1, x1, x2, x3, x4⟩ := m_add (μ := up (up μ 71 24 0) 71 25 1) (n := 0) (d := 1) (a := tl V s) (b := 2) (by rw [up_ni _ _ (by omega), up_s]; rfl) (by rw [up_s]; rfl) (by omega) (by omega) (by omega) (by omega)
  have key := R_eq (n := 0 * 2 + tl V s * 1) (d := 1 * 2) (n' := fN V s 0) (d' := fD2 V s) (by omega) (by omega) (by omega) (by omega) (by
    unfold fN fD2
    rw [SM_e (by omega), SM_e (by omega)]
    grind)
  obtain ⟨m2, y1, y2, y3, y4⟩ := m_footLoop hw hB hs s0 s1 0 m1 (9, 0) (9, 0) (9, 0) (9, 0) (9, 0) (9, 0) (by omega) (by omega) (MF_fA (fA_t a0 x2) h) (by rw [x3]; exact key.1) (by rw [x4]; exact key.2)
  refine ⟨m2, ?_, fA_t (fA_t a0 x2) y2, y3, y4⟩
  rw [q213_0, m_twiceLoad hw hB (MF_fA a0 h) s0 s1, bnd_s, x1, bnd_s, y1]
end FO
