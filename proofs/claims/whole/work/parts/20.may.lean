/-! what may be put up and taken down, in the reference -/
theorem FU_n {p : Int → Prop} [DecidablePred p] {i n : Int} (h : 0 ≤ i) : FU p (-1) i n = -1 ↔ ∀ j, i ≤ j → j < n → ¬ p j := by
  rcases FU_p (p := p) (d := -1) (n := n) i with ⟨a, b⟩ | ⟨a, b, c, d⟩
  · exact ⟨fun _ => b, fun _ => a⟩
  · exact ⟨fun q => by omega, fun q => absurd c (q _ a b)⟩
section MAY
variable {μ : MM} {f : Int} {V : FV} {U : Int → Int}
theorem m_mayPut_0 (k : Int) : ∀ i, 0 ≤ i → EE 239 25 [(48, 71), (0, f), (0, k), (0, 0), (0, i)] [] μ = some (0, μ) := by
  refine up_ind 396 ?_ ?_
  · intro i hi _
    rw [q239_25, if_neg (by omega), zo_0]
  · intro i hi ih _
    rw [q239_25, if_pos hi, if_pos rfl, w32_l (by omega) (by omega), ih (by omega)]
abbrev ndW (V : FV) (U : Int → Int) (k j : Int) : Prop := U j = 0 ∧ isP V j ∧ ndR V k j
abbrev ndH (V : FV) (U : Int → Int) (k j : Int) : Prop := U j = 1 ∧ ndR V j k
theorem m_mayPut_1 (hw : WF V) (h : MF μ f V) (hu : MU μ f V U) {k : Int} (hk : isP V k) : ∀ i, 0 ≤ i → EE 239 25 [(48, 71), (0, f), (0, k), (0, 1), (0, i)] [] μ = some (b2i (FU (ndW V U k) (-1) i 396 = -1), μ) := by
  refine up_ind 396 ?_ ?_
  · intro i hi _
    rw [q239_25, if_neg (by omega), zo_1, FU_e hi, b2i_t rfl]
  · intro i hi ih _
    rw [q239_25, if_pos hi, if_neg (by decide), m_isUpNow h hu (by omega) hi, bnd_s, FU_s hi, w32_l (by omega) (by omega)]
    by_cases e : U i = 0
    · rw [if_pos e, m_isPiece hw h, bnd_s]
      simp only [b2i_0, ite_not]
      by_cases e2 : isP V i
      · rw [if_pos e2, m_needs hw h hk (by omega), bnd_s]
        simp only [b2i_0, ite_not]
        by_cases e3 : ndR V k i
        · rw [if_pos e3, m_mayPut_0 _ _ (by omega), if_pos ⟨e, e2, e3⟩, b2i_f (by omega)]
        · rw [if_neg e3, ih (by omega), if_neg (fun q => e3 q.2.2)]
      · rw [if_neg e2, ih (by omega), if_neg (fun q => e2 q.2.1)]
    · rw [if_neg e, ih (by omega), if_neg (fun q => e q.1)]
abbrev mPt (V : FV) (U : Int → Int) (k : Int) : Prop := isP V k ∧ U k = 0 ∧ FU (ndW V U k) (-1) 0 396 = -1
abbrev mTk (V : FV) (U : Int → Int) (k : Int) : Prop := isP V k ∧ U k = 1 ∧ FU (ndH V U k) (-1) 0 396 = -1
theorem m_mayPut (hw : WF V) (h : MF μ f V) (hu : MU μ f V U) (k : Int) : EE 239 0 [(48, 71), (0, f), (0, k), (9, 0), (9, 0)] [] μ = some (b2i (mPt V U k), μ) := by
  rw [q239_0, m_isPiece hw h, bnd_s]
  simp only [b2i_0, ite_not]
  by_cases e : isP V k
  · rw [if_pos e, m_isUpNow h hu e.1 e.2.1, bnd_s]
    by_cases e2 : U k = 0
    · rw [if_pos e2, m_mayPut_1 hw h hu e _ (by omega)]
      rw [b2i_c (q := mPt V U k) ⟨fun q => ⟨e, e2, q⟩, fun q => q.2.2⟩]
    · rw [if_neg e2, b2i_f (fun q => e2 q.2.1)]
  · rw [if_neg e, b2i_f (fun q => e q.1)]
theorem m_mayTake_0 (k : Int) : ∀ i, 0 ≤ i → EE 240 25 [(48, 71), (0, f), (0, k), (0, 0), (0, i)] [] μ = some (0, μ) := by
  refine up_ind 396 ?_ ?_
  · intro i hi _
    rw [q240_25, if_neg (by omega), zo_0]
  · intro i hi ih _
    rw [q240_25, if_pos hi, if_pos rfl, w32_l (by omega) (by omega), ih (by omega)]
theorem m_mayTake_1 (hw : WF V) (h : MF μ f V) (hu : MU μ f V U) {k : Int} (hk : 0 ≤ k) : ∀ i, 0 ≤ i → EE 240 25 [(48, 71), (0, f), (0, k), (0, 1), (0, i)] [] μ = some (b2i (FU (ndH V U k) (-1) i 396 = -1), μ) := by
  refine up_ind 396 ?_ ?_
  · intro i hi _
    rw [q240_25, if_neg (by omega), zo_1, FU_e hi, b2i_t rfl]
  · intro i hi ih _
    have u := hu.1 i
    rw [q240_25, if_pos hi, if_neg (by decide), m_isUpNow h hu (by omega) hi, bnd_s, FU_s hi, w32_l (by omega) (by omega)]
    by_cases e : U i = 0
    · rw [if_pos e, ih (by omega), if_neg (fun q => by omega)]
    · have e2 : U i = 1 ∧ isP V i := by omega
      rw [if_neg e, m_needs hw h e2.2 hk, bnd_s]
      simp only [b2i_0, ite_not]
      by_cases e3 : ndR V i k
      · rw [if_pos e3, m_mayTake_0 _ _ (by omega), if_pos ⟨e2.1, e3⟩, b2i_f (by omega)]
      · rw [if_neg e3, ih (by omega), if_neg (fun q => e3 q.2)]
theorem m_mayTake (hw : WF V) (h : MF μ f V) (hu : MU μ f V U) (k : Int) : EE 240 0 [(48, 71), (0, f), (0, k), (9, 0), (9, 0)] [] μ = some (b2i (mTk V U k), μ) := by
  have u := hu.1 k
  rw [q240_0, m_isPiece hw h, bnd_s]
  simp only [b2i_0, ite_not]
  by_cases e : isP V k
  · rw [if_pos e, m_isUpNow h hu e.1 e.2.1, bnd_s]
    by_cases e2 : U k = 0
    · rw [if_pos e2, b2i_f (fun q => by omega)]
    · rw [if_neg e2, m_mayTake_1 hw h hu e.1 _ (by omega)]
      rw [b2i_c (q := mTk V U k) ⟨fun q => ⟨e, by omega, q⟩, fun q => q.2.2⟩]
  · rw [if_neg e, b2i_f (fun q => e q.1)]
theorem m_leastPut (hw : WF V) (h : MF μ f V) (hu : MU μ f V U) : ∀ i, 0 ≤ i → EE 245 2 [(48, 71), (0, f), (0, i)] [] μ = some (FU (mPt V U) (-1000000005) i 396, μ) := by
  refine up_ind 396 ?_ ?_
  · intro i hi _
    rw [q245_2, FU_e hi, if_neg (by omega)]
  · intro i hi ih _
    rw [q245_2, FU_s hi, if_pos hi, m_mayPut hw h hu, bnd_s]
    simp (disch := omega) only [w32_l, b2i_0, ite_not, ih]
    split <;> rfl
theorem m_greatestTaken (hw : WF V) (h : MF μ f V) (hu : MU μ f V U) : ∀ i, i ≤ 395 → EE 246 4 [(48, 71), (0, f), (0, i)] [] μ = some (FD (mTk V U) (-1000000005) i, μ) := by
  refine dn_ind 0 ?_ ?_
  · intro i hi _
    rw [q246_4, FD_e hi, if_pos (by omega)]
  · intro i hi ih _
    rw [q246_4, FD_s hi, if_neg (by omega), m_mayTake hw h hu, bnd_s]
    simp (disch := omega) only [w32_l, b2i_0, ite_not, show i + -1 = i - 1 by omega, ih]
    split <;> rfl
theorem m_leastDown (hw : WF V) (h : MF μ f V) (hu : MU μ f V U) : ∀ i, 0 ≤ i → EE 247 2 [(48, 71), (0, f), (0, i)] [] μ = some (FU (fun k => isP V k ∧ U k = 0) (-1000000005) i 396, μ) := by
  refine up_ind 396 ?_ ?_
  · intro i hi _
    rw [q247_2, FU_e hi, if_neg (by omega)]
  · intro i hi ih _
    rw [q247_2, FU_s hi, if_pos hi, m_isPiece hw h, bnd_s, m_isUpNow h hu (by omega) hi, bnd_s]
    simp (disch := omega) only [w32_l, b2i_0, ite_not, ih]
    by_cases e : isP V i
    · rw [if_pos e]
      by_cases e2 : U i = 0
      · rw [if_pos e2, if_pos ⟨e, e2⟩]
      · rw [if_neg e2, if_neg (fun q => e2 q.2)]
    · rw [if_neg e, if_neg (fun q => e q.1)]
/-! pieces that are needed are pieces -/
theorem isP_of {t l p : Int} (ht : 0 ≤ t ∧ t < 6) (hl : 0 ≤ l ∧ l < 6) (hp : 0 ≤ p ∧ p < 11) (h : PI V t l p) : isP V (66 * t + 11 * l + p) := by
  refine ⟨by omega, by omega, ?_⟩
  rw [show (66 * t + 11 * l + p) / 66 = t by omega, show (66 * t + 11 * l + p) % 66 / 11 = l by omega, show (66 * t + 11 * l + p) % 11 = p by omega]
  exact h
theorem PI_x {t l p t' : Int} (h : PI V t l p) (ht : t = t') : PI V t' l p := ht ▸ h
theorem PI_0 {l p : Int} (h : PI V 0 l p) : inS V p ∧ inL V l ∧ ¬ (l = 0 ∧ ¬ fot V p) := by
  rcases h with q | q | q | q | q | q
  · exact q.2
  all_goals exact absurd q.1 (by decide)
theorem PI_1 {l p : Int} (h : PI V 1 l p) : inB V p ∧ inL V l ∧ ¬ (l = 0 ∧ gat V p) := by
  rcases h with q | q | q | q | q | q
  rotate_left
  · exact q.2
  all_goals exact absurd q.1 (by decide)
theorem PI_2 {l p : Int} (h : PI V 2 l p) : vR V p l = 1 := by
  rcases h with q | q | q | q | q | q
  rotate_left 2
  · exact q.2
  all_goals exact absurd q.1 (by decide)
theorem PI_3 {l p : Int} (h : PI V 3 l p) : 0 ≤ vC V p l := by
  rcases h with q | q | q | q | q | q
  rotate_left 3
  · exact q.2
  all_goals exact absurd q.1 (by decide)
theorem PI_4 {l p : Int} (h : PI V 4 l p) : vT V p l = 1 := by
  rcases h with q | q | q | q | q | q
  rotate_left 4
  · exact q.2
  all_goals exact absurd q.1 (by decide)
theorem PI_5 {l p : Int} (h : PI V 5 l p) : inL V l ∧ l = 0 ∧ gat V p := by
  rcases h with q | q | q | q | q | q
  rotate_left 5
  · exact q.2
  all_goals exact absurd q.1 (by decide)
theorem tube_isP (hw : WF V) {l p : Int} (h1 : inS V p) (h2 : inL V l) (h3 : l = 0 → fot V p) : isP V (11 * l + p) := by
  have r := hw.r
  have := isP_of (V := V) (t := 0) (l := l) (p := p) (by omega) (by omega) (by omega) (Or.inl ⟨rfl, h1, h2, fun q => q.2 (h3 q.1)⟩)
  rw [show 66 * 0 + 11 * l + p = 11 * l + p by omega] at this
  exact this
theorem ledg_isP (hw : WF V) {l p : Int} (h1 : inB V p) (h2 : inL V l) (h3 : ¬ (l = 0 ∧ gat V p)) : isP V (66 + 11 * l + p) := by
  have r := hw.r
  have := isP_of (V := V) (t := 1) (l := l) (p := p) (by omega) (by omega) (by omega) (Or.inr (Or.inl ⟨rfl, h1, h2, h3⟩))
  rw [show 66 * 1 + 11 * l + p = 66 + 11 * l + p by omega] at this
  exact this
theorem beam_isP (hw : WF V) {p : Int} (h1 : inB V p) (h3 : gat V p) : isP V (330 + p) := by
  have r := hw.r
  have := isP_of (V := V) (t := 5) (l := 0) (p := p) (by omega) (by omega) (by omega) (Or.inr (Or.inr (Or.inr (Or.inr (Or.inr ⟨rfl, by omega, rfl, h3⟩)))))
  rw [show 66 * 5 + 11 * 0 + p = 330 + p by omega] at this
  exact this
theorem gat_in (hw : WF V) {p : Int} (h : gat V p) : inB V p := by
  rcases hw.k p with e | e
  · exact e.1
  · omega
theorem nd_isP (hw : WF V) {k w : Int} (hk : isP V k) (hw2 : w = 0 ∨ w = 1) (h0 : 0 ≤ nd V k w) : isP V (nd V k w) := by
  obtain ⟨e0, e1, hp⟩ := hk
  unfold nd at h0 ⊢
  have h1 : 0 ≤ k % 66 / 11 ∧ k % 66 / 11 < 6 := by omega
  have h2 : 0 ≤ k % 11 ∧ k % 11 < 11 := by omega
  have h3 : 0 ≤ k / 66 ∧ k / 66 < 6 := by omega
  revert h1 h2 h3 hp h0
  generalize k / 66 = t
  generalize k % 66 / 11 = l
  generalize k % 11 = p
  clear e0 e1
  intro h0 hp h1 h2 h3
  have r := hw.r
  by_cases t0 : t = 0
  · have q := PI_0 (PI_x hp t0)
    clear hp
    simp only [if_pos t0] at h0 ⊢
    unfold ndT at h0 ⊢
    by_cases e : fot V p
    · simp only [b2i_f (show ¬ ¬ fot V p from fun q => q e), if_pos e] at h0 ⊢
      by_cases a : 0 < l
      · simp only [if_pos a] at h0 ⊢
        by_cases b : w = 0
        · simp only [if_pos b] at h0 ⊢
          exact tube_isP hw q.1 (by omega) (fun _ => e)
        · rw [if_neg b] at h0
          omega
      · rw [if_neg a] at h0
        omega
    · simp only [b2i_t e, if_neg e] at h0 ⊢
      by_cases a : 1 < l
      · simp only [if_pos a] at h0 ⊢
        by_cases b : w = 0
        · simp only [if_pos b] at h0 ⊢
          exact tube_isP hw q.1 (by omega) (fun _ => by omega)
        · rw [if_neg b] at h0
          omega
      · simp only [if_neg a]
        have e' := Decidable.not_not.1 e
        rcases hw2 with e2 | e2
        · rw [show p - 1 + w = p - 1 by omega]
          exact beam_isP hw (gat_in hw e'.1) e'.1
        · rw [show p - 1 + w = p by omega]
          exact beam_isP hw (gat_in hw e'.2) e'.2
  simp only [if_neg t0] at h0 ⊢
  by_cases t1 : t = 1
  · have q := PI_1 (PI_x hp t1)
    clear hp
    simp only [if_pos t1] at h0 ⊢
    rcases hw2 with e2 | e2
    · rw [show p + w = p by omega]
      exact tube_isP hw (by omega) q.2.1 (fun z y => q.2.2 ⟨z, y.2⟩)
    · rw [show p + w = p + 1 by omega]
      exact tube_isP hw (by omega) q.2.1 (fun z y => q.2.2 ⟨z, by rw [show p + 1 - 1 = p by omega] at y; exact y.1⟩)
  simp only [if_neg t1] at h0 ⊢
  by_cases t2 : t = 2
  · have q := PI_2 (PI_x hp t2)
    clear hp
    simp only [if_pos t2] at h0 ⊢
    by_cases b : w = 0
    · rw [if_pos b]
      rcases hw.b p l with z | z
      · omega
      · exact ledg_isP hw z.2.1 z.2.2.1 z.2.2.2
    · rw [if_neg b] at h0
      omega
  simp only [if_neg t2] at h0 ⊢
  by_cases t3 : t = 3
  · have q := PI_3 (PI_x hp t3)
    clear hp
    simp only [if_pos t3] at h0 ⊢
    by_cases b : w = 0
    · rw [if_pos b]
      rcases hw.c p l with z | z
      · omega
      · exact ledg_isP hw z.2.2.1 z.2.2.2.1 z.2.2.2.2
    · rw [if_neg b] at h0
      omega
  simp only [if_neg t3] at h0 ⊢
  by_cases t4 : t = 4
  · have q := PI_4 (PI_x hp t4)
    clear hp
    simp only [if_pos t4] at h0 ⊢
    by_cases b : w = 0
    · rw [if_pos b]
      rcases hw.t p l with z | z
      · omega
      · exact tube_isP hw z.2.1 z.2.2.1 (fun a => Decidable.not_not.1 (fun y => z.2.2.2 ⟨a, y⟩))
    · rw [if_neg b] at h0
      omega
  simp only [if_neg t4] at h0 ⊢
  have q := PI_5 (PI_x hp (show t = 5 by omega))
  clear hp
  have g := gat_in hw q.2.2
  by_cases b : w = 0
  · rw [if_pos b]
    have l1 := LF_r hw h2.1
    have := tube_isP hw (l := 0) (p := LF V p) (by omega) (by omega) (fun _ => l1.2.2.1)
    rw [show 11 * 0 + LF V p = LF V p by omega] at this
    exact this
  · rw [if_neg b]
    have l2 := RF_r hw (s := p + 1) (by omega)
    have := tube_isP hw (l := 0) (p := RF V (p + 1)) (by omega) (by omega) (fun _ => l2.2.2.1)
    rw [show 11 * 0 + RF V (p + 1) = RF V (p + 1) by omega] at this
    exact this
/-- the class and the reference agree on what may be put up -/
theorem cR_mP (hw : WF V) (hU : ∀ k, U k = 0 ∨ (U k = 1 ∧ isP V k)) (k : Int) : cR V U k ↔ mPt V U k := by
  constructor
  · intro ⟨h1, h2, h3, h4⟩
    refine ⟨h2, h1, (FU_n (by omega)).2 ?_⟩
    intro j j0 j1 ⟨a, b, c⟩
    rcases c with c | c
    · rw [← c] at h3
      omega
    · rw [← c] at h4
      omega
  · intro ⟨h1, h2, h3⟩
    have h4 := (FU_n (by omega)).1 h3
    refine ⟨h2, h1, ?_, ?_⟩
    · by_cases e : nd V k 0 < 0
      · exact Or.inl e
      · have p := nd_isP hw h1 (Or.inl rfl) (by omega)
        have := h4 (nd V k 0) p.1 p.2.1
        have u := hU (nd V k 0)
        by_cases e2 : U (nd V k 0) = 0
        · exact absurd ⟨e2, p, Or.inl rfl⟩ this
        · omega
    · by_cases e : nd V k 1 < 0
      · exact Or.inl e
      · have p := nd_isP hw h1 (Or.inr rfl) (by omega)
        have := h4 (nd V k 1) p.1 p.2.1
        have u := hU (nd V k 1)
        by_cases e2 : U (nd V k 1) = 0
        · exact absurd ⟨e2, p, Or.inr rfl⟩ this
        · omega
end MAY
