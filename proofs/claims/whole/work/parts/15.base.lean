/-! ===== HALF 2: the pure equivalence. Views: what a frame is, in the class' cells and in the reference's ===== -/
def b2i (p : Prop) [Decidable p] : Int := if p then 1 else 0
theorem b2i_t {p : Prop} [Decidable p] (h : p) : b2i p = 1 := if_pos h
theorem b2i_f {p : Prop} [Decidable p] (h : ¬ p) : b2i p = 0 := if_neg h
theorem b2i_0 {p : Prop} [Decidable p] : b2i p = 0 ↔ ¬ p := by unfold b2i; split <;> simp_all
theorem b2i_1 {p : Prop} [Decidable p] : b2i p = 1 ↔ p := by unfold b2i; split <;> simp_all
theorem b2i_zo {p : Prop} [Decidable p] (K : RR) : zo (b2i p) K = K := by
  unfold zo b2i
  split <;> simp
theorem b2i_c {p q : Prop} [Decidable p] [Decidable q] (h : p ↔ q) : b2i p = b2i q := by unfold b2i; simp [h]
theorem nn_ok {x : Int} (K : RR) (h : x ≠ 0) : nn x K = K := if_neg h
theorem ix_ok {x i : Int} (K : RR) (h1 : 0 ≤ i) (h2 : i < cln x) : ix x i K = K := if_pos ⟨h1, h2⟩
theorem bnd_s (v : Int) (μ : MM) (K : Int → MM → RR) : bnd (some (v, μ)) K = K v μ := rfl
theorem w32_l {x : Int} (h1 : -2147483648 ≤ x) (h2 : x < 2147483648) : w32 x = x := w32_id ⟨h1, h2⟩
abbrev FV : Type := Nat → Int → Int → Int
abbrev vB (V : FV) : Int := V 0 0 0
abbrev vL (V : FV) : Int := V 1 0 0
abbrev vH (V : FV) : Int := V 2 0 0
abbrev vP (V : FV) : Int := V 3 0 0
abbrev vK (V : FV) (b : Int) : Int := V 4 b 0
abbrev vW (V : FV) (b : Int) : Int := V 5 b 0
abbrev vF (V : FV) (l : Int) : Int := V 6 l 0
abbrev vC (V : FV) (b l : Int) : Int := V 7 b l
abbrev vR (V : FV) (b l : Int) : Int := V 8 b l
abbrev vT (V : FV) (s l : Int) : Int := V 9 s l
def gat (V : FV) (b : Int) : Bool := decide (0 ≤ b) && decide (b < vB V) && decide (vK V b = 1)
def fot (V : FV) (s : Int) : Bool := !(gat V (s - 1) && gat V s)
def WF (V : FV) : Prop := 0 ≤ vB V ∧ vB V ≤ 10 ∧ 0 ≤ vL V ∧ vL V ≤ 6 ∧ 0 ≤ vH V ∧ vH V ≤ 20 ∧ 0 ≤ vP V ∧ vP V ≤ 20 ∧ (vB V = 0 ↔ vL V = 0) ∧
  (∀ b, 0 ≤ b → b < vB V → 0 ≤ vK V b ∧ vK V b ≤ 4 ∧ 1 ≤ vW V b ∧ vW V b ≤ 100) ∧ (∀ l, vF V l = 0 ∨ vF V l = 1) ∧
  (∀ b l, -1 ≤ vC V b l ∧ vC V b l ≤ 6) ∧ (∀ b l, vR V b l = 0 ∨ vR V b l = 1) ∧ (∀ s l, vT V s l = 0 ∨ vT V s l = 1)
def Fr (A : Int) : Prop := A = 41 ∨ A = 51 ∨ A = 61
theorem fr_1 {A : Int} (h : Fr A) : cln (A + 1) = 10 := by rcases h with h | h | h <;> subst h <;> decide
theorem fr_2 {A : Int} (h : Fr A) : cln (A + 2) = 10 := by rcases h with h | h | h <;> subst h <;> decide
theorem fr_3 {A : Int} (h : Fr A) : cln (A + 3) = 11 := by rcases h with h | h | h <;> subst h <;> decide
theorem fr_4 {A : Int} (h : Fr A) : cln (A + 4) = 6 := by rcases h with h | h | h <;> subst h <;> decide
theorem fr_5 {A : Int} (h : Fr A) : cln (A + 5) = 66 := by rcases h with h | h | h <;> subst h <;> decide
theorem fr_6 {A : Int} (h : Fr A) : cln (A + 6) = 66 := by rcases h with h | h | h <;> subst h <;> decide
theorem fr_7 {A : Int} (h : Fr A) : cln (A + 7) = 66 := by rcases h with h | h | h <;> subst h <;> decide
theorem fr_8 {A : Int} (h : Fr A) : cln (A + 8) = 396 := by rcases h with h | h | h <;> subst h <;> decide
theorem fr_9 {A : Int} (h : Fr A) : cln (A + 9) = 6 := by rcases h with h | h | h <;> subst h <;> decide
theorem fr_p {A : Int} (h : Fr A) : 41 ≤ A ∧ A ≤ 61 := by rcases h with h | h | h <;> omega
/-- the frame's own references -/
def FRf (μ : MM) (A : Int) : Prop := μ A 6 = A + 1 ∧ μ A 7 = A + 2 ∧ μ A 8 = A + 3 ∧ μ A 9 = A + 4 ∧ μ A 10 = A + 5 ∧ μ A 11 = A + 6 ∧ μ A 12 = A + 7 ∧ μ A 13 = A + 8 ∧ μ A 14 = A + 9
/-- the class' frame at A is V -/
def CF (μ : MM) (A : Int) (V : FV) : Prop := Fr A ∧ FRf μ A ∧ μ A 0 = b2i (vB V ≠ 0) ∧ μ A 1 = vB V ∧ μ A 2 = vL V ∧ μ A 3 = vH V ∧ μ A 4 = vP V ∧
  (∀ b, 0 ≤ b → b < vB V → μ (A + 1) b = vK V b ∧ μ (A + 2) b = vW V b) ∧ (∀ s, 0 ≤ s → s ≤ vB V → μ (A + 3) s = b2i (fot V s = false)) ∧ (∀ l, 0 ≤ l → l < vL V → μ (A + 4) l = vF V l) ∧
  (∀ b l, 0 ≤ b → b < vB V → 0 ≤ l → l < vL V → μ (A + 5) (11 * l + b) = vC V b l ∧ μ (A + 6) (11 * l + b) = vR V b l) ∧ (∀ s l, 0 ≤ s → s ≤ vB V → 0 ≤ l → l < vL V → μ (A + 7) (11 * l + s) = vT V s l)
/-- the reference's own references -/
def MRf (μ : MM) : Prop := μ 71 0 = 72 ∧ μ 71 1 = 73 ∧ μ 71 2 = 74 ∧ μ 71 3 = 75 ∧ μ 71 4 = 76 ∧ μ 71 5 = 77 ∧ μ 71 6 = 78 ∧ μ 71 7 = 79 ∧ μ 71 8 = 80 ∧ μ 71 9 = 81 ∧ μ 71 11 = 82 ∧ μ 71 12 = 83 ∧ μ 71 13 = 84 ∧ μ 71 18 = 85 ∧ μ 71 19 = 86 ∧ μ 71 20 = 87 ∧ μ 71 23 = 88 ∧ μ 71 29 = 89
/-- the reference's frame f is V -/
def MF (μ : MM) (f : Int) (V : FV) : Prop := (0 ≤ f ∧ f < 3) ∧ MRf μ ∧ μ 76 f = vB V ∧ μ 74 f = vL V ∧ μ 75 f = vH V ∧ μ 79 (193 * f + 192) = vP V ∧
  (∀ b, 0 ≤ b → b < vB V → μ 77 (10 * f + b) = vK V b ∧ μ 78 (10 * f + b) = vW V b) ∧ (∀ l, 0 ≤ l → l < 6 → μ 79 (193 * f + l) = vF V l) ∧
  (∀ b l, 0 ≤ b → b < 10 → 0 ≤ l → l < 6 → μ 79 (193 * f + 6 + 10 * l + b) = vC V b l ∧ μ 79 (193 * f + 66 + 10 * l + b) = vR V b l) ∧ (∀ s l, 0 ≤ s → s < 11 → 0 ≤ l → l < 6 → μ 79 (193 * f + 126 + 11 * l + s) = vT V s l)
theorem c74 : cln 74 = 3 := by decide
theorem c75 : cln 75 = 3 := by decide
theorem c76 : cln 76 = 3 := by decide
theorem c77 : cln 77 = 30 := by decide
theorem c78 : cln 78 = 30 := by decide
theorem c79 : cln 79 = 579 := by decide
/-! the class' frame: what it tells -/
section CFr
variable {μ : MM} {A : Int} {V : FV}
theorem c_hasBay (h : CF μ A V) (b : Int) : EE 11 0 [(41, A), (0, b)] [] μ = some (b2i (0 ≤ b ∧ b < vB V), μ) := by
  obtain ⟨hA, hf, h0, h1, h2, h3, h4, hkw, hlo, hfl, hcr, hti⟩ := h
  rw [q11_0, h1]
  unfold b2i
  repeat' split
  all_goals first | rfl | omega
theorem c_hasStandard (h : CF μ A V) (s : Int) : EE 12 0 [(41, A), (0, s)] [] μ = some (b2i (vB V ≠ 0 ∧ 0 ≤ s ∧ s ≤ vB V), μ) := by
  obtain ⟨hA, hf, h0, h1, h2, h3, h4, hkw, hlo, hfl, hcr, hti⟩ := h
  rw [q12_0, h1, h0]
  simp only [b2i_0]
  unfold b2i
  repeat' split
  all_goals first | rfl | omega
theorem c_hasLift (h : CF μ A V) (l : Int) : EE 13 0 [(41, A), (0, l)] [] μ = some (b2i (0 ≤ l ∧ l < vL V), μ) := by
  obtain ⟨hA, hf, h0, h1, h2, h3, h4, hkw, hlo, hfl, hcr, hti⟩ := h
  rw [q13_0, h2]
  unfold b2i
  repeat' split
  all_goals first | rfl | omega
theorem c_kindOf (hw : WF V) (h : CF μ A V) (b : Int) : EE 14 0 [(41, A), (0, b)] [] μ = some (if 0 ≤ b ∧ b < vB V then vK V b else -1, μ) := by
  rw [q14_0, c_hasBay h, bnd_s]
  obtain ⟨hA, hf, h0, h1, h2, h3, h4, hkw, hlo, hfl, hcr, hti⟩ := h
  simp only [b2i_0]
  by_cases e : 0 ≤ b ∧ b < vB V
  · have := fr_p hA
    rw [if_neg (fun q => q e), if_pos e, hf.1, nn_ok _ (by omega), ix_ok _ e.1 (by rw [fr_1 hA]; unfold WF at hw; omega), (hkw b e.1 e.2).1]
  · rw [if_pos e, if_neg e]
theorem c_isGate (hw : WF V) (h : CF μ A V) (b : Int) : EE 17 0 [(41, A), (0, b)] [] μ = some (b2i (gat V b = true), μ) := by
  rw [q17_0, c_hasBay h, bnd_s]
  obtain ⟨hA, hf, h0, h1, h2, h3, h4, hkw, hlo, hfl, hcr, hti⟩ := h
  simp only [b2i_0]
  by_cases e : 0 ≤ b ∧ b < vB V
  · have := fr_p hA
    rw [if_neg (fun q => q e), hf.1, nn_ok _ (by omega), ix_ok _ e.1 (by rw [fr_1 hA]; unfold WF at hw; omega), (hkw b e.1 e.2).1]
    unfold b2i gat
    simp [e.1, e.2]
    split <;> rfl
  · rw [if_pos e]
    unfold b2i gat
    rw [if_neg (by simp; omega)]
theorem c_hasTie (hw : WF V) (h : CF μ A V) (s l : Int) : EE 30 0 [(41, A), (0, s), (0, l)] [] μ = some (b2i ((vB V ≠ 0 ∧ 0 ≤ s ∧ s ≤ vB V) ∧ (0 ≤ l ∧ l < vL V) ∧ vT V s l = 1), μ) := by
  rw [q30_0, c_hasStandard h, bnd_s]
  simp only [c_hasLift h, bnd_s, b2i_0]
  obtain ⟨hA, hf, h0, h1, h2, h3, h4, hkw, hlo, hfl, hcr, hti⟩ := h
  by_cases e : vB V ≠ 0 ∧ 0 ≤ s ∧ s ≤ vB V
  · by_cases e2 : 0 ≤ l ∧ l < vL V
    · have := fr_p hA
      have hw' := hw
      unfold WF at hw
      rw [if_neg (fun q => q e), if_neg (fun q => q e2), hf.2.2.2.2.2.2.1, nn_ok _ (by omega)]
      simp (disch := omega) only [w32_l]
      rw [ix_ok _ (by omega) (by rw [fr_7 hA]; omega), hti s l e.2.1 e.2.2 e2.1 e2.2]
      unfold b2i
      have := hw'.2.2.2.2.2.2.2.2.2.2.2.2.2 s l
      split
      · rw [if_neg (by omega)]
      · rw [if_pos ⟨e, e2, by omega⟩]
    · rw [if_neg (fun q => q e), if_pos e2, b2i_f (fun q => e2 q.2.1)]
  · rw [if_pos e, b2i_f (fun q => e q.1)]
end CFr
/-! the reference's frame -/
section MFr
variable {μ : MM} {f : Int} {V : FV}
theorem m_isIn (a b c : Int) (μ : MM) : EE 159 0 [(0, a), (0, b), (0, c)] [] μ = some (b2i (b ≤ a ∧ a ≤ c), μ) := by
  rw [q159_0]
  unfold b2i
  repeat' split
  all_goals first | rfl | omega
theorem m_isFrame (a : Int) (μ : MM) : EE 169 0 [(0, a)] [] μ = some (b2i (0 ≤ a ∧ a ≤ 2), μ) := by
  rw [q169_0, m_isIn, bnd_s, b2i_zo]
theorem m_isMissing (h : MF μ f V) : EE 170 0 [(48, 71), (0, f)] [] μ = some (b2i (vB V = 0), μ) := by
  obtain ⟨hf, hr, h1, h2, h3, h4, hkw, hfl, hcr, hti⟩ := h
  rw [q170_0, hr.2.2.2.2.1, nn_ok _ (by omega), ix_ok _ hf.1 (by rw [c76]; omega), h1]
  unfold b2i
  split <;> rfl
theorem m_kind (hw : WF V) (h : MF μ f V) {b : Int} (h0 : 0 ≤ b) (hb : b < vB V) : EE 171 0 [(48, 71), (0, f), (0, b)] [] μ = some (vK V b, μ) := by
  obtain ⟨hf, hr, h1, h2, h3, h4, hkw, hfl, hcr, hti⟩ := h
  unfold WF at hw
  rw [q171_0, hr.2.2.2.2.2.1, nn_ok _ (by omega)]
  simp (disch := omega) only [w32_l]
  rw [ix_ok _ (by omega) (by rw [c77]; omega), (hkw b h0 hb).1]
theorem m_isGate (hw : WF V) (h : MF μ f V) (b : Int) : EE 173 0 [(48, 71), (0, f), (0, b)] [] μ = some (b2i (gat V b = true), μ) := by
  rw [q173_0]
  have hk := m_kind hw h (b := b)
  obtain ⟨hf, hr, h1, h2, h3, h4, hkw, hfl, hcr, hti⟩ := h
  rw [hr.2.2.2.2.1, nn_ok _ (by omega), ix_ok _ hf.1 (by rw [c76]; omega), h1]
  by_cases e : b < 0
  · rw [if_pos e, b2i_f (by simp [gat]; omega)]
  · rw [if_neg e]
    by_cases e2 : b < vB V
    · rw [if_pos e2, hk (by omega) e2, bnd_s]
      unfold b2i gat
      simp [e2, show 0 ≤ b by omega]
      split <;> rfl
    · rw [if_neg e2, b2i_f (by simp [gat]; omega)]
theorem m_hasFoot (hw : WF V) (h : MF μ f V) {s : Int} (h1 : -100 ≤ s) (h2 : s ≤ 100) : EE 174 0 [(48, 71), (0, f), (0, s)] [] μ = some (b2i (fot V s = true), μ) := by
  rw [q174_0, w32_l (by omega) (by omega), m_isGate hw h, bnd_s]
  simp only [m_isGate hw h, bnd_s, b2i_0]
  unfold b2i fot
  cases gat V (s - 1) <;> cases gat V s <;> rfl
end MFr
