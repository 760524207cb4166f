/-! what holds between the calls -/
def VP (μ : MM) (P : Int → Int) (f : Int) : FV := fun n a b =>
  match n with
  | 0 => μ 76 f
  | 1 => μ 74 f
  | 2 => μ 75 f
  | 3 => P (193 * f + 192)
  | 4 => if 0 ≤ a ∧ a < μ 76 f then μ 77 (10 * f + a) else -1
  | 5 => if 0 ≤ a ∧ a < μ 76 f then μ 78 (10 * f + a) else 0
  | 6 => if μ 76 f ≠ 0 ∧ 0 ≤ a ∧ a < 6 then P (193 * f + a) else 0
  | 7 => if μ 76 f ≠ 0 ∧ 0 ≤ a ∧ a < 10 ∧ 0 ≤ b ∧ b < 6 then P (193 * f + 6 + 10 * b + a) else -1
  | 8 => if μ 76 f ≠ 0 ∧ 0 ≤ a ∧ a < 10 ∧ 0 ≤ b ∧ b < 6 then P (193 * f + 66 + 10 * b + a) else 0
  | 9 => if μ 76 f ≠ 0 ∧ 0 ≤ a ∧ a < 11 ∧ 0 ≤ b ∧ b < 6 then P (193 * f + 126 + 11 * b + a) else 0
  | _ => 0
def VM (μ : MM) (f : Int) : FV := VP μ (μ 79) f
section VPs
variable (μ : MM) (P : Int → Int) (f : Int)
theorem vq_B : vB (VP μ P f) = μ 76 f := rfl
theorem vq_L : vL (VP μ P f) = μ 74 f := rfl
theorem vq_H : vH (VP μ P f) = μ 75 f := rfl
theorem vq_P : vP (VP μ P f) = P (193 * f + 192) := rfl
theorem vq_K (b : Int) : vK (VP μ P f) b = if 0 ≤ b ∧ b < μ 76 f then μ 77 (10 * f + b) else -1 := rfl
theorem vq_W (b : Int) : vW (VP μ P f) b = if 0 ≤ b ∧ b < μ 76 f then μ 78 (10 * f + b) else 0 := rfl
theorem vq_F (l : Int) : vF (VP μ P f) l = if μ 76 f ≠ 0 ∧ 0 ≤ l ∧ l < 6 then P (193 * f + l) else 0 := rfl
theorem vq_C (b l : Int) : vC (VP μ P f) b l = if μ 76 f ≠ 0 ∧ 0 ≤ b ∧ b < 10 ∧ 0 ≤ l ∧ l < 6 then P (193 * f + 6 + 10 * l + b) else -1 := rfl
theorem vq_R (b l : Int) : vR (VP μ P f) b l = if μ 76 f ≠ 0 ∧ 0 ≤ b ∧ b < 10 ∧ 0 ≤ l ∧ l < 6 then P (193 * f + 66 + 10 * l + b) else 0 := rfl
theorem vq_T (s l : Int) : vT (VP μ P f) s l = if μ 76 f ≠ 0 ∧ 0 ≤ s ∧ s < 11 ∧ 0 ≤ l ∧ l < 6 then P (193 * f + 126 + 11 * l + s) else 0 := rfl
end VPs
/-- the cells that a view reads -/
abbrev rV0 (f c i : Int) : Prop := ((c = 74 ∨ c = 75 ∨ c = 76) ∧ i = f) ∨ ((c = 77 ∨ c = 78) ∧ 10 * f ≤ i ∧ i < 10 * f + 10)
abbrev rV (f c i : Int) : Prop := rV0 f c i ∨ (c = 79 ∧ 193 * f ≤ i ∧ i < 193 * f + 193)
theorem VP_ag {μ μ' : MM} {P P' : Int → Int} {f : Int} (hB : 0 ≤ μ 76 f ∧ μ 76 f ≤ 10) (h : ∀ c i, rV0 f c i → μ' c i = μ c i) (hP : ∀ i, 193 * f ≤ i → i < 193 * f + 193 → P' i = P i) : VP μ' P' f = VP μ P f := by
  have b : μ' 76 f = μ 76 f := h 76 f (Or.inl ⟨Or.inr (Or.inr rfl), rfl⟩)
  funext n x y
  unfold VP
  match n with
  | 0 => exact b
  | 1 => exact h 74 f (Or.inl ⟨Or.inl rfl, rfl⟩)
  | 2 => exact h 75 f (Or.inl ⟨Or.inr (Or.inl rfl), rfl⟩)
  | 3 => exact hP _ (by omega) (by omega)
  | 4 =>
    show (if 0 ≤ x ∧ x < μ' 76 f then μ' 77 (10 * f + x) else -1) = if 0 ≤ x ∧ x < μ 76 f then μ 77 (10 * f + x) else -1
    rw [b]
    split
    · exact h 77 _ (Or.inr ⟨Or.inl rfl, by omega, by omega⟩)
    · rfl
  | 5 =>
    show (if 0 ≤ x ∧ x < μ' 76 f then μ' 78 (10 * f + x) else 0) = if 0 ≤ x ∧ x < μ 76 f then μ 78 (10 * f + x) else 0
    rw [b]
    split
    · exact h 78 _ (Or.inr ⟨Or.inr rfl, by omega, by omega⟩)
    · rfl
  | 6 =>
    show (if μ' 76 f ≠ 0 ∧ 0 ≤ x ∧ x < 6 then P' (193 * f + x) else 0) = if μ 76 f ≠ 0 ∧ 0 ≤ x ∧ x < 6 then P (193 * f + x) else 0
    rw [b]
    split
    · exact hP _ (by omega) (by omega)
    · rfl
  | 7 =>
    show (if μ' 76 f ≠ 0 ∧ 0 ≤ x ∧ x < 10 ∧ 0 ≤ y ∧ y < 6 then P' (193 * f + 6 + 10 * y + x) else -1) = if μ 76 f ≠ 0 ∧ 0 ≤ x ∧ x < 10 ∧ 0 ≤ y ∧ y < 6 then P (193 * f + 6 + 10 * y + x) else -1
    rw [b]
    split
    · exact hP _ (by omega) (by omega)
    · rfl
  | 8 =>
    show (if μ' 76 f ≠ 0 ∧ 0 ≤ x ∧ x < 10 ∧ 0 ≤ y ∧ y < 6 then P' (193 * f + 66 + 10 * y + x) else 0) = if μ 76 f ≠ 0 ∧ 0 ≤ x ∧ x < 10 ∧ 0 ≤ y ∧ y < 6 then P (193 * f + 66 + 10 * y + x) else 0
    rw [b]
    split
    · exact hP _ (by omega) (by omega)
    · rfl
  | 9 =>
    show (if μ' 76 f ≠ 0 ∧ 0 ≤ x ∧ x < 11 ∧ 0 ≤ y ∧ y < 6 then P' (193 * f + 126 + 11 * y + x) else 0) = if μ 76 f ≠ 0 ∧ 0 ≤ x ∧ x < 11 ∧ 0 ≤ y ∧ y < 6 then P (193 * f + 126 + 11 * y + x) else 0
    rw [b]
    split
    · exact hP _ (by omega) (by omega)
    · rfl
  | n + 10 => rfl
theorem VM_ag {μ μ' : MM} {f : Int} (hB : 0 ≤ μ 76 f ∧ μ 76 f ≤ 10) (h : ∀ c i, rV f c i → μ' c i = μ c i) : VM μ' f = VM μ f :=
  VP_ag hB (fun c i q => h c i (Or.inl q)) (fun i a b => h 79 i (Or.inr ⟨rfl, a, b⟩))
theorem MF_of {μ : MM} {f : Int} (h : MRf μ) (h0 : 0 ≤ f) (h1 : f < 3) : MF μ f (VM μ f) := by
  refine ⟨⟨h0, h1⟩, h, rfl, rfl, rfl, rfl, ?_, ?_⟩
  · intro b b0 b1
    have b2 : b < μ 76 f := b1
    unfold VM
    rw [vq_K, vq_W, if_pos ⟨b0, b2⟩, if_pos ⟨b0, b2⟩]
    exact ⟨rfl, rfl⟩
  · intro b
    have b2 : μ 76 f ≠ 0 := b
    unfold VM
    refine ⟨?_, ?_, ?_⟩
    · intro l l0 l1
      rw [vq_F, if_pos ⟨b2, l0, l1⟩]
    · intro x l x0 x1 l0 l1
      rw [vq_C, vq_R, if_pos ⟨b2, x0, x1, l0, l1⟩, if_pos ⟨b2, x0, x1, l0, l1⟩]
      exact ⟨rfl, rfl⟩
    · intro x l x0 x1 l0 l1
      rw [vq_T, if_pos ⟨b2, x0, x1, l0, l1⟩]
abbrev NON : Int := -1000000005
/-- references that never change -/
def GS (μ : MM) : Prop := (μ 1 0 = 2 ∧ μ 1 1 = 3 ∧ μ 1 2 = 4 ∧ μ 1 3 = 5 ∧ μ 1 4 = 6 ∧ μ 1 5 = 8 ∧ μ 1 6 = 11 ∧ μ 1 7 = 13 ∧ μ 1 8 = 25 ∧ μ 1 9 = 39 ∧ μ 1 10 = 40) ∧
  (∀ f, 0 ≤ f → f < 3 → μ 5 f = 41 + 10 * f) ∧ (μ 6 2 = 7 ∧ μ 8 3 = 9 ∧ μ 8 4 = 10 ∧ μ 11 4 = 12 ∧ μ 13 2 = 14 ∧ μ 25 1 = 26 ∧ μ 25 2 = 27) ∧
  (∀ k, 0 ≤ k → k < 5 → μ 14 k = 15 + 2 * k ∧ μ (15 + 2 * k) 5 = 16 + 2 * k) ∧ (∀ a, 0 ≤ a → a < 11 → μ 27 a = 28 + a) ∧ MRf μ
def GF (μ : MM) (f : Int) : Prop := WF (VM μ f) ∧ CF μ (41 + 10 * f) (VM μ f)
def UM (μ : MM) (f : Int) : Int → Int := fun k => if 0 ≤ k ∧ k < 396 then μ 82 (396 * f + k) else 0
/-- how many that are up need k -/
def HN (V : FV) (U : Int → Int) (k : Int) : Int := SM (fun j => b2i (U j = 1 ∧ nd V j 0 = k) + b2i (U j = 1 ∧ nd V j 1 = k)) 0 396
def clo (V : FV) (U : Int → Int) : Prop := ∀ k, U k = 1 → (nd V k 0 < 0 ∨ U (nd V k 0) = 1) ∧ (nd V k 1 < 0 ∨ U (nd V k 1) = 1)
def GUx (μ : MM) (A : Int) (V : FV) (U : Int → Int) : Prop := (∀ k, U k = 0 ∨ (U k = 1 ∧ isP V k)) ∧ clo V U ∧ (∀ k, 0 ≤ k → k < 396 → (U k = 0 ∧ μ (A + 8) k = -1) ∨ (U k = 1 ∧ μ (A + 8) k = HN V U k)) ∧ μ A 5 = SM U 0 396
def GU (μ : MM) (f : Int) : Prop := GUx μ (41 + 10 * f) (VM μ f) (UM μ f)
def GT (μ : MM) (f : Int) : Prop := ∀ l, 0 ≤ l → l < 6 → (μ 74 f ≤ l ∧ μ 83 (6 * f + l) = NON) ∨ (l < μ 74 f ∧ μ (50 + 10 * f) l = -1 ∧ (μ 83 (6 * f + l) = NON ∨ (0 ≤ μ 83 (6 * f + l) ∧ μ 83 (6 * f + l) < μ 71 14))) ∨ (l < μ 74 f ∧ μ (50 + 10 * f) l = μ 83 (6 * f + l) ∧ μ 71 14 ≤ μ 83 (6 * f + l) ∧ μ 83 (6 * f + l) ≤ 1000100)
def GP (μ : MM) : Prop := ∀ p, 0 ≤ p → p < 10 → (μ 39 p = -1 ∧ μ 84 p = NON) ∨ (μ 39 p = μ 84 p ∧ 0 ≤ μ 84 p ∧ μ 84 p / 10 < 3 ∧ μ 84 p % 10 < 6)
def GD (μ : MM) : Prop := μ 1 11 = μ 71 14 ∧ 0 ≤ μ 71 14 ∧ μ 71 14 ≤ 1000000
def GZ (μ : MM) : Prop := (∀ i, 0 ≤ i → i < 6 → μ 2 i = μ 72 i ∧ 0 ≤ μ 72 i ∧ μ 72 i ≤ 100 ∧ μ 3 i = μ 72 (6 + i) ∧ 0 ≤ μ 72 (6 + i) ∧ μ 72 (6 + i) ≤ 100) ∧ (∀ i, 0 ≤ i → i < 7 → μ 4 i = μ 73 i ∧ 0 ≤ μ 73 i ∧ μ 73 i ≤ 1000000)
def GK (μ : MM) : Prop := ∀ i, 0 ≤ i → i < 606 → μ 40 i = μ 85 i ∧ 0 ≤ μ 85 i ∧ μ 85 i ≤ 100000
def GR (μ : MM) : Prop := (μ 11 0 = μ 71 15 ∧ 0 ≤ μ 71 15 ∧ μ 71 15 ≤ 9) ∧ (μ 11 1 = μ 71 16 ∧ 1 ≤ μ 71 16 ∧ μ 71 16 ≤ 6) ∧ (μ 11 2 = μ 71 17 ∧ 0 ≤ μ 71 17 ∧ μ 71 17 ≤ 10)
/-- the plan i changes ago -/
def plA (μ : MM) (i : Int) : Int → Int := if i = 0 then μ 79 else fun j => μ 80 (579 * (μ 71 10 - i) + j)
def chg (μ : MM) (i : Int) : Int := 15 + 2 * ((μ 13 1 - i) % 5)
/-- the change at c leads from the plan S to the plan P -/
def LK (μ : MM) (c : Int) (P S : Int → Int) : Prop := ∃ f, 0 ≤ f ∧ f < 3 ∧ μ c 1 = 41 + 10 * f ∧ μ 76 f ≠ 0 ∧ 0 ≤ μ c 2 ∧ μ c 2 < μ 74 f ∧
  ((μ c 0 = 3 ∧ 0 ≤ μ c 3 ∧ μ c 3 < μ 76 f ∧ ∀ j, 0 ≤ j → j < 579 → S j = if j = 193 * f + 6 + 10 * μ c 2 + μ c 3 then μ c 4 else P j) ∨
   (μ c 0 = 2 ∧ 0 ≤ μ c 3 ∧ μ c 3 < μ 76 f ∧ (μ c 4 = 0 ∨ μ c 4 = 1) ∧ ∀ j, 0 ≤ j → j < 579 → S j = if j = 193 * f + 66 + 10 * μ c 2 + μ c 3 then μ c 4 else P j) ∨
   (μ c 0 = 4 ∧ 0 ≤ μ c 3 ∧ μ c 3 ≤ μ 76 f ∧ (μ c 4 = 0 ∨ μ c 4 = 1) ∧ ∀ j, 0 ≤ j → j < 579 → S j = if j = 193 * f + 126 + 11 * μ c 2 + μ c 3 then μ c 4 else P j) ∨
   (μ c 0 = 12 ∧ ∀ j, 0 ≤ j → j < 579 → S j = if j = 193 * f + 192 then μ c 4 else P j) ∨
   ((μ c 0 = 10 ∨ μ c 0 = 11) ∧ (μ c 4 = 0 ∨ μ c 4 = 1) ∧ (∀ b, 0 ≤ b → b < 10 → 0 ≤ P (193 * f + 6 + 10 * μ c 2 + b) → 0 ≤ μ (c + 1) b) ∧
     ∀ j, 0 ≤ j → j < 579 → S j = if j = 193 * f + μ c 2 then μ c 4 else if 193 * f + 6 + 10 * μ c 2 ≤ j ∧ j < 193 * f + 16 + 10 * μ c 2 then μ (c + 1) (j - (193 * f + 6 + 10 * μ c 2)) else P j))
def GH (μ : MM) : Prop := (0 ≤ μ 13 0 ∧ μ 13 0 ≤ 5 ∧ μ 71 10 = μ 13 0 ∧ 0 ≤ μ 13 1 ∧ μ 13 1 < 5) ∧ ∀ i, 0 ≤ i → i < μ 13 0 → LK μ (chg μ i) (plA μ i) (plA μ (i + 1)) ∧ ∀ f, 0 ≤ f → f < 3 → WF (VP μ (plA μ (i + 1)) f)
def Inv (M μ : MM) : Prop := GS μ ∧ (∀ f, 0 ≤ f → f < 3 → GF μ f ∧ GU μ f ∧ GT μ f) ∧ GP μ ∧ GD μ ∧ GZ μ ∧ GK μ ∧ GR μ ∧ GH μ ∧ (∀ c i, c ≤ 0 → μ c i = M c i)
section INVs
variable {M μ : MM}
theorem Inv.s (h : Inv M μ) : GS μ := h.1
theorem Inv.m (h : Inv M μ) : MRf μ := h.1.2.2.2.2.2
theorem Inv.f (h : Inv M μ) {f : Int} (h0 : 0 ≤ f) (h1 : f < 3) : GF μ f := (h.2.1 f h0 h1).1
theorem Inv.u (h : Inv M μ) {f : Int} (h0 : 0 ≤ f) (h1 : f < 3) : GU μ f := (h.2.1 f h0 h1).2.1
theorem Inv.t (h : Inv M μ) {f : Int} (h0 : 0 ≤ f) (h1 : f < 3) : GT μ f := (h.2.1 f h0 h1).2.2
theorem Inv.wf (h : Inv M μ) {f : Int} (h0 : 0 ≤ f) (h1 : f < 3) : WF (VM μ f) := (h.f h0 h1).1
theorem Inv.cf (h : Inv M μ) {f : Int} (h0 : 0 ≤ f) (h1 : f < 3) : CF μ (41 + 10 * f) (VM μ f) := (h.f h0 h1).2
theorem Inv.mf (h : Inv M μ) {f : Int} (h0 : 0 ≤ f) (h1 : f < 3) : MF μ f (VM μ f) := MF_of h.m h0 h1
theorem Inv.p (h : Inv M μ) : GP μ := h.2.2.1
theorem Inv.d (h : Inv M μ) : GD μ := h.2.2.2.1
theorem Inv.z (h : Inv M μ) : GZ μ := h.2.2.2.2.1
theorem Inv.k (h : Inv M μ) : GK μ := h.2.2.2.2.2.1
theorem Inv.r (h : Inv M μ) : GR μ := h.2.2.2.2.2.2.1
theorem Inv.h (h : Inv M μ) : GH μ := h.2.2.2.2.2.2.2.1
theorem Inv.x (h : Inv M μ) : ∀ c i, c ≤ 0 → μ c i = M c i := h.2.2.2.2.2.2.2.2
theorem HN_r (V : FV) (U : Int → Int) (k : Int) : 0 ≤ HN V U k ∧ HN V U k ≤ 792 := by
  have := SM_b (f := fun j => b2i (U j = 1 ∧ nd V j 0 = k) + b2i (U j = 1 ∧ nd V j 1 = k)) (lo := 0) (hi := 2) (n := 396) 0 (fun j _ _ => by
    have h1 := b2i_r (p := U j = 1 ∧ nd V j 0 = k)
    have h2 := b2i_r (p := U j = 1 ∧ nd V j 1 = k)
    constructor
    · show 0 ≤ b2i (U j = 1 ∧ nd V j 0 = k) + b2i (U j = 1 ∧ nd V j 1 = k)
      omega
    · show b2i (U j = 1 ∧ nd V j 0 = k) + b2i (U j = 1 ∧ nd V j 1 = k) ≤ 2
      omega) (by omega)
  unfold HN
  omega
theorem GUx.cu {A : Int} {V : FV} {U : Int → Int} (h : GUx μ A V U) : CU μ A V U := by
  refine ⟨h.1, fun k h0 h1 => ?_⟩
  have := HN_r V U k
  have := h.2.2.1 k h0 h1
  omega
theorem Inv.cu (h : Inv M μ) {f : Int} (h0 : 0 ≤ f) (h1 : f < 3) : CU μ (41 + 10 * f) (VM μ f) (UM μ f) := (h.u h0 h1).cu
theorem Inv.mu (h : Inv M μ) {f : Int} (h0 : 0 ≤ f) (h1 : f < 3) : MU μ f (VM μ f) (UM μ f) := by
  refine ⟨(h.u h0 h1).1, fun k a b => ?_⟩
  unfold UM
  rw [if_pos ⟨a, b⟩]
end INVs
/-- an answer that changes nothing -/
def QQ (c r : RR) (μ : MM) : Prop := ∃ v, c = some (v, μ) ∧ r = some (v, μ)
/-- class' frame -/
theorem c_within (a b c : Int) (μ : MM) : EE 146 0 [(0, a), (0, b), (0, c)] [] μ = some (b2i (b ≤ a ∧ a ≤ c), μ) := by
  rw [q146_0]
  unfold b2i
  repeat' split
  all_goals first | rfl | omega
theorem c_frameAt {μ : MM} (h : GS μ) (f : Int) : EE 151 0 [(47, 1), (0, f)] [] μ = some (if 0 ≤ f ∧ f ≤ 2 then 41 + 10 * f else 0, μ) := by
  rw [q151_0, h.1.2.2.2.1, nn5, cle5, w32_l (by omega) (by omega), c_within, bnd_s]
  simp only [b2i_0, ite_not, h.1.2.2.2.1, nn5]
  by_cases e : 0 ≤ f ∧ f ≤ 2
  · rw [if_pos (by omega), if_pos e, jx5 _ e.1 (by omega), h.2.1 f e.1 (by omega)]
  · rw [if_neg (by omega), if_neg e]
