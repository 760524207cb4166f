/-! ===== HALF 2: the pure equivalence. Views: what a frame is, in the class' cells and in the reference's ===== -/
def b2i (p : Prop) [Decidable p] : Int := if p then 1 else 0
theorem b2i_t {p : Prop} [Decidable p] (h : p) : b2i p = 1 := if_pos h
theorem b2i_f {p : Prop} [Decidable p] (h : ¬ p) : b2i p = 0 := if_neg h
theorem b2i_0 {p : Prop} [Decidable p] : b2i p = 0 ↔ ¬ p := by unfold b2i; split <;> simp_all
theorem b2i_1 {p : Prop} [Decidable p] : b2i p = 1 ↔ p := by unfold b2i; split <;> simp_all
theorem b2i_r {p : Prop} [Decidable p] : 0 ≤ b2i p ∧ b2i p ≤ 1 := by unfold b2i; split <;> omega
theorem b2i_zo {p : Prop} [Decidable p] (K : RR) : zo (b2i p) K = K := by
  unfold zo b2i
  split <;> simp
theorem b2i_c {p q : Prop} [Decidable p] [Decidable q] (h : p ↔ q) : b2i p = b2i q := by unfold b2i; simp [h]
theorem if_b2i {p : Prop} [Decidable p] (μ : MM) : (if p then some ((1 : Int), μ) else some (0, μ)) = some (b2i p, μ) := by unfold b2i; split <;> rfl
theorem nn_ok {x : Int} (K : RR) (h : x ≠ 0) : nn x K = K := if_neg h
theorem ix_ok {x i : Int} (K : RR) (h1 : 0 ≤ i) (h2 : i < cln x) : ix x i K = K := if_pos ⟨h1, h2⟩
theorem zo_0 (K : RR) : zo 0 K = K := if_pos (Or.inl rfl)
theorem zo_1 (K : RR) : zo 1 K = K := if_pos (Or.inr rfl)
theorem bnd_s (v : Int) (μ : MM) (K : Int → MM → RR) : bnd (some (v, μ)) K = K v μ := rfl
theorem bnd_e (o : RR) : bnd o (fun v m => some (v, m)) = o := by cases o <;> rfl
theorem w32_l {x : Int} (h1 : -2147483648 ≤ x) (h2 : x < 2147483648) : w32 x = x := w32_id ⟨h1, h2⟩
theorem w64_l {x : Int} (h1 : -9223372036854775808 ≤ x) (h2 : x < 9223372036854775808) : w64 x = x := by unfold w64; omega
theorem td66 {x : Int} (h : 0 ≤ x) : Int.tdiv x 66 = x / 66 := Int.tdiv_eq_ediv_of_nonneg h
theorem td11 {x : Int} (h : 0 ≤ x) : Int.tdiv x 11 = x / 11 := Int.tdiv_eq_ediv_of_nonneg h
theorem td10 {x : Int} (h : 0 ≤ x) : Int.tdiv x 10 = x / 10 := Int.tdiv_eq_ediv_of_nonneg h
theorem tm66 {x : Int} (h : 0 ≤ x) : Int.tmod x 66 = x % 66 := Int.tmod_eq_emod_of_nonneg h
theorem tm11 {x : Int} (h : 0 ≤ x) : Int.tmod x 11 = x % 11 := Int.tmod_eq_emod_of_nonneg h
theorem tm10 {x : Int} (h : 0 ≤ x) : Int.tmod x 10 = x % 10 := Int.tmod_eq_emod_of_nonneg h
theorem tm5 {x : Int} (h : 0 ≤ x) : Int.tmod x 5 = x % 5 := Int.tmod_eq_emod_of_nonneg h
theorem up_s (μ : MM) (x i v : Int) : up μ x i v x i = v := if_pos ⟨rfl, rfl⟩
theorem up_n (μ : MM) {x i y j : Int} (v : Int) (h : y ≠ x ∨ j ≠ i) : up μ x i v y j = μ y j := if_neg (by omega)
theorem up_nc (μ : MM) {x i y j : Int} (v : Int) (h : y ≠ x) : up μ x i v y j = μ y j := if_neg (by omega)
theorem up_ni (μ : MM) {x i j : Int} (v : Int) (h : j ≠ i) : up μ x i v x j = μ x j := if_neg (by omega)
/-! sums, searches: their steps -/
theorem up_ind {P : Int → Prop} (n : Int) (h0 : ∀ i, n ≤ i → P i) (h1 : ∀ i, i < n → P (i + 1) → P i) : ∀ i, P i := by
  have hh : ∀ m : Nat, ∀ i, n - i ≤ m → P i := by
    intro m
    induction m with
    | zero => exact fun i h => h0 i (by omega)
    | succ m ih =>
      intro i h
      by_cases e : n ≤ i
      · exact h0 i e
      · exact h1 i (by omega) (ih (i + 1) (by omega))
  exact fun i => hh (n - i).toNat i (by omega)
theorem dn_ind {P : Int → Prop} (n : Int) (h0 : ∀ i, i < n → P i) (h1 : ∀ i, n ≤ i → P (i - 1) → P i) : ∀ i, P i := by
  have hh : ∀ m : Nat, ∀ i, i - n < m → P i := by
    intro m
    induction m with
    | zero => exact fun i h => h0 i (by omega)
    | succ m ih =>
      intro i h
      by_cases e : i < n
      · exact h0 i e
      · exact h1 i (by omega) (ih (i - 1) (by omega))
  exact fun i => hh (i - n + 1).toNat i (by omega)
def smN (f : Int → Int) : Int → Nat → Int
  | _, 0 => 0
  | i, n + 1 => f i + smN f (i + 1) n
def SM (f : Int → Int) (i n : Int) : Int := smN f i (n - i).toNat
theorem SM_e {f : Int → Int} {i n : Int} (h : n ≤ i) : SM f i n = 0 := by
  unfold SM
  rw [show (n - i).toNat = 0 by omega]
  rfl
theorem SM_s {f : Int → Int} {i n : Int} (h : i < n) : SM f i n = f i + SM f (i + 1) n := by
  unfold SM
  rw [show (n - i).toNat = (n - (i + 1)).toNat + 1 by omega]
  rfl
theorem SM_c {f g : Int → Int} {n : Int} : ∀ i, (∀ j, i ≤ j → j < n → f j = g j) → SM f i n = SM g i n := by
  refine up_ind n ?_ ?_
  · intro i hi _
    rw [SM_e hi, SM_e hi]
  · intro i hi ih h
    rw [SM_s hi, SM_s hi, h i (by omega) hi, ih (fun j a b => h j (by omega) b)]
theorem SM_b {f : Int → Int} {n lo hi : Int} : ∀ i, (∀ j, i ≤ j → j < n → lo ≤ f j ∧ f j ≤ hi) → i ≤ n → lo * (n - i) ≤ SM f i n ∧ SM f i n ≤ hi * (n - i) := by
  refine up_ind n ?_ ?_
  · intro i hi _ h
    rw [SM_e hi, show n - i = 0 by omega]
    omega
  · intro i hi ih h _
    have := ih (fun j a b => h j (by omega) b) (by omega)
    have h2 := h i (by omega) hi
    rw [SM_s hi, show n - i = (n - (i + 1)) + 1 by omega, Int.mul_add, Int.mul_add]
    omega
theorem SM_l {f : Int → Int} {n : Int} : ∀ i, i ≤ n → SM f i (n + 1) = SM f i n + f n := by
  refine up_ind n ?_ ?_
  · intro i hi h
    rw [show i = n by omega, SM_s (by omega), SM_e (by omega), SM_e (by omega)]
    omega
  · intro i hi ih _
    rw [SM_s (by omega), SM_s (show i < n from hi), ih (by omega)]
    omega
theorem SM_sp {f : Int → Int} {m n : Int} (hmn : m ≤ n) : ∀ i, i ≤ m → SM f i n = SM f i m + SM f m n := by
  refine up_ind m ?_ ?_
  · intro i hi h
    rw [show i = m by omega, SM_e (Int.le_refl m)]
    omega
  · intro i hi ih _
    rw [SM_s (show i < n by omega), SM_s hi, ih (by omega)]
    omega
theorem SM_add {f g : Int → Int} {n : Int} : ∀ i, SM (fun j => f j + g j) i n = SM f i n + SM g i n := by
  refine up_ind n ?_ ?_
  · intro i hi
    rw [SM_e hi, SM_e hi, SM_e hi]
    rfl
  · intro i hi ih
    rw [SM_s hi, SM_s hi, SM_s hi, ih]
    omega
theorem SM_z {n : Int} : ∀ i, SM (fun _ => 0) i n = 0 := by
  refine up_ind n ?_ ?_
  · intro i hi
    rw [SM_e hi]
  · intro i hi ih
    rw [SM_s hi, ih]
    rfl
theorem SM_0 {f : Int → Int} {n : Int} (i : Int) (h : ∀ j, i ≤ j → j < n → f j = 0) : SM f i n = 0 := by
  rw [SM_c (g := fun _ => 0) i h, SM_z]
def fuN (p : Int → Prop) [DecidablePred p] (d : Int) : Int → Nat → Int
  | _, 0 => d
  | i, n + 1 => if p i then i else fuN p d (i + 1) n
/-- the least j of i .. n-1 with p, else d -/
def FU (p : Int → Prop) [DecidablePred p] (d i n : Int) : Int := fuN p d i (n - i).toNat
theorem FU_e {p : Int → Prop} [DecidablePred p] {d i n : Int} (h : n ≤ i) : FU p d i n = d := by
  unfold FU
  rw [show (n - i).toNat = 0 by omega]
  rfl
theorem FU_s {p : Int → Prop} [DecidablePred p] {d i n : Int} (h : i < n) : FU p d i n = if p i then i else FU p d (i + 1) n := by
  unfold FU
  rw [show (n - i).toNat = (n - (i + 1)).toNat + 1 by omega]
  rfl
theorem FU_c {p q : Int → Prop} [DecidablePred p] [DecidablePred q] {d n : Int} : ∀ i, (∀ j, i ≤ j → j < n → (p j ↔ q j)) → FU p d i n = FU q d i n := by
  refine up_ind n ?_ ?_
  · intro i hi _
    rw [FU_e hi, FU_e hi]
  · intro i hi ih h
    rw [FU_s hi, FU_s hi, ih (fun j a b => h j (by omega) b)]
    simp only [h i (by omega) hi]
theorem FU_p {p : Int → Prop} [DecidablePred p] {d n : Int} : ∀ i, (FU p d i n = d ∧ ∀ j, i ≤ j → j < n → ¬ p j) ∨ (i ≤ FU p d i n ∧ FU p d i n < n ∧ p (FU p d i n) ∧ ∀ j, i ≤ j → j < FU p d i n → ¬ p j) := by
  refine up_ind n ?_ ?_
  · intro i hi
    exact Or.inl ⟨FU_e hi, fun j a b => by omega⟩
  · intro i hi ih
    rw [FU_s hi]
    by_cases e : p i
    · rw [if_pos e]
      exact Or.inr ⟨by omega, by omega, e, fun j a b => by omega⟩
    · rw [if_neg e]
      rcases ih with ⟨h1, h2⟩ | ⟨h1, h2, h3, h4⟩
      · refine Or.inl ⟨h1, fun j a b => ?_⟩
        by_cases e2 : j = i
        · rw [e2]; exact e
        · exact h2 j (by omega) b
      · refine Or.inr ⟨by omega, by omega, h3, fun j a b => ?_⟩
        by_cases e2 : j = i
        · rw [e2]; exact e
        · exact h4 j (by omega) b
def fdN (p : Int → Prop) [DecidablePred p] (d : Int) : Int → Nat → Int
  | _, 0 => d
  | i, n + 1 => if p i then i else fdN p d (i - 1) n
/-- the greatest j of 0 .. i with p, else d -/
def FD (p : Int → Prop) [DecidablePred p] (d i : Int) : Int := fdN p d i (i + 1).toNat
theorem FD_e {p : Int → Prop} [DecidablePred p] {d i : Int} (h : i < 0) : FD p d i = d := by
  unfold FD
  rw [show (i + 1).toNat = 0 by omega]
  rfl
theorem FD_s {p : Int → Prop} [DecidablePred p] {d i : Int} (h : 0 ≤ i) : FD p d i = if p i then i else FD p d (i - 1) := by
  unfold FD
  rw [show (i + 1).toNat = (i - 1 + 1).toNat + 1 by omega]
  rfl
theorem FD_c {p q : Int → Prop} [DecidablePred p] [DecidablePred q] {d : Int} : ∀ i, (∀ j, 0 ≤ j → j ≤ i → (p j ↔ q j)) → FD p d i = FD q d i := by
  refine dn_ind 0 ?_ ?_
  · intro i hi _
    rw [FD_e hi, FD_e hi]
  · intro i hi ih h
    rw [FD_s hi, FD_s hi, ih (fun j a b => h j a (by omega))]
    simp only [h i hi (by omega)]
theorem FD_p {p : Int → Prop} [DecidablePred p] {d : Int} : ∀ i, (FD p d i = d ∧ ∀ j, 0 ≤ j → j ≤ i → ¬ p j) ∨ (0 ≤ FD p d i ∧ FD p d i ≤ i ∧ p (FD p d i) ∧ ∀ j, FD p d i < j → j ≤ i → ¬ p j) := by
  refine dn_ind 0 ?_ ?_
  · intro i hi
    exact Or.inl ⟨FD_e hi, fun j a b => by omega⟩
  · intro i hi ih
    rw [FD_s hi]
    by_cases e : p i
    · rw [if_pos e]
      exact Or.inr ⟨by omega, by omega, e, fun j a b => by omega⟩
    · rw [if_neg e]
      rcases ih with ⟨h1, h2⟩ | ⟨h1, h2, h3, h4⟩
      · refine Or.inl ⟨h1, fun j a b => ?_⟩
        by_cases e2 : j = i
        · rw [e2]; exact e
        · exact h2 j a (by omega)
      · refine Or.inr ⟨by omega, by omega, h3, fun j a b => ?_⟩
        by_cases e2 : j = i
        · rw [e2]; exact e
        · exact h4 j a (by omega)
/-! views -/
abbrev FV : Type := Nat → Int → Int → Int
def vB (V : FV) : Int := V 0 0 0
def vL (V : FV) : Int := V 1 0 0
def vH (V : FV) : Int := V 2 0 0
def vP (V : FV) : Int := V 3 0 0
def vK (V : FV) (b : Int) : Int := V 4 b 0
def vW (V : FV) (b : Int) : Int := V 5 b 0
def vF (V : FV) (l : Int) : Int := V 6 l 0
def vC (V : FV) (b l : Int) : Int := V 7 b l
def vR (V : FV) (b l : Int) : Int := V 8 b l
def vT (V : FV) (s l : Int) : Int := V 9 s l
abbrev inB (V : FV) (b : Int) : Prop := 0 ≤ b ∧ b < vB V
abbrev inL (V : FV) (l : Int) : Prop := 0 ≤ l ∧ l < vL V
abbrev inS (V : FV) (s : Int) : Prop := vB V ≠ 0 ∧ 0 ≤ s ∧ s ≤ vB V
abbrev gat (V : FV) (b : Int) : Prop := vK V b = 1
abbrev fot (V : FV) (s : Int) : Prop := ¬ (vK V (s - 1) = 1 ∧ vK V s = 1)
/-- the ranges of a frame's view -/
def WF (V : FV) : Prop := (0 ≤ vB V ∧ vB V ≤ 10 ∧ 0 ≤ vL V ∧ vL V ≤ 6 ∧ 0 ≤ vH V ∧ vH V ≤ 20 ∧ 0 ≤ vP V ∧ vP V ≤ 20 ∧ (vB V = 0 ↔ vL V = 0)) ∧
  (∀ b, (inB V b ∧ 0 ≤ vK V b ∧ vK V b ≤ 4 ∧ 1 ≤ vW V b ∧ vW V b ≤ 100) ∨ (¬ inB V b ∧ vK V b = -1 ∧ vW V b = 0)) ∧ (∀ l, vF V l = 0 ∨ (vF V l = 1 ∧ inL V l)) ∧
  (∀ b l, vC V b l = -1 ∨ (0 ≤ vC V b l ∧ vC V b l ≤ 6 ∧ inB V b ∧ inL V l ∧ ¬ (l = 0 ∧ gat V b))) ∧ (∀ b l, vR V b l = 0 ∨ (vR V b l = 1 ∧ inB V b ∧ inL V l ∧ ¬ (l = 0 ∧ gat V b))) ∧
  (∀ s l, vT V s l = 0 ∨ (vT V s l = 1 ∧ inS V s ∧ inL V l ∧ ¬ (l = 0 ∧ ¬ fot V s)))
section WFs
variable {V : FV}
theorem WF.r (h : WF V) : 0 ≤ vB V ∧ vB V ≤ 10 ∧ 0 ≤ vL V ∧ vL V ≤ 6 ∧ 0 ≤ vH V ∧ vH V ≤ 20 ∧ 0 ≤ vP V ∧ vP V ≤ 20 ∧ (vB V = 0 ↔ vL V = 0) := h.1
theorem WF.k (h : WF V) (b : Int) : (inB V b ∧ 0 ≤ vK V b ∧ vK V b ≤ 4 ∧ 1 ≤ vW V b ∧ vW V b ≤ 100) ∨ (¬ inB V b ∧ vK V b = -1 ∧ vW V b = 0) := h.2.1 b
theorem WF.f (h : WF V) (l : Int) : vF V l = 0 ∨ (vF V l = 1 ∧ inL V l) := h.2.2.1 l
theorem WF.c (h : WF V) (b l : Int) : vC V b l = -1 ∨ (0 ≤ vC V b l ∧ vC V b l ≤ 6 ∧ inB V b ∧ inL V l ∧ ¬ (l = 0 ∧ gat V b)) := h.2.2.2.1 b l
theorem WF.b (h : WF V) (b l : Int) : vR V b l = 0 ∨ (vR V b l = 1 ∧ inB V b ∧ inL V l ∧ ¬ (l = 0 ∧ gat V b)) := h.2.2.2.2.1 b l
theorem WF.t (h : WF V) (s l : Int) : vT V s l = 0 ∨ (vT V s l = 1 ∧ inS V s ∧ inL V l ∧ ¬ (l = 0 ∧ ¬ fot V s)) := h.2.2.2.2.2 s l
end WFs
def Fr (A : Int) : Prop := A = 41 ∨ A = 51 ∨ A = 61
theorem fr_1 {A : Int} (h : Fr A) : cln (A + 1) = 10 := by rcases h with h | h | h <;> subst h <;> decide
theorem fr_2 {A : Int} (h : Fr A) : cln (A + 2) = 10 := by rcases h with h | h | h <;> subst h <;> decide
theorem fr_3 {A : Int} (h : Fr A) : cln (A + 3) = 11 := by rcases h with h | h | h <;> subst h <;> decide
theorem fr_4 {A : Int} (h : Fr A) : cln (A + 4) = 6 := by rcases h with h | h | h <;> subst h <;> decide
theorem fr_5 {A : Int} (h : Fr A) : cln (A + 5) = 66 := by rcases h with h | h | h <;> subst h <;> decide
theorem fr_6 {A : Int} (h : Fr A) : cln (A + 6) = 66 := by rcases h with h | h | h <;> subst h <;> decide
theorem fr_7 {A : Int} (h : Fr A) : cln (A + 7) = 66 := by rcases h with h | h | h <;> subst h <;> decide
theorem fr_8 {A : Int} (h : Fr A) : cln (A + 8) = 396 := by rcases h with h | h | h <;> subst h <;> decide
theorem fr_9 {A : Int} (h : Fr A) : cln (A + 9) = 6 := by rcases h with h | h | h <;> subst h <;> decide
theorem fr_p {A : Int} (h : Fr A) : 41 ≤ A ∧ A ≤ 61 := by rcases h with h | h | h <;> omega
/-- the frame's own references -/
def FRf (μ : MM) (A : Int) : Prop := μ A 6 = A + 1 ∧ μ A 7 = A + 2 ∧ μ A 8 = A + 3 ∧ μ A 9 = A + 4 ∧ μ A 10 = A + 5 ∧ μ A 11 = A + 6 ∧ μ A 12 = A + 7 ∧ μ A 13 = A + 8 ∧ μ A 14 = A + 9
/-- the class' frame at A is V -/
def CF (μ : MM) (A : Int) (V : FV) : Prop := Fr A ∧ FRf μ A ∧ μ A 0 = b2i (vB V ≠ 0) ∧ μ A 1 = vB V ∧ μ A 2 = vL V ∧ μ A 3 = vH V ∧ μ A 4 = vP V ∧
  (∀ b, 0 ≤ b → b < vB V → μ (A + 1) b = vK V b ∧ μ (A + 2) b = vW V b) ∧ (∀ s, 0 ≤ s → s ≤ vB V → μ (A + 3) s = b2i (¬ fot V s)) ∧ (∀ l, 0 ≤ l → l < vL V → μ (A + 4) l = vF V l) ∧
  (∀ b l, 0 ≤ b → (b < vB V ∨ b < 10) → 0 ≤ l → l < vL V → μ (A + 5) (11 * l + b) = vC V b l ∧ μ (A + 6) (11 * l + b) = vR V b l) ∧ (∀ s l, 0 ≤ s → (s ≤ vB V ∨ s < 11) → 0 ≤ l → l < vL V → μ (A + 7) (11 * l + s) = vT V s l)
section CFs
variable {μ : MM} {A : Int} {V : FV}
theorem CF.fr (h : CF μ A V) : Fr A := h.1
theorem CF.c0 (h : CF μ A V) : μ A 0 = b2i (vB V ≠ 0) := h.2.2.1
theorem CF.c1 (h : CF μ A V) : μ A 1 = vB V := h.2.2.2.1
theorem CF.c2 (h : CF μ A V) : μ A 2 = vL V := h.2.2.2.2.1
theorem CF.c3 (h : CF μ A V) : μ A 3 = vH V := h.2.2.2.2.2.1
theorem CF.c4 (h : CF μ A V) : μ A 4 = vP V := h.2.2.2.2.2.2.1
theorem CF.c6 (h : CF μ A V) : μ A 6 = A + 1 := h.2.1.1
theorem CF.c7 (h : CF μ A V) : μ A 7 = A + 2 := h.2.1.2.1
theorem CF.c8 (h : CF μ A V) : μ A 8 = A + 3 := h.2.1.2.2.1
theorem CF.c9 (h : CF μ A V) : μ A 9 = A + 4 := h.2.1.2.2.2.1
theorem CF.c10 (h : CF μ A V) : μ A 10 = A + 5 := h.2.1.2.2.2.2.1
theorem CF.c11 (h : CF μ A V) : μ A 11 = A + 6 := h.2.1.2.2.2.2.2.1
theorem CF.c12 (h : CF μ A V) : μ A 12 = A + 7 := h.2.1.2.2.2.2.2.2.1
theorem CF.c13 (h : CF μ A V) : μ A 13 = A + 8 := h.2.1.2.2.2.2.2.2.2.1
theorem CF.c14 (h : CF μ A V) : μ A 14 = A + 9 := h.2.1.2.2.2.2.2.2.2.2
theorem CF.k (h : CF μ A V) {b : Int} (h0 : 0 ≤ b) (h1 : b < vB V) : μ (A + 1) b = vK V b := (h.2.2.2.2.2.2.2.1 b h0 h1).1
theorem CF.w (h : CF μ A V) {b : Int} (h0 : 0 ≤ b) (h1 : b < vB V) : μ (A + 2) b = vW V b := (h.2.2.2.2.2.2.2.1 b h0 h1).2
theorem CF.lo (h : CF μ A V) {s : Int} (h0 : 0 ≤ s) (h1 : s ≤ vB V) : μ (A + 3) s = b2i (¬ fot V s) := h.2.2.2.2.2.2.2.2.1 s h0 h1
theorem CF.f (h : CF μ A V) {l : Int} (h0 : 0 ≤ l) (h1 : l < vL V) : μ (A + 4) l = vF V l := h.2.2.2.2.2.2.2.2.2.1 l h0 h1
theorem CF.c (h : CF μ A V) {b l : Int} (h0 : 0 ≤ b) (h1 : b < vB V) (h2 : 0 ≤ l) (h3 : l < vL V) : μ (A + 5) (11 * l + b) = vC V b l := (h.2.2.2.2.2.2.2.2.2.2.1 b l h0 (Or.inl h1) h2 h3).1
theorem CF.b (h : CF μ A V) {b l : Int} (h0 : 0 ≤ b) (h1 : b < vB V) (h2 : 0 ≤ l) (h3 : l < vL V) : μ (A + 6) (11 * l + b) = vR V b l := (h.2.2.2.2.2.2.2.2.2.2.1 b l h0 (Or.inl h1) h2 h3).2
theorem CF.t (h : CF μ A V) {b l : Int} (h0 : 0 ≤ b) (h1 : b ≤ vB V) (h2 : 0 ≤ l) (h3 : l < vL V) : μ (A + 7) (11 * l + b) = vT V b l := h.2.2.2.2.2.2.2.2.2.2.2 b l h0 (Or.inl h1) h2 h3
theorem CF.cX (h : CF μ A V) {b l : Int} (h0 : 0 ≤ b) (h1 : b < 10) (h2 : 0 ≤ l) (h3 : l < vL V) : μ (A + 5) (11 * l + b) = vC V b l := (h.2.2.2.2.2.2.2.2.2.2.1 b l h0 (Or.inr h1) h2 h3).1
theorem CF.bX (h : CF μ A V) {b l : Int} (h0 : 0 ≤ b) (h1 : b < 10) (h2 : 0 ≤ l) (h3 : l < vL V) : μ (A + 6) (11 * l + b) = vR V b l := (h.2.2.2.2.2.2.2.2.2.2.1 b l h0 (Or.inr h1) h2 h3).2
theorem CF.tX (h : CF μ A V) {b l : Int} (h0 : 0 ≤ b) (h1 : b < 11) (h2 : 0 ≤ l) (h3 : l < vL V) : μ (A + 7) (11 * l + b) = vT V b l := h.2.2.2.2.2.2.2.2.2.2.2 b l h0 (Or.inr h1) h2 h3
theorem nnA {A j : Int} (h : Fr A) (K : RR) (hj : 0 ≤ j) : nn (A + j) K = K := nn_ok K (by have := fr_p h; omega)
theorem ix1 {A i : Int} (h : Fr A) (K : RR) (h0 : 0 ≤ i) (h1 : i < 10) : ix (A + 1) i K = K := ix_ok K h0 (by rw [fr_1 h]; exact h1)
theorem ix2 {A i : Int} (h : Fr A) (K : RR) (h0 : 0 ≤ i) (h1 : i < 10) : ix (A + 2) i K = K := ix_ok K h0 (by rw [fr_2 h]; exact h1)
theorem ix3 {A i : Int} (h : Fr A) (K : RR) (h0 : 0 ≤ i) (h1 : i < 11) : ix (A + 3) i K = K := ix_ok K h0 (by rw [fr_3 h]; exact h1)
theorem ix4 {A i : Int} (h : Fr A) (K : RR) (h0 : 0 ≤ i) (h1 : i < 6) : ix (A + 4) i K = K := ix_ok K h0 (by rw [fr_4 h]; exact h1)
theorem ix5 {A i : Int} (h : Fr A) (K : RR) (h0 : 0 ≤ i) (h1 : i < 66) : ix (A + 5) i K = K := ix_ok K h0 (by rw [fr_5 h]; exact h1)
theorem ix6 {A i : Int} (h : Fr A) (K : RR) (h0 : 0 ≤ i) (h1 : i < 66) : ix (A + 6) i K = K := ix_ok K h0 (by rw [fr_6 h]; exact h1)
theorem ix7 {A i : Int} (h : Fr A) (K : RR) (h0 : 0 ≤ i) (h1 : i < 66) : ix (A + 7) i K = K := ix_ok K h0 (by rw [fr_7 h]; exact h1)
theorem ix8 {A i : Int} (h : Fr A) (K : RR) (h0 : 0 ≤ i) (h1 : i < 396) : ix (A + 8) i K = K := ix_ok K h0 (by rw [fr_8 h]; exact h1)
theorem ix9 {A i : Int} (h : Fr A) (K : RR) (h0 : 0 ≤ i) (h1 : i < 6) : ix (A + 9) i K = K := ix_ok K h0 (by rw [fr_9 h]; exact h1)
/-! the class' frame: what it tells -/
theorem c_hasBay (h : CF μ A V) (b : Int) : EE 11 0 [(41, A), (0, b)] [] μ = some (b2i (inB V b), μ) := by
  rw [q11_0, h.c1]
  unfold b2i
  repeat' split
  all_goals first | rfl | omega
theorem c_hasStandard (h : CF μ A V) (s : Int) : EE 12 0 [(41, A), (0, s)] [] μ = some (b2i (inS V s), μ) := by
  rw [q12_0, h.c1, h.c0]
  simp only [b2i_0]
  unfold b2i
  repeat' split
  all_goals first | rfl | omega
theorem c_hasLift (h : CF μ A V) (l : Int) : EE 13 0 [(41, A), (0, l)] [] μ = some (b2i (inL V l), μ) := by
  rw [q13_0, h.c2]
  unfold b2i
  repeat' split
  all_goals first | rfl | omega
theorem c_kindOf (hw : WF V) (h : CF μ A V) (b : Int) : EE 14 0 [(41, A), (0, b)] [] μ = some (vK V b, μ) := by
  rw [q14_0, c_hasBay h, bnd_s]
  have := hw.r
  simp only [b2i_0, ite_not, h.c6]
  rcases hw.k b with ⟨e, _⟩ | ⟨e, e2, _⟩
  · rw [if_pos e]
    simp (disch := omega) only [nnA h.fr, ix1 h.fr, h.k]
  · rw [if_neg e, e2]
theorem c_widthOf (hw : WF V) (h : CF μ A V) (b : Int) : EE 15 0 [(41, A), (0, b)] [] μ = some (vW V b, μ) := by
  rw [q15_0, c_hasBay h, bnd_s]
  have := hw.r
  simp only [b2i_0, ite_not, h.c7]
  rcases hw.k b with ⟨e, _⟩ | ⟨e, _, e2⟩
  · rw [if_pos e]
    simp (disch := omega) only [nnA h.fr, ix2 h.fr, h.w]
  · rw [if_neg e, e2]
abbrev ofK (V : FV) (b k : Int) : Prop := inB V b ∧ (k = 0 ∨ vK V b = k ∨ (k = 2 ∧ vK V b = 4))
theorem c_isOfKind (hw : WF V) (h : CF μ A V) (b k : Int) : EE 16 0 [(41, A), (0, b), (0, k)] [] μ = some (b2i (ofK V b k), μ) := by
  rw [q16_0, c_hasBay h, bnd_s]
  have := hw.r
  simp only [b2i_0, ite_not, h.c6]
  rcases hw.k b with ⟨e, _⟩ | ⟨e, _, e2⟩
  · rw [if_pos e]
    simp (disch := omega) only [nnA h.fr, ix1 h.fr, h.k]
    unfold b2i
    repeat' split
    all_goals first | rfl | omega
  · rw [if_neg e, b2i_f (fun q => e q.1)]
theorem c_isGate (hw : WF V) (h : CF μ A V) (b : Int) : EE 17 0 [(41, A), (0, b)] [] μ = some (b2i (gat V b), μ) := by
  rw [q17_0, c_hasBay h, bnd_s]
  have := hw.r
  simp only [b2i_0, ite_not, h.c6]
  rcases hw.k b with ⟨e, _⟩ | ⟨e, e2, _⟩
  · rw [if_pos e]
    simp (disch := omega) only [nnA h.fr, ix1 h.fr, h.k, if_b2i]
  · rw [if_neg e, b2i_f (by omega)]
theorem c_isOpening (hw : WF V) (h : CF μ A V) (b l : Int) : EE 18 0 [(41, A), (0, b), (0, l)] [] μ = some (b2i (l = 0 ∧ gat V b), μ) := by
  rw [q18_0, c_hasBay h, bnd_s]
  have := hw.r
  simp only [b2i_0, ite_not, h.c6]
  rcases hw.k b with ⟨e, _⟩ | ⟨e, e2, _⟩
  · rw [if_pos e]
    simp (disch := omega) only [nnA h.fr, ix1 h.fr, h.k]
    unfold b2i
    repeat' split
    all_goals first | rfl | omega
  · rw [if_neg e, b2i_f (by omega)]
    split <;> rfl
theorem c_hasFoot (hw : WF V) (h : CF μ A V) (s : Int) : EE 19 0 [(41, A), (0, s)] [] μ = some (b2i (inS V s ∧ fot V s), μ) := by
  rw [q19_0, c_hasStandard h, bnd_s]
  have := hw.r
  simp only [b2i_0, ite_not, h.c8]
  by_cases e : inS V s
  · rw [if_pos e]
    simp (disch := omega) only [nnA h.fr, ix3 h.fr, h.lo, b2i_0, if_b2i]
    rw [b2i_c (q := inS V s ∧ fot V s) ⟨fun q => ⟨e, fun r => q (fun t => t r)⟩, fun q r => r q.2⟩]
  · rw [if_neg e, b2i_f (fun q => e q.1)]
theorem c_lowestLift (hw : WF V) (h : CF μ A V) {s : Int} (h0 : 0 ≤ s) (h1 : s ≤ vB V) : EE 20 0 [(41, A), (0, s)] [] μ = some (b2i (¬ fot V s), μ) := by
  have := hw.r
  rw [q20_0, if_neg (by omega), h.c8, fr_3 h.fr, if_pos (by omega)]
  simp (disch := omega) only [nnA h.fr, ix3 h.fr, h.lo]
theorem c_hasRow (hw : WF V) (h : CF μ A V) (l : Int) : EE 23 0 [(41, A), (0, l)] [] μ = some (vF V l, μ) := by
  rw [q23_0, c_hasLift h, bnd_s]
  have := hw.r
  have := hw.f l
  simp only [b2i_0, ite_not, h.c9]
  by_cases e : inL V l
  · rw [if_pos e]
    simp (disch := omega) only [nnA h.fr, ix4 h.fr, h.f]
    split
    · simp [*]
    · rw [show vF V l = 1 by omega]
  · rw [if_neg e, show vF V l = 0 by omega]
theorem c_classOf (hw : WF V) (h : CF μ A V) (b l : Int) : EE 26 0 [(41, A), (0, b), (0, l)] [] μ = some (vC V b l, μ) := by
  rw [q26_0, c_hasBay h, bnd_s]
  have := hw.r
  have := hw.c b l
  simp only [b2i_0, ite_not, h.c10, c_hasLift h, bnd_s]
  by_cases e : inB V b
  · by_cases e2 : inL V l
    · rw [if_pos e, if_pos e2]
      simp (disch := omega) only [nnA h.fr, w32_l, ix5 h.fr, h.c]
    · rw [if_pos e, if_neg e2, show vC V b l = -1 by omega]
  · rw [if_neg e, show vC V b l = -1 by omega]
theorem c_hasBrace (hw : WF V) (h : CF μ A V) (b l : Int) : EE 28 0 [(41, A), (0, b), (0, l)] [] μ = some (vR V b l, μ) := by
  rw [q28_0, c_hasBay h, bnd_s]
  have := hw.r
  have := hw.b b l
  simp only [b2i_0, ite_not, h.c11, c_hasLift h, bnd_s]
  by_cases e : inB V b
  · by_cases e2 : inL V l
    · rw [if_pos e, if_pos e2]
      simp (disch := omega) only [nnA h.fr, w32_l, ix6 h.fr, h.b]
      split
      · simp [*]
      · rw [show vR V b l = 1 by omega]
    · rw [if_pos e, if_neg e2, show vR V b l = 0 by omega]
  · rw [if_neg e, show vR V b l = 0 by omega]
theorem c_hasTie (hw : WF V) (h : CF μ A V) (s l : Int) : EE 30 0 [(41, A), (0, s), (0, l)] [] μ = some (vT V s l, μ) := by
  rw [q30_0, c_hasStandard h, bnd_s]
  have := hw.r
  have := hw.t s l
  simp only [b2i_0, ite_not, h.c12, c_hasLift h, bnd_s]
  by_cases e : inS V s
  · by_cases e2 : inL V l
    · rw [if_pos e, if_pos e2]
      simp (disch := omega) only [nnA h.fr, w32_l, ix7 h.fr, h.t]
      split
      · simp [*]
      · rw [show vT V s l = 1 by omega]
    · rw [if_pos e, if_neg e2, show vT V s l = 0 by omega]
  · rw [if_neg e, show vT V s l = 0 by omega]
end CFs
