/-! fractions -/
theorem sg0 {x : Int} : (if x < 0 then (-1 : Int) else if x = 0 then 0 else 1) = 0 ↔ x = 0 := by
  by_cases h1 : x < 0
  · rw [if_pos h1]
    omega
  · rw [if_neg h1]
    by_cases h2 : x = 0
    · rw [if_pos h2]
      omega
    · rw [if_neg h2]
      omega
theorem sgp {x a : Int} : 0 < (if x < a then (-1 : Int) else if x = a then 0 else 1) ↔ a < x := by
  by_cases h1 : x < a
  · rw [if_pos h1]
    omega
  · rw [if_neg h1]
    by_cases h2 : x = a
    · rw [if_pos h2]
      omega
    · rw [if_neg h2]
      omega
theorem gcd_step (x y : Nat) : Nat.gcd y (x % y) = Nat.gcd x y := by
  rw [Nat.gcd_comm x y, Nat.gcd_rec y x, Nat.gcd_comm]
theorem m_common (μ : MM) : ∀ (y x : Nat) (d0 d1 d2 d3 d8 d9 : VV), EE 211 6 [d0, d1, d2, d3, (1, (x : Int)), (9, 0), (1, (y : Int)), (9, 0), d8, d9] [] μ = some (((Nat.gcd x y : Nat) : Int), μ) := by
  intro y
  induction y using Nat.strongRecOn with
  | ind y ih =>
    intro x d0 d1 d2 d3 d8 d9
    rw [q211_6]
    by_cases e : y = 0
    · rw [if_pos (sg0.2 (by omega)), e, Nat.gcd_zero_right]
    · rw [if_neg (fun q => e (by have := sg0.1 q; omega)), nn_ok _ (by omega), show Int.tmod (x : Int) (y : Int) = ((x % y : Nat) : Int) from rfl, ih (x % y) (Nat.mod_lt _ (by omega)), gcd_step]
theorem c_common (μ : MM) : ∀ (n x y : Nat) (k : Int) (d0 d1 d2 d3 d9 d10 : VV), y ≤ x → x < 2 ^ n → 0 ≤ k → k + 2 * n + 1 ≤ 200 → EE 69 9 [d0, d1, d2, d3, (1, (x : Int)), (9, 0), (1, (y : Int)), (9, 0), (0, k), d9, d10] [] μ = some (((Nat.gcd x y : Nat) : Int), μ) := by
  intro n
  induction n with
  | zero =>
    intro x y k d0 d1 d2 d3 d9 d10 h1 h2 h3 h4
    have hx : x = 0 := by
      rw [Nat.pow_zero] at h2
      omega
    have hy : y = 0 := by omega
    subst hx
    subst hy
    rw [q69_9, if_pos (by omega), if_pos (sg0.2 (by omega))]
    rfl
  | succ n ih =>
    intro x y k d0 d1 d2 d3 d9 d10 h1 h2 h3 h4
    rw [q69_9, if_pos (by omega)]
    by_cases e : y = 0
    · rw [if_pos (sg0.2 (by omega)), e, Nat.gcd_zero_right]
    · rw [if_neg (fun q => e (by have := sg0.1 q; omega)), nn_ok _ (by omega), show Int.tmod (x : Int) (y : Int) = ((x % y : Nat) : Int) from rfl, w32_l (by omega) (by omega), q69_9, if_pos (by omega)]
      by_cases e2 : x % y = 0
      · rw [if_pos (sg0.2 (by omega)), ← gcd_step x y, e2, Nat.gcd_zero_right]
      · have h5 : x % y ≤ x - y := by
          rw [Nat.mod_eq_sub_mod h1]
          exact Nat.mod_le _ _
        have h6 := Nat.mod_lt x (show y > 0 by omega)
        have h7 := Nat.mod_lt y (show x % y > 0 by omega)
        rw [Nat.pow_succ] at h2
        rw [if_neg (fun q => e2 (by have := sg0.1 q; omega)), nn_ok _ (by omega), show Int.tmod (y : Int) ((x % y : Nat) : Int) = ((y % (x % y) : Nat) : Int) from rfl, w32_l (by omega) (by omega), ih (x % y) (y % (x % y)) _ _ _ _ _ _ _ (by omega) (by omega) (by omega) (by omega), gcd_step, gcd_step]
theorem m_com {x y : Int} (hx : 0 ≤ x) (hy : 0 ≤ y) (μ : MM) : EE 211 0 [(1, x), (9, 0), (1, y), (9, 0), (9, 0), (9, 0), (9, 0), (9, 0), (9, 0), (9, 0)] [] μ = some (((Int.gcd x y : Nat) : Int), μ) := by
  obtain ⟨a, ha⟩ := Int.eq_ofNat_of_zero_le hx
  obtain ⟨b, hb⟩ := Int.eq_ofNat_of_zero_le hy
  subst ha
  subst hb
  rw [q211_0, m_common]
  rfl
theorem c_com {x y : Int} (hx : 0 ≤ x) (hy : 0 ≤ y) (hx2 : x < 1125899906842624) (hy2 : y < 1125899906842624) (μ : MM) : EE 69 0 [(1, x), (9, 0), (1, y), (9, 0), (9, 0), (9, 0), (9, 0), (9, 0), (9, 0), (9, 0), (9, 0)] [] μ = some (((Int.gcd x y : Nat) : Int), μ) := by
  obtain ⟨a, ha⟩ := Int.eq_ofNat_of_zero_le hx
  obtain ⟨b, hb⟩ := Int.eq_ofNat_of_zero_le hy
  subst ha
  subst hb
  rw [q69_0]
  by_cases e : b ≤ a
  · rw [c_common μ 50 a b 0 _ _ _ _ _ _ e (by omega) (by omega) (by omega)]
    rfl
  · rw [q69_9, if_pos (by omega), if_neg (fun q => by have := sg0.1 q; omega), nn_ok _ (by omega), show Int.tmod (a : Int) (b : Int) = ((a % b : Nat) : Int) from rfl, Nat.mod_eq_of_lt (by omega), w32_l (by omega) (by omega), c_common μ 50 b a _ _ _ _ _ _ _ (by omega) (by omega) (by omega) (by omega), Nat.gcd_comm]
    rfl
def R1 (n d : Int) : Int := n / ((Int.gcd n d : Nat) : Int)
def R2 (n d : Int) : Int := d / ((Int.gcd n d : Nat) : Int)
theorem R_g {n d : Int} (hd : 0 < d) : 0 < ((Int.gcd n d : Nat) : Int) := by
  have : 0 < Int.gcd n d := Int.gcd_pos_of_ne_zero_right _ (by omega)
  omega
theorem R_f {n d : Int} (hd : 0 < d) : n = ((Int.gcd n d : Nat) : Int) * R1 n d ∧ d = ((Int.gcd n d : Nat) : Int) * R2 n d := by
  unfold R1 R2
  exact ⟨(Int.mul_ediv_cancel' (Int.gcd_dvd_left ..)).symm, (Int.mul_ediv_cancel' (Int.gcd_dvd_right ..)).symm⟩
theorem R_r {n d : Int} (hn : 0 ≤ n) (hd : 0 < d) : 0 ≤ R1 n d ∧ R1 n d ≤ n ∧ 0 < R2 n d ∧ R2 n d ≤ d ∧ R1 n d * d = n * R2 n d := by
  have hg := R_g (n := n) hd
  obtain ⟨h1, h2⟩ := R_f (n := n) hd
  have a1 : 0 ≤ R1 n d := Int.ediv_nonneg hn (by omega)
  have a2 : 0 < R2 n d := by
    have : 0 ≤ R2 n d := Int.ediv_nonneg (by omega) (by omega)
    by_cases e : R2 n d = 0
    · rw [e] at h2
      omega
    · omega
  refine ⟨a1, Int.ediv_le_self _ hn, a2, Int.ediv_le_self _ (by omega), ?_⟩
  generalize ((Int.gcd n d : Nat) : Int) = g at *
  generalize R1 n d = x at *
  generalize R2 n d = y at *
  subst h1
  subst h2
  grind
theorem R_eq {n d n' d' : Int} (hn : 0 ≤ n) (hd : 0 < d) (hn' : 0 ≤ n') (hd' : 0 < d') (h : n * d' = n' * d) : R1 n d = R1 n' d' ∧ R2 n d = R2 n' d' := by
  have hg := R_g (n := n) hd
  have hg' := R_g (n := n') hd'
  obtain ⟨h1, h2⟩ := R_f (n := n) hd
  obtain ⟨h3, h4⟩ := R_f (n := n') hd'
  have r := R_r hn hd
  have r' := R_r hn' hd'
  have c : Int.gcd (R1 n d) (R2 n d) = 1 := by
    unfold R1 R2
    exact Int.gcd_ediv_gcd_ediv_gcd (Int.gcd_pos_of_ne_zero_right _ (by omega))
  have c' : Int.gcd (R1 n' d') (R2 n' d') = 1 := by
    unfold R1 R2
    exact Int.gcd_ediv_gcd_ediv_gcd (Int.gcd_pos_of_ne_zero_right _ (by omega))
  have k : R1 n d * R2 n' d' = R1 n' d' * R2 n d := by
    generalize ((Int.gcd n d : Nat) : Int) = g at *
    generalize ((Int.gcd n' d' : Nat) : Int) = g' at *
    generalize R1 n d = x at *
    generalize R2 n d = y at *
    generalize R1 n' d' = x' at *
    generalize R2 n' d' = y' at *
    rw [h1, h2, h3, h4] at h
    have : g * g' * (x * y') = g * g' * (x' * y) := by grind
    exact Int.eq_of_mul_eq_mul_left (by
      have := Int.mul_pos hg hg'
      omega) this
  have d1 : R2 n d ∣ R2 n' d' := by
    have : R2 n d ∣ R1 n d * R2 n' d' := ⟨R1 n' d', by rw [k, Int.mul_comm]⟩
    have t := Int.dvd_gcd_mul_iff_dvd_mul.2 this
    rw [Int.gcd_comm, c] at t
    simpa using t
  have d2 : R2 n' d' ∣ R2 n d := by
    have : R2 n' d' ∣ R1 n' d' * R2 n d := ⟨R1 n d, by rw [← k, Int.mul_comm]⟩
    have t := Int.dvd_gcd_mul_iff_dvd_mul.2 this
    rw [Int.gcd_comm, c'] at t
    simpa using t
  have e : R2 n d = R2 n' d' := Int.le_antisymm (Int.le_of_dvd r'.2.2.1 d1) (Int.le_of_dvd r.2.2.1 d2)
  refine ⟨?_, e⟩
  rw [e] at k
  exact Int.eq_of_mul_eq_mul_right (by omega) k
def fA (μ μ' : MM) : Prop := ∀ c i, ¬ (c = 71 ∧ (i = 24 ∨ i = 25)) → μ' c i = μ c i
theorem fA_r (μ : MM) : fA μ μ := fun _ _ _ => rfl
theorem fA_t {μ μ' μ'' : MM} (h1 : fA μ μ') (h2 : fA μ' μ'') : fA μ μ'' := fun c i q => (h2 c i q).trans (h1 c i q)
theorem fA_sA {μ μ' : MM} (h : fA μ μ') : sA μ μ' := fun c i q => h c i (by omega)
theorem m_add {μ : MM} {n d a b : Int} (h24 : μ 71 24 = R1 n d) (h25 : μ 71 25 = R2 n d) (hn : 0 ≤ n ∧ n ≤ 10000000000000) (hd : 0 < d ∧ d ≤ 100000000) (ha : 0 ≤ a ∧ a ≤ 100000000) (hb : 0 < b ∧ b ≤ 10000) :
    ∃ μ', EE 212 0 [(48, 71), (1, a), (9, 0), (1, b), (9, 0), (9, 0), (9, 0)] [] μ = some (0, μ') ∧ fA μ μ' ∧ μ' 71 24 = R1 (n * b + a * d) (d * b) ∧ μ' 71 25 = R2 (n * b + a * d) (d * b) := by
  have r := R_r hn.1 hd.1
  have p1 := mul_b (a := R1 n d) (b := b) (c := 10000000000000) (d := 10000) (by omega) (by omega) (by omega) (by omega)
  have p2 := mul_b (a := a) (b := R2 n d) (c := 100000000) (d := 100000000) (by omega) (by omega) (by omega) (by omega)
  have p3 := mul_b (a := R2 n d) (b := b) (c := 100000000) (d := 10000) (by omega) (by omega) (by omega) (by omega)
  have p4 : 0 < R2 n d * b := Int.mul_pos r.2.2.1 hb.1
  have p5 : 0 ≤ n * b + a * d := Int.add_nonneg (Int.mul_nonneg hn.1 (by omega)) (Int.mul_nonneg ha.1 (by omega))
  have p6 : 0 < d * b := Int.mul_pos hd.1 hb.1
  have k := R_eq (n := R1 n d * b + a * R2 n d) (d := R2 n d * b) (n' := n * b + a * d) (d' := d * b) (by omega) p4 p5 p6 (by
    have := r.2.2.2.2
    grind)
  have r2 := R_r (n := R1 n d * b + a * R2 n d) (d := R2 n d * b) (by omega) p4
  have g := R_g (n := R1 n d * b + a * R2 n d) (d := R2 n d * b) p4
  rw [q212_0, h24, h25, w64_l (x := R1 n d * b) (by omega) (by omega), w64_l (x := a * R2 n d) (by omega) (by omega), w64_l (x := R1 n d * b + a * R2 n d) (by omega) (by omega), up_ni μ (x := 71) (i := 24) (j := 25) _ (by omega), h25, w64_l (x := R2 n d * b) (by omega) (by omega), up_ni (up μ 71 24 (R1 n d * b + a * R2 n d)) (x := 71) (i := 25) (j := 24) _ (by omega), up_s, up_s, m_com (by omega) (by omega), bnd_s, nn_ok _ (by omega), nn_ok _ (by omega)]
  refine ⟨_, rfl, ?_, ?_, ?_⟩
  · intro c i q
    rw [up_n _ _ (by omega), up_n _ _ (by omega), up_n _ _ (by omega), up_n _ _ (by omega)]
  · rw [up_ni _ _ (by omega), up_s, up_ni _ _ (by omega), up_s, Int.tdiv_eq_ediv_of_nonneg (by omega), show (R1 n d * b + a * R2 n d) / ((Int.gcd (R1 n d * b + a * R2 n d) (R2 n d * b) : Nat) : Int) = R1 (R1 n d * b + a * R2 n d) (R2 n d * b) from rfl, w64_l (by omega) (by omega), k.1]
  · rw [up_s, up_ni _ _ (by omega), up_s, Int.tdiv_eq_ediv_of_nonneg (by omega), show (R2 n d * b) / ((Int.gcd (R1 n d * b + a * R2 n d) (R2 n d * b) : Nat) : Int) = R2 (R1 n d * b + a * R2 n d) (R2 n d * b) from rfl, w64_l (by omega) (by omega), k.2]
