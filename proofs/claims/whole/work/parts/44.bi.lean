/-! bits; rows of tubes: pure -/
theorem i32_nat {x : Int} (h : 0 ≤ x ∧ x < 2147483648) : (Int32.ofInt x).toBitVec.toNat = x.toNat := by
  show (BitVec.ofInt 32 x).toNat = x.toNat
  rw [BitVec.toNat_ofInt]
  omega
theorem i32_pos (v : Int32) (h : v.toBitVec.toNat < 2147483648) : v.toInt = (v.toBitVec.toNat : Int) := by
  show v.toBitVec.toInt = _
  exact BitVec.toInt_eq_toNat_of_lt (by omega)
theorem b4_n {x y : Int} (hx : 0 ≤ x ∧ x < 2147483648) (hy : 0 ≤ y ∧ y < 2147483648) : bin 4 x y = ((x.toNat ||| y.toNat : Nat) : Int) := by
  have e : (Int32.ofInt x ||| Int32.ofInt y).toBitVec.toNat = x.toNat ||| y.toNat := by
    show ((Int32.ofInt x).toBitVec ||| (Int32.ofInt y).toBitVec).toNat = _
    rw [BitVec.toNat_or, i32_nat hx, i32_nat hy]
  have b : x.toNat ||| y.toNat < 2 ^ 31 := Nat.or_lt_two_pow (by omega) (by omega)
  show (Int32.ofInt x ||| Int32.ofInt y).toInt = _
  rw [i32_pos _ (by rw [e]; omega), e]
theorem b3_n {x y : Int} (hx : 0 ≤ x ∧ x < 2147483648) (hy : 0 ≤ y ∧ y < 2147483648) : bin 3 x y = ((x.toNat &&& y.toNat : Nat) : Int) := by
  have e : (Int32.ofInt x &&& Int32.ofInt y).toBitVec.toNat = x.toNat &&& y.toNat := by
    show ((Int32.ofInt x).toBitVec &&& (Int32.ofInt y).toBitVec).toNat = _
    rw [BitVec.toNat_and, i32_nat hx, i32_nat hy]
  have b : x.toNat &&& y.toNat < 2 ^ 31 := Nat.and_lt_two_pow _ (by omega)
  show (Int32.ofInt x &&& Int32.ofInt y).toInt = _
  rw [i32_pos _ (by rw [e]; omega), e]
theorem b5_1 {x : Int} (hx : 0 ≤ x ∧ x < 1073741824) : bin 5 x 1 = 2 * x := by
  have e : (Int32.ofInt x <<< (Int32.ofInt 1 &&& 31)).toBitVec.toNat = 2 * x.toNat := by
    show ((Int32.ofInt x).toBitVec <<< ((Int32.ofInt 1 &&& 31).toBitVec.smod 32)).toNat = _
    rw [show (Int32.ofInt 1 &&& 31).toBitVec.smod 32 = 1#32 by decide, BitVec.shiftLeft_eq', BitVec.toNat_shiftLeft, i32_nat (by omega), show (1#32).toNat = 1 from rfl, Nat.shiftLeft_eq]
    omega
  show (Int32.ofInt x <<< (Int32.ofInt 1 &&& 31)).toInt = _
  rw [i32_pos _ (by rw [e]; omega), e]
  omega
theorem sh_n : ∀ m : Nat, m < 21 → ((Int32.ofInt (m : Int) &&& 31).toBitVec.smod 32).toNat = m := by decide
theorem b6_n {x n : Int} (hx : 0 ≤ x ∧ x < 2147483648) (hn : 0 ≤ n ∧ n ≤ 20) : bin 6 x n = x / ((2 ^ n.toNat : Nat) : Int) := by
  show (BitVec.sshiftRight' (Int32.ofInt x).toBitVec ((Int32.ofInt n &&& 31).toBitVec.smod 32)).toInt = _
  have e : ((Int32.ofInt n &&& 31).toBitVec.smod 32).toNat = n.toNat := by
    have := sh_n n.toNat (by omega)
    rw [show ((n.toNat : Nat) : Int) = n by omega] at this
    exact this
  have e2 : (Int32.ofInt x).toBitVec.toInt = x := by
    have := i32_pos (Int32.ofInt x) (by rw [i32_nat hx]; omega)
    rw [i32_nat hx] at this
    show (Int32.ofInt x).toInt = x
    omega
  rw [BitVec.toInt_sshiftRight', e, e2, Int.shiftRight_eq_div_pow]
abbrev bt (x n : Int) : Prop := x.toNat.testBit n.toNat = true
theorem mk_bt {x n : Int} (hx : 0 ≤ x ∧ x < 2147483648) (hn : 0 ≤ n ∧ n ≤ 20) : (bin 3 (bin 6 x n) 1) = 1 ↔ bt x n := by
  have h1 := b6_n hx hn
  have p : 0 < (2 ^ n.toNat : Nat) := Nat.pow_pos (by omega)
  have h2 : x / ((2 ^ n.toNat : Nat) : Int) = ((x.toNat / 2 ^ n.toNat : Nat) : Int) := by
    rw [Int.natCast_ediv, show ((x.toNat : Nat) : Int) = x by omega]
  have h3 : x.toNat / 2 ^ n.toNat ≤ x.toNat := Nat.div_le_self _ _
  rw [h1, h2]
  unfold bt
  rw [Nat.testBit_eq_decide_div_mod_eq, decide_eq_true_eq]
  generalize x.toNat / 2 ^ n.toNat = d at *
  rw [b3_n (by omega) (by omega), show ((d : Nat) : Int).toNat = d from rfl, show (1 : Int).toNat = 1 from rfl, Nat.and_one_is_mod]
  omega
abbrev jcS (z R : Int → Int) (s k acc : Int) : Int := if 0 < z k ∧ z k ≤ s then bin 4 acc (bin 5 (R (s - z k)) 1) else acc
def jcN (z R : Int → Int) (s : Int) : Nat → Int → Int → Int
  | 0, _, acc => acc
  | n + 1, k, acc => jcN z R s n (k + 1) (jcS z R s k acc)
def JC (z R : Int → Int) (s k acc : Int) : Int := jcN z R s (6 - k).toNat k acc
section BI
variable {z z' R Q : Int → Int}
theorem JC_e {s k acc : Int} (h : 6 ≤ k) : JC z R s k acc = acc := by
  unfold JC
  rw [show (6 - k).toNat = 0 by omega]
  rfl
theorem JC_s {s k acc : Int} (h : k < 6) : JC z R s k acc = JC z R s (k + 1) (jcS z R s k acc) := by
  unfold JC
  rw [show (6 - k).toNat = (6 - (k + 1)).toNat + 1 by omega]
  rfl
theorem JC_c {s : Int} (h : ∀ i, 0 ≤ i → i < s → R i = Q i) : ∀ k acc, 0 ≤ k → JC z R s k acc = JC z Q s k acc := by
  refine up_ind 6 (fun k hk acc _ => ?_) (fun k hk ih acc k0 => ?_)
  · rw [JC_e hk, JC_e hk]
  · rw [JC_s hk, JC_s hk, ih _ (by omega)]
    congr 1
    unfold jcS
    by_cases q : 0 < z k ∧ z k ≤ s
    · rw [if_pos q, if_pos q, h (s - z k) (by omega) (by omega)]
    · rw [if_neg q, if_neg q]
theorem jcS_p {s k acc : Int} (h : ∀ i, 0 ≤ i → i < s → 0 ≤ R i ∧ R i < 2097152) (ha : 0 ≤ acc ∧ acc < 4194304) : (0 ≤ jcS z R s k acc ∧ jcS z R s k acc < 4194304) ∧ ∀ n, 0 ≤ n → (bt (jcS z R s k acc) n ↔ bt acc n ∨ (0 < z k ∧ z k ≤ s ∧ 1 ≤ n ∧ bt (R (s - z k)) (n - 1))) := by
  unfold jcS
  by_cases q : 0 < z k ∧ z k ≤ s
  · have r := h (s - z k) (by omega) (by omega)
    have b1 : acc.toNat ||| (2 * R (s - z k)).toNat < 2 ^ 22 := Nat.or_lt_two_pow (by omega) (by omega)
    rw [if_pos q, b5_1 (by omega), b4_n (by omega) (by omega)]
    refine ⟨by omega, fun n n0 => ?_⟩
    unfold bt
    rw [show (((acc.toNat ||| (2 * R (s - z k)).toNat : Nat) : Int)).toNat = acc.toNat ||| (2 * R (s - z k)).toNat from rfl, Nat.testBit_or, Bool.or_eq_true, show (2 * R (s - z k)).toNat = 2 * (R (s - z k)).toNat by omega]
    by_cases e : n = 0
    · subst e
      have : (2 * (R (s - z k)).toNat).testBit (0 : Int).toNat = false := by
        show (2 * (R (s - z k)).toNat).testBit 0 = false
        rw [Nat.testBit_zero]
        simp
      rw [this]
      constructor
      · intro w
        rcases w with w | w
        · exact Or.inl w
        · exact absurd w (by simp)
      · intro w
        rcases w with w | w
        · exact Or.inl w
        · omega
    · have tb : (2 * (R (s - z k)).toNat).testBit n.toNat = (R (s - z k)).toNat.testBit (n - 1).toNat := by
        rw [show n.toNat = (n - 1).toNat + 1 by omega, Nat.testBit_add_one, show (2 * (R (s - z k)).toNat) / 2 = (R (s - z k)).toNat by omega]
      rw [tb]
      constructor
      · intro w
        rcases w with w | w
        · exact Or.inl w
        · exact Or.inr ⟨q.1, q.2, by omega, w⟩
      · intro w
        rcases w with w | w
        · exact Or.inl w
        · exact Or.inr w.2.2.2
  · rw [if_neg q]
    exact ⟨ha, fun n n0 => ⟨Or.inl, fun w => w.elim id (fun y => absurd ⟨y.1, y.2.1⟩ q)⟩⟩
theorem JC_p {s : Int} (h : ∀ i, 0 ≤ i → i < s → 0 ≤ R i ∧ R i < 2097152) : ∀ k acc, (0 ≤ acc ∧ acc < 4194304) → (0 ≤ JC z R s k acc ∧ JC z R s k acc < 4194304) ∧ ∀ n, 0 ≤ n → (bt (JC z R s k acc) n ↔ bt acc n ∨ ∃ j, k ≤ j ∧ j < 6 ∧ 0 < z j ∧ z j ≤ s ∧ 1 ≤ n ∧ bt (R (s - z j)) (n - 1)) := by
  refine up_ind 6 (fun k hk acc ha => ?_) (fun k hk ih acc ha => ?_)
  · rw [JC_e hk]
    exact ⟨ha, fun n _ => ⟨Or.inl, fun w => w.elim id (fun ⟨j, a, b, _⟩ => by omega)⟩⟩
  · rw [JC_s hk]
    have p := jcS_p (z := z) (k := k) h ha
    obtain ⟨i1, i2⟩ := ih _ p.1
    refine ⟨i1, fun n n0 => ?_⟩
    rw [i2 n n0, p.2 n n0]
    constructor
    · intro w
      rcases w with (w | w) | ⟨j, a, b, c⟩
      · exact Or.inl w
      · exact Or.inr ⟨k, by omega, hk, w⟩
      · exact Or.inr ⟨j, by omega, b, c⟩
    · intro w
      rcases w with w | ⟨j, a, b, c⟩
      · exact Or.inl (Or.inl w)
      · by_cases e : j = k
        · subst e
          exact Or.inl (Or.inr c)
        · exact Or.inr ⟨j, by omega, b, c⟩
theorem msk {x : Int} (h : 0 ≤ x ∧ x < 4194304) : (0 ≤ bin 3 x 2097151 ∧ bin 3 x 2097151 < 2097152) ∧ ∀ n, 0 ≤ n → n ≤ 20 → (bt (bin 3 x 2097151) n ↔ bt x n) := by
  have b : x.toNat &&& 2097151 < 2 ^ 21 := Nat.and_lt_two_pow _ (by omega)
  rw [b3_n (by omega) (by omega), show (2097151 : Int).toNat = 2097151 from rfl]
  refine ⟨by omega, fun n n0 n1 => ?_⟩
  unfold bt
  rw [show (((x.toNat &&& 2097151 : Nat) : Int)).toNat = x.toNat &&& 2097151 from rfl, Nat.testBit_and, show 2097151 = 2 ^ 21 - 1 from rfl, Nat.testBit_two_pow_sub_one]
  have : n.toNat < 21 := by omega
  simp [this]
/-- the class' table of counts -/
def JT (z R : Int → Int) : Prop := R 0 = 1 ∧ ∀ s, 1 ≤ s → s ≤ 2000 → R s = bin 3 (JC z R s 0 0) 2097151
theorem JT_r (h : JT z R) : ∀ s, 0 ≤ s → s ≤ 2000 → 0 ≤ R s ∧ R s < 2097152 := by
  have key : ∀ n : Nat, ∀ s : Int, s < n → 0 ≤ s → s ≤ 2000 → 0 ≤ R s ∧ R s < 2097152 := by
    intro n
    induction n with
    | zero => exact fun s a b => by omega
    | succ n ih =>
      intro s a b c
      by_cases e : s = 0
      · subst e
        rw [h.1]
        omega
      · rw [h.2 s (by omega) c]
        exact (msk (JC_p (fun i i0 i1 => ih i (by omega) i0 (by omega)) 0 0 (by omega)).1).1
  exact fun s a b => key (s + 1).toNat s (by omega) a b
theorem JT_b (h : JT z R) {s n : Int} (s0 : 1 ≤ s) (s1 : s ≤ 2000) (n0 : 0 ≤ n) (n1 : n ≤ 20) : bt (R s) n ↔ ∃ j, 0 ≤ j ∧ j < 6 ∧ 0 < z j ∧ z j ≤ s ∧ 1 ≤ n ∧ bt (R (s - z j)) (n - 1) := by
  have p := JC_p (z := z) (R := R) (s := s) (fun i i0 i1 => JT_r h i i0 (by omega)) 0 0 (by omega)
  rw [h.2 s s0 s1, (msk p.1).2 n n0 n1, p.2 n n0]
  constructor
  · intro w
    rcases w with w | w
    · unfold bt at w
      rw [show (0 : Int).toNat = 0 from rfl, Nat.zero_testBit] at w
      exact absurd w (by simp)
    · exact w
  · exact Or.inr
theorem bt_1 {n : Int} (n0 : 0 ≤ n) : bt 1 n ↔ n = 0 := by
  unfold bt
  rw [show (1 : Int).toNat = 1 from rfl]
  by_cases e : n = 0
  · subst e
    simp
  · rw [show n.toNat = (n - 1).toNat + 1 by omega, Nat.testBit_add_one, show 1 / 2 = 0 from rfl, Nat.zero_testBit]
    simp
    exact e
theorem JT_m (h : JT z R) (hz : ∀ k, 0 ≤ k → k < 6 → z k ≤ 100) : ∀ s n, 0 ≤ s → s ≤ 2000 → 0 ≤ n → n ≤ 20 → bt (R s) n → s ≤ 100 * n := by
  have key : ∀ m : Nat, ∀ s n : Int, s < m → 0 ≤ s → s ≤ 2000 → 0 ≤ n → n ≤ 20 → bt (R s) n → s ≤ 100 * n := by
    intro m
    induction m with
    | zero => exact fun s n a b => by omega
    | succ m ih =>
      intro s n a s0 s1 n0 n1 hb
      by_cases e : s = 0
      · omega
      · obtain ⟨j, j0, j1, c, d, w, x⟩ := (JT_b h (by omega) s1 n0 n1).1 hb
        have := ih (s - z j) (n - 1) (by omega) (by omega) (by omega) (by omega) (by omega) x
        have := hz j j0 j1
        omega
  exact fun s n a b c d e => key (s + 1).toNat s n (by omega) a b c d e
/-- the reference's table of sums -/
def JS (z : Int → Int) (S : Int → Int → Int) : Prop := ∀ n s, 0 ≤ n → n ≤ 20 → 0 ≤ s → s ≤ 2000 → (S n s = 0 ∨ S n s = 1) ∧ (S n s ≠ 0 ↔ (n = 0 ∧ s = 0) ∨ (1 ≤ n ∧ ∃ k, 0 ≤ k ∧ k < 6 ∧ 0 < z k ∧ z k ≤ s ∧ S (n - 1) (s - z k) ≠ 0))
theorem JT_S {S : Int → Int → Int} (h : JT z R) (hs : JS z' S) (hz : ∀ k, 0 ≤ k → k < 6 → z' k = z k) : ∀ s n, 0 ≤ s → s ≤ 2000 → 0 ≤ n → n ≤ 20 → (bt (R s) n ↔ S n s ≠ 0) := by
  have key : ∀ m : Nat, ∀ s n : Int, s < m → 0 ≤ s → s ≤ 2000 → 0 ≤ n → n ≤ 20 → (bt (R s) n ↔ S n s ≠ 0) := by
    intro m
    induction m with
    | zero => exact fun s n a b => by omega
    | succ m ih =>
      intro s n a s0 s1 n0 n1
      rw [(hs n s n0 n1 s0 s1).2]
      by_cases e : s = 0
      · subst e
        rw [h.1, bt_1 n0]
        constructor
        · intro w
          exact Or.inl ⟨w, rfl⟩
        · intro w
          rcases w with w | ⟨_, k, _, _, c, d, _⟩
          · exact w.1
          · omega
      · rw [JT_b h (by omega) s1 n0 n1]
        constructor
        · intro ⟨j, j0, j1, c, d, w, x⟩
          refine Or.inr ⟨w, j, j0, j1, by rw [hz j j0 j1]; exact c, by rw [hz j j0 j1]; exact d, ?_⟩
          rw [hz j j0 j1]
          exact (ih (s - z j) (n - 1) (by omega) (by omega) (by omega) (by omega) (by omega)).1 x
        · intro w
          rcases w with w | ⟨w, j, j0, j1, c, d, x⟩
          · omega
          · rw [hz j j0 j1] at c d x
            exact ⟨j, j0, j1, c, d, w, (ih (s - z j) (n - 1) (by omega) (by omega) (by omega) (by omega) (by omega)).2 x⟩
  exact fun s n a b c d => key (s + 1).toNat s n (by omega) a b c d
end BI
/-- the tubes of a join, the greatest first -/
def sjN (z : Int → Int) (P : Int → Int → Int) : Nat → Int → List Int
  | 0, _ => []
  | n + 1, left => PK z (P n) left 1 0 0 :: sjN z P n (left - PK z (P n) left 1 0 0)
theorem sj_n {z : Int → Int} {P : Int → Int → Int} : ∀ (n : Nat) left, (sjN z P n left).length = n := by
  intro n
  induction n with
  | zero => exact fun _ => rfl
  | succ n ih =>
    intro left
    rw [sjN, List.length_cons, ih]
