/-! rows of bays: pure -/
abbrev fmS (z R : Int → Int) (s k acc : Int) : Int := if 0 < z k ∧ z k ≤ s then (if R (s - z k) + 1 < acc then R (s - z k) + 1 else acc) else acc
def fmN (z R : Int → Int) (s : Int) : Nat → Int → Int → Int
  | 0, _, acc => acc
  | n + 1, k, acc => fmN z R s n (k + 1) (fmS z R s k acc)
def FM (z R : Int → Int) (s k acc : Int) : Int := fmN z R s (6 - k).toNat k acc
abbrev Rlx (s p q : Int) : Prop := (p = q ∧ 0 ≤ p ∧ p ≤ s) ∨ (p = 1000000 ∧ q = 100000)
abbrev pkS (z R : Int → Int) (rest t k sz : Int) : Int := if sz < z k ∧ z k ≤ rest ∧ R (rest - z k) = t then z k else sz
def pkN (z R : Int → Int) (rest t : Int) : Nat → Int → Int → Int
  | 0, _, sz => sz
  | n + 1, k, sz => pkN z R rest t n (k + 1) (pkS z R rest t k sz)
def PK (z R : Int → Int) (rest t k sz : Int) : Int := pkN z R rest t (6 - k).toNat k sz
def sqN (z R : Int → Int) : Nat → Int → List Int
  | 0, _ => []
  | n + 1, left => PK z R left n 0 0 :: sqN z R n (left - PK z R left n 0 0)
section FI
variable {z z' R Q : Int → Int}
theorem FM_e {s k acc : Int} (h : 6 ≤ k) : FM z R s k acc = acc := by
  unfold FM
  rw [show (6 - k).toNat = 0 by omega]
  rfl
theorem FM_s {s k acc : Int} (h : k < 6) : FM z R s k acc = FM z R s (k + 1) (fmS z R s k acc) := by
  unfold FM
  rw [show (6 - k).toNat = (6 - (k + 1)).toNat + 1 by omega]
  rfl
theorem FM_c {s : Int} (hz : ∀ k, 0 ≤ k → k < 6 → z k = z' k) (h : ∀ i, 0 ≤ i → i < s → R i = Q i) : ∀ k acc, 0 ≤ k → FM z R s k acc = FM z' Q s k acc := by
  refine up_ind 6 (fun k hk acc _ => ?_) (fun k hk ih acc k0 => ?_)
  · rw [FM_e hk, FM_e hk]
  · rw [FM_s hk, FM_s hk, ih _ (by omega)]
    congr 1
    unfold fmS
    rw [hz k k0 hk]
    by_cases q : 0 < z' k ∧ z' k ≤ s
    · rw [if_pos q, if_pos q, h (s - z' k) (by omega) (by omega)]
    · rw [if_neg q, if_neg q]
theorem FM_p {s : Int} : ∀ k acc, FM z R s k acc = acc ∨ ∃ j, k ≤ j ∧ j < 6 ∧ 0 < z j ∧ z j ≤ s ∧ FM z R s k acc = R (s - z j) + 1 := by
  refine up_ind 6 (fun k hk acc => ?_) (fun k hk ih acc => ?_)
  · exact Or.inl (FM_e hk)
  · rw [FM_s hk]
    rcases ih (fmS z R s k acc) with e | ⟨j, a, b, c, d, e⟩
    · rw [e]
      unfold fmS
      by_cases q : 0 < z k ∧ z k ≤ s
      · rw [if_pos q]
        by_cases q2 : R (s - z k) + 1 < acc
        · rw [if_pos q2]
          exact Or.inr ⟨k, by omega, hk, q.1, q.2, rfl⟩
        · rw [if_neg q2]
          exact Or.inl rfl
      · rw [if_neg q]
        exact Or.inl rfl
    · exact Or.inr ⟨j, by omega, b, c, d, e⟩
theorem FM_r {s : Int} (h : ∀ i, 0 ≤ i → i < s → 0 ≤ R i) : ∀ k acc, 0 ≤ acc → 0 ≤ FM z R s k acc ∧ FM z R s k acc ≤ acc := by
  refine up_ind 6 (fun k hk acc _ => ?_) (fun k hk ih acc a0 => ?_)
  · rw [FM_e hk]
    omega
  · rw [FM_s hk]
    have hs : 0 ≤ fmS z R s k acc ∧ fmS z R s k acc ≤ acc := by
      unfold fmS
      by_cases q : 0 < z k ∧ z k ≤ s
      · have := h (s - z k) (by omega) (by omega)
        rw [if_pos q]
        split <;> omega
      · rw [if_neg q]
        omega
    have := ih _ hs.1
    omega
theorem rl_st {s r a b p q : Int} (hr : r < s) (hs : s ≤ 1000) (ha : Rlx r a b) (hp : Rlx s p q) : Rlx s (if a + 1 < p then a + 1 else p) (if b + 1 < q then b + 1 else q) := by
  rcases ha with ⟨a1, a2, a3⟩ | ⟨a1, a2⟩
  · rcases hp with ⟨p1, p2, p3⟩ | ⟨p1, p2⟩
    · by_cases c : a + 1 < p
      · rw [if_pos c, if_pos (by omega)]
        exact Or.inl ⟨by omega, by omega, by omega⟩
      · rw [if_neg c, if_neg (by omega)]
        exact Or.inl ⟨p1, p2, p3⟩
    · rw [if_pos (by omega), if_pos (by omega)]
      exact Or.inl ⟨by omega, by omega, by omega⟩
  · rcases hp with ⟨p1, p2, p3⟩ | ⟨p1, p2⟩
    · rw [if_neg (by omega), if_neg (by omega)]
      exact Or.inl ⟨p1, p2, p3⟩
    · rw [if_neg (by omega), if_neg (by omega)]
      exact Or.inr ⟨p1, p2⟩
theorem FM_rl {s : Int} (s1 : s ≤ 1000) (h : ∀ i, 0 ≤ i → i < s → Rlx i (R i) (Q i)) : ∀ k p q, Rlx s p q → Rlx s (FM z R s k p) (FM z Q s k q) := by
  refine up_ind 6 (fun k hk p q hp => ?_) (fun k hk ih p q hp => ?_)
  · rw [FM_e hk, FM_e hk]
    exact hp
  · rw [FM_s hk, FM_s hk]
    apply ih
    unfold fmS
    by_cases c : 0 < z k ∧ z k ≤ s
    · have hr := h (s - z k) (by omega) (by omega)
      rw [if_pos c, if_pos c]
      exact rl_st (by omega) s1 hr hp
    · rw [if_neg c, if_neg c]
      exact hp
def FTb (z R : Int → Int) (big len : Int) : Prop := R 0 = 0 ∧ ∀ s, 1 ≤ s → s ≤ len → R s = FM z R s 0 big
theorem FTb_rl {len : Int} (hl : len ≤ 1000) (h1 : FTb z R 1000000 len) (h2 : FTb z' Q 100000 len) (hz : ∀ k, 0 ≤ k → k < 6 → z' k = z k) : ∀ s, 0 ≤ s → s ≤ len → Rlx s (R s) (Q s) := by
  have key : ∀ n : Nat, ∀ s : Int, s < n → 0 ≤ s → s ≤ len → Rlx s (R s) (Q s) := by
    intro n
    induction n with
    | zero => exact fun s a b => by omega
    | succ n ih =>
      intro s a b c
      by_cases e : s = 0
      · subst e
        rw [h1.1, h2.1]
        exact Or.inl ⟨rfl, by omega, by omega⟩
      · rw [h1.2 s (by omega) c, h2.2 s (by omega) c, FM_c hz (fun _ _ _ => rfl) 0 _ (by omega)]
        exact FM_rl (by omega) (fun i i0 i1 => ih i (by omega) i0 (by omega)) 0 _ _ (Or.inr ⟨rfl, rfl⟩)
  exact fun s a b => key (s + 1).toNat s (by omega) a b
theorem PK_e {rest t k sz : Int} (h : 6 ≤ k) : PK z R rest t k sz = sz := by
  unfold PK
  rw [show (6 - k).toNat = 0 by omega]
  rfl
theorem PK_s {rest t k sz : Int} (h : k < 6) : PK z R rest t k sz = PK z R rest t (k + 1) (pkS z R rest t k sz) := by
  unfold PK
  rw [show (6 - k).toNat = (6 - (k + 1)).toNat + 1 by omega]
  rfl
theorem PK_c {rest t : Int} (hz : ∀ k, 0 ≤ k → k < 6 → z k = z' k) (h : ∀ i, 0 ≤ i → i ≤ rest → (R i = t ↔ Q i = t)) : ∀ k sz, 0 ≤ k → 0 ≤ sz → PK z R rest t k sz = PK z' Q rest t k sz := by
  refine up_ind 6 (fun k hk sz _ _ => ?_) (fun k hk ih sz k0 s0 => ?_)
  · rw [PK_e hk, PK_e hk]
  · have e : pkS z R rest t k sz = pkS z' Q rest t k sz := by
      unfold pkS
      rw [hz k k0 hk]
      by_cases q : sz < z' k ∧ z' k ≤ rest
      · have := h (rest - z' k) (by omega) (by omega)
        by_cases q2 : R (rest - z' k) = t
        · rw [if_pos ⟨q.1, q.2, q2⟩, if_pos ⟨q.1, q.2, this.1 q2⟩]
        · rw [if_neg (fun w => q2 w.2.2), if_neg (fun w => q2 (this.2 w.2.2))]
      · rw [if_neg (fun w => q ⟨w.1, w.2.1⟩), if_neg (fun w => q ⟨w.1, w.2.1⟩)]
    have hp : 0 ≤ pkS z' Q rest t k sz := by
      unfold pkS
      split <;> omega
    rw [PK_s hk, PK_s hk, e, ih _ (by omega) hp]
theorem PK_p {rest t : Int} : ∀ k sz, sz ≤ PK z R rest t k sz ∧ (PK z R rest t k sz = sz ∨ ∃ j, k ≤ j ∧ j < 6 ∧ PK z R rest t k sz = z j ∧ z j ≤ rest ∧ R (rest - z j) = t) ∧ ∀ j, k ≤ j → j < 6 → z j ≤ rest → R (rest - z j) = t → z j ≤ PK z R rest t k sz := by
  refine up_ind 6 (fun k hk sz => ?_) (fun k hk ih sz => ?_)
  · rw [PK_e hk]
    exact ⟨by omega, Or.inl rfl, fun j a b => by omega⟩
  · rw [PK_s hk]
    obtain ⟨i1, i2, i3⟩ := ih (pkS z R rest t k sz)
    have hs : sz ≤ pkS z R rest t k sz := by
      unfold pkS
      split <;> omega
    have h2 : pkS z R rest t k sz = sz ∨ (pkS z R rest t k sz = z k ∧ z k ≤ rest ∧ R (rest - z k) = t) := by
      unfold pkS
      by_cases q : sz < z k ∧ z k ≤ rest ∧ R (rest - z k) = t
      · rw [if_pos q]
        exact Or.inr ⟨rfl, q.2⟩
      · rw [if_neg q]
        exact Or.inl rfl
    refine ⟨by omega, ?_, fun j a b c d => ?_⟩
    · rcases i2 with e | ⟨j, a, b, c⟩
      · rcases h2 with h2 | h2
        · exact Or.inl (by omega)
        · exact Or.inr ⟨k, by omega, hk, by omega, h2.2⟩
      · exact Or.inr ⟨j, by omega, b, c⟩
    · by_cases e : j = k
      · subst e
        have : z j ≤ pkS z R rest t j sz := by
          unfold pkS
          by_cases q : sz < z j
          · rw [if_pos ⟨q, c, d⟩]
            omega
          · rw [if_neg (fun w => q w.1)]
            omega
        omega
      · exact i3 j (by omega) b c d
theorem PK_0 {rest t : Int} (h : ∃ j, 0 ≤ j ∧ j < 6 ∧ 0 < z j ∧ z j ≤ rest ∧ R (rest - z j) = t) : 0 < PK z R rest t 0 0 ∧ PK z R rest t 0 0 ≤ rest ∧ R (rest - PK z R rest t 0 0) = t := by
  obtain ⟨j, a, b, c, d, e⟩ := h
  obtain ⟨p1, p2, p3⟩ := PK_p (z := z) (R := R) (rest := rest) (t := t) 0 0
  have := p3 j a b d e
  rcases p2 with q | ⟨i, q1, q2, q3, q4, q5⟩
  · omega
  · rw [q3]
    rw [q3] at this
    exact ⟨by omega, q4, q5⟩
theorem FTb_pk {len : Int} (h : FTb z R 1000000 len) {left : Int} {n : Nat} (l0 : 0 ≤ left) (l1 : left ≤ len) (hn : R left = n + 1) (hn2 : (n : Int) < 900000) : 0 < PK z R left n 0 0 ∧ PK z R left n 0 0 ≤ left ∧ R (left - PK z R left n 0 0) = n := by
  apply PK_0
  have e : left ≠ 0 := by
    intro e
    subst e
    rw [h.1] at hn
    omega
  have hr := h.2 left (by omega) l1
  rcases FM_p (z := z) (R := R) (s := left) 0 1000000 with q | ⟨j, a, b, c, d, q⟩
  · omega
  · exact ⟨j, a, b, c, d, by omega⟩
/-- the sum of the fewest bays, the greatest first -/
def fbN (T : Int) (R : Int → Int) : Nat → Int → Int → Int
  | 0, _, best => best
  | n + 1, s, best => fbN T R n (s - 1) (if R s < T ∧ (best = 0 ∨ R s < R best) then s else best)
def FB (T : Int) (R : Int → Int) (lo s best : Int) : Int := fbN T R (s + 1 - lo).toNat s best
theorem FB_e {T lo s best : Int} (h : s < lo) : FB T R lo s best = best := by
  unfold FB
  rw [show (s + 1 - lo).toNat = 0 by omega]
  rfl
theorem FB_s {T lo s best : Int} (h : lo ≤ s) : FB T R lo s best = FB T R lo (s - 1) (if R s < T ∧ (best = 0 ∨ R s < R best) then s else best) := by
  unfold FB
  rw [show (s + 1 - lo).toNat = (s - 1 + 1 - lo).toNat + 1 by omega]
  rfl
theorem FB_c {lo len : Int} (l0 : 1 ≤ lo) (hl : len ≤ 1000) (h : ∀ s, 0 ≤ s → s ≤ len → Rlx s (R s) (Q s)) : ∀ s best, s ≤ len → (best = 0 ∨ (0 < best ∧ best ≤ len ∧ R best < 1000000)) → FB 1000000 R lo s best = FB 100000 Q lo s best ∧ (FB 1000000 R lo s best = 0 ∨ (0 < FB 1000000 R lo s best ∧ FB 1000000 R lo s best ≤ len ∧ R (FB 1000000 R lo s best) < 1000000)) := by
  refine dn_ind lo (fun s hs best s1 hb => ?_) (fun s hs ih best s1 hb => ?_)
  · rw [FB_e hs, FB_e hs]
    exact ⟨rfl, hb⟩
  · rw [FB_s hs, FB_s hs]
    have hr := h s (by omega) s1
    have e : (if R s < 1000000 ∧ (best = 0 ∨ R s < R best) then s else best) = (if Q s < 100000 ∧ (best = 0 ∨ Q s < Q best) then s else best) := by
      have iff1 : (R s < 1000000 ∧ (best = 0 ∨ R s < R best)) ↔ (Q s < 100000 ∧ (best = 0 ∨ Q s < Q best)) := by
        rcases hb with hb | hb
        · rcases hr with ⟨r1, r2, r3⟩ | ⟨r1, r2⟩
          · exact ⟨fun _ => ⟨by omega, Or.inl hb⟩, fun _ => ⟨by omega, Or.inl hb⟩⟩
          · exact ⟨fun w => by have := w.1; omega, fun w => by have := w.1; omega⟩
        · have hr2 := h best (by omega) hb.2.1
          rcases hr2 with ⟨t1, t2, t3⟩ | ⟨t1, t2⟩
          · rcases hr with ⟨r1, r2, r3⟩ | ⟨r1, r2⟩
            · rw [r1, t1]
              exact ⟨fun w => ⟨by omega, w.2⟩, fun w => ⟨by omega, w.2⟩⟩
            · exact ⟨fun w => by have := w.1; omega, fun w => by have := w.1; omega⟩
          · have := hb.2.2
            omega
      by_cases q : R s < 1000000 ∧ (best = 0 ∨ R s < R best)
      · rw [if_pos q, if_pos (iff1.1 q)]
      · rw [if_neg q, if_neg (fun w => q (iff1.2 w))]
    rw [← e]
    apply ih _ (by omega)
    by_cases q : R s < 1000000 ∧ (best = 0 ∨ R s < R best)
    · rw [if_pos q]
      exact Or.inr ⟨by omega, s1, q.1⟩
    · rw [if_neg q]
      exact hb
end FI
