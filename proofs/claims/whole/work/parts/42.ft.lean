/-! fit -/
theorem up_up (μ : MM) (x i v w : Int) : up (up μ x i v) x i w = up μ x i w := by
  funext c j
  unfold up
  repeat' split
  all_goals first | rfl | omega
def pA (μ μ' : MM) : Prop := ∀ c i, c ≠ 7 → μ' c i = μ c i
def qA (μ μ' : MM) : Prop := ∀ c i, c ≠ 86 → μ' c i = μ c i
/-- found written behind those there -/
def Fo (μ μ' : MM) (xs : List Int) : Prop := (∀ c i, ¬ (c = 87 ∨ (c = 71 ∧ i = 21)) → μ' c i = μ c i) ∧ μ' 71 21 = μ 71 21 + xs.length ∧ (∀ j, j < μ 71 21 → μ' 87 j = μ 87 j) ∧ ∀ i : Int, 0 ≤ i → i < xs.length → μ' 87 (μ 71 21 + i) = cd xs i
theorem Fo_r (μ : MM) : Fo μ μ [] := ⟨fun _ _ _ => rfl, by simp, fun _ _ => rfl, fun i a b => by have b2 : i < ((0 : Nat) : Int) := b; omega⟩
section FTS
variable {M μ μ' : MM}
theorem Fo_c {x : Int} {xs : List Int} {m1 : MM} (h : Fo (up (up μ 87 (μ 71 21) x) 71 21 (μ 71 21 + 1)) m1 xs) : Fo μ m1 (x :: xs) := by
  obtain ⟨h1, h2, h3, h4⟩ := h
  have e0 : up (up μ 87 (μ 71 21) x) 71 21 (μ 71 21 + 1) 71 21 = μ 71 21 + 1 := up_s _ _ _ _
  rw [e0] at h2 h3 h4
  refine ⟨fun c i q => ?_, ?_, fun j q => ?_, fun i a b => ?_⟩
  · rw [h1 c i q, up_n _ _ (by omega), up_n _ _ (by omega)]
  · rw [h2, List.length_cons, Int.natCast_add]
    have : ((1 : Nat) : Int) = 1 := rfl
    omega
  · rw [h3 j (by omega), up_nc _ _ (by omega), up_ni _ _ (by omega)]
  · rw [List.length_cons, Int.natCast_add] at b
    by_cases e : i = 0
    · subst e
      rw [Int.add_zero, h3 _ (by omega), up_nc _ _ (by omega), up_s]
      rfl
    · rw [cd_s _ _ (by omega), ← h4 (i - 1) (by omega) (by have : ((1 : Nat) : Int) = 1 := rfl; omega), show μ 71 21 + 1 + (i - 1) = μ 71 21 + i by omega]
theorem c_fwI (hs : GS μ) {len s : Int} (s0 : 1 ≤ s) (s1 : s ≤ 1000) (hz : ∀ k, 0 ≤ k → k < 6 → 0 ≤ μ 2 k ∧ μ 2 k ≤ 100) (hR : ∀ i, 0 ≤ i → i < s → 0 ≤ μ 7 i ∧ μ 7 i ≤ 1000000) : ∀ k acc, 0 ≤ k → EE 86 30 [(45, 6), (30, 2), (0, len), (0, s), (0, acc), (0, k)] [] μ = EE 86 9 [(45, 6), (30, 2), (0, len), (0, s + 1), (9, 0), (9, 0)] [] (up μ 7 s (FM (μ 2) (μ 7) s k acc)) := by
  refine up_ind 6 (fun k hk acc k0 => ?_) (fun k hk ih acc k0 => ?_)
  · rw [q86_30, nn2, cle2, if_neg (by omega), hs.2.2.1.1, nn7, jx7 _ (by omega) (by omega), w32_l (by omega) (by omega), FM_e hk, q86_9, q86_9]
  · have z := hz k k0 hk
    rw [q86_30, nn2, cle2, if_pos hk, nn2, jx2 _ k0 hk, w32_l (x := k + 1) (by omega) (by omega), FM_s hk]
    by_cases q1 : 0 < μ 2 k
    · rw [if_pos q1, nn2, jx2 _ k0 hk]
      by_cases q2 : s < μ 2 k
      · have e : fmS (μ 2) (μ 7) s k acc = acc := if_neg (by omega)
        rw [if_pos q2, ih _ (by omega), e]
      · have r := hR (s - μ 2 k) (by omega) (by omega)
        have e : fmS (μ 2) (μ 7) s k acc = if μ 7 (s - μ 2 k) + 1 < acc then μ 7 (s - μ 2 k) + 1 else acc := if_pos (by omega)
        rw [if_neg q2, nn2, jx2 _ k0 hk, hs.2.2.1.1, nn7, w32_l (x := s - μ 2 k) (by omega) (by omega), jx7 _ (by omega) (by omega), w32_l (x := μ 7 (s - μ 2 k) + 1) (by omega) (by omega), ih _ (by omega), e]
    · have e : fmS (μ 2) (μ 7) s k acc = acc := if_neg (by omega)
      rw [if_neg q1, ih _ (by omega), e]
theorem c_fwO {len : Int} (l1 : len ≤ 1000) : ∀ s (μ : MM) d4 d5, 1 ≤ s → s ≤ len + 1 → GS μ → (∀ k, 0 ≤ k → k < 6 → 0 ≤ μ 2 k ∧ μ 2 k ≤ 100) → (∀ i, 0 ≤ i → i < s → 0 ≤ μ 7 i ∧ μ 7 i ≤ 1000000) → ∃ μ', EE 86 9 [(45, 6), (30, 2), (0, len), (0, s), d4, d5] [] μ = some (0, μ') ∧ pA μ μ' ∧ (∀ j, j < s → μ' 7 j = μ 7 j) ∧ ∀ j, s ≤ j → j ≤ len → μ' 7 j = FM (μ 2) (μ' 7) j 0 1000000 ∧ 0 ≤ μ' 7 j ∧ μ' 7 j ≤ 1000000 := by
  refine up_ind (len + 1) (fun s hs μ d4 d5 s0 s1 hg hz hR => ?_) (fun s hs ih μ d4 d5 s0 s1 hg hz hR => ?_)
  · rw [q86_9, if_pos (by omega)]
    exact ⟨μ, rfl, fun _ _ _ => rfl, fun _ _ => rfl, fun j a b => by omega⟩
  · have fr := FM_r (z := μ 2) (R := μ 7) (s := s) (fun i a b => (hR i a b).1) 0 1000000 (by omega)
    have e2 : up μ 7 s (FM (μ 2) (μ 7) s 0 1000000) 2 = μ 2 := by
      funext j
      exact up_nc _ _ (by omega)
    obtain ⟨m1, x1, x2, x3, x4⟩ := ih (up μ 7 s (FM (μ 2) (μ 7) s 0 1000000)) (9, 0) (9, 0) (by omega) (by omega) (GS_ag (fun c i q => up_nc _ _ (by omega)) hg) (by rw [e2]; exact hz) (fun i a b => by
      by_cases q : i = s
      · subst q
        rw [up_s]
        exact fr
      · rw [up_ni _ _ q]
        exact hR i a (by omega))
    refine ⟨m1, ?_, fun c i q => ?_, fun j q => ?_, fun j a b => ?_⟩
    · rw [q86_9, if_neg (by omega), hg.2.2.1.1, nn7, cle7, if_pos (by omega), c_fwI hg s0 (by omega) hz hR _ _ (by omega), x1]
    · rw [x2 c i q, up_nc _ _ q]
    · rw [x3 j (by omega), up_ni _ _ (by omega)]
    · by_cases q : j = s
      · subst q
        have e3 : m1 7 j = FM (μ 2) (μ 7) j 0 1000000 := by rw [x3 j (by omega), up_s]
        refine ⟨?_, by omega, by omega⟩
        rw [e3]
        refine FM_c (fun _ _ _ => rfl) (fun i i0 i1 => ?_) 0 _ (by omega)
        rw [x3 i (by omega), up_ni _ _ (by omega)]
      · have := x4 j (by omega) b
        rw [e2] at this
        exact this
theorem c_fewest (hs : GS μ) {len : Int} (l0 : 1 ≤ len) (l1 : len ≤ 1000) (hz : ∀ k, 0 ≤ k → k < 6 → 0 ≤ μ 2 k ∧ μ 2 k ≤ 100) : ∃ μ', EE 86 0 [(45, 6), (30, 2), (0, len), (9, 0), (9, 0), (9, 0)] [] μ = some (0, μ') ∧ pA μ μ' ∧ FTb (μ 2) (μ' 7) 1000000 len ∧ ∀ j, 0 ≤ j → j ≤ len → 0 ≤ μ' 7 j ∧ μ' 7 j ≤ 1000000 := by
  have e2 : up μ 7 0 0 2 = μ 2 := by
    funext j
    exact up_nc _ _ (by omega)
  obtain ⟨m1, x1, x2, x3, x4⟩ := c_fwO l1 1 (up μ 7 0 0) (9, 0) (9, 0) (by omega) (by omega) (GS_ag (fun c i q => up_nc _ _ (by omega)) hs) (by rw [e2]; exact hz) (fun i a b => by
    rw [show i = 0 by omega, up_s]
    omega)
  have e0 : m1 7 0 = 0 := by rw [x3 0 (by omega), up_s]
  refine ⟨m1, ?_, fun c i q => ?_, ⟨e0, fun s a b => ?_⟩, fun j a b => ?_⟩
  · rw [q86_0, hs.2.2.1.1, nn7, jx7 _ (by omega) (by omega), x1]
  · rw [x2 c i q, up_nc _ _ q]
  · have := (x4 s a b).1
    rw [e2] at this
    exact this
  · by_cases q : j = 0
    · rw [q, e0]
      omega
    · exact (x4 j (by omega) b).2
def loO (len gap : Int) : Int := if len - gap < 1 then 1 else len - gap
theorem c_fitLoop {len gap : Int} (l0 : 1 ≤ len ∧ len ≤ 1000) (g0 : 0 ≤ gap ∧ gap ≤ 99) (R : Int → Int) (hR : ∀ j, 0 ≤ j → j ≤ len → 0 ≤ R j ∧ R j ≤ 1000000) : ∀ s (μ : MM) best d1, s ≤ len → GS μ → μ 7 = R → (best = 0 ∨ (0 < best ∧ best ≤ len ∧ R best < 1000000)) → μ 6 0 = (if best = 0 then 1000000 else R best) → (best ≠ 0 → μ 6 1 = best) →
    ∃ μ', EE 85 15 [(45, 6), d1, (0, len), (0, gap), (0, s)] [] μ = some (b2i (FB 1000000 R (loO len gap) s best ≠ 0), μ') ∧ (∀ c i, ¬ (c = 6 ∧ i ≤ 1) → μ' c i = μ c i) ∧ (FB 1000000 R (loO len gap) s best ≠ 0 → μ' 6 0 = R (FB 1000000 R (loO len gap) s best) ∧ μ' 6 1 = FB 1000000 R (loO len gap) s best) := by
  have lo1 : 1 ≤ loO len gap ∧ len - gap ≤ loO len gap ∧ (loO len gap = 1 ∨ loO len gap = len - gap) := by
    unfold loO
    split <;> omega
  refine dn_ind (loO len gap) (fun s hs μ best d1 s1 hg h7 hb h0 h1 => ?_) (fun s hs ih μ best d1 s1 hg h7 hb h0 h1 => ?_)
  · have e : (if μ 6 0 < 1000000 then some ((1 : Int), μ) else some (0, μ)) = some (b2i (best ≠ 0), μ) := by
      rw [h0]
      by_cases q : best = 0
      · rw [if_pos q, if_neg (by omega), b2i_f (fun w => w q)]
      · rw [if_neg q, if_pos (by omega), b2i_t q]
    rw [q85_15, w32_l (by omega) (by omega), e, FB_e hs]
    refine ⟨μ, ?_, fun _ _ _ => rfl, fun q => ?_⟩
    · by_cases q : s < 1
      · rw [if_pos q]
      · rw [if_neg q, if_pos (by omega)]
    · rw [if_neg q] at h0
      exact ⟨h0, h1 q⟩
  · have r := hR s (by omega) s1
    have e7 : μ 7 s = R s := by rw [h7]
    rw [q85_15, if_neg (by omega), w32_l (by omega) (by omega), if_neg (by omega), hg.2.2.1.1, nn7, jx7 _ (by omega) (by omega), nn7, jx7 _ (by omega) (by omega), w32_l (by omega) (by omega), FB_s hs, e7, show s + -1 = s - 1 by omega]
    have iff1 : R s < μ 6 0 ↔ (R s < 1000000 ∧ (best = 0 ∨ R s < R best)) := by
      rw [h0]
      by_cases q : best = 0
      · rw [if_pos q]
        exact ⟨fun w => ⟨w, Or.inl q⟩, fun w => w.1⟩
      · rw [if_neg q]
        exact ⟨fun w => ⟨by omega, Or.inr w⟩, fun w => w.2.elim (fun y => absurd y q) id⟩
    by_cases q : R s < μ 6 0
    · rw [if_pos q, if_pos (iff1.1 q)]
      have e3 : ∀ c i, ¬ (c = 6 ∧ i ≤ 1) → up (up μ 6 0 (R s)) 6 1 s c i = μ c i := by
        intro c i w
        rw [up_n _ _ (by omega), up_n _ _ (by omega)]
      obtain ⟨m1, x1, x2, x3⟩ := ih (up (up μ 6 0 (R s)) 6 1 s) s (9, 0) (by omega) (GS_ag (fun c i w => e3 c i (by omega)) hg) (by
        rw [← h7]
        funext j
        exact e3 7 j (by omega)) (Or.inr ⟨by omega, s1, (iff1.1 q).1⟩) (by rw [if_neg (by omega), up_ni _ _ (by omega), up_s]) (fun _ => up_s _ _ _ _)
      exact ⟨m1, x1, fun c i w => (x2 c i w).trans (e3 c i w), x3⟩
    · rw [if_neg q, if_neg (fun w => q (iff1.2 w))]
      obtain ⟨m1, x1, x2, x3⟩ := ih μ best (9, 0) (by omega) hg h7 hb h0 h1
      exact ⟨m1, x1, x2, x3⟩
theorem c_fitPick (hs : GS μ) (hz : ∀ k, 0 ≤ k → k < 6 → 0 ≤ μ 2 k ∧ μ 2 k ≤ 100) {i rest step : Int} (r0 : 0 ≤ rest ∧ rest ≤ 1000) (hm : 0 ≤ μ 6 0 ∧ μ 6 0 ≤ 1000000) (hst : 0 ≤ step ∧ step ≤ 1000) : ∀ k sz, 0 ≤ k → 0 ≤ sz → sz ≤ 100 → EE 87 32 [(45, 6), (30, 2), (0, i), (0, rest), (0, sz), (0, step), (0, k)] [] μ = EE 87 11 [(45, 6), (30, 2), (0, i), (0, rest - PK (μ 2) (μ 7) rest (μ 6 0 - step - 1) k sz), (0, PK (μ 2) (μ 7) rest (μ 6 0 - step - 1) k sz), (0, step + 1), (9, 0)] [] μ := by
  refine up_ind 6 (fun k hk sz k0 s0 s1 => ?_) (fun k hk ih sz k0 s0 s1 => ?_)
  · rw [q87_32, nn2, cle2, if_neg (by omega), w32_l (by omega) (by omega), w32_l (by omega) (by omega), PK_e hk, q87_11, q87_11]
  · have z := hz k k0 hk
    rw [q87_32, nn2, cle2, if_pos hk, nn2, jx2 _ k0 hk, w32_l (x := k + 1) (by omega) (by omega), PK_s hk]
    by_cases q1 : sz < μ 2 k
    · rw [if_pos q1, nn2, jx2 _ k0 hk]
      by_cases q2 : rest < μ 2 k
      · have e : pkS (μ 2) (μ 7) rest (μ 6 0 - step - 1) k sz = sz := if_neg (by omega)
        rw [if_pos q2, ih _ (by omega) s0 s1, e]
      · rw [if_neg q2, nn2, jx2 _ k0 hk, hs.2.2.1.1, nn7, w32_l (x := rest - μ 2 k) (by omega) (by omega), jx7 _ (by omega) (by omega), w32_l (x := μ 6 0 - step) (by omega) (by omega), w32_l (x := μ 6 0 - step - 1) (by omega) (by omega), nn2, jx2 _ k0 hk]
        by_cases q3 : μ 7 (rest - μ 2 k) = μ 6 0 - step - 1
        · have e : pkS (μ 2) (μ 7) rest (μ 6 0 - step - 1) k sz = μ 2 k := if_pos ⟨q1, by omega, q3⟩
          rw [if_pos q3, ih _ (by omega) (by omega) (by omega), e]
        · have e : pkS (μ 2) (μ 7) rest (μ 6 0 - step - 1) k sz = sz := if_neg (fun w => q3 w.2.2)
          rw [if_neg q3, ih _ (by omega) s0 s1, e]
    · have e : pkS (μ 2) (μ 7) rest (μ 6 0 - step - 1) k sz = sz := if_neg (fun w => q1 w.1)
      rw [if_neg q1, ih _ (by omega) s0 s1, e]
theorem c_fitted (hs : GS μ) (hz : ∀ k, 0 ≤ k → k < 6 → 0 ≤ μ 2 k ∧ μ 2 k ≤ 100) {len i : Int} (l1 : len ≤ 1000) (ht : FTb (μ 2) (μ 7) 1000000 len) (hm : 0 ≤ μ 6 0 ∧ μ 6 0 ≤ 1000) (i1 : i < μ 6 0) : ∀ step rest sz d6, 0 ≤ step → step ≤ i → 0 ≤ rest → rest ≤ len → μ 7 rest = μ 6 0 - step → EE 87 11 [(45, 6), (30, 2), (0, i), (0, rest), (0, sz), (0, step), d6] [] μ = some (cd (sqN (μ 2) (μ 7) (μ 6 0 - step).toNat rest) (i - step), μ) := by
  refine up_ind (i + 1) (fun step h rest sz d6 a b => by omega) (fun step h ih rest sz d6 s0 s1 r0 r1 hr => ?_)
  have hn : (μ 6 0 - step).toNat = (μ 6 0 - step - 1).toNat + 1 := by omega
  have hc : (((μ 6 0 - step - 1).toNat : Nat) : Int) = μ 6 0 - step - 1 := by omega
  have pk := FTb_pk ht (n := (μ 6 0 - step - 1).toNat) r0 r1 (by omega) (by omega)
  rw [hc] at pk
  rw [q87_11, if_neg (by omega), if_pos (by omega), c_fitPick hs hz ⟨r0, by omega⟩ (by omega) (by omega) _ _ (by omega) (by omega) (by omega), hn, sqN, hc]
  by_cases e : step = i
  · rw [q87_11, if_pos (by omega), e, show i - i = 0 by omega, cd_0]
  · rw [ih _ _ _ (by omega) (by omega) (by omega) (by omega) (by omega), cd_s _ _ (by omega), show (μ 6 0 - (step + 1)).toNat = (μ 6 0 - step - 1).toNat by omega, show i - (step + 1) = i - step - 1 by omega]
theorem m_fwI (hm : MRf μ) {len s : Int} (s0 : 0 ≤ s) (s1 : s ≤ 1000) (hz : ∀ k, 0 ≤ k → k < 6 → 0 ≤ μ 72 k ∧ μ 72 k ≤ 100) (hR : ∀ i, 0 ≤ i → i < s → 0 ≤ μ 86 i ∧ μ 86 i ≤ 1000000) : ∀ k acc d4, 0 ≤ k → EE 161 25 [(48, 71), (0, len), (0, s), (0, k), d4] [] (up μ 86 s acc) = EE 161 2 [(48, 71), (0, len), (0, s + 1), (9, 0), (9, 0)] [] (up μ 86 s (FM (μ 72) (μ 86) s k acc)) := by
  refine up_ind 6 (fun k hk acc d4 k0 => ?_) (fun k hk ih acc d4 k0 => ?_)
  · rw [q161_25, if_neg (by omega), w32_l (by omega) (by omega), FM_e hk, q161_2, q161_2]
  · have z := hz k k0 hk
    have hm' : MRf (up μ 86 s acc) := MRf_ag (fun i _ => up_nc _ _ (by omega)) hm
    have e72 : up μ 86 s acc 72 k = μ 72 k := up_nc _ _ (by omega)
    have e86 : up μ 86 s acc 86 s = acc := up_s _ _ _ _
    rw [q161_25, if_pos hk, hm'.c0, nn72, jx72 _ (by omega) (by omega), e72, w32_l (x := k + 1) (by omega) (by omega), FM_s hk]
    by_cases q1 : 0 < μ 72 k
    · rw [if_pos q1]
      by_cases q2 : s < μ 72 k
      · have e : fmS (μ 72) (μ 86) s k acc = acc := if_neg (by omega)
        rw [if_pos q2, ih _ _ (by omega), e]
      · have r := hR (s - μ 72 k) (by omega) (by omega)
        have er : up μ 86 s acc 86 (s - μ 72 k) = μ 86 (s - μ 72 k) := up_ni _ _ (by omega)
        have e : fmS (μ 72) (μ 86) s k acc = if μ 86 (s - μ 72 k) + 1 < acc then μ 86 (s - μ 72 k) + 1 else acc := if_pos (by omega)
        rw [if_neg q2, hm'.c19, nn86, w32_l (x := s - μ 72 k) (by omega) (by omega), jx86 _ (by omega) (by omega), nn86, jx86 _ (by omega) (by omega), er, e86, w32_l (x := μ 86 (s - μ 72 k) + 1) (by omega) (by omega), nn86, jx86 _ (by omega) (by omega), nn86, jx86 _ (by omega) (by omega), up_up, ih _ _ (by omega), ih _ _ (by omega), e]
        by_cases q3 : μ 86 (s - μ 72 k) + 1 < acc
        · rw [if_pos q3, if_pos q3]
        · rw [if_neg q3, if_neg q3]
    · have e : fmS (μ 72) (μ 86) s k acc = acc := if_neg (by omega)
      rw [if_neg q1, ih _ _ (by omega), e]
theorem m_fwO {len : Int} (l1 : len ≤ 1000) : ∀ s (μ : MM) d3 d4, 0 ≤ s → s ≤ len + 1 → MRf μ → (∀ k, 0 ≤ k → k < 6 → 0 ≤ μ 72 k ∧ μ 72 k ≤ 100) → (∀ i, 0 ≤ i → i < s → 0 ≤ μ 86 i ∧ μ 86 i ≤ 1000000) → ∃ μ', EE 161 2 [(48, 71), (0, len), (0, s), d3, d4] [] μ = some (0, μ') ∧ qA μ μ' ∧ (∀ j, j < s → μ' 86 j = μ 86 j) ∧ ∀ j, s ≤ j → j ≤ len → μ' 86 j = FM (μ 72) (μ' 86) j 0 (if j = 0 then 0 else 100000) ∧ 0 ≤ μ' 86 j ∧ μ' 86 j ≤ 1000000 := by
  refine up_ind (len + 1) (fun s hs μ d3 d4 s0 s1 hg hz hR => ?_) (fun s hs ih μ d3 d4 s0 s1 hg hz hR => ?_)
  · rw [q161_2, if_pos (by omega)]
    exact ⟨μ, rfl, fun _ _ _ => rfl, fun _ _ => rfl, fun j a b => by omega⟩
  · have ha : 0 ≤ (if s = 0 then (0 : Int) else 100000) ∧ (if s = 0 then (0 : Int) else 100000) ≤ 100000 := by split <;> omega
    have fr := FM_r (z := μ 72) (R := μ 86) (s := s) (fun i a b => (hR i a b).1) 0 (if s = 0 then 0 else 100000) ha.1
    generalize hv : FM (μ 72) (μ 86) s 0 (if s = 0 then 0 else 100000) = v at *
    have e2 : up μ 86 s v 72 = μ 72 := by
      funext j
      exact up_nc _ _ (by omega)
    obtain ⟨m1, x1, x2, x3, x4⟩ := ih (up μ 86 s v) (9, 0) (9, 0) (by omega) (by omega) (MRf_ag (fun i _ => up_nc _ _ (by omega)) hg) (by rw [e2]; exact hz) (fun i a b => by
      by_cases q : i = s
      · subst q
        rw [up_s]
        omega
      · rw [up_ni _ _ q]
        exact hR i a (by omega))
    refine ⟨m1, ?_, fun c i q => ?_, fun j q => ?_, fun j a b => ?_⟩
    · rw [q161_2, if_neg (by omega), hg.c19, nn86, jx86 _ (by omega) (by omega), nn86, jx86 _ (by omega) (by omega)]
      by_cases q : s = 0
      · rw [if_pos q] at hv ⊢
        rw [m_fwI hg s0 (by omega) hz hR _ _ _ (by omega), hv, x1]
      · rw [if_neg q] at hv ⊢
        rw [m_fwI hg s0 (by omega) hz hR _ _ _ (by omega), hv, x1]
    · rw [x2 c i q, up_nc _ _ q]
    · rw [x3 j (by omega), up_ni _ _ (by omega)]
    · by_cases q : j = s
      · subst q
        have e3 : m1 86 j = v := by rw [x3 j (by omega), up_s]
        refine ⟨?_, by omega, by omega⟩
        rw [e3, ← hv]
        refine FM_c (fun _ _ _ => rfl) (fun i i0 i1 => ?_) 0 _ (by omega)
        rw [x3 i (by omega), up_ni _ _ (by omega)]
      · have := x4 j (by omega) b
        rw [e2] at this
        exact this
theorem m_fewest (hm : MRf μ) {len : Int} (l0 : 1 ≤ len) (l1 : len ≤ 1000) (hz : ∀ k, 0 ≤ k → k < 6 → 0 ≤ μ 72 k ∧ μ 72 k ≤ 100) : ∃ μ', EE 161 0 [(48, 71), (0, len), (9, 0), (9, 0), (9, 0)] [] μ = some (0, μ') ∧ qA μ μ' ∧ FTb (μ 72) (μ' 86) 100000 len ∧ ∀ j, 0 ≤ j → j ≤ len → 0 ≤ μ' 86 j ∧ μ' 86 j ≤ 1000000 := by
  obtain ⟨m1, x1, x2, x3, x4⟩ := m_fwO l1 0 μ (9, 0) (9, 0) (by omega) (by omega) hm hz (fun i a b => by omega)
  refine ⟨m1, ?_, x2, ⟨?_, fun s a b => ?_⟩, fun j a b => (x4 j a b).2⟩
  · rw [q161_0, x1]
  · have h0 := x4 0 (by omega) (by omega)
    have fr := FM_r (z := μ 72) (R := m1 86) (s := 0) (fun i a b => by omega) 0 0 (by omega)
    have h1 := h0.1
    rw [if_pos rfl] at h1
    omega
  · have := (x4 s (by omega) b).1
    rw [if_neg (by omega)] at this
    exact this
end FTS
