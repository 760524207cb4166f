/-! join -/
section JO
variable {M μ μ' : MM}
theorem c_jcI (hs : GS μ) {s : Int} (s0 : 1 ≤ s) (s1 : s ≤ 2000) (hz : ∀ k, 0 ≤ k → k < 6 → 0 ≤ μ 3 k ∧ μ 3 k ≤ 100) : ∀ k acc, 0 ≤ k → EE 89 23 [(45, 6), (30, 3), (0, s), (0, acc), (0, k)] [] μ = EE 89 9 [(45, 6), (30, 3), (0, s + 1), (9, 0), (9, 0)] [] (up μ 7 s (bin 3 (JC (μ 3) (μ 7) s k acc) 2097151)) := by
  refine up_ind 6 (fun k hk acc k0 => ?_) (fun k hk ih acc k0 => ?_)
  · rw [q89_23, nn3, cle3, if_neg (by omega), hs.2.2.1.1, nn7, jx7 _ (by omega) (by omega), w32_l (by omega) (by omega), JC_e hk, q89_9, q89_9]
  · have z := hz k k0 hk
    rw [q89_23, nn3, cle3, if_pos hk, nn3, jx3 _ k0 hk, w32_l (x := k + 1) (by omega) (by omega), JC_s hk]
    by_cases q1 : 0 < μ 3 k
    · rw [if_pos q1, nn3, jx3 _ k0 hk]
      by_cases q2 : s < μ 3 k
      · have e : jcS (μ 3) (μ 7) s k acc = acc := if_neg (by omega)
        rw [if_pos q2, ih _ (by omega), e]
      · have e : jcS (μ 3) (μ 7) s k acc = bin 4 acc (bin 5 (μ 7 (s - μ 3 k)) 1) := if_pos (by omega)
        rw [if_neg q2, nn3, jx3 _ k0 hk, hs.2.2.1.1, nn7, w32_l (x := s - μ 3 k) (by omega) (by omega), jx7 _ (by omega) (by omega), ih _ (by omega), e]
    · have e : jcS (μ 3) (μ 7) s k acc = acc := if_neg (by omega)
      rw [if_neg q1, ih _ (by omega), e]
theorem c_jcO : ∀ s (μ : MM) d3 d4, 1 ≤ s → s ≤ 2001 → GS μ → (∀ k, 0 ≤ k → k < 6 → 0 ≤ μ 3 k ∧ μ 3 k ≤ 100) → ∃ μ', EE 89 9 [(45, 6), (30, 3), (0, s), d3, d4] [] μ = some (0, μ') ∧ pA μ μ' ∧ (∀ j, j < s → μ' 7 j = μ 7 j) ∧ ∀ j, s ≤ j → j ≤ 2000 → μ' 7 j = bin 3 (JC (μ 3) (μ' 7) j 0 0) 2097151 := by
  refine up_ind 2001 (fun s hs μ d3 d4 s0 s1 hg hz => ?_) (fun s hs ih μ d3 d4 s0 s1 hg hz => ?_)
  · rw [q89_9, hg.2.2.1.1, nn7, cle7, if_neg (by omega)]
    exact ⟨μ, rfl, fun _ _ _ => rfl, fun _ _ => rfl, fun j a b => by omega⟩
  · generalize hv : bin 3 (JC (μ 3) (μ 7) s 0 0) 2097151 = v
    have e2 : up μ 7 s v 3 = μ 3 := by
      funext j
      exact up_nc _ _ (by omega)
    obtain ⟨m1, x1, x2, x3, x4⟩ := ih (up μ 7 s v) (9, 0) (9, 0) (by omega) (by omega) (GS_ag (fun c i q => up_nc _ _ (by omega)) hg) (by rw [e2]; exact hz)
    refine ⟨m1, ?_, fun c i q => ?_, fun j q => ?_, fun j a b => ?_⟩
    · rw [q89_9, hg.2.2.1.1, nn7, cle7, if_pos (by omega), c_jcI hg s0 (by omega) hz _ _ (by omega), hv, x1]
    · rw [x2 c i q, up_nc _ _ q]
    · rw [x3 j (by omega), up_ni _ _ (by omega)]
    · by_cases q : j = s
      · subst q
        rw [x3 j (by omega), up_s, ← hv]
        congr 1
        refine JC_c (fun i i0 i1 => ?_) 0 _ (by omega)
        rw [x3 i (by omega), up_ni _ _ (by omega)]
      · have := x4 j (by omega) b
        rw [e2] at this
        exact this
theorem c_counts (hs : GS μ) (hz : ∀ k, 0 ≤ k → k < 6 → 0 ≤ μ 3 k ∧ μ 3 k ≤ 100) : ∃ μ', EE 89 0 [(45, 6), (30, 3), (9, 0), (9, 0), (9, 0)] [] μ = some (0, μ') ∧ pA μ μ' ∧ JT (μ 3) (μ' 7) := by
  have e2 : up μ 7 0 1 3 = μ 3 := by
    funext j
    exact up_nc _ _ (by omega)
  obtain ⟨m1, x1, x2, x3, x4⟩ := c_jcO 1 (up μ 7 0 1) (9, 0) (9, 0) (by omega) (by omega) (GS_ag (fun c i q => up_nc _ _ (by omega)) hs) (by rw [e2]; exact hz)
  refine ⟨m1, ?_, fun c i q => ?_, ⟨?_, fun s a b => ?_⟩⟩
  · rw [q89_0, hs.2.2.1.1, nn7, jx7 _ (by omega) (by omega), x1]
  · rw [x2 c i q, up_nc _ _ q]
  · rw [x3 0 (by omega), up_s]
  · have := x4 s a b
    rw [e2] at this
    exact this
theorem c_makes (hs : GS μ) (hr : ∀ s, 0 ≤ s → s ≤ 2000 → 0 ≤ μ 7 s ∧ μ 7 s < 2097152) {n : Int} (n0 : 0 ≤ n) (n1 : n ≤ 20) (s : Int) : EE 90 0 [(45, 6), (0, s), (0, n)] [] μ = some (b2i (0 ≤ s ∧ s ≤ 2000 ∧ bt (μ 7 s) n), μ) := by
  rw [q90_0, hs.2.2.1.1, nn7, cle7, w32_l (by omega) (by omega), c_within, bnd_s]
  simp only [b2i_0, ite_not]
  by_cases e : 0 ≤ s ∧ s ≤ 2001 - 1
  · have r := hr s e.1 (by omega)
    rw [if_pos e, hs.2.2.1.1, nn7, jx7 _ (by omega) (by omega)]
    by_cases q : bt (μ 7 s) n
    · rw [if_pos ((mk_bt (by omega) ⟨n0, n1⟩).2 q), b2i_t ⟨e.1, by omega, q⟩]
    · rw [if_neg (fun w => q ((mk_bt (by omega) ⟨n0, n1⟩).1 w)), b2i_f (fun w => q w.2.2)]
  · rw [if_neg e, b2i_f (fun w => e ⟨w.1, by omega⟩)]
abbrev fsC (R : Int → Int) (n s : Int) : Int := FU (fun s => bt (R s) n) (-1) s 2001
theorem c_joinI (hs : GS μ) (ht : JT (μ 3) (μ 7)) (hz : ∀ k, 0 ≤ k → k < 6 → μ 3 k ≤ 100) {len lap n : Int} (n0 : 1 ≤ n) (n1 : n ≤ 20) : ∀ s d1, 0 ≤ s → s ≤ 3000 → EE 88 25 [(45, 6), d1, (0, len), (0, lap), (0, n), (0, s)] [] μ = if fsC (μ 7) n s ≠ -1 then some (1, up (up μ 6 0 n) 6 1 (fsC (μ 7) n s)) else EE 88 8 [(45, 6), (9, 0), (0, len), (0, lap), (0, n + 1), (9, 0)] [] μ := by
  have hr := JT_r ht
  refine up_ind 2001 (fun s hs2 d1 s0 s1 => ?_) (fun s hs2 ih d1 s0 s1 => ?_)
  · rw [q88_25, w32_l (by omega) (by omega), if_pos (by omega), w32_l (by omega) (by omega)]
    unfold fsC
    rw [FU_e hs2, if_neg (fun q => q rfl), q88_8, q88_8]
  · by_cases e : n * 100 < s
    · have hn : fsC (μ 7) n s = -1 := (FU_n s0).2 (fun j j0 j1 q => by
        have := JT_m ht hz j n (by omega) (by omega) (by omega) n1 q
        omega)
      rw [q88_25, w32_l (by omega) (by omega), if_pos e, w32_l (by omega) (by omega), hn, if_neg (fun q => q rfl), q88_8, q88_8]
    · rw [q88_25, w32_l (by omega) (by omega), if_neg e, hs.2.2.1.1, nn7, cle7, if_pos hs2, c_makes hs hr (by omega) n1, bnd_s, w32_l (by omega) (by omega), ih _ (by omega) (by omega)]
      simp only [b2i_0]
      unfold fsC
      rw [FU_s hs2]
      by_cases q : bt (μ 7 s) n
      · rw [if_neg (fun w => w ⟨s0, by omega, q⟩), if_pos q, if_pos (by omega)]
      · rw [if_pos (fun w => q w.2.2), if_neg q]
theorem lapb {len lap n : Int} (l0 : 1 ≤ len ∧ len ≤ 400) (p0 : 0 ≤ lap ∧ lap ≤ 50) (n0 : 1 ≤ n) (n1 : n ≤ 20) : (0 ≤ lap * (n - 1) ∧ lap * (n - 1) ≤ 950) ∧ w32 (len + w32 (lap * w32 (n - 1))) = len + lap * (n - 1) := by
  have p := mul_b (a := lap) (b := n - 1) (c := 50) (d := 19) (by omega) (by omega) (by omega) (by omega)
  refine ⟨p, ?_⟩
  rw [w32_l (x := n - 1) (by omega) (by omega), w32_l (x := lap * (n - 1)) (by omega) (by omega), w32_l (by omega) (by omega)]
abbrev nsC (R : Int → Int) (len lap n : Int) : Int := FU (fun n => fsC R n (len + lap * (n - 1)) ≠ -1) (-1) n 21
theorem c_joinO (hs : GS μ) (ht : JT (μ 3) (μ 7)) (hz : ∀ k, 0 ≤ k → k < 6 → μ 3 k ≤ 100) {len lap : Int} (l0 : 1 ≤ len ∧ len ≤ 400) (p0 : 0 ≤ lap ∧ lap ≤ 50) : ∀ n d1 d5, 1 ≤ n → EE 88 8 [(45, 6), d1, (0, len), (0, lap), (0, n), d5] [] μ = if nsC (μ 7) len lap n = -1 then some (0, μ) else some (1, up (up μ 6 0 (nsC (μ 7) len lap n)) 6 1 (fsC (μ 7) (nsC (μ 7) len lap n) (len + lap * (nsC (μ 7) len lap n - 1)))) := by
  refine up_ind 21 (fun n hn d1 d5 n0 => ?_) (fun n hn ih d1 d5 n0 => ?_)
  · have e : nsC (μ 7) len lap n = -1 := FU_e hn
    rw [q88_8, if_pos (by omega), e, if_pos rfl]
  · obtain ⟨lb, lw⟩ := lapb l0 p0 n0 (show n ≤ 20 by omega)
    have e : nsC (μ 7) len lap n = if fsC (μ 7) n (len + lap * (n - 1)) ≠ -1 then n else nsC (μ 7) len lap (n + 1) := FU_s hn
    rw [q88_8, if_neg (by omega), lw, c_joinI hs ht hz n0 (by omega) _ _ (by omega) (by omega), ih _ _ (by omega), e]
    by_cases q : fsC (μ 7) n (len + lap * (n - 1)) ≠ -1
    · rw [if_pos q, if_pos q, if_neg (by omega)]
    · rw [if_neg q, if_neg q]
/-- the class' tubes -/
abbrev pC (R : Int → Int) (t i : Int) : Int := b2i (bt (R i) t)
theorem c_joPick (hs : GS μ) (hr : ∀ s, 0 ≤ s → s ≤ 2000 → 0 ≤ μ 7 s ∧ μ 7 s < 2097152) (hz : ∀ k, 0 ≤ k → k < 6 → 0 ≤ μ 3 k ∧ μ 3 k ≤ 100) {i rest step : Int} (r0 : 0 ≤ rest ∧ rest ≤ 2000) (hm : 0 ≤ μ 6 0 - step - 1 ∧ μ 6 0 - step - 1 ≤ 20) (hst : 0 ≤ step ∧ step ≤ 1000) : ∀ k sz, 0 ≤ k → 0 ≤ sz → sz ≤ 100 → EE 91 32 [(45, 6), (30, 3), (0, i), (0, rest), (0, sz), (0, step), (0, k)] [] μ = EE 91 11 [(45, 6), (30, 3), (0, i), (0, rest - PK (μ 3) (pC (μ 7) (μ 6 0 - step - 1)) rest 1 k sz), (0, PK (μ 3) (pC (μ 7) (μ 6 0 - step - 1)) rest 1 k sz), (0, step + 1), (9, 0)] [] μ := by
  refine up_ind 6 (fun k hk sz k0 s0 s1 => ?_) (fun k hk ih sz k0 s0 s1 => ?_)
  · rw [q91_32, nn3, cle3, if_neg (by omega), w32_l (by omega) (by omega), w32_l (by omega) (by omega), PK_e hk, q91_11, q91_11]
  · have z := hz k k0 hk
    rw [q91_32, nn3, cle3, if_pos hk, nn3, jx3 _ k0 hk, w32_l (x := k + 1) (by omega) (by omega), PK_s hk]
    by_cases q1 : sz < μ 3 k
    · rw [if_pos q1, nn3, jx3 _ k0 hk, w32_l (x := rest - μ 3 k) (by omega) (by omega), w32_l (x := μ 6 0 - step) (by omega) (by omega), w32_l (x := μ 6 0 - step - 1) (by omega) (by omega), c_makes hs hr hm.1 hm.2, bnd_s, nn3, jx3 _ k0 hk]
      simp only [b2i_0]
      by_cases q3 : 0 ≤ rest - μ 3 k ∧ rest - μ 3 k ≤ 2000 ∧ bt (μ 7 (rest - μ 3 k)) (μ 6 0 - step - 1)
      · have e : pkS (μ 3) (pC (μ 7) (μ 6 0 - step - 1)) rest 1 k sz = μ 3 k := if_pos ⟨q1, by omega, b2i_t q3.2.2⟩
        rw [if_neg (fun w => w q3), ih _ (by omega) (by omega) (by omega), e]
      · have e : pkS (μ 3) (pC (μ 7) (μ 6 0 - step - 1)) rest 1 k sz = sz := if_neg (fun w => q3 ⟨by omega, by omega, b2i_1.1 w.2.2⟩)
        rw [if_pos q3, ih _ (by omega) s0 s1, e]
    · have e : pkS (μ 3) (pC (μ 7) (μ 6 0 - step - 1)) rest 1 k sz = sz := if_neg (fun w => q1 w.1)
      rw [if_neg q1, ih _ (by omega) s0 s1, e]
theorem PK_b {z R : Int → Int} {rest t : Int} (r0 : 0 ≤ rest) (hz : ∀ k, 0 ≤ k → k < 6 → 0 ≤ z k ∧ z k ≤ 100) : 0 ≤ PK z R rest t 0 0 ∧ PK z R rest t 0 0 ≤ rest ∧ PK z R rest t 0 0 ≤ 100 := by
  obtain ⟨p1, p2, p3⟩ := PK_p (z := z) (R := R) (rest := rest) (t := t) 0 0
  rcases p2 with q | ⟨j, a, b, c, d, e⟩
  · omega
  · have := hz j a b
    omega
theorem c_joined (hs : GS μ) (hr : ∀ s, 0 ≤ s → s ≤ 2000 → 0 ≤ μ 7 s ∧ μ 7 s < 2097152) (hz : ∀ k, 0 ≤ k → k < 6 → 0 ≤ μ 3 k ∧ μ 3 k ≤ 100) {i : Int} (hm : 0 ≤ μ 6 0 ∧ μ 6 0 ≤ 20) (i1 : i < μ 6 0) : ∀ step rest sz d6, 0 ≤ step → step ≤ i → 0 ≤ rest → rest ≤ 2000 → EE 91 11 [(45, 6), (30, 3), (0, i), (0, rest), (0, sz), (0, step), d6] [] μ = some (cd (sjN (μ 3) (pC (μ 7)) (μ 6 0 - step).toNat rest) (i - step), μ) := by
  refine up_ind (i + 1) (fun step h rest sz d6 a b => by omega) (fun step h ih rest sz d6 s0 s1 r0 r1 => ?_)
  have hn : (μ 6 0 - step).toNat = (μ 6 0 - step - 1).toNat + 1 := by omega
  have hc : (((μ 6 0 - step - 1).toNat : Nat) : Int) = μ 6 0 - step - 1 := by omega
  have pk := PK_b (z := μ 3) (R := pC (μ 7) (μ 6 0 - step - 1)) (t := 1) r0 hz
  rw [q91_11, if_neg (by omega), if_pos (by omega), c_joPick hs hr hz ⟨r0, r1⟩ (by omega) (by omega) _ _ (by omega) (by omega) (by omega), hn, sjN, hc]
  by_cases e : step = i
  · rw [q91_11, if_pos (by omega), e, show i - i = 0 by omega, cd_0]
  · rw [ih _ _ _ (by omega) (by omega) (by omega) (by omega), cd_s _ _ (by omega), show (μ 6 0 - (step + 1)).toNat = (μ 6 0 - step - 1).toNat by omega, show i - (step + 1) = i - step - 1 by omega]
/-! the reference -/
def tS (μ : MM) (n s : Int) : Int := μ 88 (2001 * n + s)
abbrev zM (μ : MM) (k : Int) : Int := μ 72 (6 + k)
def tA8 (μ μ' : MM) : Prop := ∀ c i, c ≠ 88 → μ' c i = μ c i
abbrev sqP (z : Int → Int) (S : Int → Int → Int) (n s k : Int) : Prop := 0 < z k ∧ z k ≤ s ∧ S (n - 1) (s - z k) ≠ 0
theorem m_sumI (hm : MRf μ) (hz : ∀ k, 0 ≤ k → k < 6 → 0 ≤ zM μ k ∧ zM μ k ≤ 100) {n s : Int} (n0 : 1 ≤ n) (n1 : n ≤ 20) (s0 : 0 ≤ s) (s1 : s ≤ 2000) : ∀ k is d5, 0 ≤ k → (is = 0 ∨ is = 1) → EE 165 34 [(48, 71), (0, n), (0, s), (0, is), (0, k), d5] [] μ = EE 165 10 [(48, 71), (0, n), (0, s + 1), (9, 0), (9, 0), (9, 0)] [] (up μ 88 (2001 * n + s) (if is = 1 then 1 else b2i (FU (sqP (zM μ) (tS μ) n s) (-1) k 6 ≠ -1))) := by
  refine up_ind 6 (fun k hk is d5 k0 hi => ?_) (fun k hk ih is d5 k0 hi => ?_)
  · have e : (if is = 1 then (1 : Int) else b2i (FU (sqP (zM μ) (tS μ) n s) (-1) k 6 ≠ -1)) = is := by
      rw [FU_e hk, b2i_f (fun q => q rfl)]
      split <;> omega
    rw [q165_34, if_neg (by omega), hm.c23, nn88, w32_l (x := 2001 * n) (by omega) (by omega), w32_l (x := 2001 * n + s) (by omega) (by omega), jx88 _ (by omega) (by omega), w32_l (by omega) (by omega), e]
    rcases hi with q | q
    · rw [q, zo_0, q165_10, q165_10]
    · rw [q, zo_1, q165_10, q165_10]
  · have z := hz k k0 hk
    have e1 := ih 1 (0, zM μ k) (by omega) (Or.inr rfl)
    have e0 := ih 0 (0, zM μ k) (by omega) (Or.inl rfl)
    rw [if_pos rfl] at e1
    rw [if_neg (by omega)] at e0
    rw [q165_34, if_pos hk, if_pos (by omega), hm.c0, nn72, w32_l (x := 6 + k) (by omega) (by omega), jx72 _ (by omega) (by omega), w32_l (x := k + 1) (by omega) (by omega), e0, e1, FU_s hk]
    rcases hi with q | q
    · rw [q, if_pos rfl, if_neg (show ¬ (0 : Int) = 1 by omega)]
      by_cases q1 : 0 < zM μ k
      · rw [if_pos q1]
        by_cases q2 : s < zM μ k
        · rw [if_pos q2, if_neg (show ¬ sqP (zM μ) (tS μ) n s k from fun w => by have := w.2.1; omega)]
        · have et : μ 88 (2001 * (n - 1) + s - zM μ k) = tS μ (n - 1) (s - zM μ k) := by
            unfold tS
            rw [show 2001 * (n - 1) + (s - zM μ k) = 2001 * (n - 1) + s - zM μ k by omega]
          rw [if_neg q2, hm.c23, nn88, w32_l (x := n - 1) (by omega) (by omega), w32_l (x := 2001 * (n - 1)) (by omega) (by omega), w32_l (x := 2001 * (n - 1) + s) (by omega) (by omega), w32_l (x := 2001 * (n - 1) + s - zM μ k) (by omega) (by omega), jx88 _ (by omega) (by omega), et]
          by_cases q3 : tS μ (n - 1) (s - zM μ k) = 0
          · rw [if_pos q3, if_neg (show ¬ sqP (zM μ) (tS μ) n s k from fun w => w.2.2 q3)]
          · rw [if_neg q3, if_pos (show sqP (zM μ) (tS μ) n s k from ⟨q1, by omega, q3⟩), b2i_t (by omega)]
      · rw [if_neg q1, if_neg (show ¬ sqP (zM μ) (tS μ) n s k from fun w => q1 w.1)]
    · rw [q, if_neg (by omega), if_pos rfl]
abbrev JSa (z : Int → Int) (S : Int → Int → Int) (n s : Int) : Prop := (S n s = 0 ∨ S n s = 1) ∧ (S n s ≠ 0 ↔ (n = 0 ∧ s = 0) ∨ (1 ≤ n ∧ ∃ k, 0 ≤ k ∧ k < 6 ∧ 0 < z k ∧ z k ≤ s ∧ S (n - 1) (s - z k) ≠ 0))
def JSp (z : Int → Int) (S : Int → Int → Int) (n s : Int) : Prop := ∀ a b, 0 ≤ a → a ≤ 20 → 0 ≤ b → b ≤ 2000 → (a < n ∨ (a = n ∧ b < s)) → JSa z S a b
theorem JSp_w {z : Int → Int} {S S' : Int → Int → Int} {n s : Int} (n0 : 0 ≤ n ∧ n ≤ 20) (s0 : 0 ≤ s ∧ s ≤ 2000) (h : JSp z S n s) (he : ∀ a b, 0 ≤ a → a ≤ 20 → 0 ≤ b → b ≤ 2000 → (a < n ∨ (a = n ∧ b < s)) → S' a b = S a b) (hs : JSa z (fun a b => if a = n ∧ b = s then S' n s else S a b) n s) : JSp z S' n (s + 1) := by
  intro a b a0 a1 b0 b1 q
  by_cases e : a = n ∧ b = s
  · rw [e.1, e.2]
    unfold JSa at hs ⊢
    have e3 : (if n = n ∧ s = s then S' n s else S n s) = S' n s := if_pos ⟨rfl, rfl⟩
    simp only [e3] at hs
    refine ⟨hs.1, hs.2.trans ?_⟩
    constructor
    · intro w
      rcases w with w | ⟨w, k, k0, k1, c, d, x⟩
      · exact Or.inl w
      · refine Or.inr ⟨w, k, k0, k1, c, d, ?_⟩
        rw [if_neg (by omega)] at x
        rw [he (n - 1) (s - z k) (by omega) (by omega) (by omega) (by omega) (by omega)]
        exact x
    · intro w
      rcases w with w | ⟨w, k, k0, k1, c, d, x⟩
      · exact Or.inl w
      · refine Or.inr ⟨w, k, k0, k1, c, d, ?_⟩
        rw [if_neg (by omega)]
        rw [he (n - 1) (s - z k) (by omega) (by omega) (by omega) (by omega) (by omega)] at x
        exact x
  · have hd : a < n ∨ (a = n ∧ b < s) := by omega
    have h1 := h a b a0 a1 b0 b1 hd
    unfold JSa at h1 ⊢
    rw [he a b a0 a1 b0 b1 hd]
    refine ⟨h1.1, h1.2.trans ?_⟩
    clear h1
    constructor
    · intro w
      rcases w with w | ⟨w, k, k0, k1, c, d, x⟩
      · exact Or.inl w
      · refine Or.inr ⟨w, k, k0, k1, c, d, ?_⟩
        rw [he (a - 1) (b - z k) (by omega) (by omega) (by omega) (by omega) (by omega)]
        exact x
    · intro w
      rcases w with w | ⟨w, k, k0, k1, c, d, x⟩
      · exact Or.inl w
      · refine Or.inr ⟨w, k, k0, k1, c, d, ?_⟩
        rw [he (a - 1) (b - z k) (by omega) (by omega) (by omega) (by omega) (by omega)] at x
        exact x
theorem m_sumS (hm : MRf μ) (hz : ∀ k, 0 ≤ k → k < 6 → 0 ≤ zM μ k ∧ zM μ k ≤ 100) {n s : Int} (n0 : 0 ≤ n) (n1 : n ≤ 20) (s0 : 0 ≤ s) (s1 : s ≤ 2000) (d3 d4 d5 : VV) : ∃ v, EE 165 10 [(48, 71), (0, n), (0, s), d3, d4, d5] [] μ = EE 165 10 [(48, 71), (0, n), (0, s + 1), (9, 0), (9, 0), (9, 0)] [] (up μ 88 (2001 * n + s) v) ∧ (v = 0 ∨ v = 1) ∧ (v ≠ 0 ↔ (n = 0 ∧ s = 0) ∨ (1 ≤ n ∧ ∃ k, 0 ≤ k ∧ k < 6 ∧ 0 < zM μ k ∧ zM μ k ≤ s ∧ tS μ (n - 1) (s - zM μ k) ≠ 0)) := by
  by_cases e : n = 0
  · subst e
    have st : ∀ is, (is = 0 ∨ is = 1) → EE 165 34 [(48, 71), (0, 0), (0, s), (0, is), (0, 0), (9, 0)] [] μ = EE 165 10 [(48, 71), (0, 0), (0, s + 1), (9, 0), (9, 0), (9, 0)] [] (up μ 88 (2001 * 0 + s) is) := by
      intro is hi
      rw [q165_34, if_pos (by omega), if_neg (by omega), hm.c23, nn88, w32_l (x := 2001 * 0) (by omega) (by omega), w32_l (x := 2001 * 0 + s) (by omega) (by omega), jx88 _ (by omega) (by omega), w32_l (by omega) (by omega)]
      rcases hi with q | q
      · rw [q, zo_0, q165_10, q165_10]
      · rw [q, zo_1, q165_10, q165_10]
    rw [q165_10, if_neg (by omega), if_pos rfl]
    by_cases e2 : s = 0
    · rw [if_pos e2, st 1 (Or.inr rfl)]
      exact ⟨1, rfl, Or.inr rfl, fun _ => Or.inl ⟨rfl, e2⟩, fun _ => by omega⟩
    · rw [if_neg e2, st 0 (Or.inl rfl)]
      refine ⟨0, rfl, Or.inl rfl, fun w => absurd rfl w, fun w => ?_⟩
      rcases w with w | w
      · exact absurd w.2 e2
      · exact absurd w.1 (by omega)
  · rw [q165_10, if_neg (by omega), if_neg e, m_sumI hm hz (by omega) n1 s0 s1 _ _ _ (by omega) (Or.inl rfl), if_neg (show ¬ (0 : Int) = 1 by omega)]
    refine ⟨_, rfl, ?_, ?_⟩
    · have := b2i_r (p := FU (sqP (zM μ) (tS μ) n s) (-1) 0 6 ≠ -1)
      omega
    · have hp := FU_p (p := sqP (zM μ) (tS μ) n s) (d := -1) (n := 6) 0
      constructor
      · intro w
        have w2 : FU (sqP (zM μ) (tS μ) n s) (-1) 0 6 ≠ -1 := by
          intro q
          exact w (b2i_f (fun y => y q))
        rcases hp with hp | hp
        · exact absurd hp.1 w2
        · exact Or.inr ⟨by omega, _, hp.1, hp.2.1, hp.2.2.1⟩
      · intro w
        rcases w with w | ⟨_, k, k0, k1, x⟩
        · exact absurd w.1 e
        · rw [b2i_t]
          · omega
          · rcases hp with hp | hp
            · exact absurd x (hp.2 k k0 k1)
            · have := hp.1
              omega
theorem m_sumRow {n : Int} (n0 : 0 ≤ n) (n1 : n ≤ 20) {z : Int → Int} : ∀ s (μ : MM) d3 d4 d5, 0 ≤ s → s ≤ 2001 → MRf μ → (∀ k, 0 ≤ k → k < 6 → 0 ≤ z k ∧ z k ≤ 100) → zM μ = z → JSp z (tS μ) n s → ∃ μ', EE 165 10 [(48, 71), (0, n), (0, s), d3, d4, d5] [] μ = EE 165 2 [(48, 71), (0, n + 1), (9, 0), (9, 0), (9, 0), (9, 0)] [] μ' ∧ tA8 μ μ' ∧ JSp z (tS μ') (n + 1) 0 := by
  refine up_ind 2001 (fun s hs μ d3 d4 d5 s0 s1 hm hz hzz hp => ?_) (fun s hs ih μ d3 d4 d5 s0 s1 hm hz hzz hp => ?_)
  · refine ⟨μ, ?_, fun _ _ _ => rfl, fun a b a0 a1 b0 b1 q => hp a b a0 a1 b0 b1 (by omega)⟩
    rw [q165_10, if_pos (by omega), w32_l (by omega) (by omega), q165_2, q165_2]
  · obtain ⟨v, x1, x2, x3⟩ := m_sumS hm (by rw [hzz]; exact hz) n0 n1 s0 (show s ≤ 2000 by omega) d3 d4 d5
    have e1 : tA8 μ (up μ 88 (2001 * n + s) v) := fun c i q => up_nc _ _ q
    have ez : zM (up μ 88 (2001 * n + s) v) = z := by
      rw [← hzz]
      funext k
      exact up_nc _ _ (by omega)
    have ev : tS (up μ 88 (2001 * n + s) v) n s = v := up_s _ _ _ _
    have hw := JSp_w (S' := tS (up μ 88 (2001 * n + s) v)) ⟨n0, n1⟩ ⟨s0, by omega⟩ hp (fun a b a0 a1 b0 b1 q => up_ni _ _ (by omega)) (by
      rw [ev]
      rw [hzz] at x3
      unfold JSa
      have e3 : (if n = n ∧ s = s then v else tS μ n s) = v := if_pos ⟨rfl, rfl⟩
      simp only [e3]
      refine ⟨x2, x3.trans ?_⟩
      clear x3
      constructor
      · intro w
        rcases w with w | ⟨w, k, k0, k1, c, d, x⟩
        · exact Or.inl w
        · exact Or.inr ⟨w, k, k0, k1, c, d, by rw [if_neg (by omega)]; exact x⟩
      · intro w
        rcases w with w | ⟨w, k, k0, k1, c, d, x⟩
        · exact Or.inl w
        · exact Or.inr ⟨w, k, k0, k1, c, d, by rw [if_neg (by omega)] at x; exact x⟩)
    obtain ⟨m1, y1, y2, y3⟩ := ih (up μ 88 (2001 * n + s) v) (9, 0) (9, 0) (9, 0) (by omega) (by omega) (MRf_ag (fun i _ => up_nc _ _ (by omega)) hm) hz ez hw
    exact ⟨m1, by rw [x1, y1], fun c i q => (y2 c i q).trans (e1 c i q), y3⟩
theorem m_sums {z : Int → Int} (hz : ∀ k, 0 ≤ k → k < 6 → 0 ≤ z k ∧ z k ≤ 100) : ∀ n (μ : MM) d2 d3 d4 d5, 0 ≤ n → n ≤ 21 → MRf μ → zM μ = z → JSp z (tS μ) n 0 → ∃ μ', EE 165 2 [(48, 71), (0, n), d2, d3, d4, d5] [] μ = some (0, μ') ∧ tA8 μ μ' ∧ JS z (tS μ') := by
  refine up_ind 21 (fun n hn μ d2 d3 d4 d5 n0 n1 hm hzz hp => ?_) (fun n hn ih μ d2 d3 d4 d5 n0 n1 hm hzz hp => ?_)
  · refine ⟨μ, ?_, fun _ _ _ => rfl, fun a b a0 a1 b0 b1 => hp a b a0 a1 b0 b1 (by omega)⟩
    rw [q165_2, if_pos (by omega)]
  · obtain ⟨m1, x1, x2, x3⟩ := m_sumRow n0 (by omega) 0 μ (9, 0) (9, 0) (9, 0) (by omega) (by omega) hm hz hzz hp
    obtain ⟨m2, y1, y2, y3⟩ := ih m1 (9, 0) (9, 0) (9, 0) (9, 0) (by omega) (by omega) (MRf_ag (fun i _ => x2 71 i (by omega)) hm) (by
      rw [← hzz]
      funext k
      exact x2 72 _ (by omega)) x3
    exact ⟨m2, by rw [q165_2, if_neg (by omega), x1, y1], fun c i q => (y2 c i q).trans (x2 c i q), y3⟩
abbrev fsM (S : Int → Int → Int) (n s : Int) : Int := FU (fun s => S n s ≠ 0) (-1) s 2001
theorem m_joinI (hm : MRf μ) {len lap n : Int} (n0 : 1 ≤ n) (n1 : n ≤ 20) : ∀ s, 0 ≤ s → s ≤ 3000 → EE 166 21 [(48, 71), (0, len), (0, lap), (0, n), (0, s)] [] μ = if fsM (tS μ) n s ≠ -1 then bnd (EE 167 0 [(48, 71), (0, n), (0, fsM (tS μ) n s), (9, 0), (9, 0), (9, 0), (9, 0), (9, 0)] [] μ) (fun _ m2 => some (1, m2)) else EE 166 6 [(48, 71), (0, len), (0, lap), (0, n + 1), (9, 0)] [] μ := by
  refine up_ind 2001 (fun s hs2 s0 s1 => ?_) (fun s hs2 ih s0 s1 => ?_)
  · rw [q166_21, if_pos (by omega), w32_l (by omega) (by omega)]
    unfold fsM
    rw [FU_e hs2, if_neg (fun q => q rfl), q166_6, q166_6]
  · have et : μ 88 (2001 * n + s) = tS μ n s := rfl
    rw [q166_21, if_neg (by omega), hm.c23, nn88, w32_l (x := 2001 * n) (by omega) (by omega), w32_l (x := 2001 * n + s) (by omega) (by omega), jx88 _ (by omega) (by omega), et, w32_l (by omega) (by omega), ih (by omega) (by omega)]
    unfold fsM
    rw [FU_s hs2]
    by_cases q : tS μ n s = 0
    · rw [if_pos q, if_neg (show ¬ tS μ n s ≠ 0 from fun w => w q)]
    · rw [if_neg q, if_pos q, if_pos (by omega)]
abbrev nsM (S : Int → Int → Int) (len lap n : Int) : Int := FU (fun n => fsM S n (len + lap * (n - 1)) ≠ -1) (-1) n 21
theorem m_joinO (hm : MRf μ) {len lap : Int} (l0 : 1 ≤ len ∧ len ≤ 400) (p0 : 0 ≤ lap ∧ lap ≤ 50) : ∀ n d4, 1 ≤ n → EE 166 6 [(48, 71), (0, len), (0, lap), (0, n), d4] [] μ = if nsM (tS μ) len lap n = -1 then some (0, μ) else bnd (EE 167 0 [(48, 71), (0, nsM (tS μ) len lap n), (0, fsM (tS μ) (nsM (tS μ) len lap n) (len + lap * (nsM (tS μ) len lap n - 1))), (9, 0), (9, 0), (9, 0), (9, 0), (9, 0)] [] μ) (fun _ m2 => some (1, m2)) := by
  refine up_ind 21 (fun n hn d4 n0 => ?_) (fun n hn ih d4 n0 => ?_)
  · have e : nsM (tS μ) len lap n = -1 := FU_e hn
    rw [q166_6, if_pos (by omega), e, if_pos rfl]
  · obtain ⟨lb, lw⟩ := lapb l0 p0 n0 (show n ≤ 20 by omega)
    have e : nsM (tS μ) len lap n = if fsM (tS μ) n (len + lap * (n - 1)) ≠ -1 then n else nsM (tS μ) len lap (n + 1) := FU_s hn
    rw [q166_6, if_neg (by omega), lw, m_joinI hm n0 (by omega) _ (by omega) (by omega), ih _ (by omega), e]
    by_cases q : fsM (tS μ) n (len + lap * (n - 1)) ≠ -1
    · rw [if_pos q, if_pos q, if_neg (by omega)]
    · rw [if_neg q, if_neg q]
theorem m_joPick (hm : MRf μ) (hz : ∀ k, 0 ≤ k → k < 6 → 0 ≤ zM μ k ∧ zM μ k ≤ 100) (hS : ∀ n s, 0 ≤ n → n ≤ 20 → 0 ≤ s → s ≤ 2000 → tS μ n s = 0 ∨ tS μ n s = 1) {left rest : Int} (l0 : 0 ≤ left ∧ left ≤ 2000) (r0 : 0 ≤ rest ∧ rest ≤ 20) (hc : 0 ≤ μ 71 21 ∧ μ 71 21 < 1000) : ∀ k sz d1 d2 d7, 0 ≤ k → 0 ≤ sz → sz ≤ 100 → EE 167 28 [(48, 71), d1, d2, (0, left), (0, rest), (0, sz), (0, k), d7] [] μ = EE 167 17 [(48, 71), (9, 0), (9, 0), (0, left - PK (zM μ) (tS μ rest) left 1 k sz), (0, rest - 1), (9, 0), (9, 0), (9, 0)] [] (up (up μ 87 (μ 71 21) (PK (zM μ) (tS μ rest) left 1 k sz)) 71 21 (μ 71 21 + 1)) := by
  refine up_ind 6 (fun k hk sz d1 d2 d7 k0 s0 s1 => ?_) (fun k hk ih sz d1 d2 d7 k0 s0 s1 => ?_)
  · rw [q167_28, if_neg (by omega), hm.c20, nn87, jx87 _ hc.1 hc.2, up_nc _ _ (by omega), w32_l (by omega) (by omega), w32_l (by omega) (by omega), w32_l (by omega) (by omega), PK_e hk, show rest + -1 = rest - 1 by omega, q167_17, q167_17]
  · have z := hz k k0 hk
    have zz : 0 ≤ μ 72 (6 + k) ∧ μ 72 (6 + k) ≤ 100 := z
    rw [q167_28, if_pos hk, hm.c0, nn72, w32_l (x := 6 + k) (by omega) (by omega), jx72 _ (by omega) (by omega), w32_l (x := k + 1) (by omega) (by omega), PK_s hk]
    by_cases q1 : sz < zM μ k
    · rw [if_pos q1]
      by_cases q2 : left < zM μ k
      · have e : pkS (zM μ) (tS μ rest) left 1 k sz = sz := if_neg (by omega)
        rw [if_pos q2, ih _ _ _ _ (by omega) s0 s1, e]
      · have et : μ 88 (2001 * rest + left - zM μ k) = tS μ rest (left - zM μ k) := by
          unfold tS
          rw [show 2001 * rest + (left - zM μ k) = 2001 * rest + left - zM μ k by omega]
        have hv := hS rest (left - zM μ k) r0.1 r0.2 (by omega) (by omega)
        rw [if_neg q2, hm.c23, nn88, w32_l (x := 2001 * rest) (by omega) (by omega), w32_l (x := 2001 * rest + left) (by omega) (by omega), w32_l (x := 2001 * rest + left - zM μ k) (by omega) (by omega), jx88 _ (by omega) (by omega), et]
        by_cases q3 : tS μ rest (left - zM μ k) = 0
        · have e : pkS (zM μ) (tS μ rest) left 1 k sz = sz := if_neg (fun w => by have := w.2.2; omega)
          rw [if_pos q3, ih _ _ _ _ (by omega) s0 s1, e]
        · have e : pkS (zM μ) (tS μ rest) left 1 k sz = zM μ k := if_pos ⟨q1, by omega, by omega⟩
          rw [if_neg q3, ih _ _ _ _ (by omega) (by omega) (by omega), e]
    · have e : pkS (zM μ) (tS μ rest) left 1 k sz = sz := if_neg (fun w => q1 w.1)
      rw [if_neg q1, ih _ _ _ _ (by omega) s0 s1, e]
theorem m_lay {z z' : Int → Int} {S P : Int → Int → Int} (hz : ∀ k, 0 ≤ k → k < 6 → 0 ≤ z' k ∧ z' k ≤ 100) (hzz : ∀ k, 0 ≤ k → k < 6 → z' k = z k) (hS : ∀ n s, 0 ≤ n → n ≤ 20 → 0 ≤ s → s ≤ 2000 → S n s = 0 ∨ S n s = 1) (hP : ∀ n s, 0 ≤ n → n ≤ 20 → 0 ≤ s → s ≤ 2000 → (P n s = 1 ↔ S n s = 1)) : ∀ (n : Nat) left (μ : MM) d1 d2 d5 d6 d7, n ≤ 21 → 0 ≤ left → left ≤ 2000 → MRf μ → zM μ = z' → tS μ = S → 0 ≤ μ 71 21 → μ 71 21 + n ≤ 100 → ∃ μ', EE 167 17 [(48, 71), d1, d2, (0, left), (0, (n : Int) - 1), d5, d6, d7] [] μ = some (0, μ') ∧ Fo μ μ' (sjN z P n left) := by
  intro n
  induction n with
  | zero =>
    intro left μ d1 d2 d5 d6 d7 n1 a0 a1 hm h72 h88 c0 c1
    rw [q167_17, if_pos (by omega)]
    exact ⟨μ, rfl, Fo_r μ⟩
  | succ n ih =>
    intro left μ d1 d2 d5 d6 d7 n1 a0 a1 hm h72 h88 c0 c1
    have hc1 : (((n + 1 : Nat) : Int)) - 1 = n := by omega
    have epk : PK (zM μ) (tS μ n) left 1 0 0 = PK z (P n) left 1 0 0 := by
      rw [h72, h88]
      refine PK_c hzz (fun i i0 i1 => ?_) 0 0 (by omega) (by omega)
      exact (hP n i (by omega) (by omega) i0 (by omega)).symm
    have pb := PK_b (z := z') (R := S n) (t := 1) a0 hz
    have epk2 : PK z' (S n) left 1 0 0 = PK z (P n) left 1 0 0 := by
      rw [← epk, h72, h88]
    rw [q167_17, hc1, if_neg (by omega), m_joPick hm (by rw [h72]; exact hz) (by rw [h88]; exact hS) ⟨a0, a1⟩ ⟨by omega, by omega⟩ (by omega) _ _ _ _ _ (by omega) (by omega) (by omega), epk]
    rw [epk2] at pb
    obtain ⟨m1, x1, x2⟩ := ih (left - PK z (P n) left 1 0 0) (up (up μ 87 (μ 71 21) (PK z (P n) left 1 0 0)) 71 21 (μ 71 21 + 1)) (9, 0) (9, 0) (9, 0) (9, 0) (9, 0) (by omega) (by omega) (by omega) (MRf_ag (fun i q => by rw [up_n _ _ (by omega), up_n _ _ (by omega)]) hm) (by
      rw [← h72]
      funext k
      exact (up_nc _ _ (by omega)).trans (up_nc _ _ (by omega))) (by
      rw [← h88]
      funext a b
      exact (up_nc _ _ (by omega)).trans (up_nc _ _ (by omega))) (by rw [up_s]; omega) (by rw [up_s]; omega)
    exact ⟨m1, x1, Fo_c x2⟩
end JO
