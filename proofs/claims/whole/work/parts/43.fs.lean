/-! fit, the reference's row; the call -/
section FS
variable {M μ μ' : MM}
theorem m_fitLoop (hm : MRf μ) {len gap : Int} (l0 : 1 ≤ len ∧ len ≤ 1000) (g0 : 0 ≤ gap ∧ gap ≤ 99) : ∀ s best d5 d6 d7, s ≤ len → 0 ≤ best → best ≤ len → EE 162 10 [(48, 71), (0, len), (0, gap), (0, best), (0, s), d5, d6, d7] [] μ = if FB 100000 (μ 86) (loO len gap) s best = 0 then some (0, μ) else EE 162 84 [(48, 71), (9, 0), (9, 0), (9, 0), (0, FB 100000 (μ 86) (loO len gap) s best), (9, 0), (9, 0), (9, 0)] [] (up (up μ 71 22 (FB 100000 (μ 86) (loO len gap) s best)) 71 21 0) := by
  have lo1 : 1 ≤ loO len gap ∧ len - gap ≤ loO len gap ∧ (loO len gap = 1 ∨ loO len gap = len - gap) := by
    unfold loO
    split <;> omega
  refine dn_ind (loO len gap) (fun s hs best d5 d6 d7 s1 b0 b1 => ?_) (fun s hs ih best d5 d6 d7 s1 b0 b1 => ?_)
  · have e84 : ∀ (d1 d2 d3 : VV) m, EE 162 84 [(48, 71), d1, d2, d3, (0, best), (9, 0), (9, 0), (9, 0)] [] m = EE 162 84 [(48, 71), (9, 0), (9, 0), (9, 0), (0, best), (9, 0), (9, 0), (9, 0)] [] m := by
      intro d1 d2 d3 m
      rw [q162_84, q162_84]
    rw [q162_10, w32_l (by omega) (by omega), e84, FB_e hs]
    by_cases q : s < 1
    · rw [if_pos q]
    · rw [if_neg q, if_pos (by omega)]
  · rw [q162_10, if_neg (by omega), w32_l (by omega) (by omega), if_neg (by omega), hm.c19, nn86, jx86 _ (by omega) (by omega), nn86, jx86 _ (by omega) (by omega), nn86, jx86 _ (by omega) (by omega), w32_l (by omega) (by omega), FB_s hs, show s + -1 = s - 1 by omega]
    have h1 := ih s (9, 0) (9, 0) (9, 0) (by omega) (by omega) s1
    have h2 := ih best (9, 0) (9, 0) (9, 0) (by omega) b0 b1
    by_cases q1 : μ 86 s < 100000
    · rw [if_pos q1]
      by_cases q2 : best = 0
      · rw [if_pos q2, if_pos (show μ 86 s < 100000 ∧ (best = 0 ∨ μ 86 s < μ 86 best) from ⟨q1, Or.inl q2⟩), h1]
      · rw [if_neg q2]
        by_cases q3 : μ 86 s < μ 86 best
        · rw [if_pos q3, if_pos (show μ 86 s < 100000 ∧ (best = 0 ∨ μ 86 s < μ 86 best) from ⟨q1, Or.inr q3⟩), h1]
        · rw [if_neg q3, if_neg (show ¬ (μ 86 s < 100000 ∧ (best = 0 ∨ μ 86 s < μ 86 best)) from fun w => w.2.elim q2 q3), h2]
    · rw [if_neg q1, if_neg (show ¬ (μ 86 s < 100000 ∧ (best = 0 ∨ μ 86 s < μ 86 best)) from fun w => q1 w.1), h2]
theorem m_fitPick (hm : MRf μ) (hz : ∀ k, 0 ≤ k → k < 6 → 0 ≤ μ 72 k ∧ μ 72 k ≤ 100) {left : Int} (l0 : 0 ≤ left ∧ left ≤ 1000) (hq : 0 ≤ μ 86 left ∧ μ 86 left ≤ 1000000) (hc : 0 ≤ μ 71 21 ∧ μ 71 21 < 1000) : ∀ k sz d1 d2 d3 d7, 0 ≤ k → 0 ≤ sz → sz ≤ 100 → EE 162 95 [(48, 71), d1, d2, d3, (0, left), (0, sz), (0, k), d7] [] μ = EE 162 84 [(48, 71), (9, 0), (9, 0), (9, 0), (0, left - PK (μ 72) (μ 86) left (μ 86 left - 1) k sz), (9, 0), (9, 0), (9, 0)] [] (up (up μ 87 (μ 71 21) (PK (μ 72) (μ 86) left (μ 86 left - 1) k sz)) 71 21 (μ 71 21 + 1)) := by
  refine up_ind 6 (fun k hk sz d1 d2 d3 d7 k0 s0 s1 => ?_) (fun k hk ih sz d1 d2 d3 d7 k0 s0 s1 => ?_)
  · rw [q162_95, if_neg (by omega), hm.c20, nn87, jx87 _ hc.1 hc.2, up_nc _ _ (by omega), w32_l (by omega) (by omega), w32_l (by omega) (by omega), PK_e hk, q162_84, q162_84]
  · have z := hz k k0 hk
    rw [q162_95, if_pos hk, hm.c0, nn72, jx72 _ (by omega) (by omega), w32_l (x := k + 1) (by omega) (by omega), PK_s hk]
    by_cases q1 : sz < μ 72 k
    · rw [if_pos q1]
      by_cases q2 : left < μ 72 k
      · have e : pkS (μ 72) (μ 86) left (μ 86 left - 1) k sz = sz := if_neg (by omega)
        rw [if_pos q2, ih _ _ _ _ _ (by omega) s0 s1, e]
      · rw [if_neg q2, hm.c19, nn86, w32_l (x := left - μ 72 k) (by omega) (by omega), jx86 _ (by omega) (by omega), nn86, jx86 _ (by omega) (by omega), w32_l (x := μ 86 left - 1) (by omega) (by omega)]
        by_cases q3 : μ 86 (left - μ 72 k) = μ 86 left - 1
        · have e : pkS (μ 72) (μ 86) left (μ 86 left - 1) k sz = μ 72 k := if_pos ⟨q1, by omega, q3⟩
          rw [if_pos q3, ih _ _ _ _ _ (by omega) (by omega) (by omega), e]
        · have e : pkS (μ 72) (μ 86) left (μ 86 left - 1) k sz = sz := if_neg (fun w => q3 w.2.2)
          rw [if_neg q3, ih _ _ _ _ _ (by omega) s0 s1, e]
    · have e : pkS (μ 72) (μ 86) left (μ 86 left - 1) k sz = sz := if_neg (fun w => q1 w.1)
      rw [if_neg q1, ih _ _ _ _ _ (by omega) s0 s1, e]
/-- the row, as the reference lays it out of a table like the class' -/
theorem m_fitRow {z R Q z' : Int → Int} {len : Int} (l1 : len ≤ 1000) (ht : FTb z R 1000000 len) (hrl : ∀ s, 0 ≤ s → s ≤ len → Rlx s (R s) (Q s)) (hzz : ∀ k, 0 ≤ k → k < 6 → z' k = z k) (hz : ∀ k, 0 ≤ k → k < 6 → 0 ≤ z' k ∧ z' k ≤ 100) : ∀ (n : Nat) left (μ : MM) d1 d2 d3 d5 d6 d7, 0 ≤ left → left ≤ len → MRf μ → μ 72 = z' → μ 86 = Q → R left = n → 0 ≤ μ 71 21 → μ 71 21 + n ≤ 1000 → ∃ μ', EE 162 84 [(48, 71), d1, d2, d3, (0, left), d5, d6, d7] [] μ = some (1, μ') ∧ Fo μ μ' (sqN z R n left) := by
  intro n
  induction n with
  | zero =>
    intro left μ d1 d2 d3 d5 d6 d7 a0 a1 hm h72 h86 hn c0 c1
    have e : left = 0 := by
      by_cases q : left = 0
      · exact q
      · exfalso
        have h1 := ht.2 left (by omega) a1
        rcases FM_p (z := z) (R := R) (s := left) 0 1000000 with w | ⟨j, x, y, x2, x3, w⟩
        · have : ((0 : Nat) : Int) = 0 := rfl
          omega
        · have h2 := hrl (left - z j) (by omega) (by omega)
          have : ((0 : Nat) : Int) = 0 := rfl
          unfold Rlx at h2
          omega
    subst e
    rw [q162_84, if_neg (by omega)]
    exact ⟨μ, rfl, Fo_r μ⟩
  | succ n ih =>
    intro left μ d1 d2 d3 d5 d6 d7 a0 a1 hm h72 h86 hn c0 c1
    have hn2 : R left = (n : Int) + 1 := hn
    have hl0 : left ≠ 0 := by
      intro e
      rw [e, ht.1] at hn2
      omega
    have pk := FTb_pk ht (n := n) a0 a1 hn2 (by omega)
    have hql := hrl left a0 a1
    have eq : Q left = (n : Int) + 1 := by
      unfold Rlx at hql
      omega
    have hz72 : ∀ k, 0 ≤ k → k < 6 → 0 ≤ μ 72 k ∧ μ 72 k ≤ 100 := by
      rw [h72]
      exact hz
    have epk : PK (μ 72) (μ 86) left (μ 86 left - 1) 0 0 = PK z R left n 0 0 := by
      rw [h72, h86, eq, show (n : Int) + 1 - 1 = n by omega]
      refine (PK_c (fun k k0 k1 => (hzz k k0 k1).symm) (fun i i0 i1 => ?_) 0 0 (by omega) (by omega)).symm
      have := hrl i i0 (by omega)
      unfold Rlx at this
      omega
    have e86 : μ 86 left = (n : Int) + 1 := by rw [h86]; exact eq
    rw [q162_84, if_pos (by omega), m_fitPick hm hz72 ⟨a0, by omega⟩ (by omega) (by omega) _ _ _ _ _ _ (by omega) (by omega) (by omega), epk]
    obtain ⟨m1, x1, x2⟩ := ih (left - PK z R left n 0 0) (up (up μ 87 (μ 71 21) (PK z R left n 0 0)) 71 21 (μ 71 21 + 1)) (9, 0) (9, 0) (9, 0) (9, 0) (9, 0) (9, 0) (by omega) (by omega) (MRf_ag (fun i q => by rw [up_n _ _ (by omega), up_n _ _ (by omega)]) hm) (by
      rw [← h72]
      funext j
      rw [up_n _ _ (by omega), up_n _ _ (by omega)]) (by
      rw [← h86]
      funext j
      rw [up_n _ _ (by omega), up_n _ _ (by omega)]) pk.2.2 (by rw [up_s]; omega) (by rw [up_s]; omega)
    exact ⟨m1, x1, Fo_c x2⟩
theorem m_shown (hm : MRf μ) {v w i : Int} (hv : v = 0 ∨ v = 1) (hc : 0 ≤ μ 71 21 ∧ μ 71 21 ≤ 1000) (i0 : 0 ≤ i) : EE 163 0 [(48, 71), (0, v), (0, w), (0, i)] [] μ = some (if v = 0 then -1000000005 else if w = 0 then μ 71 21 else if w = 1 then μ 71 22 else if i < μ 71 21 then μ 87 i else -1000000005, μ) := by
  rw [q163_0, hm.c20, nn87]
  by_cases q1 : v = 0
  · rw [if_pos q1, if_pos q1]
  · rw [if_neg q1, if_neg q1]
    by_cases q2 : w = 0
    · rw [if_pos q2, if_pos q2]
    · rw [if_neg q2, if_neg q2]
      by_cases q3 : w = 1
      · rw [if_pos q3, if_pos q3]
      · rw [if_neg q3, if_neg q3]
        by_cases q4 : i < μ 71 21
        · rw [if_pos q4, if_pos q4, jx87 _ i0 (by omega)]
        · rw [if_neg q4, if_neg q4]
theorem sq_n {z R : Int → Int} : ∀ (n : Nat) left, (sqN z R n left).length = n := by
  intro n
  induction n with
  | zero => exact fun _ => rfl
  | succ n ih =>
    intro left
    rw [sqN, List.length_cons, ih]
theorem st_fit (h : Inv M μ) (len gap w i : Int) : ST M (EE 104 0 [(47, 1), (0, len), (0, gap), (0, w), (0, i)] [] μ) (fun m => EE 164 0 [(48, 71), (0, len), (0, gap), (0, w), (0, i)] [] m) := by
  unfold ST
  have hs := h.s
  rw [q104_0]
  simp only [c_within, bnd_s, b2i_0, ite_not]
  by_cases g1 : 1 ≤ len ∧ len ≤ 1000
  · by_cases g2 : 0 ≤ gap ∧ gap ≤ 99
    · by_cases g3 : 0 ≤ w ∧ w ≤ 2
      · by_cases g4 : i < 0
        · rw [if_pos g1, if_pos g2, if_pos g3, if_pos g4]
          refine ⟨_, _, _, rfl, ?_, h⟩
          simp only [q164_0, m_isIn, bnd_s, b2i_0, ite_not, if_pos g1, if_pos g2, if_pos g3, if_pos g4]
        · rw [if_pos g1, if_pos g2, if_pos g3, if_neg g4, hs.1.2.2.2.2.1, nn6, hs.1.1]
          have hz2 : ∀ k, 0 ≤ k → k < 6 → 0 ≤ μ 2 k ∧ μ 2 k ≤ 100 := fun k a b => by have := h.z.1 k a b; omega
          obtain ⟨m1, x1, x2, x3, x4⟩ := c_fewest hs g1.1 g1.2 hz2
          have e3 : ∀ c j, ¬ (c = 7 ∨ (c = 6 ∧ j = 0)) → up m1 6 0 1000000 c j = μ c j := by
            intro c j a
            rw [up_n _ _ (by omega), x2 c j (by omega)]
          have e7 : up m1 6 0 1000000 7 = m1 7 := by
            funext j
            exact up_nc _ _ (by omega)
          have s2 : GS (up m1 6 0 1000000) := GS_ag (fun c j q => e3 c j (by omega)) hs
          obtain ⟨m2, y1, y2, y3⟩ := c_fitLoop g1 g2 (m1 7) x4 len (up m1 6 0 1000000) 0 (30, 2) (by omega) s2 e7 (Or.inl rfl) (by rw [if_pos rfl, up_s]) (fun q => absurd rfl q)
          have sa : sA μ m2 := fun c j q => by
            rw [y2 c j (by omega)]
            exact e3 c j (by omega)
          have hI := Inv_sA sa h
          have r7 : m2 7 = m1 7 := by
            rw [← e7]
            funext j
            exact y2 7 j (by omega)
          have r2 : m2 2 = μ 2 := by
            funext j
            exact sa 2 j (by omega)
          have hz72 : ∀ k, 0 ≤ k → k < 6 → 0 ≤ m2 72 k ∧ m2 72 k ≤ 100 := fun k a b => by have := hI.z.1 k a b; omega
          have hzz : ∀ k, 0 ≤ k → k < 6 → m2 72 k = μ 2 k := fun k a b => by rw [← r2]; exact (hI.z.1 k a b).1.symm
          obtain ⟨m3, z1, z2, z3, z4⟩ := m_fewest hI.m g1.1 g1.2 hz72
          have hrl := FTb_rl g1.2 x3 z3 hzz
          have lo1 : 1 ≤ loO len gap := by
            unfold loO
            split <;> omega
          obtain ⟨f1, f2⟩ := FB_c lo1 g1.2 hrl len 0 (by omega) (Or.inl rfl)
          have hm3 : MRf m3 := MRf_ag (fun j _ => z2 71 j (by omega)) hI.m
          have s3 : sA m2 m3 := fun c j q => z2 c j (by omega)
          have hI3 := Inv_sA s3 hI
          rw [q85_0, x1, bnd_s, y1, bnd_s]
          simp only [b2i_0, ite_not]
          have hmod : EE 162 0 [(48, 71), (0, len), (0, gap), (9, 0), (9, 0), (9, 0), (9, 0), (9, 0)] [] m2 = if FB 1000000 (m1 7) (loO len gap) len 0 = 0 then some (0, m3) else EE 162 84 [(48, 71), (9, 0), (9, 0), (9, 0), (0, FB 1000000 (m1 7) (loO len gap) len 0), (9, 0), (9, 0), (9, 0)] [] (up (up m3 71 22 (FB 1000000 (m1 7) (loO len gap) len 0)) 71 21 0) := by
            rw [q162_0, z1, bnd_s, m_fitLoop hm3 g1 g2 _ _ _ _ _ (by omega) (by omega) (by omega), f1]
          generalize FB 1000000 (m1 7) (loO len gap) len 0 = B at *
          have hfit : ∀ m, EE 164 0 [(48, 71), (0, len), (0, gap), (0, w), (0, i)] [] m = bnd (EE 162 0 [(48, 71), (0, len), (0, gap), (9, 0), (9, 0), (9, 0), (9, 0), (9, 0)] [] m) (fun v7 m8 => bnd (EE 163 0 [(48, 71), (0, v7), (0, w), (0, i)] [] m8) (fun v9 m10 => some (v9, m10))) := by
            intro m
            simp only [q164_0, m_isIn, bnd_s, b2i_0, ite_not, if_pos g1, if_pos g2, if_pos g3, if_neg g4]
          by_cases b0 : B = 0
          · rw [if_pos b0] at hmod
            rw [if_pos b0]
            refine ⟨_, _, m3, rfl, ?_, hI3⟩
            show EE 164 0 [(48, 71), (0, len), (0, gap), (0, w), (0, i)] [] m2 = _
            rw [hfit, hmod, bnd_s, q163_0, if_pos rfl, bnd_s]
          · rw [if_neg b0] at hmod
            have fb : 0 < B ∧ B ≤ len ∧ m1 7 B < 1000000 := by omega
            have hB := hrl B (by omega) fb.2.1
            have rB := x4 B (by omega) fb.2.1
            have rB2 : m1 7 B ≤ 1000 := by
              unfold Rlx at hB
              omega
            obtain ⟨u1, u2⟩ := y3 b0
            have nB : (((m1 7 B).toNat : Nat) : Int) = m1 7 B := by omega
            have c0 : up (up m3 71 22 B) 71 21 0 71 21 = 0 := up_s _ _ _ _
            obtain ⟨m5, v1, v2⟩ := m_fitRow g1.2 x3 hrl hzz hz72 (m1 7 B).toNat B (up (up m3 71 22 B) 71 21 0) (9, 0) (9, 0) (9, 0) (9, 0) (9, 0) (9, 0) (by omega) fb.2.1 (MRf_ag (fun j q => by rw [up_ni _ _ (by omega), up_ni _ _ (by omega)]) hm3) (by
              funext j
              rw [up_nc _ _ (by omega), up_nc _ _ (by omega), z2 72 j (by omega)]) (by
              funext j
              rw [up_nc _ _ (by omega), up_nc _ _ (by omega)]) nB.symm (by omega) (by omega)
            have l5 := sq_n (z := μ 2) (R := m1 7) (m1 7 B).toNat B
            have k21 : m5 71 21 = m1 7 B := by
              rw [v2.2.1, c0, l5]
              omega
            have k22 : m5 71 22 = B := by
              rw [v2.1 71 22 (by omega), up_ni _ _ (by omega), up_s]
            have k87 : i < m1 7 B → m5 87 i = cd (sqN (μ 2) (m1 7) (m1 7 B).toNat B) i := by
              intro q
              have := v2.2.2.2 i (by omega) (by rw [l5]; omega)
              rw [c0, Int.zero_add] at this
              exact this
            have hm5 : MRf m5 := MRf_ag (fun j q => by rw [v2.1 71 j (by omega), up_ni _ _ (by omega), up_ni _ _ (by omega)]) hm3
            have s5 : sA m3 m5 := fun c j q => by
              rw [v2.1 c j (by omega), up_n _ _ (by omega), up_n _ _ (by omega)]
            have hI5 := Inv_sA s5 hI3
            have hans : EE 164 0 [(48, 71), (0, len), (0, gap), (0, w), (0, i)] [] m2 = some (if w = 0 then m1 7 B else if w = 1 then B else if i < m1 7 B then m5 87 i else -1000000005, m5) := by
              rw [hfit, hmod, v1, bnd_s, m_shown hm5 (Or.inr rfl) (by omega) (by omega), bnd_s, if_neg (show ¬ (1 : Int) = 0 by omega), k21, k22]
            rw [if_neg b0]
            by_cases w2 : w = 2
            · rw [if_neg (by omega), if_neg (by omega)] at hans
              rw [if_pos w2, hI.s.1.2.2.2.2.1, nn6, u1]
              by_cases q : i < m1 7 B
              · rw [if_pos q, k87 q] at hans
                rw [if_pos q, hI.s.1.1, nn6, q87_0, u2, c_fitted hI.s (by rw [r2]; exact hz2) g1.2 (len := len) (i := i) (by rw [r2, r7]; exact x3) (by omega) (by omega) 0 B 0 (9, 0) (by omega) (by omega) (by omega) fb.2.1 (by rw [r7]; omega), bnd_s, r2, r7, u1, Int.sub_zero, Int.sub_zero]
                exact ⟨_, _, m5, rfl, hans, hI5⟩
              · rw [if_neg q] at hans ⊢
                exact ⟨_, _, m5, rfl, hans, hI5⟩
            · rw [if_neg w2]
              by_cases w0 : w = 0
              · rw [if_pos w0] at hans ⊢
                rw [hI.s.1.2.2.2.2.1, nn6, u1]
                exact ⟨_, _, m5, rfl, hans, hI5⟩
              · rw [if_neg w0] at hans ⊢
                rw [if_pos (by omega)] at hans
                rw [hI.s.1.2.2.2.2.1, nn6, u2]
                exact ⟨_, _, m5, rfl, hans, hI5⟩
      · rw [if_pos g1, if_pos g2, if_neg g3]
        refine ⟨_, _, _, rfl, ?_, h⟩
        simp only [q164_0, m_isIn, bnd_s, b2i_0, ite_not, if_pos g1, if_pos g2, if_neg g3]
    · rw [if_pos g1, if_neg g2]
      refine ⟨_, _, _, rfl, ?_, h⟩
      simp only [q164_0, m_isIn, bnd_s, b2i_0, ite_not, if_pos g1, if_neg g2]
  · rw [if_neg g1]
    refine ⟨_, _, _, rfl, ?_, h⟩
    simp only [q164_0, m_isIn, bnd_s, b2i_0, ite_not, if_neg g1]
end FS
