/-! join, the call -/
theorem ns_e {R : Int → Int} {S : Int → Int → Int} {len lap : Int} (l0 : 1 ≤ len) (p0 : 0 ≤ lap) (h : ∀ s n, 0 ≤ s → s ≤ 2000 → 0 ≤ n → n ≤ 20 → (bt (R s) n ↔ S n s ≠ 0)) : (∀ n s, 0 ≤ n → n ≤ 20 → 0 ≤ s → fsC R n s = fsM S n s) ∧ nsC R len lap 1 = nsM S len lap 1 := by
  have h1 : ∀ n s, 0 ≤ n → n ≤ 20 → 0 ≤ s → fsC R n s = fsM S n s := fun n s n0 n1 s0 => FU_c s (fun j a b => h j n (by omega) (by omega) n0 n1)
  refine ⟨h1, FU_c 1 (fun n a b => ?_)⟩
  have : 0 ≤ lap * (n - 1) := Int.mul_nonneg p0 (by omega)
  rw [h1 n _ (by omega) (by omega) (by omega)]
section JSs
variable {M μ μ' : MM}
theorem st_join (h : Inv M μ) (len lap w i : Int) : ST M (EE 105 0 [(47, 1), (0, len), (0, lap), (0, w), (0, i)] [] μ) (fun m => EE 168 0 [(48, 71), (0, len), (0, lap), (0, w), (0, i)] [] m) := by
  unfold ST
  have hs := h.s
  rw [q105_0]
  simp only [c_within, bnd_s, b2i_0, ite_not]
  by_cases g1 : 1 ≤ len ∧ len ≤ 400
  · by_cases g2 : 0 ≤ lap ∧ lap ≤ 50
    · by_cases g3 : 0 ≤ w ∧ w ≤ 2
      · by_cases g4 : i < 0
        · rw [if_pos g1, if_pos g2, if_pos g3, if_pos g4]
          refine ⟨_, _, _, rfl, ?_, h⟩
          simp only [q168_0, m_isIn, bnd_s, b2i_0, ite_not, if_pos g1, if_pos g2, if_pos g3, if_pos g4]
        · rw [if_pos g1, if_pos g2, if_pos g3, if_neg g4, hs.1.2.2.2.2.1, nn6, hs.1.2.1]
          have hz3 : ∀ k, 0 ≤ k → k < 6 → 0 ≤ μ 3 k ∧ μ 3 k ≤ 100 := fun k a b => by have := h.z.1 k a b; omega
          obtain ⟨m1, x1, x2, x3⟩ := c_counts hs hz3
          have sa1 : sA μ m1 := fun c j q => x2 c j (by omega)
          have hI1 := Inv_sA sa1 h
          have r3 : m1 3 = μ 3 := by
            funext j
            exact sa1 3 j (by omega)
          have jt : JT (m1 3) (m1 7) := by rw [r3]; exact x3
          have hr7 := JT_r x3
          have hz72 : ∀ k, 0 ≤ k → k < 6 → 0 ≤ zM m1 k ∧ zM m1 k ≤ 100 := fun k a b => by
            have t := hI1.z.1 k a b
            exact ⟨t.2.2.2.2.1, t.2.2.2.2.2⟩
          rw [q88_0, x1, bnd_s, c_joinO hI1.s jt (by rw [r3]; exact fun k a b => (hz3 k a b).2) g1 g2 _ _ _ (by omega)]
          have hjo : ∀ m, EE 168 0 [(48, 71), (0, len), (0, lap), (0, w), (0, i)] [] m = bnd (EE 166 0 [(48, 71), (0, len), (0, lap), (9, 0), (9, 0)] [] m) (fun v7 m8 => bnd (EE 163 0 [(48, 71), (0, v7), (0, w), (0, i)] [] m8) (fun v9 m10 => some (v9, m10))) := by
            intro m
            simp only [q168_0, m_isIn, bnd_s, b2i_0, ite_not, if_pos g1, if_pos g2, if_pos g3, if_neg g4]
          by_cases b0 : nsC (m1 7) len lap 1 = -1
          · rw [if_pos b0, bnd_s, if_pos rfl]
            obtain ⟨m3, z1, z2, z3⟩ := m_sums hz72 0 m1 (9, 0) (9, 0) (9, 0) (9, 0) (by omega) (by omega) hI1.m rfl (fun a b a0 a1 b0 b1 q => by omega)
            have eqv := JT_S x3 z3 (fun k a b => by rw [← r3]; exact (hI1.z.1 k a b).2.2.2.1.symm)
            obtain ⟨n1, n2⟩ := ns_e g1.1 g2.1 eqv
            have s3 : sA m1 m3 := fun c j q => z2 c j (by omega)
            have hI3 := Inv_sA s3 hI1
            refine ⟨_, _, m3, rfl, ?_, hI3⟩
            show EE 168 0 [(48, 71), (0, len), (0, lap), (0, w), (0, i)] [] m1 = _
            rw [hjo, q166_0, q165_0, z1, bnd_s, m_joinO hI3.m g1 g2 _ _ (by omega), ← n2, if_pos b0, bnd_s, q163_0, if_pos rfl, bnd_s]
          · rw [if_neg b0, bnd_s, if_neg (by omega)]
            have nb := FU_p (p := fun n => fsC (m1 7) n (len + lap * (n - 1)) ≠ -1) (d := -1) (n := 21) 1
            have nb2 : 1 ≤ nsC (m1 7) len lap 1 ∧ nsC (m1 7) len lap 1 < 21 ∧ fsC (m1 7) (nsC (m1 7) len lap 1) (len + lap * (nsC (m1 7) len lap 1 - 1)) ≠ -1 := by
              rcases nb with q | q
              · exact absurd q.1 b0
              · exact ⟨q.1, q.2.1, q.2.2.1⟩
            generalize hN : nsC (m1 7) len lap 1 = N at *
            have lp : 0 ≤ lap * (N - 1) := Int.mul_nonneg g2.1 (by omega)
            have sb := FU_p (p := fun s => bt (m1 7 s) N) (d := -1) (n := 2001) (len + lap * (N - 1))
            have sb2 : 0 ≤ fsC (m1 7) N (len + lap * (N - 1)) ∧ fsC (m1 7) N (len + lap * (N - 1)) ≤ 2000 := by
              rcases sb with q | q
              · exact absurd q.1 nb2.2.2
              · have q1 : len + lap * (N - 1) ≤ fsC (m1 7) N (len + lap * (N - 1)) := q.1
                have q2 : fsC (m1 7) N (len + lap * (N - 1)) < 2001 := q.2.1
                omega
            generalize hF : fsC (m1 7) N (len + lap * (N - 1)) = F at *
            have e3 : ∀ c j, ¬ (c = 6 ∧ j ≤ 1) → up (up m1 6 0 N) 6 1 F c j = m1 c j := by
              intro c j q
              rw [up_n _ _ (by omega), up_n _ _ (by omega)]
            have u0 : up (up m1 6 0 N) 6 1 F 6 0 = N := by rw [up_ni _ _ (by omega), up_s]
            have u1 : up (up m1 6 0 N) 6 1 F 6 1 = F := up_s _ _ _ _
            have sa2 : sA m1 (up (up m1 6 0 N) 6 1 F) := fun c j q => e3 c j (by omega)
            have hI2 := Inv_sA sa2 hI1
            have t3 : up (up m1 6 0 N) 6 1 F 3 = μ 3 := by
              rw [← r3]
              funext j
              exact e3 3 j (by omega)
            have t7 : up (up m1 6 0 N) 6 1 F 7 = m1 7 := by
              funext j
              exact e3 7 j (by omega)
            generalize up (up m1 6 0 N) 6 1 F = m2 at *
            have hz72' : ∀ k, 0 ≤ k → k < 6 → 0 ≤ zM m2 k ∧ zM m2 k ≤ 100 := fun k a b => by
              have t := hI2.z.1 k a b
              exact ⟨t.2.2.2.2.1, t.2.2.2.2.2⟩
            have hzz : ∀ k, 0 ≤ k → k < 6 → zM m2 k = μ 3 k := fun k a b => by
              rw [← t3]
              exact (hI2.z.1 k a b).2.2.2.1.symm
            obtain ⟨m3, z1, z2, z3⟩ := m_sums hz72' 0 m2 (9, 0) (9, 0) (9, 0) (9, 0) (by omega) (by omega) hI2.m rfl (fun a b a0 a1 b0 b1 q => by omega)
            have eqv := JT_S x3 z3 hzz
            obtain ⟨n1, n2⟩ := ns_e g1.1 g2.1 eqv
            rw [hN] at n2
            have fM : fsM (tS m3) N (len + lap * (N - 1)) = F := by
              rw [← n1 N _ (by omega) (by omega) (by omega)]
              exact hF
            have s3 : sA m2 m3 := fun c j q => z2 c j (by omega)
            have hI3 := Inv_sA s3 hI2
            have c0 : up (up m3 71 21 0) 71 22 F 71 21 = 0 := by rw [up_ni _ _ (by omega), up_s]
            have nN : (((N.toNat : Nat) : Int)) = N := by omega
            obtain ⟨m5, v1, v2⟩ := m_lay (z := μ 3) (z' := zM m2) (S := tS m3) (P := pC (m1 7)) hz72' hzz (fun n s a b c d => (z3 n s a b c d).1) (fun n s a b c d => by
              have t1 := eqv s n c d a b
              have t2 := (z3 n s a b c d).1
              constructor
              · intro q
                have := t1.1 (b2i_1.1 q)
                omega
              · intro q
                exact b2i_t (t1.2 (by omega))) N.toNat F (up (up m3 71 21 0) 71 22 F) (0, N) (0, F) (9, 0) (9, 0) (9, 0) (by omega) sb2.1 sb2.2 (MRf_ag (fun j q => by rw [up_ni _ _ (by omega), up_ni _ _ (by omega)]) hI3.m) (by
              funext k
              exact ((up_nc _ _ (by omega)).trans (up_nc _ _ (by omega))).trans (z2 72 _ (by omega))) (by
              funext a b
              exact (up_nc _ _ (by omega)).trans (up_nc _ _ (by omega))) (by omega) (by omega)
            rw [nN] at v1
            have l5 := sj_n (z := μ 3) (P := pC (m1 7)) N.toNat F
            have k21 : m5 71 21 = N := by
              rw [v2.2.1, c0, l5]
              omega
            have k22 : m5 71 22 = F := by
              rw [v2.1 71 22 (by omega), up_s]
            have k87 : i < N → m5 87 i = cd (sjN (μ 3) (pC (m1 7)) N.toNat F) i := by
              intro q
              have := v2.2.2.2 i (by omega) (by rw [l5]; omega)
              rw [c0, Int.zero_add] at this
              exact this
            have hm5 : MRf m5 := MRf_ag (fun j q => by rw [v2.1 71 j (by omega), up_ni _ _ (by omega), up_ni _ _ (by omega)]) hI3.m
            have s5 : sA m3 m5 := fun c j q => by
              rw [v2.1 c j (by omega), up_n _ _ (by omega), up_n _ _ (by omega)]
            have hI5 := Inv_sA s5 hI3
            have hans : EE 168 0 [(48, 71), (0, len), (0, lap), (0, w), (0, i)] [] m2 = some (if w = 0 then N else if w = 1 then F else if i < N then m5 87 i else -1000000005, m5) := by
              rw [hjo, q166_0, q165_0, z1, bnd_s, m_joinO hI3.m g1 g2 _ _ (by omega), ← n2, if_neg b0, fM, q167_0, w32_l (by omega) (by omega), v1, bnd_s, bnd_s, m_shown hm5 (Or.inr rfl) (by omega) (by omega), bnd_s, if_neg (show ¬ (1 : Int) = 0 by omega), k21, k22]
            by_cases w2 : w = 2
            · rw [if_neg (by omega), if_neg (by omega)] at hans
              rw [if_pos w2, hI2.s.1.2.2.2.2.1, nn6, u0]
              by_cases q : i < N
              · rw [if_pos q, k87 q] at hans
                rw [if_pos q, nn6, hI2.s.1.2.1, q91_0, u1, c_joined hI2.s (by rw [t7]; exact hr7) (by rw [t3]; exact hz3) (by omega) (by omega) _ _ _ _ (by omega) (by omega) sb2.1 sb2.2, bnd_s, t3, t7, u0, Int.sub_zero, Int.sub_zero]
                exact ⟨_, _, m5, rfl, hans, hI5⟩
              · rw [if_neg q] at hans ⊢
                exact ⟨_, _, m5, rfl, hans, hI5⟩
            · rw [if_neg w2]
              by_cases w0 : w = 0
              · rw [if_pos w0] at hans ⊢
                rw [hI2.s.1.2.2.2.2.1, nn6, u0]
                exact ⟨_, _, m5, rfl, hans, hI5⟩
              · rw [if_neg w0] at hans ⊢
                rw [if_pos (by omega)] at hans
                rw [hI2.s.1.2.2.2.2.1, nn6, u1]
                exact ⟨_, _, m5, rfl, hans, hI5⟩
      · rw [if_pos g1, if_pos g2, if_neg g3]
        refine ⟨_, _, _, rfl, ?_, h⟩
        simp only [q168_0, m_isIn, bnd_s, b2i_0, ite_not, if_pos g1, if_pos g2, if_neg g3]
    · rw [if_pos g1, if_neg g2]
      refine ⟨_, _, _, rfl, ?_, h⟩
      simp only [q168_0, m_isIn, bnd_s, b2i_0, ite_not, if_pos g1, if_neg g2]
  · rw [if_neg g1]
    refine ⟨_, _, _, rfl, ?_, h⟩
    simp only [q168_0, m_isIn, bnd_s, b2i_0, ite_not, if_neg g1]
end JSs
