/-! the latest changes -/
section HI
variable {M μ μ' : MM} {A f : Int} {V : FV}
theorem clcR {k : Int} (k0 : 0 ≤ k) (k1 : k < 5) : cln (15 + 2 * k + 1) = 10 := by
  have : k = 0 ∨ k = 1 ∨ k = 2 ∨ k = 3 ∨ k = 4 := by omega
  rcases this with h | h | h | h | h <;> subst h <;> decide
theorem c_remL (hw : WF V) {c l : Int} (hc : ∃ k, 0 ≤ k ∧ k < 5 ∧ c = 15 + 2 * k) : ∀ b (m : MM) d1 d4 d5, 0 ≤ b → CF m A V → m c 5 = c + 1 → ∃ m', EE 2 30 [(40, c), d1, (11, A), (0, l), d4, d5, (0, b)] [] m = some (0, m') ∧ (∀ x i, x ≠ c + 1 → m' x i = m x i) ∧ (∀ j, b ≤ j → j < 10 → m' (c + 1) j = vC V j l) ∧ ∀ j, j < b → m' (c + 1) j = m (c + 1) j := by
  obtain ⟨k, k0, k1, ek⟩ := hc
  have cl : cln (c + 1) = 10 := by rw [ek]; exact clcR k0 k1
  refine up_ind 10 (fun b hb m d1 d4 d5 b0 h h5 => ?_) (fun b hb ih m d1 d4 d5 b0 h h5 => ?_)
  · rw [q2_30, h5, nn_ok _ (by omega), cl, if_neg (by omega)]
    exact ⟨m, rfl, fun _ _ _ => rfl, fun j a b => by omega, fun _ _ => rfl⟩
  · have hA := fr_p h.fr
    obtain ⟨m1, x1, x2, x3, x4⟩ := ih (up m (c + 1) b (vC V b l)) (9, 0) (9, 0) (9, 0) (by omega) (CF_ag (fun x i q => up_nc _ _ (by omega)) h) (by rw [up_nc _ _ (by omega)]; exact h5)
    refine ⟨m1, ?_, fun x i q => ?_, fun j a b2 => ?_, fun j a => ?_⟩
    · rw [q2_30, h5, nn_ok _ (by omega), cl, if_pos hb, nA0 h.fr, c_classOf hw h, bnd_s, nn_ok _ (by omega), ix_ok _ b0 (by rw [cl]; exact hb), q2_54, w32_l (by omega) (by omega), x1]
    · rw [x2 x i q, up_nc _ _ q]
    · by_cases e : j = b
      · subst e
        rw [x4 j (by omega), up_s]
      · exact x3 j (by omega) b2
    · rw [x4 j (by omega), up_ni _ _ (by omega)]
abbrev nwS (μ : MM) : Int := 15 + 2 * ((μ 13 1 + 1) % 5)
theorem c_note (hs : GS μ) (hw : WF V) (h : CF μ A V) (h0 : 0 ≤ μ 13 0 ∧ μ 13 0 ≤ 5) (h1 : 0 ≤ μ 13 1 ∧ μ 13 1 < 5) (kd l p o : Int) : ∃ μ', EE 62 0 [(42, 13), (0, kd), (11, A), (0, l), (0, p), (0, o)] [] μ = some (0, μ') ∧ (∀ x i, ¬ (x = 13 ∧ i ≤ 1) → ¬ (x = nwS μ ∧ i ≤ 4) → x ≠ nwS μ + 1 → μ' x i = μ x i) ∧ μ' 13 1 = (μ 13 1 + 1) % 5 ∧ μ' 13 0 = (if 5 < μ 13 0 + 1 then 5 else μ 13 0 + 1) ∧ (μ' (nwS μ) 0 = kd ∧ μ' (nwS μ) 1 = A ∧ μ' (nwS μ) 2 = l ∧ μ' (nwS μ) 3 = p ∧ μ' (nwS μ) 4 = o) ∧ ∀ b, 0 ≤ b → b < 10 → μ' (nwS μ + 1) b = vC V b l := by
  have hA := fr_p h.fr
  have n0 : 0 ≤ (μ 13 1 + 1) % 5 ∧ (μ 13 1 + 1) % 5 < 5 := by omega
  have e14 := hs.2.2.2.1 ((μ 13 1 + 1) % 5) n0.1 n0.2
  have e132 : μ 13 2 = 14 := hs.2.2.1.2.2.2.2.1
  generalize hn : (μ 13 1 + 1) % 5 = n at *
  have enw : nwS μ = 15 + 2 * n := by
    unfold nwS
    rw [hn]
  rw [enw]
  generalize hc : 15 + 2 * n = c at *
  rw [q62_0, w32_l (by omega) (by omega), tm5 (by omega), hn, q62_12, up_ni _ _ (by omega), w32_l (by omega) (by omega), q62_26]
  generalize hsz : (if 5 < μ 13 0 + 1 then 5 else μ 13 0 + 1) = sz
  generalize hm : up (up μ 13 1 n) 13 0 sz = m
  have a0 : ∀ x i, ¬ (x = 13 ∧ i ≤ 1) → m x i = μ x i := by
    intro x i q
    rw [← hm, up_n _ _ (by omega), up_n _ _ (by omega)]
  have v1 : m 13 1 = n := by rw [← hm, up_ni _ _ (by omega), up_s]
  have v0 : m 13 0 = sz := by rw [← hm, up_s]
  rw [a0 13 2 (by omega), e132, nn14, v1, jx14 _ n0.1 n0.2, a0 14 n (by omega), e14.1, nn_ok _ (by omega), q2_0, q2_5, q2_10, q2_15, q2_21, q2_27]
  generalize hm5 : up (up (up (up (up m c 0 kd) c 1 A) c 2 l) c 3 p) c 4 o = m5
  have a5 : ∀ x i, ¬ (x = c ∧ i ≤ 4) → m5 x i = m x i := by
    intro x i q
    rw [← hm5, up_n _ _ (by omega), up_n _ _ (by omega), up_n _ _ (by omega), up_n _ _ (by omega), up_n _ _ (by omega)]
  have w0 : m5 c 0 = kd := by rw [← hm5, up_ni _ _ (by omega), up_ni _ _ (by omega), up_ni _ _ (by omega), up_ni _ _ (by omega), up_s]
  have w1 : m5 c 1 = A := by rw [← hm5, up_ni _ _ (by omega), up_ni _ _ (by omega), up_ni _ _ (by omega), up_s]
  have w2 : m5 c 2 = l := by rw [← hm5, up_ni _ _ (by omega), up_ni _ _ (by omega), up_s]
  have w3 : m5 c 3 = p := by rw [← hm5, up_ni _ _ (by omega), up_s]
  have w4 : m5 c 4 = o := by rw [← hm5, up_s]
  have h5 : CF m5 A V := CF_ag (fun x i q => by rw [a5 x i (by omega), a0 x i (by omega)]) h
  obtain ⟨m6, x1, x2, x3, x4⟩ := c_remL hw (c := c) (l := l) ⟨n, n0.1, n0.2, hc.symm⟩ 0 m5 (9, 0) (9, 0) (9, 0) (by omega) h5 (by rw [a5 c 5 (by omega), a0 c 5 (by omega), e14.2]; omega)
  rw [x1, bnd_s]
  refine ⟨m6, rfl, fun x i q1 q2 q3 => ?_, ?_, ?_, ⟨?_, ?_, ?_, ?_, ?_⟩, fun b b0 b1 => x3 b b0 b1⟩
  · rw [x2 x i q3, a5 x i q2, a0 x i q1]
  · rw [x2 13 1 (by omega), a5 13 1 (by omega), v1]
  · rw [x2 13 0 (by omega), a5 13 0 (by omega), v0]
  · rw [x2 c 0 (by omega), w0]
  · rw [x2 c 1 (by omega), w1]
  · rw [x2 c 2 (by omega), w2]
  · rw [x2 c 3 (by omega), w3]
  · rw [x2 c 4 (by omega), w4]
def SHF (m : MM) (i : Int) : MM := fun c j => if c = 80 ∧ i ≤ j ∧ j < 2316 then m 80 (j + 579) else m c j
def CPY (m : MM) (k i : Int) : MM := fun c j => if c = 80 ∧ 579 * k + i ≤ j ∧ j < 579 * k + 579 then m 79 (j - 579 * k) else m c j
theorem m_shift : ∀ i (m : MM), 0 ≤ i → MRf m → EE 190 10 [(48, 71), (0, i)] [] m = EE 190 51 [(48, 71), (0, 0)] [] (up (SHF m i) 71 10 (w32 (m 71 10 - 1))) := by
  refine up_ind 2316 (fun i hi m i0 hm => ?_) (fun i hi ih m i0 hm => ?_)
  · have e : SHF m i = m := by
      funext c j
      exact if_neg (by omega)
    rw [q190_10, if_neg (by omega), e]
  · have e : SHF (up m 80 i (m 80 (i + 579))) (i + 1) = SHF m i := by
      funext c j
      unfold SHF
      by_cases q : c = 80 ∧ j = i
      · rw [if_neg (by omega), if_pos (by omega), q.1, q.2, up_s]
      · by_cases q2 : c = 80 ∧ i + 1 ≤ j ∧ j < 2316
        · rw [if_pos q2, if_pos (by omega), up_ni _ _ (by omega)]
        · rw [if_neg q2, if_neg (by omega), up_n _ _ (by omega)]
    rw [q190_10, if_pos hi, hm.c8, nn80, w32_l (x := i + 579) (by omega) (by omega), jx80 _ (by omega) (by omega), nn80, jx80 _ (by omega) (by omega), w32_l (by omega) (by omega), ih _ (by omega) (MRf_ag (fun j _ => up_nc _ _ (by omega)) hm), e, up_nc _ _ (by omega)]
theorem m_copy {k : Int} (k0 : 0 ≤ k) (k1 : k ≤ 4) : ∀ i (m : MM), 0 ≤ i → MRf m → m 71 10 = k → EE 190 51 [(48, 71), (0, i)] [] m = some (0, up (CPY m k i) 71 10 (k + 1)) := by
  refine up_ind 579 (fun i hi m i0 hm hk => ?_) (fun i hi ih m i0 hm hk => ?_)
  · have e : CPY m k i = m := by
      funext c j
      exact if_neg (by omega)
    rw [q190_51, if_neg (by omega), e, hk, w32_l (by omega) (by omega)]
  · have e : CPY (up m 80 (579 * k + i) (m 79 i)) k (i + 1) = CPY m k i := by
      funext c j
      unfold CPY
      by_cases q : c = 80 ∧ j = 579 * k + i
      · rw [if_neg (by omega), if_pos (by omega), q.1, q.2, up_s, show 579 * k + i - 579 * k = i by omega]
      · by_cases q2 : c = 80 ∧ 579 * k + (i + 1) ≤ j ∧ j < 579 * k + 579
        · rw [if_pos q2, if_pos (by omega), up_nc _ _ (by omega)]
        · rw [if_neg q2, if_neg (by omega), up_n _ _ (by omega)]
    rw [q190_51, if_pos hi, hm.c7, nn79, jx79 _ (by omega) (by omega), hm.c8, nn80, hk, w32_l (x := 579 * k) (by omega) (by omega), w32_l (x := 579 * k + i) (by omega) (by omega), jx80 _ (by omega) (by omega), w32_l (by omega) (by omega), ih _ (by omega) (MRf_ag (fun j _ => up_nc _ _ (by omega)) hm) (by rw [up_nc _ _ (by omega)]; exact hk), e]
theorem m_keep (hm : MRf μ) (h0 : 0 ≤ μ 71 10 ∧ μ 71 10 ≤ 5) : ∃ μ', EE 190 0 [(48, 71), (9, 0)] [] μ = some (0, μ') ∧ (∀ c i, c ≠ 80 → ¬ (c = 71 ∧ i = 10) → μ' c i = μ c i) ∧ μ' 71 10 = (if 5 < μ 71 10 + 1 then 5 else μ 71 10 + 1) ∧ ∀ i j, 1 ≤ i → i ≤ μ' 71 10 → 0 ≤ j → j < 579 → μ' 80 (579 * (μ' 71 10 - i) + j) = plA μ (i - 1) j := by
  rw [q190_0]
  by_cases q : μ 71 10 = 5
  · have hm2 : MRf (up (SHF μ 0) 71 10 4) := MRf_ag (fun j w => by rw [up_ni _ _ (by omega)]; exact if_neg (by omega)) hm
    rw [if_pos q, m_shift _ _ (by omega) hm, q, w32_l (by omega) (by omega), show (5 : Int) - 1 = 4 from rfl, m_copy (k := 4) (by omega) (by omega) _ _ (by omega) hm2 (up_s _ _ _ _)]
    refine ⟨_, rfl, fun c i a b => ?_, ?_, fun i j i0 i1 j0 j1 => ?_⟩
    · rw [up_n _ _ (by omega)]
      unfold CPY
      rw [if_neg (fun w => a w.1), up_n _ _ (by omega)]
      exact if_neg (fun w => a w.1)
    · rw [up_s, if_pos (by omega)]
      rfl
    · rw [up_s] at i1 ⊢
      rw [up_nc _ _ (by omega)]
      unfold CPY plA
      by_cases e : i = 1
      · rw [if_pos (by omega), if_pos (by omega), up_nc _ _ (by omega)]
        unfold SHF
        rw [if_neg (by omega)]
        congr 1
        omega
      · rw [if_neg (by omega), if_neg (by omega), up_nc _ _ (by omega)]
        unfold SHF
        rw [if_pos (by omega), q]
        congr 1
        omega
  · rw [if_neg q, m_copy (k := μ 71 10) (by omega) (by omega) _ _ (by omega) hm rfl]
    refine ⟨_, rfl, fun c i a b => ?_, ?_, fun i j i0 i1 j0 j1 => ?_⟩
    · rw [up_n _ _ (by omega)]
      exact if_neg (fun w => a w.1)
    · rw [up_s, if_neg (by omega)]
    · rw [up_s] at i1 ⊢
      rw [up_nc _ _ (by omega)]
      unfold CPY plA
      by_cases e : i = 1
      · rw [if_pos (by omega), if_pos (by omega)]
        congr 1
        omega
      · rw [if_neg (by omega), if_neg (by omega)]
        show μ 80 _ = μ 80 _
        congr 1
        omega
theorem LK_P {c : Int} {P S P' S' : Int → Int} (hL : ∀ f, 0 ≤ f → f < 3 → μ 74 f ≤ 6) (hp : ∀ j, 0 ≤ j → j < 579 → P' j = P j) (hs : ∀ j, 0 ≤ j → j < 579 → S' j = S j) (h : LK μ c P S) : LK μ c P' S' := by
  obtain ⟨f, f0, f1, e1, e2, e3, e4, h⟩ := h
  have hl := hL f f0 f1
  refine ⟨f, f0, f1, e1, e2, e3, e4, ?_⟩
  rcases h with ⟨a, b, c1, d⟩ | ⟨a, b, c1, c2, d⟩ | ⟨a, b, c1, c2, d⟩ | ⟨a, d⟩ | ⟨a, b, c1, d⟩
  · exact Or.inl ⟨a, b, c1, fun j j0 j1 => by rw [hs j j0 j1, hp j j0 j1]; exact d j j0 j1⟩
  · exact Or.inr (Or.inl ⟨a, b, c1, c2, fun j j0 j1 => by rw [hs j j0 j1, hp j j0 j1]; exact d j j0 j1⟩)
  · exact Or.inr (Or.inr (Or.inl ⟨a, b, c1, c2, fun j j0 j1 => by rw [hs j j0 j1, hp j j0 j1]; exact d j j0 j1⟩))
  · exact Or.inr (Or.inr (Or.inr (Or.inl ⟨a, fun j j0 j1 => by rw [hs j j0 j1, hp j j0 j1]; exact d j j0 j1⟩)))
  · refine Or.inr (Or.inr (Or.inr (Or.inr ⟨a, b, fun x x0 x1 => ?_, fun j j0 j1 => by rw [hs j j0 j1, hp j j0 j1]; exact d j j0 j1⟩)))
    rw [hp _ (by omega) (by omega)]
    exact c1 x x0 x1
theorem GH_new (hg : GH μ) (hwf : ∀ f, 0 ≤ f → f < 3 → WF (VM μ f)) (k1 : μ' 13 1 = (μ 13 1 + 1) % 5) (k0 : μ' 13 0 = if 5 < μ 13 0 + 1 then 5 else μ 13 0 + 1) (kk : μ' 71 10 = if 5 < μ 71 10 + 1 then 5 else μ 71 10 + 1) (kb : ∀ i j, 1 ≤ i → i ≤ μ' 71 10 → 0 ≤ j → j < 579 → μ' 80 (579 * (μ' 71 10 - i) + j) = plA μ (i - 1) j)
    (kc : ∀ x i, 15 ≤ x → x ≤ 24 → x ≠ nwS μ → x ≠ nwS μ + 1 → μ' x i = μ x i) (kf : ∀ x i, 74 ≤ x → x ≤ 78 → μ' x i = μ x i) (kl : LK μ' (nwS μ) (μ' 79) (μ 79)) : GH μ' := by
  obtain ⟨g1, g2⟩ := hg
  have hL : ∀ f, 0 ≤ f → f < 3 → μ' 74 f ≤ 6 := fun f f0 f1 => by
    rw [kf 74 f (by omega) (by omega)]
    exact (hwf f f0 f1).r.2.2.2.1
  have ek : μ' 71 10 = μ' 13 0 := by rw [kk, k0, g1.2.2.1]
  have pl : ∀ i j, 1 ≤ i → i ≤ μ' 13 0 → 0 ≤ j → j < 579 → plA μ' i j = plA μ (i - 1) j := by
    intro i j i0 i1 j0 j1
    have := kb i j i0 (by omega) j0 j1
    show (if i = 0 then μ' 79 else fun j => μ' 80 (579 * (μ' 71 10 - i) + j)) j = _
    rw [if_neg (by omega)]
    exact this
  have s5 : 0 ≤ μ' 13 0 ∧ μ' 13 0 ≤ 5 ∧ μ' 13 0 ≤ μ 13 0 + 1 := by
    rw [k0]
    split <;> omega
  refine ⟨⟨by omega, by omega, ek, by omega, by omega⟩, fun i i0 i1 => ?_⟩
  have wfp : ∀ f, 0 ≤ f → f < 3 → WF (VP μ' (plA μ' (i + 1)) f) := by
    intro f f0 f1
    have old : WF (VP μ (plA μ i) f) := by
      by_cases e : i = 0
      · rw [e]
        have e2 : plA μ 0 = μ 79 := if_pos rfl
        rw [e2]
        exact hwf f f0 f1
      · have := (g2 (i - 1) (by omega) (by omega)).2 f f0 f1
        rw [show i - 1 + 1 = i by omega] at this
        exact this
    rw [VP_ag (μ := μ) (P := plA μ i) old.bB (fun c j q => kf c j (by omega) (by omega)) (fun j a b => by
      rw [pl (i + 1) j (by omega) (by omega) (by omega) (by omega), show i + 1 - 1 = i by omega])]
    exact old
  refine ⟨?_, wfp⟩
  by_cases e : i = 0
  · subst e
    have c1 : chg μ' 0 = nwS μ := by
      unfold chg nwS
      rw [k1]
      omega
    have p0 : plA μ' 0 = μ' 79 := if_pos rfl
    rw [c1, p0]
    refine LK_P hL (fun _ _ _ => rfl) (fun j j0 j1 => ?_) kl
    rw [pl (0 + 1) j (by omega) (by omega) j0 j1]
    rfl
  · have c1 : chg μ' i = chg μ (i - 1) := by
      unfold chg
      rw [k1]
      omega
    have cr : 15 ≤ chg μ (i - 1) ∧ chg μ (i - 1) ≤ 23 ∧ chg μ (i - 1) ≠ nwS μ ∧ chg μ (i - 1) ≠ nwS μ + 1 ∧ chg μ (i - 1) + 1 ≠ nwS μ := by
      unfold chg nwS
      omega
    rw [c1]
    have old := (g2 (i - 1) (by omega) (by omega)).1
    have new := LK_ag (μ' := μ') (fun j => kc _ j cr.1 (by omega) cr.2.2.1 cr.2.2.2.1) (fun j => kc _ j (by omega) (by omega) cr.2.2.2.2 (by omega)) (fun j => kf _ _ (by omega) (by omega)) (fun j => kf _ _ (by omega) (by omega)) old
    refine LK_P hL (fun j j0 j1 => pl i j (by omega) (by omega) j0 j1) (fun j j0 j1 => ?_) new
    rw [pl (i + 1) j (by omega) (by omega) j0 j1, show i + 1 - 1 = i - 1 + 1 by omega]
end HI
