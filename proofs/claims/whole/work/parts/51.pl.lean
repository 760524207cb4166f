/-! changes of the plan -/
section PL
variable {M μ μ' : MM} {A f : Int} {V V' : FV} {U : Int → Int}
theorem GS_ag2 (e : ∀ c i, (rS c i ∧ ¬ (15 ≤ c ∧ c ≤ 24)) → μ' c i = μ c i) (e2 : ∀ k, 0 ≤ k → k < 5 → μ' (15 + 2 * k) 5 = μ (15 + 2 * k) 5) (h : GS μ) : GS μ' := by
  obtain ⟨h1, h2, h3, h4, h5, h6⟩ := h
  refine ⟨?_, ?_, ?_, ?_, ?_, MRf_ag (fun i q => e 71 i (by omega)) h6⟩
  · simp only [e 1 0 (by omega), e 1 1 (by omega), e 1 2 (by omega), e 1 3 (by omega), e 1 4 (by omega), e 1 5 (by omega), e 1 6 (by omega), e 1 7 (by omega), e 1 8 (by omega), e 1 9 (by omega), e 1 10 (by omega)]
    exact h1
  · intro f f0 f1
    rw [e 5 f (by omega)]
    exact h2 f f0 f1
  · simp only [e 6 2 (by omega), e 8 3 (by omega), e 8 4 (by omega), e 11 4 (by omega), e 13 2 (by omega), e 25 1 (by omega), e 25 2 (by omega)]
    exact h3
  · intro k k0 k1
    rw [e 14 k (by omega), e2 k k0 k1]
    exact h4 k k0 k1
  · intro a a0 a1
    rw [e 27 a (by omega)]
    exact h5 a a0 a1
theorem nd_cK (hK : ∀ b, vK V' b = vK V b) (hB : vB V' = vB V) (k w : Int) : nd V' k w = nd V k w := by
  have hf : ∀ s, fot V' s ↔ fot V s := by
    intro s
    unfold fot
    rw [hK, hK]
  have hl : ∀ s, LF V' s = LF V s := fun s => FD_c s (fun j _ _ => hf j)
  have hr : ∀ s, RF V' s = RF V s := by
    intro s
    unfold RF
    rw [hB]
    exact FU_c s (fun j _ _ => hf j)
  have ht : ∀ s l w, ndT V' s l w = ndT V s l w := by
    intro s l w
    unfold ndT
    rw [b2i_c (p := ¬ fot V' s) (q := ¬ fot V s) (by rw [hf])]
    simp only [hf]
  unfold nd
  simp only [hl, hr, ht]
theorem GUx_V (hK : ∀ b, vK V' b = vK V b) (hB : vB V' = vB V) (hP : ∀ k, U k = 1 → isP V' k) (h : GUx μ A V U) : GUx μ A V' U := by
  obtain ⟨h1, h2, h3, h4⟩ := h
  have hn := nd_cK hK hB
  have hh : ∀ k, HN V' U k = HN V U k := by
    intro k
    unfold HN
    simp only [hn]
  refine ⟨fun k => ?_, fun k hk => ?_, fun k k0 k1 => ?_, h4⟩
  · rcases h1 k with e | e
    · exact Or.inl e
    · exact Or.inr ⟨e.1, hP k e.1⟩
  · rw [hn, hn]
    exact h2 k hk
  · rw [hh]
    exact h3 k k0 k1
theorem CF_mk (h : CF μ A V) (hb : vB V ≤ 10) (e0 : ∀ i, i ≠ 4 → i ≠ 5 → μ' A i = μ A i) (e4 : μ' A 4 = vP V') (e123 : ∀ c i, A + 1 ≤ c → c ≤ A + 3 → μ' c i = μ c i) (hB : vB V' = vB V) (hL : vL V' = vL V) (hH : vH V' = vH V) (hK : ∀ b, vK V' b = vK V b) (hW : ∀ b, vW V' b = vW V b)
    (eF : ∀ l, 0 ≤ l → l < vL V → μ' (A + 4) l = vF V' l) (eC : ∀ b l, 0 ≤ b → b < 10 → 0 ≤ l → l < vL V → μ' (A + 5) (11 * l + b) = vC V' b l ∧ μ' (A + 6) (11 * l + b) = vR V' b l) (eT : ∀ s l, 0 ≤ s → s < 11 → 0 ≤ l → l < vL V → μ' (A + 7) (11 * l + s) = vT V' s l) : CF μ' A V' := by
  have hf : ∀ s, fot V' s ↔ fot V s := by
    intro s
    unfold fot
    rw [hK, hK]
  obtain ⟨a1, a2, a3, a4, a5, a6, a7, a8, a9, _⟩ := h
  refine ⟨a1, ?_, ?_, ?_, ?_, ?_, e4, ?_, ?_, ?_, ?_, ?_⟩
  · unfold FRf
    rw [e0 6 (by omega) (by omega), e0 7 (by omega) (by omega), e0 8 (by omega) (by omega), e0 9 (by omega) (by omega), e0 10 (by omega) (by omega), e0 11 (by omega) (by omega), e0 12 (by omega) (by omega), e0 13 (by omega) (by omega), e0 14 (by omega) (by omega)]
    exact a2
  · rw [e0 0 (by omega) (by omega), a3, hB]
  · rw [e0 1 (by omega) (by omega), a4, hB]
  · rw [e0 2 (by omega) (by omega), a5, hL]
  · rw [e0 3 (by omega) (by omega), a6, hH]
  · intro b b0 b1
    rw [hB] at b1
    rw [e123 _ _ (by omega) (by omega), e123 _ _ (by omega) (by omega), hK, hW]
    exact a8 b b0 b1
  · intro s s0 s1
    rw [hB] at s1
    rw [e123 _ _ (by omega) (by omega), a9 s s0 s1]
    exact b2i_c (by rw [hf])
  · intro l l0 l1
    rw [hL] at l1
    exact eF l l0 l1
  · intro b l b0 b1 l0 l1
    rw [hB] at b1
    rw [hL] at l1
    exact eC b l b0 (by omega) l0 l1
  · intro s l s0 s1 l0 l1
    rw [hB] at s1
    rw [hL] at l1
    exact eT s l s0 (by omega) l0 l1
/-- the new link -/
abbrev LKn (μ : MM) (P S : Int → Int) (V : FV) (f kd l p o : Int) : Prop :=
  (kd = 3 ∧ 0 ≤ p ∧ p < μ 76 f ∧ ∀ j, 0 ≤ j → j < 579 → S j = if j = 193 * f + 6 + 10 * l + p then o else P j) ∨
  (kd = 2 ∧ 0 ≤ p ∧ p < μ 76 f ∧ (o = 0 ∨ o = 1) ∧ ∀ j, 0 ≤ j → j < 579 → S j = if j = 193 * f + 66 + 10 * l + p then o else P j) ∨
  (kd = 4 ∧ 0 ≤ p ∧ p ≤ μ 76 f ∧ (o = 0 ∨ o = 1) ∧ ∀ j, 0 ≤ j → j < 579 → S j = if j = 193 * f + 126 + 11 * l + p then o else P j) ∨
  (kd = 12 ∧ ∀ j, 0 ≤ j → j < 579 → S j = if j = 193 * f + 192 then o else P j) ∨
  ((kd = 10 ∨ kd = 11) ∧ (o = 0 ∨ o = 1) ∧ (∀ b, 0 ≤ b → b < 10 → 0 ≤ P (193 * f + 6 + 10 * l + b) → 0 ≤ vC V b l) ∧
    ∀ j, 0 ≤ j → j < 579 → S j = if j = 193 * f + l then o else if 193 * f + 6 + 10 * l ≤ j ∧ j < 193 * f + 16 + 10 * l then vC V (j - (193 * f + 6 + 10 * l)) l else P j)
theorem Inv_plan (h : Inv M μ) (f0 : 0 ≤ f) (f1 : f < 3) (hB : vB (VM μ f) ≠ 0) {kd l p o : Int} {mn m1 m3 m2 : MM} (hl : 0 ≤ l ∧ l < vL (VM μ f))
    (n1 : ∀ x i, ¬ (x = 13 ∧ i ≤ 1) → ¬ (x = nwS μ ∧ i ≤ 4) → x ≠ nwS μ + 1 → mn x i = μ x i) (n2 : mn 13 1 = (μ 13 1 + 1) % 5) (n3 : mn 13 0 = if 5 < μ 13 0 + 1 then 5 else μ 13 0 + 1) (n4 : mn (nwS μ) 0 = kd ∧ mn (nwS μ) 1 = 41 + 10 * f ∧ mn (nwS μ) 2 = l ∧ mn (nwS μ) 3 = p ∧ mn (nwS μ) 4 = o) (n5 : ∀ b, 0 ≤ b → b < 10 → mn (nwS μ + 1) b = vC (VM μ f) b l)
    (s1 : ∀ c i, ¬ (c = 41 + 10 * f ∧ i = 4) → ¬ (45 + 10 * f ≤ c ∧ c ≤ 48 + 10 * f) → m1 c i = mn c i)
    (k1 : ∀ c i, c ≠ 80 → ¬ (c = 71 ∧ i = 10) → m3 c i = m1 c i) (k2 : m3 71 10 = if 5 < m1 71 10 + 1 then 5 else m1 71 10 + 1) (k3 : ∀ i j, 1 ≤ i → i ≤ m3 71 10 → 0 ≤ j → j < 579 → m3 80 (579 * (m3 71 10 - i) + j) = plA m1 (i - 1) j)
    (u1 : ∀ c i, c ≠ 79 → m2 c i = m3 c i) (u2 : ∀ j, ¬ (193 * f ≤ j ∧ j < 193 * f + 193) → m2 79 j = μ 79 j)
    (lk : LKn μ (m2 79) (μ 79) (VM μ f) f kd l p o) (hWF : WF (VP μ (m2 79) f)) (hCF : CF m1 (41 + 10 * f) (VP μ (m2 79) f)) (hP : ∀ k, UM μ f k = 1 → isP (VP μ (m2 79) f) k) : Inv M m2 := by
  have nr : 15 ≤ nwS μ ∧ nwS μ ≤ 23 := by
    unfold nwS
    omega
  have e1 : ∀ c i, ¬ (c = 13 ∧ i ≤ 1) → ¬ (c = nwS μ ∧ i ≤ 4) → c ≠ nwS μ + 1 → ¬ (c = 41 + 10 * f ∧ i = 4) → ¬ (45 + 10 * f ≤ c ∧ c ≤ 48 + 10 * f) → m1 c i = μ c i := fun c i a b d x y => (s1 c i x y).trans (n1 c i a b d)
  have ag : ∀ c i, ¬ (c = 13 ∧ i ≤ 1) → ¬ (c = nwS μ ∧ i ≤ 4) → c ≠ nwS μ + 1 → ¬ (c = 41 + 10 * f ∧ i = 4) → ¬ (45 + 10 * f ≤ c ∧ c ≤ 48 + 10 * f) → c ≠ 79 → c ≠ 80 → ¬ (c = 71 ∧ i = 10) → m2 c i = μ c i := fun c i a b d x y z w v => ((u1 c i z).trans (k1 c i w v)).trans (e1 c i a b d x y)
  have hv : VM m2 f = VP μ (m2 79) f := VP_ag (h.wf f0 f1).bB (fun c i q => ag c i (by omega) (by omega) (by omega) (by omega) (by omega) (by omega) (by omega) (by omega)) (fun _ _ _ => rfl)
  have pl : ∀ i, plA m1 i = plA μ i := by
    intro i
    unfold plA
    have e10 : m1 71 10 = μ 71 10 := e1 71 10 (by omega) (by omega) (by omega) (by omega) (by omega)
    split
    · funext j
      exact e1 79 j (by omega) (by omega) (by omega) (by omega) (by omega)
    · funext j
      rw [e10, e1 80 _ (by omega) (by omega) (by omega) (by omega) (by omega)]
  have ch : ∀ x i, (x = nwS μ ∨ x = nwS μ + 1 ∨ (x = 13 ∧ i ≤ 1)) → m2 x i = mn x i := by
    intro x i q
    rw [u1 x i (by omega), k1 x i (by omega) (by omega), s1 x i (by omega) (by omega)]
  have hH : GH m2 := by
    refine GH_new h.h (fun g a b => h.wf a b) ?_ ?_ ?_ ?_ (fun x i a b c d => ag x i (by omega) (by omega) d (by omega) (by omega) (by omega) (by omega) (by omega)) (fun x i a b => ag x i (by omega) (by omega) (by omega) (by omega) (by omega) (by omega) (by omega) (by omega)) ?_
    · rw [ch 13 1 (by omega), n2]
    · rw [ch 13 0 (by omega), n3]
    · rw [u1 71 10 (by omega), k2, e1 71 10 (by omega) (by omega) (by omega) (by omega) (by omega)]
    · intro i j a b c d
      rw [u1 71 10 (by omega)] at b ⊢
      rw [u1 80 _ (by omega), k3 i j a b c d, pl]
    · have c0 : m2 (nwS μ) 0 = kd := by rw [ch _ _ (by omega), n4.1]
      have c1 : m2 (nwS μ) 1 = 41 + 10 * f := by rw [ch _ _ (by omega), n4.2.1]
      have c2 : m2 (nwS μ) 2 = l := by rw [ch _ _ (by omega), n4.2.2.1]
      have c3 : m2 (nwS μ) 3 = p := by rw [ch _ _ (by omega), n4.2.2.2.1]
      have c4 : m2 (nwS μ) 4 = o := by rw [ch _ _ (by omega), n4.2.2.2.2]
      have b6 : m2 76 f = μ 76 f := ag 76 f (by omega) (by omega) (by omega) (by omega) (by omega) (by omega) (by omega) (by omega)
      have b4 : m2 74 f = μ 74 f := ag 74 f (by omega) (by omega) (by omega) (by omega) (by omega) (by omega) (by omega) (by omega)
      have c5 : ∀ b, 0 ≤ b → b < 10 → m2 (nwS μ + 1) b = vC (VM μ f) b l := fun b x y => by rw [ch _ _ (by omega)]; exact n5 b x y
      refine ⟨f, f0, f1, c1, by rw [b6]; exact hB, by rw [c2]; exact hl.1, by rw [c2, b4]; exact hl.2, ?_⟩
      rw [c0, c2, c3, c4, b6]
      rcases lk with q | q | q | q | q
      · exact Or.inl q
      · exact Or.inr (Or.inl q)
      · exact Or.inr (Or.inr (Or.inl q))
      · exact Or.inr (Or.inr (Or.inr (Or.inl q)))
      · refine Or.inr (Or.inr (Or.inr (Or.inr ⟨q.1, q.2.1, fun b x y z => by rw [c5 b x y]; exact q.2.2.1 b x y z, fun j x y => ?_⟩)))
        rw [q.2.2.2 j x y]
        by_cases z : j = 193 * f + l
        · rw [if_pos z, if_pos z]
        · rw [if_neg z, if_neg z]
          by_cases w : 193 * f + 6 + 10 * l ≤ j ∧ j < 193 * f + 16 + 10 * l
          · rw [if_pos w, if_pos w, c5 _ (by omega) (by omega)]
          · rw [if_neg w, if_neg w]
  refine ⟨GS_ag2 (fun c i q => ag c i (by omega) (by omega) (by omega) (by omega) (by omega) (by omega) (by omega) (by omega)) (fun k k0 k1 => ag _ _ (by omega) (by omega) (by unfold nwS; omega) (by omega) (by omega) (by omega) (by omega) (by omega)) h.s, fun g g0 g1 => ?_, GP_ag (fun c i q => ag c i (by omega) (by omega) (by omega) (by omega) (by omega) (by omega) (by omega) (by omega)) h.p, GD_ag (fun c i q => ag c i (by omega) (by omega) (by omega) (by omega) (by omega) (by omega) (by omega) (by omega)) h.d, GZ_ag (fun c i q => ag c i (by omega) (by omega) (by omega) (by omega) (by omega) (by omega) (by omega) (by omega)) h.z, GK_ag (fun c i q => ag c i (by omega) (by omega) (by omega) (by omega) (by omega) (by omega) (by omega) (by omega)) h.k, GR_ag (fun c i q => ag c i (by omega) (by omega) (by omega) (by omega) (by omega) (by omega) (by omega) (by omega)) h.r, hH, fun c i q => (ag c i (by omega) (by omega) (by omega) (by omega) (by omega) (by omega) (by omega) (by omega)).trans (h.x c i q)⟩
  have hT : GT m2 g := GT_ag (fun c i q => ag c i (by omega) (by omega) (by omega) (by omega) (by omega) (by omega) (by omega) (by omega)) (h.t g0 g1)
  by_cases e : g = f
  · subst e
    have uu : UM m2 g = UM μ g := UM_ag (fun i _ _ => ag 82 i (by omega) (by omega) (by omega) (by omega) (by omega) (by omega) (by omega) (by omega))
    refine ⟨⟨?_, ?_⟩, ?_, hT⟩
    · rw [hv]
      exact hWF
    · rw [hv]
      exact CF_ag (fun c i q => by rw [u1 c i (by omega), k1 c i (by omega) (by omega)]) hCF
    · unfold GU
      rw [hv, uu]
      have gu : GUx m2 (41 + 10 * g) (VM μ g) (UM μ g) := by
        obtain ⟨b1, b2, b3, b4⟩ := h.u g0 g1
        refine ⟨b1, b2, fun k k0 k1 => ?_, ?_⟩
        · rw [ag _ _ (by omega) (by omega) (by omega) (by omega) (by omega) (by omega) (by omega) (by omega)]
          exact b3 k k0 k1
        · rw [ag _ _ (by omega) (by omega) (by omega) (by omega) (by omega) (by omega) (by omega) (by omega)]
          exact b4
      exact GUx_V (V := VM μ g) (fun _ => rfl) rfl hP gu
  · have ag2 : ∀ c i, rF g c i ∨ rU g c i → m2 c i = μ c i := by
      intro c i q
      by_cases z : c = 79
      · subst z
        exact u2 i (by omega)
      · exact ag c i (by omega) (by omega) (by omega) (by omega) (by omega) z (by omega) (by omega)
    exact ⟨GF_ag (fun c i q => ag2 c i (Or.inl q)) (h.f g0 g1), GU_ag (h.wf g0 g1) (fun c i q => ag2 c i (Or.inr q)) (h.u g0 g1), hT⟩
end PL
