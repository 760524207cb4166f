/-! undo -/
section US6
variable {M μ μ' m : MM} {f : Int}
theorem Inv_back (h : Inv M μ) (f0 : 0 ≤ f) (f1 : f < 3) (hs : 0 < μ 13 0) {m4 m2 : MM} (q4 : ∀ x i, ¬ (x = 41 + 10 * f ∧ i = 4) → ¬ (45 + 10 * f ≤ x ∧ x ≤ 48 + 10 * f) → m4 x i = μ x i)
    (x1 : ∀ c i, ¬ (c = 13 ∧ i ≤ 1) → ¬ (c = 71 ∧ i = 10) → c ≠ 79 → c ≠ 81 → m2 c i = m4 c i) (x2 : m2 13 1 = (μ 13 1 + 4) % 5) (x3 : m2 13 0 = μ 13 0 - 1) (x4 : m2 71 10 = μ 13 0 - 1) (x5 : ∀ j, 0 ≤ j → j < 579 → m2 79 j = plA μ 1 j)
    (hS : ∀ j, 0 ≤ j → j < 579 → ¬ (193 * f ≤ j ∧ j < 193 * f + 193) → plA μ 1 j = μ 79 j) (hWF : WF (VP μ (plA μ 1) f)) (hCF : CF m4 (41 + 10 * f) (VP μ (plA μ 1) f)) (hP : ∀ k, UM μ f k = 1 → isP (VP μ (plA μ 1) f) k) : Inv M m2 := by
  have ag : ∀ c i, ¬ (c = 13 ∧ i ≤ 1) → ¬ (c = 71 ∧ i = 10) → c ≠ 79 → c ≠ 81 → ¬ (c = 41 + 10 * f ∧ i = 4) → ¬ (45 + 10 * f ≤ c ∧ c ≤ 48 + 10 * f) → m2 c i = μ c i := fun c i a b d e x y => (x1 c i a b d e).trans (q4 c i x y)
  have hv : VM m2 f = VP μ (plA μ 1) f := VP_ag hWF.bB (fun c i q => ag c i (by omega) (by omega) (by omega) (by omega) (by omega) (by omega)) (fun i a b => x5 i (by omega) (by omega))
  obtain ⟨g1, g2⟩ := h.h
  have pl : ∀ i j, 0 ≤ i → i ≤ μ 13 0 - 1 → 0 ≤ j → j < 579 → plA m2 i j = plA μ (i + 1) j := by
    intro i j i0 i1 j0 j1
    by_cases q : i = 0
    · subst q
      show (if (0 : Int) = 0 then m2 79 else fun j => m2 80 (579 * (m2 71 10 - 0) + j)) j = plA μ 1 j
      rw [if_pos rfl]
      exact x5 j j0 j1
    · show (if i = 0 then m2 79 else fun j => m2 80 (579 * (m2 71 10 - i) + j)) j = (if i + 1 = 0 then μ 79 else fun j => μ 80 (579 * (μ 71 10 - (i + 1)) + j)) j
      rw [if_neg q, if_neg (by omega)]
      show m2 80 (579 * (m2 71 10 - i) + j) = μ 80 (579 * (μ 71 10 - (i + 1)) + j)
      rw [ag 80 _ (by omega) (by omega) (by omega) (by omega) (by omega) (by omega), x4, g1.2.2.1, show 579 * (μ 13 0 - 1 - i) + j = 579 * (μ 13 0 - (i + 1)) + j by omega]
  have hL : ∀ g, 0 ≤ g → g < 3 → m2 74 g ≤ 6 := fun g a b => by
    rw [ag 74 g (by omega) (by omega) (by omega) (by omega) (by omega) (by omega)]
    exact (h.wf a b).r.2.2.2.1
  have hH : GH m2 := by
    refine ⟨⟨by omega, by omega, by omega, by omega, by omega⟩, fun i i0 i1 => ?_⟩
    obtain ⟨o1, o2⟩ := g2 (i + 1) (by omega) (by omega)
    have cc : chg m2 i = chg μ (i + 1) := by
      unfold chg
      rw [x2]
      omega
    have hr : 15 ≤ chg μ (i + 1) ∧ chg μ (i + 1) ≤ 23 := by
      unfold chg
      omega
    refine ⟨?_, fun g a b => ?_⟩
    · rw [cc]
      have new := LK_ag (μ' := m2) (fun j => ag _ j (by omega) (by omega) (by omega) (by omega) (by omega) (by omega)) (fun j => ag _ j (by omega) (by omega) (by omega) (by omega) (by omega) (by omega)) (fun j => ag _ _ (by omega) (by omega) (by omega) (by omega) (by omega) (by omega)) (fun j => ag _ _ (by omega) (by omega) (by omega) (by omega) (by omega) (by omega)) o1
      exact LK_P hL (fun j j0 j1 => pl i j i0 (by omega) j0 j1) (fun j j0 j1 => pl (i + 1) j (by omega) (by omega) j0 j1) new
    · rw [VP_ag (μ := μ) (P := plA μ (i + 1 + 1)) (o2 g a b).bB (fun c j q => ag c j (by omega) (by omega) (by omega) (by omega) (by omega) (by omega)) (fun j x y => pl (i + 1) j (by omega) (by omega) (by omega) (by omega))]
      exact o2 g a b
  refine ⟨GS_ag (fun c i q => ag c i (by omega) (by omega) (by omega) (by omega) (by omega) (by omega)) h.s, fun g a b => ?_, GP_ag (fun c i q => ag c i (by omega) (by omega) (by omega) (by omega) (by omega) (by omega)) h.p, GD_ag (fun c i q => ag c i (by omega) (by omega) (by omega) (by omega) (by omega) (by omega)) h.d, GZ_ag (fun c i q => ag c i (by omega) (by omega) (by omega) (by omega) (by omega) (by omega)) h.z, GK_ag (fun c i q => ag c i (by omega) (by omega) (by omega) (by omega) (by omega) (by omega)) h.k, GR_ag (fun c i q => ag c i (by omega) (by omega) (by omega) (by omega) (by omega) (by omega)) h.r, hH, fun c i q => (ag c i (by omega) (by omega) (by omega) (by omega) (by omega) (by omega)).trans (h.x c i q)⟩
  have hT : GT m2 g := GT_ag (fun c i q => ag c i (by omega) (by omega) (by omega) (by omega) (by omega) (by omega)) (h.t a b)
  by_cases e : g = f
  · subst e
    have uu : UM m2 g = UM μ g := UM_ag (fun i _ _ => ag 82 i (by omega) (by omega) (by omega) (by omega) (by omega) (by omega))
    refine ⟨⟨?_, ?_⟩, ?_, hT⟩
    · rw [hv]
      exact hWF
    · rw [hv]
      exact CF_ag (fun c i q => x1 c i (by omega) (by omega) (by omega) (by omega)) hCF
    · unfold GU
      rw [hv, uu]
      have gu : GUx m2 (41 + 10 * g) (VM μ g) (UM μ g) := by
        obtain ⟨b1, b2, b3, b4⟩ := h.u a b
        refine ⟨b1, b2, fun k k0 k1 => ?_, ?_⟩
        · rw [ag _ _ (by omega) (by omega) (by omega) (by omega) (by omega) (by omega)]
          exact b3 k k0 k1
        · rw [ag _ _ (by omega) (by omega) (by omega) (by omega) (by omega) (by omega)]
          exact b4
      exact GUx_V (V := VM μ g) (fun _ => rfl) rfl hP gu
  · have ag2 : ∀ c i, rF g c i ∨ rU g c i → m2 c i = μ c i := by
      intro c i q
      by_cases z : c = 79
      · subst z
        rw [x5 i (by omega) (by omega)]
        exact hS i (by omega) (by omega) (by omega)
      · exact ag c i (by omega) (by omega) z (by omega) (by omega) (by omega)
    exact ⟨GF_ag (fun c i q => ag2 c i (Or.inl q)) (h.f a b), GU_ag (h.wf a b) (fun c i q => ag2 c i (Or.inr q)) (h.u a b), hT⟩
theorem VP_other (h : Inv M μ) {S : Int → Int} (f0 : 0 ≤ f) (f1 : f < 3) (hS : ∀ j, 0 ≤ j → j < 579 → ¬ (193 * f ≤ j ∧ j < 193 * f + 193) → S j = μ 79 j) {g : Int} (g0 : 0 ≤ g) (g1 : g < 3) (e : g ≠ f) : VP μ S g = VM μ g := VP_ag (h.wf g0 g1).bB (fun _ _ _ => rfl) (fun j a b => hS j (by omega) (by omega) (by omega))
theorem r_undo (h : Inv M μ) {S : Int → Int} (hS : S = plA μ 1) (hs : 0 < μ 13 0) (wfS : ∀ f, 0 ≤ f → f < 3 → WF (VP μ S f)) {m1 : MM} (a1 : ∀ c i, c ≤ 0 ∨ 71 ≤ c → m1 c i = μ c i) : ((∀ g, 0 ≤ g → g < 3 → FU (bdP (VP μ S g) (UM μ g)) (-1) 0 396 = -1) → EE 197 0 [(48, 71), (9, 0), (9, 0), (9, 0)] [] m1 = some (μ 13 0 - 1, up (SWP m1 (μ 13 0 - 1) 0) 71 10 (μ 13 0 - 1))) ∧ (¬ (∀ g, 0 ≤ g → g < 3 → FU (bdP (VP μ S g) (UM μ g)) (-1) 0 396 = -1) → EE 197 0 [(48, 71), (9, 0), (9, 0), (9, 0)] [] m1 = some (-1000000002, RST (SWP m1 (μ 13 0 - 1) 0) 0)) := by
  have g1 := h.h.1
  have hm1 : MRf m1 := MRf_ag (fun i _ => a1 71 i (by omega)) h.m
  have sw : ∀ c i, c ≠ 79 → c ≠ 81 → SWP m1 (μ 13 0 - 1) 0 c i = m1 c i := fun c i p q => by
    unfold SWP
    rw [if_neg (by omega), if_neg (by omega)]
  have hms : MRf (SWP m1 (μ 13 0 - 1) 0) := MRf_ag (fun x _ => sw _ _ (by omega) (by omega)) hm1
  have s79 : ∀ j, 0 ≤ j → j < 579 → SWP m1 (μ 13 0 - 1) 0 79 j = S j := fun j j0 j1 => by
    rw [hS]
    show SWP m1 (μ 13 0 - 1) 0 79 j = (if (1 : Int) = 0 then μ 79 else fun j => μ 80 (579 * (μ 71 10 - 1) + j)) j
    unfold SWP
    rw [if_neg (by omega), if_pos ⟨rfl, j0, j1⟩, if_neg (by omega), a1 80 _ (by omega), g1.2.2.1]
  refine m_undo (m := m1) hm1 (k := μ 13 0 - 1) (by omega) (by omega) (by rw [a1 71 10 (by omega), g1.2.2.1]; omega) (fun g => VP μ S g) (fun g a b => ⟨wfS g a b, ?_⟩) (fun g => UM μ g) (fun g a b k k0 k1 => ?_)
  · have hv : VM (SWP m1 (μ 13 0 - 1) 0) g = VP μ S g := VP_ag (wfS g a b).bB (fun c i q => by rw [sw c i (by omega) (by omega), a1 c i (by omega)]) (fun j x y => s79 j (by omega) (by omega))
    show MF (SWP m1 (μ 13 0 - 1) 0) g (VP μ S g)
    rw [← hv]
    exact MF_of hms a b
  · rw [a1 82 _ (by omega)]
    refine ⟨(h.mu a b).2 k k0 k1, ?_⟩
    rcases (h.mu a b).1 k with q | q
    · exact Or.inl q
    · exact Or.inr q.1
theorem st_undo (h : Inv M μ) : ST M (EE 115 0 [(47, 1)] [] μ) (fun m => EE 197 0 [(48, 71), (9, 0), (9, 0), (9, 0)] [] m) := by
  unfold ST
  have g := h.h
  have gg := g.1
  have e132 : μ 13 2 = 14 := h.s.2.2.1.2.2.2.2.1
  have e17 : μ 1 7 = 13 := h.s.1.2.2.2.2.2.2.2.1
  rw [q115_0, e17, nn13, q64_0]
  by_cases e0 : μ 13 0 = 0
  · rw [if_pos e0, bnd_s, if_pos rfl]
    refine ⟨_, _, _, rfl, ?_, h⟩
    show EE 197 0 [(48, 71), (9, 0), (9, 0), (9, 0)] [] μ = _
    rw [q197_0, g.1.2.2.1, if_pos e0]
  · have hs : 0 < μ 13 0 := by omega
    have n0 := g.1.2.2.2.1
    have n1 := g.1.2.2.2.2
    have e14 := h.s.2.2.2.1 (μ 13 1) n0 n1
    rw [if_neg e0, e132, nn14, jx14 _ n0 n1, e14.1, nn_ok _ (by omega)]
    have c0 : chg μ 0 = 15 + 2 * μ 13 1 := by
      unfold chg
      omega
    obtain ⟨lk, wfS⟩ := g.2 0 (by omega) hs
    have p0 : plA μ 0 = μ 79 := if_pos rfl
    rw [p0, c0, show (0 : Int) + 1 = 1 from rfl] at lk
    rw [show (0 : Int) + 1 = 1 from rfl] at wfS
    obtain ⟨f, f0, f1, m4, r1, r2, r3, r4, r5⟩ := rvt h ⟨μ 13 1, n0, n1, rfl⟩ lk wfS
    rcases r5 with ⟨b1, b2⟩ | ⟨b1, k, k0, k1, k2, k3⟩
    · have a4 : m4 13 2 = 14 := by rw [r2 _ _ (by omega) (by omega), e132]
      have a13 : m4 13 1 = μ 13 1 := r2 _ _ (by omega) (by omega)
      have a10 : m4 13 0 = μ 13 0 := r2 _ _ (by omega) (by omega)
      rw [b1, bnd_s, if_pos rfl, e132, nn14, jx14 _ n0 n1, e14.1, nn_ok _ (by omega), r1, bnd_s, bnd_s, if_neg (by omega), a13, up_ni _ _ (by omega), a10, w32_l (x := μ 13 1 + 5) (by omega) (by omega), w32_l (x := μ 13 1 + 5 - 1) (by omega) (by omega), tm5 (by omega), w32_l (x := μ 13 0 - 1) (by omega) (by omega)]
      generalize hm1 : up (up m4 13 1 ((μ 13 1 + 5 - 1) % 5)) 13 0 (μ 13 0 - 1) = m1
      have a1 : ∀ c i, ¬ (c = 13 ∧ i ≤ 1) → m1 c i = m4 c i := fun c i q => by rw [← hm1, up_n _ _ (by omega), up_n _ _ (by omega)]
      have v0 : m1 13 0 = μ 13 0 - 1 := by rw [← hm1, up_s]
      have v1 : m1 13 1 = (μ 13 1 + 4) % 5 := by
        rw [← hm1, up_ni _ _ (by omega), up_s, show μ 13 1 + 5 - 1 = μ 13 1 + 4 by omega]
      have v7 : m1 1 7 = 13 := by rw [a1 _ _ (by omega), r2 _ _ (by omega) (by omega), e17]
      rw [v7, nn13, v0]
      have aa : ∀ c i, c ≤ 0 ∨ 71 ≤ c → m1 c i = μ c i := fun c i q => by rw [a1 c i (by omega), r2 c i (by omega) (by omega)]
      have ru := (r_undo h (S := plA μ 1) rfl hs wfS aa).1 (fun x a b => by
        refine (FU_n (by omega)).2 (fun j j0 j1 w => ?_)
        apply w.2
        by_cases q : x = f
        · rw [q]
          exact b2 j (by rw [← q]; exact w.1)
        · rw [VP_other h f0 f1 r4 a b q]
          exact isP_up h a b w.1)
      have sw : ∀ c i, c ≠ 79 → c ≠ 81 → SWP m1 (μ 13 0 - 1) 0 c i = m1 c i := fun c i p q => by
        unfold SWP
        rw [if_neg (by omega), if_neg (by omega)]
      refine ⟨_, _, _, rfl, ru, ?_⟩
      refine Inv_back h f0 f1 hs r2 (fun c i a b d e => ?_) ?_ ?_ (up_s _ _ _ _) (fun j j0 j1 => ?_) r4 (wfS f f0 f1) r3 b2
      · rw [up_n _ _ (by omega), sw c i d e, a1 c i a]
      · rw [up_nc _ _ (by omega), sw _ _ (by omega) (by omega), v1]
      · rw [up_nc _ _ (by omega), sw _ _ (by omega) (by omega), v0]
      · rw [up_nc _ _ (by omega)]
        show SWP m1 (μ 13 0 - 1) 0 79 j = (if (1 : Int) = 0 then μ 79 else fun j => μ 80 (579 * (μ 71 10 - 1) + j)) j
        unfold SWP
        rw [if_neg (by omega), if_pos ⟨rfl, j0, j1⟩, if_neg (by omega), aa 80 _ (by omega), g.1.2.2.1]
    · rw [b1, bnd_s, if_neg (by omega), bnd_s, if_pos rfl]
      have ru := (r_undo h (S := plA μ 1) rfl hs wfS (m1 := μ) (fun _ _ _ => rfl)).2 (fun w => by
        have wf := (FU_n (by omega)).1 (w f f0 f1) k k0 k1
        exact wf ⟨k2, k3⟩)
      refine ⟨_, _, _, rfl, ru, Inv_sA (fun c i q => ?_) h⟩
      unfold RST SWP
      by_cases z : c = 79 ∧ 0 ≤ i ∧ i < 579
      · rw [if_pos z, if_pos (by omega), z.1]
      · rw [if_neg z, if_neg (by omega), if_neg z]
end US6
