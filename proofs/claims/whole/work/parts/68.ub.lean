/-! undo: the class -/
def RVL (m : MM) (A c B l b : Int) : MM := fun x j => if x = A + 5 ∧ 11 * l + b ≤ j ∧ j < 11 * l + B then m (c + 1) (j - 11 * l) else m x j
section UB6
variable {M μ μ' m : MM} {A f c : Int} {V : FV} {U S : Int → Int}
theorem c_bearsN (h2 : μ c 0 ≠ 2) (h3 : μ c 0 ≠ 3) (h4 : μ c 0 ≠ 4) : EE 3 0 [(40, c), (9, 0), (9, 0)] [] μ = some (0, μ) := by
  have e : ∀ s, EE 3 35 [(40, c), (9, 0), (9, 0)] [(0, s)] μ = some (0, μ) := fun s => by
    rw [q3_35, if_neg h3, if_neg h2, if_neg h4, q3_65, if_pos rfl, q3_110]
  rw [q3_0, if_neg h3, e, e]
  split <;> rfl
theorem c_bears (h : CF μ A V) (hu : CU μ A V U) (h1 : μ c 1 = A) (hk : μ c 0 = 2 ∨ μ c 0 = 3 ∨ μ c 0 = 4) (h2 : -100 ≤ μ c 2 ∧ μ c 2 ≤ 100) (h3 : -100 ≤ μ c 3 ∧ μ c 3 ≤ 100) : EE 3 0 [(40, c), (9, 0), (9, 0)] [] μ = some (if (μ c 0 = 3 ∧ μ c 4 < 0) ∨ (μ c 0 ≠ 3 ∧ μ c 4 = 0) then U (66 * μ c 0 + 11 * μ c 2 + μ c 3) else 0, μ) := by
  have hA := fr_p h.fr
  have u : U (66 * μ c 0 + 11 * μ c 2 + μ c 3) = 0 ∨ U (66 * μ c 0 + 11 * μ c 2 + μ c 3) = 1 := by
    rcases hu.1 (66 * μ c 0 + 11 * μ c 2 + μ c 3) with q | q
    · exact Or.inl q
    · exact Or.inr q.1
  have e0 : EE 3 60 [(40, c), (0, 0), (9, 0)] [] μ = some (U (66 * μ c 0 + 11 * μ c 2 + μ c 3), μ) := by
    rw [q3_60, q3_65, if_neg (by omega), if_pos rfl, if_neg (by omega), c_pieceAt _ (by omega) h2 h3, bnd_s, h1, nA0 h.fr, c_stands h hu, bnd_s]
    by_cases z : U (66 * μ c 0 + 11 * μ c 2 + μ c 3) = 0
    · rw [if_pos z, q3_110, z]
    · rw [if_neg z, show U (66 * μ c 0 + 11 * μ c 2 + μ c 3) = 1 by omega]
  have e1 : EE 3 60 [(40, c), (0, 1), (9, 0)] [] μ = some (0, μ) := by
    rw [q3_60, q3_65, if_neg (by omega), if_neg (by omega), q3_110]
  have e35 : ∀ s, EE 3 35 [(40, c), (9, 0), (9, 0)] [(0, s)] μ = EE 3 60 [(40, c), (0, s), (9, 0)] [] μ := fun s => by
    rw [q3_35]
    by_cases z3 : μ c 0 = 3
    · rw [if_pos z3]
    · rw [if_neg z3]
      by_cases z2 : μ c 0 = 2
      · rw [if_pos z2]
      · rw [if_neg z2, if_pos (by omega)]
  rw [q3_0, e35, e35, e0, e1]
  by_cases z3 : μ c 0 = 3
  · rw [if_pos z3]
    by_cases z4 : μ c 4 < 0
    · rw [if_pos z4, if_pos (Or.inl ⟨z3, z4⟩)]
    · rw [if_neg z4, if_neg (by omega)]
  · rw [if_neg z3]
    by_cases z4 : μ c 4 = 0
    · rw [if_pos z4, if_pos (Or.inr ⟨z3, z4⟩)]
    · rw [if_neg z4, if_neg (by omega)]
theorem c_rvL (hA : Fr A) {B L l : Int} (B1 : B ≤ 10) (L1 : L ≤ 6) (l0 : 0 ≤ l) (l1 : l < L) (hc : ∃ n, 0 ≤ n ∧ n < 5 ∧ c = 15 + 2 * n) : ∀ b (m : MM), 0 ≤ b → m A 1 = B → m A 2 = L → m A 10 = A + 5 → m c 1 = A → m c 2 = l → m c 5 = c + 1 → EE 5 25 [(40, c), (0, b)] [] m = some (0, RVL m A c B l b) := by
  obtain ⟨n, n0, n1, en⟩ := hc
  have ha := fr_p hA
  have cl : cln (c + 1) = 10 := by
    rw [en]
    exact clcR n0 n1
  refine up_ind 10 (fun b hb m b0 h1 h2 h10 c1 c2 c5 => ?_) (fun b hb ih m b0 h1 h2 h10 c1 c2 c5 => ?_)
  · have e : RVL m A c B l b = m := by
      funext x j
      unfold RVL
      rw [if_neg (by omega)]
    rw [q5_25, c5, nn_ok _ (by omega), cl, if_neg (by omega), e]
  · rw [q5_25, c5, nn_ok _ (by omega), cl, if_pos hb, nn_ok _ (by omega), ix_ok _ b0 (by rw [cl]; exact hb), c1, nA0 hA, c2, w32_l (x := b + 1) (by omega) (by omega)]
    by_cases q : b < B
    · have e : RVL (up m (A + 5) (11 * l + b) (m (c + 1) b)) A c B l (b + 1) = RVL m A c B l b := by
        funext x j
        unfold RVL
        by_cases z : x = A + 5 ∧ j = 11 * l + b
        · rw [if_neg (by omega), z.1, z.2, up_s, if_pos (by omega), show 11 * l + b - 11 * l = b by omega]
        by_cases y : x = A + 5 ∧ 11 * l + b ≤ j ∧ j < 11 * l + B
        · rw [if_pos y, if_pos (by omega), up_nc _ _ (by omega)]
        · rw [if_neg y, if_neg (by omega), up_n _ _ (by omega)]
      rw [r_setClass hA h1 h2 h10 B1 L1 b0 q l0 l1, bnd_s, ih _ (by omega) (by rw [up_nc _ _ (by omega)]; exact h1) (by rw [up_nc _ _ (by omega)]; exact h2) (by rw [up_nc _ _ (by omega)]; exact h10) (by rw [up_nc _ _ (by omega)]; exact c1) (by rw [up_nc _ _ (by omega)]; exact c2) (by rw [up_nc _ _ (by omega)]; exact c5), e]
    · have e : RVL m A c B l (b + 1) = RVL m A c B l b := by
        funext x j
        unfold RVL
        rw [if_neg (by omega), if_neg (by omega)]
      rw [q27_0, q11_0, if_neg (by omega), h1, if_neg q, bnd_s, if_pos rfl, bnd_s, ih _ (by omega) h1 h2 h10 c1 c2 c5, e]
/-- what the class does as it takes a change back -/
def RVT (M μ : MM) (c f : Int) (S : Int → Int) : Prop := ∃ m4, EE 4 0 [(40, c)] [] μ = some (0, m4) ∧ (∀ x i, ¬ (x = 41 + 10 * f ∧ i = 4) → ¬ (45 + 10 * f ≤ x ∧ x ≤ 48 + 10 * f) → m4 x i = μ x i) ∧ CF m4 (41 + 10 * f) (VP μ S f) ∧ (∀ j, 0 ≤ j → j < 579 → ¬ (193 * f ≤ j ∧ j < 193 * f + 193) → S j = μ 79 j) ∧
  ((EE 3 0 [(40, c), (9, 0), (9, 0)] [] μ = some (0, μ) ∧ ∀ k, UM μ f k = 1 → isP (VP μ S f) k) ∨ (EE 3 0 [(40, c), (9, 0), (9, 0)] [] μ = some (1, μ) ∧ ∃ k, 0 ≤ k ∧ k < 396 ∧ UM μ f k = 1 ∧ ¬ isP (VP μ S f) k))
theorem isP_up (h : Inv M μ) (f0 : 0 ≤ f) (f1 : f < 3) {k : Int} (hk : UM μ f k = 1) : isP (VM μ f) k := by
  rcases (h.mu f0 f1).1 k with q | q
  · omega
  · exact q.2

theorem rvt3 (h : Inv M μ) (f0 : 0 ≤ f) (f1 : f < 3) (e1 : μ c 1 = 41 + 10 * f) (e2 : vB (VM μ f) ≠ 0) (l0 : 0 ≤ μ c 2) (l1 : μ c 2 < vL (VM μ f)) (kd : μ c 0 = 3) (p0 : 0 ≤ μ c 3) (p1 : μ c 3 < vB (VM μ f)) (hS : ∀ j, 0 ≤ j → j < 579 → S j = if j = 193 * f + 6 + 10 * μ c 2 + μ c 3 then μ c 4 else μ 79 j) : RVT M μ c f S := by
  have hw := h.wf f0 f1
  have hr := hw.r
  have hc := h.cf f0 f1
  have hA : 41 + 10 * f ≠ 0 := by omega
  have vp : vP (VP μ S f) = vP (VM μ f) := by
    rw [vq_P, hS _ (by omega) (by omega), if_neg (by omega)]
    rfl
  have vf : ∀ l', vF (VP μ S f) l' = vF (VM μ f) l' := vF_eq (fun l' a b => by rw [hS _ (by omega) (by omega), if_neg (by omega)])
  have vr : ∀ b' l', vR (VP μ S f) b' l' = vR (VM μ f) b' l' := vR_eq (fun j x y => by rw [hS _ (by omega) (by omega), if_neg (by omega)])
  have vt : ∀ b' l', vT (VP μ S f) b' l' = vT (VM μ f) b' l' := vT_eq (fun j x y => by rw [hS _ (by omega) (by omega), if_neg (by omega)])
  have vx : ∀ b' l', vC (VP μ S f) b' l' = if b' = μ c 3 ∧ l' = μ c 2 then μ c 4 else vC (VM μ f) b' l' := by
    intro b' l'
    show vC (VP μ S f) b' l' = if b' = μ c 3 ∧ l' = μ c 2 then μ c 4 else vC (VP μ (μ 79) f) b' l'
    rw [vq_C, vq_C]
    by_cases q : μ 76 f ≠ 0 ∧ 0 ≤ b' ∧ b' < 10 ∧ 0 ≤ l' ∧ l' < 6
    · rw [if_pos q, if_pos q, hS _ (by omega) (by omega)]
      by_cases z : b' = μ c 3 ∧ l' = μ c 2
      · rw [if_pos z, if_pos (by omega)]
      · rw [if_neg z, if_neg (by omega)]
    · rw [if_neg q, if_neg q, if_neg]
      intro z
      apply q
      exact ⟨e2, by omega⟩
  have hb := c_bears hc (h.cu f0 f1) e1 (by omega) (by omega) (by omega)
  rw [kd] at hb
  have t1 : (66 * 3 + 11 * μ c 2 + μ c 3) / 66 = 3 := by omega
  have t2 : (66 * 3 + 11 * μ c 2 + μ c 3) % 66 / 11 = μ c 2 := by omega
  have t3 : (66 * 3 + 11 * μ c 2 + μ c 3) % 11 = μ c 3 := by omega
  refine ⟨up μ (41 + 10 * f + 5) (11 * μ c 2 + μ c 3) (μ c 4), ?_, fun x i a b => up_nc _ _ (by omega), ?_, fun j a b y => ?_, ?_⟩
  · rw [q4_0, kd, e1, if_neg hA, if_neg (by omega), if_pos rfl, nn_ok _ hA, r_setClass hc.fr hc.c1 hc.c2 hc.c10 hr.2.1 hr.2.2.2.1 p0 p1 l0 l1, bnd_s]
  · have am : ∀ x i, ¬ (x = 41 + 10 * f + 5 ∧ i = 11 * μ c 2 + μ c 3) → up μ (41 + 10 * f + 5) (11 * μ c 2 + μ c 3) (μ c 4) x i = μ x i := fun x i y => up_n _ _ (by omega)
    refine CF_mk hc hr.2.1 (fun i x y => am _ _ (by omega)) (by rw [am _ _ (by omega), vp]; exact hc.c4) (fun c i x y => am _ _ (by omega)) rfl rfl rfl (fun _ => rfl) (fun _ => rfl) (fun l' x y => ?_) (fun b' l' x y z w => ⟨?_, ?_⟩) (fun b' l' x y z w => ?_)
    · rw [am _ _ (by omega), vf]
      exact hc.f x y
    · rw [vx]
      by_cases q : b' = μ c 3 ∧ l' = μ c 2
      · rw [if_pos q, q.1, q.2, up_s]
      · rw [if_neg q, am _ _ (by omega)]
        exact hc.cX x y z w
    · rw [am _ _ (by omega), vr]
      exact hc.bX x y z w
    · rw [am _ _ (by omega), vt]
      exact hc.tX x y z w
  · rw [hS j a b, if_neg (by omega)]
  · by_cases z : μ c 4 < 0 ∧ UM μ f (66 * 3 + 11 * μ c 2 + μ c 3) = 1
    · refine Or.inr ⟨by rw [hb, if_pos (Or.inl ⟨rfl, z.1⟩), z.2], 66 * 3 + 11 * μ c 2 + μ c 3, by omega, by omega, z.2, fun hp => ?_⟩
      have hq := hp.2.2
      rw [t1, t2, t3] at hq
      rcases hq with q | q | q | q | q | q
      · have q1 := q.1
        omega
      · have q1 := q.1
        omega
      · have q1 := q.1
        omega
      · have q2 := q.2
        rw [vx, if_pos ⟨rfl, rfl⟩] at q2
        omega
      · have q1 := q.1
        omega
      · have q1 := q.1
        omega
    · refine Or.inl ⟨?_, fun k hk => ?_⟩
      · rw [hb]
        by_cases y : μ c 4 < 0
        · have u : UM μ f (66 * 3 + 11 * μ c 2 + μ c 3) = 0 := by
            rcases (h.mu f0 f1).1 (66 * 3 + 11 * μ c 2 + μ c 3) with q | q
            · exact q
            · exact absurd ⟨y, q.1⟩ z
          rw [if_pos (Or.inl ⟨rfl, y⟩), u]
        · rw [if_neg (by omega)]
      · have hkp := isP_up h f0 f1 hk
        refine ⟨hkp.1, hkp.2.1, PI_cg (V := VM μ f) (V' := VP μ S f) rfl rfl (fun _ => rfl) ?_ ?_ ?_ hkp.2.2⟩
        · exact fun _ x => by rw [vr]; exact x
        · intro t x
          rw [vx]
          by_cases y : k % 11 = μ c 3 ∧ k % 66 / 11 = μ c 2
          · rw [if_pos y]
            have ek : 66 * 3 + 11 * μ c 2 + μ c 3 = k := by omega
            rw [ek] at z
            omega
          · rw [if_neg y]
            exact x
        · exact fun _ x => by rw [vt]; exact x
theorem rvt2 (h : Inv M μ) (f0 : 0 ≤ f) (f1 : f < 3) (e1 : μ c 1 = 41 + 10 * f) (e2 : vB (VM μ f) ≠ 0) (l0 : 0 ≤ μ c 2) (l1 : μ c 2 < vL (VM μ f)) (kd : μ c 0 = 2) (p0 : 0 ≤ μ c 3) (p1 : μ c 3 < vB (VM μ f)) (ho : μ c 4 = 0 ∨ μ c 4 = 1) (hS : ∀ j, 0 ≤ j → j < 579 → S j = if j = 193 * f + 66 + 10 * μ c 2 + μ c 3 then μ c 4 else μ 79 j) : RVT M μ c f S := by
  have hw := h.wf f0 f1
  have hr := hw.r
  have hc := h.cf f0 f1
  have hA : 41 + 10 * f ≠ 0 := by omega
  have vp : vP (VP μ S f) = vP (VM μ f) := by
    rw [vq_P, hS _ (by omega) (by omega), if_neg (by omega)]
    rfl
  have vf : ∀ l', vF (VP μ S f) l' = vF (VM μ f) l' := vF_eq (fun l' a b => by rw [hS _ (by omega) (by omega), if_neg (by omega)])
  have vc : ∀ b' l', vC (VP μ S f) b' l' = vC (VM μ f) b' l' := vC_eq (fun j x y => by rw [hS _ (by omega) (by omega), if_neg (by omega)])
  have vt : ∀ b' l', vT (VP μ S f) b' l' = vT (VM μ f) b' l' := vT_eq (fun j x y => by rw [hS _ (by omega) (by omega), if_neg (by omega)])
  have vx : ∀ b' l', vR (VP μ S f) b' l' = if b' = μ c 3 ∧ l' = μ c 2 then μ c 4 else vR (VM μ f) b' l' := by
    intro b' l'
    show vR (VP μ S f) b' l' = if b' = μ c 3 ∧ l' = μ c 2 then μ c 4 else vR (VP μ (μ 79) f) b' l'
    rw [vq_R, vq_R]
    by_cases q : μ 76 f ≠ 0 ∧ 0 ≤ b' ∧ b' < 10 ∧ 0 ≤ l' ∧ l' < 6
    · rw [if_pos q, if_pos q, hS _ (by omega) (by omega)]
      by_cases z : b' = μ c 3 ∧ l' = μ c 2
      · rw [if_pos z, if_pos (by omega)]
      · rw [if_neg z, if_neg (by omega)]
    · rw [if_neg q, if_neg q, if_neg]
      intro z
      apply q
      exact ⟨e2, by omega⟩
  have hb := c_bears hc (h.cu f0 f1) e1 (by omega) (by omega) (by omega)
  rw [kd] at hb
  have t1 : (66 * 2 + 11 * μ c 2 + μ c 3) / 66 = 2 := by omega
  have t2 : (66 * 2 + 11 * μ c 2 + μ c 3) % 66 / 11 = μ c 2 := by omega
  have t3 : (66 * 2 + 11 * μ c 2 + μ c 3) % 11 = μ c 3 := by omega
  refine ⟨up μ (41 + 10 * f + 6) (11 * μ c 2 + μ c 3) (μ c 4), ?_, fun x i a b => up_nc _ _ (by omega), ?_, fun j a b y => ?_, ?_⟩
  · rw [q4_0, kd, e1, if_neg hA, if_pos rfl]
    rcases ho with z | z
    · rw [z, if_pos rfl, nn_ok _ hA, r_setBrace hc.fr hc.c1 hc.c2 hc.c11 hr.2.1 hr.2.2.2.1 p0 p1 l0 l1 (Or.inl rfl), bnd_s]
    · rw [z, if_neg (by omega), nn_ok _ hA, r_setBrace hc.fr hc.c1 hc.c2 hc.c11 hr.2.1 hr.2.2.2.1 p0 p1 l0 l1 (Or.inr rfl), bnd_s]
  · have am : ∀ x i, ¬ (x = 41 + 10 * f + 6 ∧ i = 11 * μ c 2 + μ c 3) → up μ (41 + 10 * f + 6) (11 * μ c 2 + μ c 3) (μ c 4) x i = μ x i := fun x i y => up_n _ _ (by omega)
    refine CF_mk hc hr.2.1 (fun i x y => am _ _ (by omega)) (by rw [am _ _ (by omega), vp]; exact hc.c4) (fun c i x y => am _ _ (by omega)) rfl rfl rfl (fun _ => rfl) (fun _ => rfl) (fun l' x y => ?_) (fun b' l' x y z w => ⟨?_, ?_⟩) (fun b' l' x y z w => ?_)
    · rw [am _ _ (by omega), vf]
      exact hc.f x y
    · rw [am _ _ (by omega), vc]
      exact hc.cX x y z w
    · rw [vx]
      by_cases q : b' = μ c 3 ∧ l' = μ c 2
      · rw [if_pos q, q.1, q.2, up_s]
      · rw [if_neg q, am _ _ (by omega)]
        exact hc.bX x y z w
    · rw [am _ _ (by omega), vt]
      exact hc.tX x y z w
  · rw [hS j a b, if_neg (by omega)]
  · by_cases z : μ c 4 = 0 ∧ UM μ f (66 * 2 + 11 * μ c 2 + μ c 3) = 1
    · refine Or.inr ⟨by rw [hb, if_pos (Or.inr ⟨by omega, z.1⟩), z.2], 66 * 2 + 11 * μ c 2 + μ c 3, by omega, by omega, z.2, fun hp => ?_⟩
      have hq := hp.2.2
      rw [t1, t2, t3] at hq
      rcases hq with q | q | q | q | q | q
      · have q1 := q.1
        omega
      · have q1 := q.1
        omega
      · have q2 := q.2
        rw [vx, if_pos ⟨rfl, rfl⟩] at q2
        omega
      · have q1 := q.1
        omega
      · have q1 := q.1
        omega
      · have q1 := q.1
        omega
    · refine Or.inl ⟨?_, fun k hk => ?_⟩
      · rw [hb]
        by_cases y : μ c 4 = 0
        · have u : UM μ f (66 * 2 + 11 * μ c 2 + μ c 3) = 0 := by
            rcases (h.mu f0 f1).1 (66 * 2 + 11 * μ c 2 + μ c 3) with q | q
            · exact q
            · exact absurd ⟨y, q.1⟩ z
          rw [if_pos (Or.inr ⟨by omega, y⟩), u]
        · rw [if_neg (by omega)]
      · have hkp := isP_up h f0 f1 hk
        refine ⟨hkp.1, hkp.2.1, PI_cg (V := VM μ f) (V' := VP μ S f) rfl rfl (fun _ => rfl) ?_ ?_ ?_ hkp.2.2⟩
        · intro t x
          rw [vx]
          by_cases y : k % 11 = μ c 3 ∧ k % 66 / 11 = μ c 2
          · rw [if_pos y]
            have ek : 66 * 2 + 11 * μ c 2 + μ c 3 = k := by omega
            rw [ek] at z
            omega
          · rw [if_neg y]
            exact x
        · exact fun _ x => by rw [vc]; exact x
        · exact fun _ x => by rw [vt]; exact x
theorem rvt4 (h : Inv M μ) (f0 : 0 ≤ f) (f1 : f < 3) (e1 : μ c 1 = 41 + 10 * f) (e2 : vB (VM μ f) ≠ 0) (l0 : 0 ≤ μ c 2) (l1 : μ c 2 < vL (VM μ f)) (kd : μ c 0 = 4) (p0 : 0 ≤ μ c 3) (p1 : μ c 3 ≤ vB (VM μ f)) (ho : μ c 4 = 0 ∨ μ c 4 = 1) (hS : ∀ j, 0 ≤ j → j < 579 → S j = if j = 193 * f + 126 + 11 * μ c 2 + μ c 3 then μ c 4 else μ 79 j) : RVT M μ c f S := by
  have hw := h.wf f0 f1
  have hr := hw.r
  have hc := h.cf f0 f1
  have hA : 41 + 10 * f ≠ 0 := by omega
  have vp : vP (VP μ S f) = vP (VM μ f) := by
    rw [vq_P, hS _ (by omega) (by omega), if_neg (by omega)]
    rfl
  have vf : ∀ l', vF (VP μ S f) l' = vF (VM μ f) l' := vF_eq (fun l' a b => by rw [hS _ (by omega) (by omega), if_neg (by omega)])
  have vc : ∀ b' l', vC (VP μ S f) b' l' = vC (VM μ f) b' l' := vC_eq (fun j x y => by rw [hS _ (by omega) (by omega), if_neg (by omega)])
  have vr : ∀ b' l', vR (VP μ S f) b' l' = vR (VM μ f) b' l' := vR_eq (fun j x y => by rw [hS _ (by omega) (by omega), if_neg (by omega)])
  have vx : ∀ b' l', vT (VP μ S f) b' l' = if b' = μ c 3 ∧ l' = μ c 2 then μ c 4 else vT (VM μ f) b' l' := by
    intro b' l'
    show vT (VP μ S f) b' l' = if b' = μ c 3 ∧ l' = μ c 2 then μ c 4 else vT (VP μ (μ 79) f) b' l'
    rw [vq_T, vq_T]
    by_cases q : μ 76 f ≠ 0 ∧ 0 ≤ b' ∧ b' < 11 ∧ 0 ≤ l' ∧ l' < 6
    · rw [if_pos q, if_pos q, hS _ (by omega) (by omega)]
      by_cases z : b' = μ c 3 ∧ l' = μ c 2
      · rw [if_pos z, if_pos (by omega)]
      · rw [if_neg z, if_neg (by omega)]
    · rw [if_neg q, if_neg q, if_neg]
      intro z
      apply q
      exact ⟨e2, by omega⟩
  have hb := c_bears hc (h.cu f0 f1) e1 (by omega) (by omega) (by omega)
  rw [kd] at hb
  have t1 : (66 * 4 + 11 * μ c 2 + μ c 3) / 66 = 4 := by omega
  have t2 : (66 * 4 + 11 * μ c 2 + μ c 3) % 66 / 11 = μ c 2 := by omega
  have t3 : (66 * 4 + 11 * μ c 2 + μ c 3) % 11 = μ c 3 := by omega
  refine ⟨up μ (41 + 10 * f + 7) (11 * μ c 2 + μ c 3) (μ c 4), ?_, fun x i a b => up_nc _ _ (by omega), ?_, fun j a b y => ?_, ?_⟩
  · rw [q4_0, kd, e1, if_neg hA, if_neg (by omega), if_neg (by omega), if_pos rfl]
    rcases ho with z | z
    · rw [z, if_pos rfl, nn_ok _ hA, r_setTie hc.fr (by rw [hc.c0, b2i_t e2]; omega) hc.c1 hc.c2 hc.c12 hr.2.1 hr.2.2.2.1 p0 p1 l0 l1 (Or.inl rfl), bnd_s]
    · rw [z, if_neg (by omega), nn_ok _ hA, r_setTie hc.fr (by rw [hc.c0, b2i_t e2]; omega) hc.c1 hc.c2 hc.c12 hr.2.1 hr.2.2.2.1 p0 p1 l0 l1 (Or.inr rfl), bnd_s]
  · have am : ∀ x i, ¬ (x = 41 + 10 * f + 7 ∧ i = 11 * μ c 2 + μ c 3) → up μ (41 + 10 * f + 7) (11 * μ c 2 + μ c 3) (μ c 4) x i = μ x i := fun x i y => up_n _ _ (by omega)
    refine CF_mk hc hr.2.1 (fun i x y => am _ _ (by omega)) (by rw [am _ _ (by omega), vp]; exact hc.c4) (fun c i x y => am _ _ (by omega)) rfl rfl rfl (fun _ => rfl) (fun _ => rfl) (fun l' x y => ?_) (fun b' l' x y z w => ⟨?_, ?_⟩) (fun b' l' x y z w => ?_)
    · rw [am _ _ (by omega), vf]
      exact hc.f x y
    · rw [am _ _ (by omega), vc]
      exact hc.cX x y z w
    · rw [am _ _ (by omega), vr]
      exact hc.bX x y z w
    · rw [vx]
      by_cases q : b' = μ c 3 ∧ l' = μ c 2
      · rw [if_pos q, q.1, q.2, up_s]
      · rw [if_neg q, am _ _ (by omega)]
        exact hc.tX x y z w
  · rw [hS j a b, if_neg (by omega)]
  · by_cases z : μ c 4 = 0 ∧ UM μ f (66 * 4 + 11 * μ c 2 + μ c 3) = 1
    · refine Or.inr ⟨by rw [hb, if_pos (Or.inr ⟨by omega, z.1⟩), z.2], 66 * 4 + 11 * μ c 2 + μ c 3, by omega, by omega, z.2, fun hp => ?_⟩
      have hq := hp.2.2
      rw [t1, t2, t3] at hq
      rcases hq with q | q | q | q | q | q
      · have q1 := q.1
        omega
      · have q1 := q.1
        omega
      · have q1 := q.1
        omega
      · have q1 := q.1
        omega
      · have q2 := q.2
        rw [vx, if_pos ⟨rfl, rfl⟩] at q2
        omega
      · have q1 := q.1
        omega
    · refine Or.inl ⟨?_, fun k hk => ?_⟩
      · rw [hb]
        by_cases y : μ c 4 = 0
        · have u : UM μ f (66 * 4 + 11 * μ c 2 + μ c 3) = 0 := by
            rcases (h.mu f0 f1).1 (66 * 4 + 11 * μ c 2 + μ c 3) with q | q
            · exact q
            · exact absurd ⟨y, q.1⟩ z
          rw [if_pos (Or.inr ⟨by omega, y⟩), u]
        · rw [if_neg (by omega)]
      · have hkp := isP_up h f0 f1 hk
        refine ⟨hkp.1, hkp.2.1, PI_cg (V := VM μ f) (V' := VP μ S f) rfl rfl (fun _ => rfl) ?_ ?_ ?_ hkp.2.2⟩
        · exact fun _ x => by rw [vr]; exact x
        · exact fun _ x => by rw [vc]; exact x
        · intro t x
          rw [vx]
          by_cases y : k % 11 = μ c 3 ∧ k % 66 / 11 = μ c 2
          · rw [if_pos y]
            have ek : 66 * 4 + 11 * μ c 2 + μ c 3 = k := by omega
            rw [ek] at z
            omega
          · rw [if_neg y]
            exact x
theorem rvt12 (h : Inv M μ) (f0 : 0 ≤ f) (f1 : f < 3) (e1 : μ c 1 = 41 + 10 * f) (kd : μ c 0 = 12) (hS : ∀ j, 0 ≤ j → j < 579 → S j = if j = 193 * f + 192 then μ c 4 else μ 79 j) : RVT M μ c f S := by
  have hw := h.wf f0 f1
  have hr := hw.r
  have hc := h.cf f0 f1
  have hA : 41 + 10 * f ≠ 0 := by omega
  have vp : vP (VP μ S f) = μ c 4 := by
    rw [vq_P, hS _ (by omega) (by omega), if_pos rfl]
  have vf : ∀ l', vF (VP μ S f) l' = vF (VM μ f) l' := vF_eq (fun l' a b => by rw [hS _ (by omega) (by omega), if_neg (by omega)])
  have vc : ∀ b' l', vC (VP μ S f) b' l' = vC (VM μ f) b' l' := vC_eq (fun j x y => by rw [hS _ (by omega) (by omega), if_neg (by omega)])
  have vr : ∀ b' l', vR (VP μ S f) b' l' = vR (VM μ f) b' l' := vR_eq (fun j x y => by rw [hS _ (by omega) (by omega), if_neg (by omega)])
  have vt : ∀ b' l', vT (VP μ S f) b' l' = vT (VM μ f) b' l' := vT_eq (fun j x y => by rw [hS _ (by omega) (by omega), if_neg (by omega)])
  refine ⟨up μ (41 + 10 * f) 4 (μ c 4), ?_, fun x i a b => up_n _ _ (by omega), ?_, fun j a b y => ?_, Or.inl ⟨c_bearsN (by omega) (by omega) (by omega), fun k hk => ?_⟩⟩
  · rw [q4_0, kd, e1, if_neg hA, if_neg (by omega), if_neg (by omega), if_neg (by omega), if_pos rfl, nn_ok _ hA]
  · have am : ∀ x i, ¬ (x = 41 + 10 * f ∧ i = 4) → up μ (41 + 10 * f) 4 (μ c 4) x i = μ x i := fun x i y => up_n _ _ (by omega)
    refine CF_mk hc hr.2.1 (fun i x y => am _ _ (by omega)) (by rw [up_s, vp]) (fun c i x y => am _ _ (by omega)) rfl rfl rfl (fun _ => rfl) (fun _ => rfl) (fun l' x y => ?_) (fun b' l' x y z w => ⟨?_, ?_⟩) (fun b' l' x y z w => ?_)
    · rw [am _ _ (by omega), vf]
      exact hc.f x y
    · rw [am _ _ (by omega), vc]
      exact hc.cX x y z w
    · rw [am _ _ (by omega), vr]
      exact hc.bX x y z w
    · rw [am _ _ (by omega), vt]
      exact hc.tX x y z w
  · rw [hS j a b, if_neg (by omega)]
  · have hkp := isP_up h f0 f1 hk
    refine ⟨hkp.1, hkp.2.1, PI_cg (V := VM μ f) (V' := VP μ S f) rfl rfl (fun _ => rfl) ?_ ?_ ?_ hkp.2.2⟩
    · exact fun _ x => by rw [vr]; exact x
    · exact fun _ x => by rw [vc]; exact x
    · exact fun _ x => by rw [vt]; exact x
theorem rvt10 (h : Inv M μ) (f0 : 0 ≤ f) (f1 : f < 3) (hn : ∃ n, 0 ≤ n ∧ n < 5 ∧ c = 15 + 2 * n) (e1 : μ c 1 = 41 + 10 * f) (e2 : vB (VM μ f) ≠ 0) (l0 : 0 ≤ μ c 2) (l1 : μ c 2 < vL (VM μ f)) (kd : μ c 0 = 10 ∨ μ c 0 = 11) (ho : μ c 4 = 0 ∨ μ c 4 = 1) (hb : ∀ b, 0 ≤ b → b < 10 → 0 ≤ μ 79 (193 * f + 6 + 10 * μ c 2 + b) → 0 ≤ μ (c + 1) b)
    (hS : ∀ j, 0 ≤ j → j < 579 → S j = if j = 193 * f + μ c 2 then μ c 4 else if 193 * f + 6 + 10 * μ c 2 ≤ j ∧ j < 193 * f + 16 + 10 * μ c 2 then μ (c + 1) (j - (193 * f + 6 + 10 * μ c 2)) else μ 79 j) (hwS : WF (VP μ S f)) : RVT M μ c f S := by
  have hw := h.wf f0 f1
  have hr := hw.r
  have hc := h.cf f0 f1
  have hA : 41 + 10 * f ≠ 0 := by omega
  have e2' : μ 76 f ≠ 0 := e2
  obtain ⟨n, n0, n1, en⟩ := id hn
  have c5 : μ c 5 = c + 1 := by
    rw [en, (h.s.2.2.2.1 n n0 n1).2]
    omega
  have vp : vP (VP μ S f) = vP (VM μ f) := by
    rw [vq_P, hS _ (by omega) (by omega), if_neg (by omega), if_neg (by omega)]
    rfl
  have vr : ∀ b' l', vR (VP μ S f) b' l' = vR (VM μ f) b' l' := vR_eq (fun j x y => by rw [hS _ (by omega) (by omega), if_neg (by omega), if_neg (by omega)])
  have vt : ∀ b' l', vT (VP μ S f) b' l' = vT (VM μ f) b' l' := vT_eq (fun j x y => by rw [hS _ (by omega) (by omega), if_neg (by omega), if_neg (by omega)])
  have vf : ∀ l', vF (VP μ S f) l' = if l' = μ c 2 then μ c 4 else vF (VM μ f) l' := by
    intro l'
    show vF (VP μ S f) l' = if l' = μ c 2 then μ c 4 else vF (VP μ (μ 79) f) l'
    rw [vq_F, vq_F]
    by_cases q : μ 76 f ≠ 0 ∧ 0 ≤ l' ∧ l' < 6
    · rw [if_pos q, if_pos q, hS _ (by omega) (by omega)]
      by_cases z : l' = μ c 2
      · rw [if_pos z, if_pos (by omega)]
      · rw [if_neg z, if_neg (by omega), if_neg (by omega)]
    · rw [if_neg q, if_neg q, if_neg]
      intro z
      exact q ⟨e2', by omega⟩
  have vx : ∀ b' l', vC (VP μ S f) b' l' = if l' = μ c 2 ∧ 0 ≤ b' ∧ b' < 10 then μ (c + 1) b' else vC (VM μ f) b' l' := by
    intro b' l'
    show vC (VP μ S f) b' l' = if l' = μ c 2 ∧ 0 ≤ b' ∧ b' < 10 then μ (c + 1) b' else vC (VP μ (μ 79) f) b' l'
    rw [vq_C, vq_C]
    by_cases q : μ 76 f ≠ 0 ∧ 0 ≤ b' ∧ b' < 10 ∧ 0 ≤ l' ∧ l' < 6
    · rw [if_pos q, if_pos q, hS _ (by omega) (by omega), if_neg (by omega)]
      by_cases z : l' = μ c 2
      · rw [if_pos (show l' = μ c 2 ∧ 0 ≤ b' ∧ b' < 10 from ⟨z, q.2.1, q.2.2.1⟩), if_pos (by omega), show 193 * f + 6 + 10 * l' + b' - (193 * f + 6 + 10 * μ c 2) = b' by omega]
      · rw [if_neg (show ¬ (l' = μ c 2 ∧ 0 ≤ b' ∧ b' < 10) from fun y => z y.1), if_neg (by omega)]
    · rw [if_neg q, if_neg q, if_neg]
      intro z
      exact q ⟨e2', by omega⟩
  have hlift : inL (VM μ f) (μ c 2) := ⟨l0, l1⟩
  have hset : ∀ v, (v = 0 ∨ v = 1) → EE 24 0 [(41, 41 + 10 * f), (0, μ c 2), (0, v)] [] μ = some (0, up μ (41 + 10 * f + 4) (μ c 2) v) := by
    intro v hv
    rw [q24_0, c_hasLift hc, bnd_s, b2i_t hlift, if_neg (by omega), hc.c9, nnA hc.fr _ (by omega), ix4 hc.fr _ (by omega) (by omega)]
    rcases hv with q | q
    · rw [q, zo_0]
    · rw [q, zo_1]
  have u1 : ∀ x i v, x ≠ 41 + 10 * f + 4 → up μ (41 + 10 * f + 4) (μ c 2) v x i = μ x i := fun x i v y => up_nc _ _ y
  have loop : ∀ v, EE 5 25 [(40, c), (0, 0)] [] (up μ (41 + 10 * f + 4) (μ c 2) v) = some (0, RVL (up μ (41 + 10 * f + 4) (μ c 2) v) (41 + 10 * f) c (vB (VM μ f)) (μ c 2) 0) := fun v => c_rvL (A := 41 + 10 * f) hc.fr (B := vB (VM μ f)) (L := vL (VM μ f)) (l := μ c 2) hr.2.1 hr.2.2.2.1 l0 l1 hn 0 _ (by omega) (by rw [u1 _ _ _ (by omega)]; exact hc.c1) (by rw [u1 _ _ _ (by omega)]; exact hc.c2) (by rw [u1 _ _ _ (by omega)]; exact hc.c10) (by rw [u1 _ _ _ (by omega)]; exact e1) (u1 _ _ _ (by omega)) (by rw [u1 _ _ _ (by omega)]; exact c5)
  refine ⟨RVL (up μ (41 + 10 * f + 4) (μ c 2) (μ c 4)) (41 + 10 * f) c (vB (VM μ f)) (μ c 2) 0, ?_, fun x i a b => ?_, ?_, fun j a b y => ?_, Or.inl ⟨c_bearsN (by omega) (by omega) (by omega), fun k hk => ?_⟩⟩
  · rw [q4_0, e1, if_neg hA, if_neg (by omega), if_neg (by omega), if_neg (by omega), if_neg (by omega), q5_0, e1]
    rcases ho with z | z
    · rw [z, if_pos rfl, nn_ok _ hA, hset 0 (Or.inl rfl), bnd_s, loop, bnd_s]
    · rw [z, if_neg (by omega), nn_ok _ hA, hset 1 (Or.inr rfl), bnd_s, loop, bnd_s]
  · unfold RVL
    rw [if_neg (by omega), u1 _ _ _ (by omega)]
  · have am : ∀ x i, x ≠ 41 + 10 * f + 4 → x ≠ 41 + 10 * f + 5 → RVL (up μ (41 + 10 * f + 4) (μ c 2) (μ c 4)) (41 + 10 * f) c (vB (VM μ f)) (μ c 2) 0 x i = μ x i := fun x i y z => by
      unfold RVL
      rw [if_neg (by omega), u1 _ _ _ y]
    refine CF_mk hc hr.2.1 (fun i x y => am _ _ (by omega) (by omega)) (by rw [am _ _ (by omega) (by omega), vp]; exact hc.c4) (fun c i x y => am _ _ (by omega) (by omega)) rfl rfl rfl (fun _ => rfl) (fun _ => rfl) (fun l' x y => ?_) (fun b' l' x y z w => ⟨?_, ?_⟩) (fun b' l' x y z w => ?_)
    · unfold RVL
      rw [if_neg (by omega), vf]
      by_cases q : l' = μ c 2
      · rw [if_pos q, q, up_s]
      · rw [if_neg q, up_ni _ _ q]
        exact hc.f x y
    · have hcb := hw.c b' l'
      have hcs := hwS.c b' l'
      have hB : vB (VP μ S f) = vB (VM μ f) := rfl
      unfold RVL
      by_cases q : l' = μ c 2 ∧ b' < vB (VM μ f)
      · rw [if_pos (by omega), vx, if_pos (by omega), u1 _ _ _ (by omega), show 11 * l' + b' - 11 * μ c 2 = b' by omega]
      · rw [if_neg (by omega), u1 _ _ _ (by omega), hc.cX x y z w]
        by_cases t : l' = μ c 2
        · omega
        · rw [vx, if_neg (by omega)]
    · rw [am _ _ (by omega) (by omega), vr]
      exact hc.bX x y z w
    · rw [am _ _ (by omega) (by omega), vt]
      exact hc.tX x y z w
  · rw [hS j a b, if_neg (by omega), if_neg (by omega)]
  · have hkp := isP_up h f0 f1 hk
    refine ⟨hkp.1, hkp.2.1, PI_cg (V := VM μ f) (V' := VP μ S f) rfl rfl (fun _ => rfl) ?_ ?_ ?_ hkp.2.2⟩
    · exact fun _ x => by rw [vr]; exact x
    · intro t x
      rw [vx]
      by_cases y : k % 66 / 11 = μ c 2 ∧ 0 ≤ k % 11 ∧ k % 11 < 10
      · rw [if_pos y]
        apply hb _ y.2.1 y.2.2
        rw [← vC_pl e2' y.2.1 y.2.2 l0 (by omega), ← y.1]
        exact x
      · rw [if_neg y]
        exact x
    · exact fun _ x => by rw [vt]; exact x
theorem rvt (h : Inv M μ) (hn : ∃ n, 0 ≤ n ∧ n < 5 ∧ c = 15 + 2 * n) (hl : LK μ c (μ 79) S) (hwS : ∀ f, 0 ≤ f → f < 3 → WF (VP μ S f)) : ∃ f, 0 ≤ f ∧ f < 3 ∧ RVT M μ c f S := by
  obtain ⟨f, f0, f1, e1, e2, l0, l1, hl⟩ := hl
  refine ⟨f, f0, f1, ?_⟩
  rcases hl with ⟨a, b, c1, d⟩ | ⟨a, b, c1, c2, d⟩ | ⟨a, b, c1, c2, d⟩ | ⟨a, d⟩ | ⟨a, b, c1, d⟩
  · exact rvt3 h f0 f1 e1 e2 l0 l1 a b c1 d
  · exact rvt2 h f0 f1 e1 e2 l0 l1 a b c1 c2 d
  · exact rvt4 h f0 f1 e1 e2 l0 l1 a b c1 c2 d
  · exact rvt12 h f0 f1 e1 a d
  · exact rvt10 h f0 f1 hn e1 e2 l0 l1 a b c1 d (hwS f f0 f1)
end UB6
