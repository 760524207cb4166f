/-! board, brace, tie: what holds again -/
section CO
variable {M μ μ' : MM} {A f : Int}
theorem core3 (h : Inv M μ) (f0 : 0 ≤ f) (f1 : f < 3) (e2 : vB (VM μ f) ≠ 0) {b l v : Int} (hb : inB (VM μ f) b) (hl : inL (VM μ f) l) (hg : ¬ (l = 0 ∧ gat (VM μ f) b)) (hv : -1 ≤ v ∧ v ≤ 6) (hu : UM μ f (66 * 3 + 11 * l + b) = 0) {mn m3 : MM}
    (n1 : ∀ x i, ¬ (x = 13 ∧ i ≤ 1) → ¬ (x = nwS μ ∧ i ≤ 4) → x ≠ nwS μ + 1 → mn x i = μ x i) (n2 : mn 13 1 = (μ 13 1 + 1) % 5) (n3 : mn 13 0 = if 5 < μ 13 0 + 1 then 5 else μ 13 0 + 1) (n4 : mn (nwS μ) 0 = 3 ∧ mn (nwS μ) 1 = 41 + 10 * f ∧ mn (nwS μ) 2 = l ∧ mn (nwS μ) 3 = b ∧ mn (nwS μ) 4 = vC (VM μ f) b l) (n5 : ∀ b, 0 ≤ b → b < 10 → mn (nwS μ + 1) b = vC (VM μ f) b l)
    (k1 : ∀ c i, c ≠ 80 → ¬ (c = 71 ∧ i = 10) → m3 c i = up mn (41 + 10 * f + 5) (11 * l + b) v c i) (k2 : m3 71 10 = if 5 < up mn (41 + 10 * f + 5) (11 * l + b) v 71 10 + 1 then 5 else up mn (41 + 10 * f + 5) (11 * l + b) v 71 10 + 1) (k3 : ∀ i j, 1 ≤ i → i ≤ m3 71 10 → 0 ≤ j → j < 579 → m3 80 (579 * (m3 71 10 - i) + j) = plA (up mn (41 + 10 * f + 5) (11 * l + b) v) (i - 1) j) : Inv M (up m3 79 (193 * f + 6 + 10 * l + b) v) := by
  have hw := h.wf f0 f1
  have hr := hw.r
  have hc := h.cf f0 f1
  have nr : 15 ≤ nwS μ ∧ nwS μ ≤ 23 := by
    unfold nwS
    omega
  have e79 : ∀ j, m3 79 j = μ 79 j := fun j => by rw [k1 79 j (by omega) (by omega), up_nc _ _ (by omega), n1 79 j (by omega) (by omega) (by omega)]
  have p' : ∀ j, up m3 79 (193 * f + 6 + 10 * l + b) v 79 j = if j = 193 * f + 6 + 10 * l + b then v else μ 79 j := by
    intro j
    by_cases q : j = 193 * f + 6 + 10 * l + b
    · rw [if_pos q, q, up_s]
    · rw [if_neg q, up_ni _ _ q, e79]
  have vp : vP (VP μ (up m3 79 (193 * f + 6 + 10 * l + b) v 79) f) = vP (VM μ f) := by
    rw [vq_P, p', if_neg (by omega)]
    rfl
  have vf : ∀ l', vF (VP μ (up m3 79 (193 * f + 6 + 10 * l + b) v 79) f) l' = vF (VM μ f) l' := vF_eq (fun l' a b => by rw [p', if_neg (by omega)])
  have vr : ∀ b' l', vR (VP μ (up m3 79 (193 * f + 6 + 10 * l + b) v 79) f) b' l' = vR (VM μ f) b' l' := vR_eq (fun j x y => by rw [p', if_neg (by omega)])
  have vt : ∀ b' l', vT (VP μ (up m3 79 (193 * f + 6 + 10 * l + b) v 79) f) b' l' = vT (VM μ f) b' l' := vT_eq (fun j x y => by rw [p', if_neg (by omega)])
  have vx : ∀ b' l', vC (VP μ (up m3 79 (193 * f + 6 + 10 * l + b) v 79) f) b' l' = if b' = b ∧ l' = l then v else vC (VM μ f) b' l' := by
    intro b' l'
    show vC (VP μ (up m3 79 (193 * f + 6 + 10 * l + b) v 79) f) b' l' = if b' = b ∧ l' = l then v else vC (VP μ (μ 79) f) b' l'
    rw [vq_C, vq_C]
    by_cases q : μ 76 f ≠ 0 ∧ 0 ≤ b' ∧ b' < 10 ∧ 0 ≤ l' ∧ l' < 6
    · rw [if_pos q, if_pos q, p']
      by_cases z : b' = b ∧ l' = l
      · rw [if_pos z, if_pos (by omega)]
      · rw [if_neg z, if_neg (by omega)]
    · rw [if_neg q, if_neg q, if_neg]
      intro z
      apply q
      exact ⟨e2, by omega⟩
  refine Inv_plan h f0 f1 e2 (kd := 3) (l := l) (p := b) (o := vC (VM μ f) b l) hl n1 n2 n3 n4 n5 (fun c i x y => up_nc _ _ (by omega)) k1 k2 k3 (fun c i q => up_nc _ _ q) (fun j q => by rw [p', if_neg (by omega)]) ?_ ?_ ?_ ?_
  · refine Or.inl ⟨rfl, by omega, hb.2,  fun j x y => ?_⟩
    have ho : vC (VM μ f) b l = μ 79 (193 * f + 6 + 10 * l + b) := by
      show vC (VP μ (μ 79) f) b l = _
      rw [vq_C, if_pos ⟨e2, by omega, by omega, by omega, by omega⟩]
    rw [p', ho]
    by_cases q : j = 193 * f + 6 + 10 * l + b
    · rw [if_pos q, q]
    · rw [if_neg q, if_neg q]
  · refine WF_of hw rfl rfl rfl (by rw [vp]; omega) (fun _ => rfl) (fun _ => rfl) (fun l => by rw [vf]; exact hw.f l) ?_ ?_ ?_
    · intro b' l'
      rw [vx]
      by_cases q : b' = b ∧ l' = l
      · rw [if_pos q, q.1, q.2]
        have hgg := hg
        by_cases z : v = -1
        · exact Or.inl z
        · exact Or.inr ⟨by omega, by omega, hb, hl, hg⟩
      · rw [if_neg q]
        exact hw.c b' l'
    · exact fun b l => by rw [vr]; exact hw.b b l
    · exact fun b l => by rw [vt]; exact hw.t b l
  · have am : ∀ c i, 41 + 10 * f ≤ c → c ≤ 48 + 10 * f → ¬ (c = 41 + 10 * f + 5 ∧ i = 11 * l + b) → up mn (41 + 10 * f + 5) (11 * l + b) v c i = μ c i := fun c i x y d => by rw [up_n _ _ (by omega), n1 c i (by omega) (by omega) (by omega)]
    refine CF_mk hc hr.2.1 (fun i x y => am _ _ (by omega) (by omega) (by omega)) (by rw [am _ _ (by omega) (by omega) (by omega), vp]; exact hc.c4) (fun c i x y => am _ _ (by omega) (by omega) (by omega)) rfl rfl rfl (fun _ => rfl) (fun _ => rfl) (fun l' x y => ?_) (fun b' l' x y z w => ?_) (fun b' l' x y z w => ?_)
    · rw [am _ _ (by omega) (by omega) (by omega), vf]
      exact hc.f x y
    · refine ⟨?_, ?_⟩
      · rw [vx]
        by_cases q : b' = b ∧ l' = l
        · rw [if_pos q, q.1, q.2, up_s]
        · rw [if_neg q, am _ _ (by omega) (by omega) (by omega)]
          exact hc.cX x y z w
      · rw [am _ _ (by omega) (by omega) (by omega), vr]
        exact hc.bX x y z w
    · rw [am _ _ (by omega) (by omega) (by omega), vt]
      exact hc.tX x y z w
  · intro k hk
    have hkp : isP (VM μ f) k := by
      rcases (h.mu f0 f1).1 k with q | q
      · omega
      · exact q.2
    have hne : k ≠ 66 * 3 + 11 * l + b := by
      intro q
      rw [q] at hk
      omega
    refine ⟨hkp.1, hkp.2.1, PI_cg (V := VM μ f) (V' := VP μ (up m3 79 (193 * f + 6 + 10 * l + b) v 79) f) rfl rfl (fun _ => rfl) ?_ ?_ ?_ hkp.2.2⟩
    · exact fun _ x => by rw [vr]; exact x
    · intro t x
      rw [vx, if_neg (by omega)]
      exact x
    · exact fun _ x => by rw [vt]; exact x
theorem core2 (h : Inv M μ) (f0 : 0 ≤ f) (f1 : f < 3) (e2 : vB (VM μ f) ≠ 0) {b l v : Int} (hb : inB (VM μ f) b) (hl : inL (VM μ f) l) (hg : ¬ (l = 0 ∧ gat (VM μ f) b)) (hv : v = 0 ∨ v = 1) (hu : UM μ f (66 * 2 + 11 * l + b) = 0) {mn m3 : MM}
    (n1 : ∀ x i, ¬ (x = 13 ∧ i ≤ 1) → ¬ (x = nwS μ ∧ i ≤ 4) → x ≠ nwS μ + 1 → mn x i = μ x i) (n2 : mn 13 1 = (μ 13 1 + 1) % 5) (n3 : mn 13 0 = if 5 < μ 13 0 + 1 then 5 else μ 13 0 + 1) (n4 : mn (nwS μ) 0 = 2 ∧ mn (nwS μ) 1 = 41 + 10 * f ∧ mn (nwS μ) 2 = l ∧ mn (nwS μ) 3 = b ∧ mn (nwS μ) 4 = vR (VM μ f) b l) (n5 : ∀ b, 0 ≤ b → b < 10 → mn (nwS μ + 1) b = vC (VM μ f) b l)
    (k1 : ∀ c i, c ≠ 80 → ¬ (c = 71 ∧ i = 10) → m3 c i = up mn (41 + 10 * f + 6) (11 * l + b) v c i) (k2 : m3 71 10 = if 5 < up mn (41 + 10 * f + 6) (11 * l + b) v 71 10 + 1 then 5 else up mn (41 + 10 * f + 6) (11 * l + b) v 71 10 + 1) (k3 : ∀ i j, 1 ≤ i → i ≤ m3 71 10 → 0 ≤ j → j < 579 → m3 80 (579 * (m3 71 10 - i) + j) = plA (up mn (41 + 10 * f + 6) (11 * l + b) v) (i - 1) j) : Inv M (up m3 79 (193 * f + 66 + 10 * l + b) v) := by
  have hw := h.wf f0 f1
  have hr := hw.r
  have hc := h.cf f0 f1
  have nr : 15 ≤ nwS μ ∧ nwS μ ≤ 23 := by
    unfold nwS
    omega
  have e79 : ∀ j, m3 79 j = μ 79 j := fun j => by rw [k1 79 j (by omega) (by omega), up_nc _ _ (by omega), n1 79 j (by omega) (by omega) (by omega)]
  have p' : ∀ j, up m3 79 (193 * f + 66 + 10 * l + b) v 79 j = if j = 193 * f + 66 + 10 * l + b then v else μ 79 j := by
    intro j
    by_cases q : j = 193 * f + 66 + 10 * l + b
    · rw [if_pos q, q, up_s]
    · rw [if_neg q, up_ni _ _ q, e79]
  have vp : vP (VP μ (up m3 79 (193 * f + 66 + 10 * l + b) v 79) f) = vP (VM μ f) := by
    rw [vq_P, p', if_neg (by omega)]
    rfl
  have vf : ∀ l', vF (VP μ (up m3 79 (193 * f + 66 + 10 * l + b) v 79) f) l' = vF (VM μ f) l' := vF_eq (fun l' a b => by rw [p', if_neg (by omega)])
  have vc : ∀ b' l', vC (VP μ (up m3 79 (193 * f + 66 + 10 * l + b) v 79) f) b' l' = vC (VM μ f) b' l' := vC_eq (fun j x y => by rw [p', if_neg (by omega)])
  have vt : ∀ b' l', vT (VP μ (up m3 79 (193 * f + 66 + 10 * l + b) v 79) f) b' l' = vT (VM μ f) b' l' := vT_eq (fun j x y => by rw [p', if_neg (by omega)])
  have vx : ∀ b' l', vR (VP μ (up m3 79 (193 * f + 66 + 10 * l + b) v 79) f) b' l' = if b' = b ∧ l' = l then v else vR (VM μ f) b' l' := by
    intro b' l'
    show vR (VP μ (up m3 79 (193 * f + 66 + 10 * l + b) v 79) f) b' l' = if b' = b ∧ l' = l then v else vR (VP μ (μ 79) f) b' l'
    rw [vq_R, vq_R]
    by_cases q : μ 76 f ≠ 0 ∧ 0 ≤ b' ∧ b' < 10 ∧ 0 ≤ l' ∧ l' < 6
    · rw [if_pos q, if_pos q, p']
      by_cases z : b' = b ∧ l' = l
      · rw [if_pos z, if_pos (by omega)]
      · rw [if_neg z, if_neg (by omega)]
    · rw [if_neg q, if_neg q, if_neg]
      intro z
      apply q
      exact ⟨e2, by omega⟩
  refine Inv_plan h f0 f1 e2 (kd := 2) (l := l) (p := b) (o := vR (VM μ f) b l) hl n1 n2 n3 n4 n5 (fun c i x y => up_nc _ _ (by omega)) k1 k2 k3 (fun c i q => up_nc _ _ q) (fun j q => by rw [p', if_neg (by omega)]) ?_ ?_ ?_ ?_
  · refine Or.inr <| Or.inl ⟨rfl, by omega, hb.2, (by have := hw.b b l; omega), fun j x y => ?_⟩
    have ho : vR (VM μ f) b l = μ 79 (193 * f + 66 + 10 * l + b) := by
      show vR (VP μ (μ 79) f) b l = _
      rw [vq_R, if_pos ⟨e2, by omega, by omega, by omega, by omega⟩]
    rw [p', ho]
    by_cases q : j = 193 * f + 66 + 10 * l + b
    · rw [if_pos q, q]
    · rw [if_neg q, if_neg q]
  · refine WF_of hw rfl rfl rfl (by rw [vp]; omega) (fun _ => rfl) (fun _ => rfl) (fun l => by rw [vf]; exact hw.f l) ?_ ?_ ?_
    · exact fun b l => by rw [vc]; exact hw.c b l
    · intro b' l'
      rw [vx]
      by_cases q : b' = b ∧ l' = l
      · rw [if_pos q, q.1, q.2]
        rcases hv with z | z
        · exact Or.inl z
        · exact Or.inr ⟨z, hb, hl, hg⟩
      · rw [if_neg q]
        exact hw.b b' l'
    · exact fun b l => by rw [vt]; exact hw.t b l
  · have am : ∀ c i, 41 + 10 * f ≤ c → c ≤ 48 + 10 * f → ¬ (c = 41 + 10 * f + 6 ∧ i = 11 * l + b) → up mn (41 + 10 * f + 6) (11 * l + b) v c i = μ c i := fun c i x y d => by rw [up_n _ _ (by omega), n1 c i (by omega) (by omega) (by omega)]
    refine CF_mk hc hr.2.1 (fun i x y => am _ _ (by omega) (by omega) (by omega)) (by rw [am _ _ (by omega) (by omega) (by omega), vp]; exact hc.c4) (fun c i x y => am _ _ (by omega) (by omega) (by omega)) rfl rfl rfl (fun _ => rfl) (fun _ => rfl) (fun l' x y => ?_) (fun b' l' x y z w => ?_) (fun b' l' x y z w => ?_)
    · rw [am _ _ (by omega) (by omega) (by omega), vf]
      exact hc.f x y
    · refine ⟨?_, ?_⟩
      · rw [am _ _ (by omega) (by omega) (by omega), vc]
        exact hc.cX x y z w
      · rw [vx]
        by_cases q : b' = b ∧ l' = l
        · rw [if_pos q, q.1, q.2, up_s]
        · rw [if_neg q, am _ _ (by omega) (by omega) (by omega)]
          exact hc.bX x y z w
    · rw [am _ _ (by omega) (by omega) (by omega), vt]
      exact hc.tX x y z w
  · intro k hk
    have hkp : isP (VM μ f) k := by
      rcases (h.mu f0 f1).1 k with q | q
      · omega
      · exact q.2
    have hne : k ≠ 66 * 2 + 11 * l + b := by
      intro q
      rw [q] at hk
      omega
    refine ⟨hkp.1, hkp.2.1, PI_cg (V := VM μ f) (V' := VP μ (up m3 79 (193 * f + 66 + 10 * l + b) v 79) f) rfl rfl (fun _ => rfl) ?_ ?_ ?_ hkp.2.2⟩
    · intro t x
      rw [vx, if_neg (by omega)]
      exact x
    · exact fun _ x => by rw [vc]; exact x
    · exact fun _ x => by rw [vt]; exact x
theorem core4 (h : Inv M μ) (f0 : 0 ≤ f) (f1 : f < 3) (e2 : vB (VM μ f) ≠ 0) {b l v : Int} (hb : inS (VM μ f) b) (hl : inL (VM μ f) l) (hg : ¬ (l = 0 ∧ ¬ fot (VM μ f) b)) (hv : v = 0 ∨ v = 1) (hu : UM μ f (66 * 4 + 11 * l + b) = 0) {mn m3 : MM}
    (n1 : ∀ x i, ¬ (x = 13 ∧ i ≤ 1) → ¬ (x = nwS μ ∧ i ≤ 4) → x ≠ nwS μ + 1 → mn x i = μ x i) (n2 : mn 13 1 = (μ 13 1 + 1) % 5) (n3 : mn 13 0 = if 5 < μ 13 0 + 1 then 5 else μ 13 0 + 1) (n4 : mn (nwS μ) 0 = 4 ∧ mn (nwS μ) 1 = 41 + 10 * f ∧ mn (nwS μ) 2 = l ∧ mn (nwS μ) 3 = b ∧ mn (nwS μ) 4 = vT (VM μ f) b l) (n5 : ∀ b, 0 ≤ b → b < 10 → mn (nwS μ + 1) b = vC (VM μ f) b l)
    (k1 : ∀ c i, c ≠ 80 → ¬ (c = 71 ∧ i = 10) → m3 c i = up mn (41 + 10 * f + 7) (11 * l + b) v c i) (k2 : m3 71 10 = if 5 < up mn (41 + 10 * f + 7) (11 * l + b) v 71 10 + 1 then 5 else up mn (41 + 10 * f + 7) (11 * l + b) v 71 10 + 1) (k3 : ∀ i j, 1 ≤ i → i ≤ m3 71 10 → 0 ≤ j → j < 579 → m3 80 (579 * (m3 71 10 - i) + j) = plA (up mn (41 + 10 * f + 7) (11 * l + b) v) (i - 1) j) : Inv M (up m3 79 (193 * f + 126 + 11 * l + b) v) := by
  have hw := h.wf f0 f1
  have hr := hw.r
  have hc := h.cf f0 f1
  have nr : 15 ≤ nwS μ ∧ nwS μ ≤ 23 := by
    unfold nwS
    omega
  have e79 : ∀ j, m3 79 j = μ 79 j := fun j => by rw [k1 79 j (by omega) (by omega), up_nc _ _ (by omega), n1 79 j (by omega) (by omega) (by omega)]
  have p' : ∀ j, up m3 79 (193 * f + 126 + 11 * l + b) v 79 j = if j = 193 * f + 126 + 11 * l + b then v else μ 79 j := by
    intro j
    by_cases q : j = 193 * f + 126 + 11 * l + b
    · rw [if_pos q, q, up_s]
    · rw [if_neg q, up_ni _ _ q, e79]
  have vp : vP (VP μ (up m3 79 (193 * f + 126 + 11 * l + b) v 79) f) = vP (VM μ f) := by
    rw [vq_P, p', if_neg (by omega)]
    rfl
  have vf : ∀ l', vF (VP μ (up m3 79 (193 * f + 126 + 11 * l + b) v 79) f) l' = vF (VM μ f) l' := vF_eq (fun l' a b => by rw [p', if_neg (by omega)])
  have vc : ∀ b' l', vC (VP μ (up m3 79 (193 * f + 126 + 11 * l + b) v 79) f) b' l' = vC (VM μ f) b' l' := vC_eq (fun j x y => by rw [p', if_neg (by omega)])
  have vr : ∀ b' l', vR (VP μ (up m3 79 (193 * f + 126 + 11 * l + b) v 79) f) b' l' = vR (VM μ f) b' l' := vR_eq (fun j x y => by rw [p', if_neg (by omega)])
  have vx : ∀ b' l', vT (VP μ (up m3 79 (193 * f + 126 + 11 * l + b) v 79) f) b' l' = if b' = b ∧ l' = l then v else vT (VM μ f) b' l' := by
    intro b' l'
    show vT (VP μ (up m3 79 (193 * f + 126 + 11 * l + b) v 79) f) b' l' = if b' = b ∧ l' = l then v else vT (VP μ (μ 79) f) b' l'
    rw [vq_T, vq_T]
    by_cases q : μ 76 f ≠ 0 ∧ 0 ≤ b' ∧ b' < 11 ∧ 0 ≤ l' ∧ l' < 6
    · rw [if_pos q, if_pos q, p']
      by_cases z : b' = b ∧ l' = l
      · rw [if_pos z, if_pos (by omega)]
      · rw [if_neg z, if_neg (by omega)]
    · rw [if_neg q, if_neg q, if_neg]
      intro z
      apply q
      exact ⟨e2, by omega⟩
  refine Inv_plan h f0 f1 e2 (kd := 4) (l := l) (p := b) (o := vT (VM μ f) b l) hl n1 n2 n3 n4 n5 (fun c i x y => up_nc _ _ (by omega)) k1 k2 k3 (fun c i q => up_nc _ _ q) (fun j q => by rw [p', if_neg (by omega)]) ?_ ?_ ?_ ?_
  · refine Or.inr <| Or.inr <| Or.inl ⟨rfl, by omega, hb.2.2, (by have := hw.t b l; omega), fun j x y => ?_⟩
    have ho : vT (VM μ f) b l = μ 79 (193 * f + 126 + 11 * l + b) := by
      show vT (VP μ (μ 79) f) b l = _
      rw [vq_T, if_pos ⟨e2, by omega, by omega, by omega, by omega⟩]
    rw [p', ho]
    by_cases q : j = 193 * f + 126 + 11 * l + b
    · rw [if_pos q, q]
    · rw [if_neg q, if_neg q]
  · refine WF_of hw rfl rfl rfl (by rw [vp]; omega) (fun _ => rfl) (fun _ => rfl) (fun l => by rw [vf]; exact hw.f l) ?_ ?_ ?_
    · exact fun b l => by rw [vc]; exact hw.c b l
    · exact fun b l => by rw [vr]; exact hw.b b l
    · intro b' l'
      rw [vx]
      by_cases q : b' = b ∧ l' = l
      · rw [if_pos q, q.1, q.2]
        rcases hv with z | z
        · exact Or.inl z
        · exact Or.inr ⟨z, hb, hl, hg⟩
      · rw [if_neg q]
        exact hw.t b' l'
  · have am : ∀ c i, 41 + 10 * f ≤ c → c ≤ 48 + 10 * f → ¬ (c = 41 + 10 * f + 7 ∧ i = 11 * l + b) → up mn (41 + 10 * f + 7) (11 * l + b) v c i = μ c i := fun c i x y d => by rw [up_n _ _ (by omega), n1 c i (by omega) (by omega) (by omega)]
    refine CF_mk hc hr.2.1 (fun i x y => am _ _ (by omega) (by omega) (by omega)) (by rw [am _ _ (by omega) (by omega) (by omega), vp]; exact hc.c4) (fun c i x y => am _ _ (by omega) (by omega) (by omega)) rfl rfl rfl (fun _ => rfl) (fun _ => rfl) (fun l' x y => ?_) (fun b' l' x y z w => ?_) (fun b' l' x y z w => ?_)
    · rw [am _ _ (by omega) (by omega) (by omega), vf]
      exact hc.f x y
    · rw [am _ _ (by omega) (by omega) (by omega), am _ _ (by omega) (by omega) (by omega), vc, vr]
      exact ⟨hc.cX x y z w, hc.bX x y z w⟩
    · rw [vx]
      by_cases q : b' = b ∧ l' = l
      · rw [if_pos q, q.1, q.2, up_s]
      · rw [if_neg q, am _ _ (by omega) (by omega) (by omega)]
        exact hc.tX x y z w
  · intro k hk
    have hkp : isP (VM μ f) k := by
      rcases (h.mu f0 f1).1 k with q | q
      · omega
      · exact q.2
    have hne : k ≠ 66 * 4 + 11 * l + b := by
      intro q
      rw [q] at hk
      omega
    refine ⟨hkp.1, hkp.2.1, PI_cg (V := VM μ f) (V' := VP μ (up m3 79 (193 * f + 126 + 11 * l + b) v 79) f) rfl rfl (fun _ => rfl) ?_ ?_ ?_ hkp.2.2⟩
    · exact fun _ x => by rw [vr]; exact x
    · exact fun _ x => by rw [vc]; exact x
    · intro t x
      rw [vx, if_neg (by omega)]
      exact x
end CO
