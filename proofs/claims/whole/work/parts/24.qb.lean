/-! calls that only ask, of sums -/
theorem SM_sh {f : Int → Int} {a n : Int} : ∀ i, SM f (a + i) (a + n) = SM (fun p => f (a + p)) i n := by
  refine up_ind n ?_ ?_
  · intro i hi
    rw [SM_e (by omega), SM_e hi]
  · intro i hi ih
    rw [SM_s (by omega), SM_s hi, Int.add_assoc, ih]
theorem SM_rw {f : Int → Int} {w : Int} (hw : 0 ≤ w) (n : Nat) : SM f 0 (w * n) = SM (fun l => SM (fun p => f (w * l + p)) 0 w) 0 n := by
  induction n with
  | zero => rw [SM_e (by omega), SM_e (by omega)]
  | succ n ih =>
    have h1 : 0 ≤ w * (n : Int) := Int.mul_nonneg hw (by omega)
    have h2 : w * ((n + 1 : Nat) : Int) = w * n + w := by
      rw [Int.natCast_add, Int.mul_add]
      omega
    rw [h2, SM_sp (m := w * (n : Int)) (by omega) 0 h1, ih, Int.natCast_add, show ((1 : Nat) : Int) = 1 from rfl, SM_l _ (by omega)]
    have h3 := SM_sh (f := f) (a := w * (n : Int)) (n := w) 0
    rw [Int.add_zero] at h3
    rw [h3]
theorem SM_66 (f : Int → Int) : SM f 0 66 = SM (fun l => SM (fun p => f (11 * l + p)) 0 11) 0 6 := SM_rw (w := 11) (by omega) 6
theorem SM_60 (f : Int → Int) : SM f 0 60 = SM (fun l => SM (fun p => f (10 * l + p)) 0 10) 0 6 := SM_rw (w := 10) (by omega) 6
/-! bits -/
theorem b4_0 {x : Int} (h : -2147483648 ≤ x ∧ x < 2147483648) : bin 4 x 0 = x := by
  show (Int32.ofInt x ||| 0).toInt = x
  rw [Int32.or_zero]
  exact i32_toInt h
theorem b4_r (x y : Int) : -2147483648 ≤ bin 4 x y ∧ bin 4 x y < 2147483648 := i32_R _
def orN (p : Int → Prop) [DecidablePred p] : Nat → Int → Int → Int
  | 0, _, a => a
  | n + 1, i, a => orN p n (i + 1) (if p i then bin 4 a (bin 5 1 i) else a)
def ORF (p : Int → Prop) [DecidablePred p] (i n a : Int) : Int := orN p (n - i).toNat i a
theorem ORF_e {p : Int → Prop} [DecidablePred p] {i n a : Int} (h : n ≤ i) : ORF p i n a = a := by
  unfold ORF
  rw [show (n - i).toNat = 0 by omega]
  rfl
theorem ORF_s {p : Int → Prop} [DecidablePred p] {i n a : Int} (h : i < n) : ORF p i n a = ORF p (i + 1) n (if p i then bin 4 a (bin 5 1 i) else a) := by
  unfold ORF
  rw [show (n - i).toNat = (n - (i + 1)).toNat + 1 by omega]
  rfl
theorem ORF_c {p q : Int → Prop} [DecidablePred p] [DecidablePred q] {n : Int} : ∀ i a, (∀ j, i ≤ j → j < n → (p j ↔ q j)) → ORF p i n a = ORF q i n a := by
  refine up_ind n ?_ ?_
  · intro i hi a _
    rw [ORF_e hi, ORF_e hi]
  · intro i hi ih a h
    rw [ORF_s hi, ORF_s hi, ih _ (fun j x y => h j (by omega) y)]
    simp only [h i (by omega) hi]
section QB
variable {M μ : MM} {A f : Int} {V : FV}
theorem isP_i {t l p : Int} (ht : 0 ≤ t ∧ t < 6) (hl : 0 ≤ l ∧ l < 6) (hp : 0 ≤ p ∧ p < 11) : isP V (66 * t + (11 * l + p)) ↔ PI V t l p := by
  have e1 : (66 * t + (11 * l + p)) / 66 = t := by omega
  have e2 : (66 * t + (11 * l + p)) % 66 / 11 = l := by omega
  have e3 : (66 * t + (11 * l + p)) % 11 = p := by omega
  unfold isP
  rw [e1, e2, e3]
  exact ⟨fun h => h.2.2, fun h => ⟨by omega, by omega, h⟩⟩
theorem m_manyOf (h : MF μ f V) {a n z : Int} (ha : 0 ≤ a) (hn : a + n ≤ 193) : ∀ i acc, 0 ≤ i → 0 ≤ acc → acc ≤ i → EE 198 6 [(48, 71), (0, f), (0, a), (0, n), (0, z), (0, acc), (0, i)] [] μ = some (acc + SM (fun k => b2i (z ≤ μ 79 (193 * f + a + k))) i n, μ) := by
  have := h.fr
  refine up_ind n ?_ ?_
  · intro i hi acc _ _ _
    rw [q198_6, SM_e hi, Int.add_zero, if_neg (by omega)]
  · intro i hi ih acc _ _ _
    rw [q198_6, SM_s hi, if_pos (by omega), h.c7]
    simp (disch := omega) only [w32_l, nn79, jx79, Int.add_zero]
    split
    · rw [ih _ (by omega) (by omega) (by omega), b2i_f (by omega), Int.zero_add]
    · rw [ih _ (by omega) (by omega) (by omega), b2i_t (by omega), Int.add_assoc]
theorem m_manyB (hw : WF V) (hb : vB V ≠ 0) (h : MF μ f V) : SM (fun k => b2i (0 ≤ μ 79 (193 * f + 6 + k))) 0 60 = SM (fun s => b2i (isP V (66 * 3 + s))) 0 66 := by
  have hr := hw.r
  rw [SM_60, SM_66]
  refine SM_c _ (fun l l0 l1 => ?_)
  show _ = SM (fun p => b2i (isP V (66 * 3 + (11 * l + p)))) 0 (10 + 1)
  rw [SM_l _ (by omega), b2i_f (p := isP V (66 * 3 + (11 * l + 10))) (fun q => by
    have q := PI_3 ((isP_i (by omega) ⟨l0, l1⟩ (by omega)).1 q)
    have := hw.c 10 l
    omega), Int.add_zero]
  refine SM_c _ (fun p p0 p1 => b2i_c ?_)
  rw [isP_i (by omega) ⟨l0, l1⟩ (by omega), show 193 * f + 6 + (10 * l + p) = 193 * f + 6 + 10 * l + p by omega, h.c hb p0 p1 l0 l1]
  exact ⟨fun q => Or.inr (Or.inr (Or.inr (Or.inl ⟨rfl, q⟩))), PI_3⟩
theorem m_manyR (hw : WF V) (hb : vB V ≠ 0) (h : MF μ f V) : SM (fun k => b2i (1 ≤ μ 79 (193 * f + 66 + k))) 0 60 = SM (fun s => b2i (isP V (66 * 2 + s))) 0 66 := by
  have hr := hw.r
  rw [SM_60, SM_66]
  refine SM_c _ (fun l l0 l1 => ?_)
  show _ = SM (fun p => b2i (isP V (66 * 2 + (11 * l + p)))) 0 (10 + 1)
  rw [SM_l _ (by omega), b2i_f (p := isP V (66 * 2 + (11 * l + 10))) (fun q => by
    have q := PI_2 ((isP_i (by omega) ⟨l0, l1⟩ (by omega)).1 q)
    have := hw.b 10 l
    omega), Int.add_zero]
  refine SM_c _ (fun p p0 p1 => b2i_c ?_)
  rw [isP_i (by omega) ⟨l0, l1⟩ (by omega), show 193 * f + 66 + (10 * l + p) = 193 * f + 66 + 10 * l + p by omega, h.b hb p0 p1 l0 l1]
  have := hw.b p l
  exact ⟨fun q => Or.inr (Or.inr (Or.inl ⟨rfl, by omega⟩)), fun q => by have := PI_2 q; omega⟩
theorem m_manyT (hw : WF V) (hb : vB V ≠ 0) (h : MF μ f V) : SM (fun k => b2i (1 ≤ μ 79 (193 * f + 126 + k))) 0 66 = SM (fun s => b2i (isP V (66 * 4 + s))) 0 66 := by
  have hr := hw.r
  rw [SM_66, SM_66]
  refine SM_c _ (fun l l0 l1 => SM_c _ (fun p p0 p1 => b2i_c ?_))
  rw [isP_i (by omega) ⟨l0, l1⟩ (by omega), show 193 * f + 126 + (11 * l + p) = 193 * f + 126 + 11 * l + p by omega, h.t hb p0 p1 l0 l1]
  have := hw.t p l
  exact ⟨fun q => Or.inr (Or.inr (Or.inr (Or.inr (Or.inl ⟨rfl, by omega⟩)))), fun q => by have := PI_4 q; omega⟩
theorem st_about (h : Inv M μ) (f w : Int) : QQ (EE 116 0 [(47, 1), (0, f), (0, w), (9, 0)] [] μ) (EE 200 0 [(48, 71), (0, f), (0, w)] [] μ) μ := by
  rw [q116_0, q200_0, c_frameAt h.s, bnd_s, m_isFrame, bnd_s]
  simp only [b2i_0, ite_not, c_within, m_isIn, bnd_s]
  by_cases hf : 0 ≤ f ∧ f ≤ 2
  · have hw := h.wf hf.1 (by omega)
    have hc := h.cf hf.1 (by omega)
    have hm := h.mf hf.1 (by omega)
    have hr := hw.r
    have hA : 41 + 10 * f ≠ 0 := by omega
    simp only [if_pos hf, if_neg hA, nn_ok _ hA, hc.c0, b2i_0, ite_not, ne_eq, Decidable.not_not, m_isMissing hm, bnd_s, hc.c1, hc.c2, hc.c3, hc.c4, hm.c2, hm.c3, hm.c4, hm.c7, nn74, nn75, nn76, nn79]
    by_cases e1 : 0 ≤ w ∧ w ≤ 7
    · by_cases e2 : vB (VM μ f) = 0
      · simp only [if_pos e1, if_pos e2]
        exact ⟨_, rfl, rfl⟩
      · simp only [if_pos e1, if_neg e2]
        rw [jx74 _ (by omega) (by omega), jx75 _ (by omega) (by omega), jx76 _ (by omega) (by omega), jx76 _ (by omega) (by omega), w32_l (x := 193 * f) (by omega) (by omega), w32_l (by omega) (by omega), jx79 _ (by omega) (by omega), hm.B, hm.L, hm.H, hm.P]
        rw [c_span hw hc (by omega) (by omega) (by omega), c_piecesOf hw hc (by omega) (by omega), c_piecesOf hw hc (by omega) (by omega), c_piecesOf hw hc (by omega) (by omega)]
        rw [q199_0, m_widthTo hw hm (by omega) _ _ _ (by omega) (by omega) (by omega)]
        simp only [q198_0]
        rw [m_manyOf hm (by omega) (by omega) _ _ (by omega) (by omega) (by omega), m_manyOf hm (by omega) (by omega) _ _ (by omega) (by omega) (by omega), m_manyOf hm (by omega) (by omega) _ _ (by omega) (by omega) (by omega)]
        simp only [bnd_s, Int.zero_add]
        rw [m_manyB hw e2 hm, m_manyR hw e2 hm, m_manyT hw e2 hm]
        unfold QQ
        repeat' split
        all_goals exact ⟨_, rfl, rfl⟩
    · simp only [if_neg e1]
      exact ⟨_, rfl, rfl⟩
  · simp only [if_neg hf, if_true]
    exact ⟨_, rfl, rfl⟩
theorem m_wantsOf (hw : WF V) (h : MF μ f V) {t z : Int} (h0 : 0 ≤ t) (h1 : t ≤ 5) : ∀ i acc d, 66 * t ≤ i → 0 ≤ acc → acc ≤ i → EE 265 9 [(48, 71), (0, f), (0, t), (0, z), (0, acc), (0, i), d] [] μ = some (acc + SM (fun s => b2i (isP V s ∧ szOf V t (s % 11) = z)) i (66 * t + 66), μ) := by
  have := h.fr
  refine up_ind (66 * t + 66) ?_ ?_
  · intro i hi acc d _ _ _
    rw [q265_9, SM_e hi, Int.add_zero, w32_l (x := 66 * t) (by omega) (by omega), w32_l (by omega) (by omega), if_neg (by omega)]
  · intro i hi ih acc d _ _ _
    rw [q265_9, SM_s hi, w32_l (x := 66 * t) (by omega) (by omega), w32_l (by omega) (by omega), if_pos hi, m_isPiece hw h, bnd_s, h.c3]
    simp (disch := omega) only [w32_l, Int.add_zero, nn75, jx75, h.H, tm11, b2i_0]
    by_cases e : isP V i
    · rw [if_neg (fun q => q e)]
      have e4 : i / 66 = t := by omega
      have e5 := PI_x e.2.2 e4
      by_cases t0 : t = 0
      · have hz : szOf V t (i % 11) = vH V := if_pos t0
        rw [if_pos t0, hz]
        split
        · rename_i e2
          rw [ih _ _ (by omega) (by omega) (by omega), b2i_t ⟨e, e2⟩, Int.add_assoc]
        · rename_i e2
          rw [ih _ _ (by omega) (by omega) (by omega), b2i_f (fun q => e2 q.2), Int.zero_add]
      · by_cases t4 : t = 4
        · have hz : szOf V t (i % 11) = 1 := by
            unfold szOf
            rw [if_neg t0, if_pos t4]
          rw [if_neg t0, if_pos t4, hz]
          split
          · rename_i e2
            rw [ih _ _ (by omega) (by omega) (by omega), b2i_t ⟨e, e2⟩, Int.add_assoc]
          · rename_i e2
            rw [ih _ _ (by omega) (by omega) (by omega), b2i_f (fun q => e2 q.2), Int.zero_add]
        · have hz : szOf V t (i % 11) = vW V (i % 11) := by
            unfold szOf
            rw [if_neg t0, if_neg t4]
          have hB : inB V (i % 11) := by
            have hc : t = 1 ∨ t = 2 ∨ t = 3 ∨ t = 5 := by omega
            rcases hc with q | q | q | q
            · exact (PI_1 (PI_x e5 q)).1
            · have q1 := PI_2 (PI_x e5 q)
              have q2 := hw.b (i % 11) (i % 66 / 11)
              omega
            · have q1 := PI_3 (PI_x e5 q)
              have q2 := hw.c (i % 11) (i % 66 / 11)
              omega
            · exact gat_in hw (PI_5 (PI_x e5 q)).2.2
          rw [if_neg t0, if_neg t4, hz, m_width hw h hB.1 hB.2, bnd_s]
          split
          · rename_i e2
            rw [ih _ _ (by omega) (by omega) (by omega), b2i_t ⟨e, e2⟩, Int.add_assoc]
          · rename_i e2
            rw [ih _ _ (by omega) (by omega) (by omega), b2i_f (fun q => e2 q.2), Int.zero_add]
    · rw [if_pos e, ih _ _ (by omega) (by omega) (by omega), b2i_f (fun q => e q.1), Int.zero_add]
theorem m_wants (hw : WF V) (h : MF μ f V) {t : Int} (z : Int) (h0 : 0 ≤ t) (h1 : t ≤ 5) : EE 265 0 [(48, 71), (0, f), (0, t), (0, z), (9, 0), (9, 0), (9, 0)] [] μ = some (SM (fun s => b2i (isP V (66 * t + s) ∧ szOf V t (s % 11) = z)) 0 66, μ) := by
  rw [q265_0, w32_l (by omega) (by omega), m_wantsOf hw h h0 h1 _ _ _ (by omega) (by omega) (by omega), Int.zero_add]
  have h3 := SM_sh (f := fun s => b2i (isP V s ∧ szOf V t (s % 11) = z)) (a := 66 * t) (n := 66) 0
  rw [Int.add_zero] at h3
  rw [h3, SM_c (g := fun s => b2i (isP V (66 * t + s) ∧ szOf V t (s % 11) = z)) 0 (fun j _ _ => ?_)]
  refine b2i_c ?_
  rw [show (66 * t + j) % 11 = j % 11 by omega]
theorem c_isPS (t z : Int) (μ : MM) : EE 148 0 [(0, t), (0, z)] [] μ = some (b2i ((0 ≤ t ∧ t ≤ 5) ∧ 1 ≤ z ∧ z ≤ 100), μ) := by
  rw [q148_0, c_within, bnd_s]
  simp only [b2i_0, ite_not, c_within, bnd_s]
  unfold b2i
  repeat' split
  all_goals first | rfl | omega
theorem m_isWare (t z : Int) (μ : MM) : EE 263 0 [(0, t), (0, z)] [] μ = some (b2i ((0 ≤ t ∧ t ≤ 5) ∧ 1 ≤ z ∧ z ≤ 100), μ) := by
  rw [q263_0, m_isIn, bnd_s]
  simp only [b2i_0, ite_not, m_isIn, bnd_s]
  unfold b2i
  repeat' split
  all_goals first | rfl | omega
theorem st_wants (h : Inv M μ) (f t z : Int) : QQ (EE 142 0 [(47, 1), (0, f), (0, t), (0, z), (9, 0)] [] μ) (EE 266 0 [(48, 71), (0, f), (0, t), (0, z)] [] μ) μ := by
  rw [q142_0, q266_0, c_frameAt h.s, bnd_s, m_isFrame, bnd_s]
  simp only [b2i_0, ite_not, c_isPS, m_isWare, bnd_s]
  by_cases hf : 0 ≤ f ∧ f ≤ 2
  · have hw := h.wf hf.1 (by omega)
    have hc := h.cf hf.1 (by omega)
    have hm := h.mf hf.1 (by omega)
    have hA : 41 + 10 * f ≠ 0 := by omega
    simp only [if_pos hf, if_neg hA, nn_ok _ hA, hc.c0, b2i_0, ite_not, ne_eq, Decidable.not_not, m_isMissing hm, bnd_s]
    by_cases e : (0 ≤ t ∧ t ≤ 5) ∧ 1 ≤ z ∧ z ≤ 100
    · rw [c_piecesOfSize hw hc z e.1.1 e.1.2, m_wants hw hm z e.1.1 e.1.2]
      simp only [bnd_s]
      unfold QQ
      repeat' split
      all_goals exact ⟨_, rfl, rfl⟩
    · simp only [if_neg e]
      exact ⟨_, rfl, rfl⟩
  · simp only [if_neg hf, if_true]
    exact ⟨_, rfl, rfl⟩
theorem want_r (V : FV) (t z : Int) : 0 ≤ SM (fun s => b2i (isP V (66 * t + s) ∧ szOf V t (s % 11) = z)) 0 66 ∧ SM (fun s => b2i (isP V (66 * t + s) ∧ szOf V t (s % 11) = z)) 0 66 ≤ 66 := by
  have := SM_b (f := fun s => b2i (isP V (66 * t + s) ∧ szOf V t (s % 11) = z)) (lo := 0) (hi := 1) (n := 66) 0 (fun j _ _ => b2i_r) (by omega)
  omega
theorem st_lacks (h : Inv M μ) (t z : Int) : QQ (EE 143 0 [(47, 1), (0, t), (0, z), (9, 0), (9, 0)] [] μ) (EE 267 0 [(48, 71), (0, t), (0, z), (9, 0), (9, 0)] [] μ) μ := by
  rw [q143_0, q267_0, c_isPS, m_isWare, bnd_s, bnd_s]
  simp only [b2i_0, ite_not]
  by_cases e : (0 ≤ t ∧ t ≤ 5) ∧ 1 ≤ z ∧ z ≤ 100
  · simp only [if_pos e]
    have f0 := h.s.2.1 0 (by omega) (by omega)
    have f1 := h.s.2.1 1 (by omega) (by omega)
    have f2 := h.s.2.1 2 (by omega) (by omega)
    have w0 := want_r (VM μ 0) t z
    have w1 := want_r (VM μ 1) t z
    have w2 := want_r (VM μ 2) t z
    have hk := h.k (101 * t + z) (by omega) (by omega)
    have hs := h.s.1
    generalize x0e : SM (fun s => b2i (isP (VM μ 0) (66 * t + s) ∧ szOf (VM μ 0) t (s % 11) = z)) 0 66 = x0 at w0
    generalize x1e : SM (fun s => b2i (isP (VM μ 1) (66 * t + s) ∧ szOf (VM μ 1) t (s % 11) = z)) 0 66 = x1 at w1
    generalize x2e : SM (fun s => b2i (isP (VM μ 2) (66 * t + s) ∧ szOf (VM μ 2) t (s % 11) = z)) 0 66 = x2 at w2
    have hc : EE 143 16 [(47, 1), (0, t), (0, z), (0, 0), (0, 0)] [] μ = some (if 0 < x0 + x1 + x2 - μ 85 (101 * t + z) then x0 + x1 + x2 - μ 85 (101 * t + z) else 0, μ) := by
      rw [q143_16, hs.2.2.2.1, nn5, cle5, if_pos (by omega), nn5, jx5 _ (by omega) (by omega), f0, nn_ok _ (by omega), c_piecesOfSize (h.wf (by omega) (by omega)) (h.cf (f := 0) (by omega) (by omega)) z e.1.1 e.1.2, bnd_s, x0e]
      rw [q143_16, hs.2.2.2.1, nn5, cle5, show w32 ((0 : Int) + 1) = 1 from rfl, if_pos (by omega), nn5, jx5 _ (by omega) (by omega), f1, nn_ok _ (by omega), c_piecesOfSize (h.wf (by omega) (by omega)) (h.cf (f := 1) (by omega) (by omega)) z e.1.1 e.1.2, bnd_s, x1e]
      rw [q143_16, hs.2.2.2.1, nn5, cle5, show w32 ((1 : Int) + 1) = 2 from rfl, if_pos (by omega), nn5, jx5 _ (by omega) (by omega), f2, nn_ok _ (by omega), c_piecesOfSize (h.wf (by omega) (by omega)) (h.cf (f := 2) (by omega) (by omega)) z e.1.1 e.1.2, bnd_s, x2e]
      rw [q143_16, hs.2.2.2.1, nn5, cle5, show w32 ((2 : Int) + 1) = 3 from rfl, if_neg (by omega), q149_0, bnd_s, hs.2.2.2.2.2.2.2.2.2.2, nn40, w32_l (x := t * 101) (by omega) (by omega), w32_l (x := t * 101 + z) (by omega) (by omega), jx40 _ (by omega) (by omega), show t * 101 + z = 101 * t + z by omega, hk.1]
      simp (disch := omega) only [w32_l, Int.zero_add]
    have hm : EE 267 27 [(48, 71), (0, t), (0, z), (0, w32 (-μ 85 (101 * t + z))), (0, 0)] [] μ = some (if x0 + x1 + x2 - μ 85 (101 * t + z) < 0 then 0 else x0 + x1 + x2 - μ 85 (101 * t + z), μ) := by
      rw [q267_27, if_pos (by omega), m_wants (h.wf (by omega) (by omega)) (h.mf (f := 0) (by omega) (by omega)) z e.1.1 e.1.2, bnd_s, x0e]
      rw [q267_27, show w32 ((0 : Int) + 1) = 1 from rfl, if_pos (by omega), m_wants (h.wf (by omega) (by omega)) (h.mf (f := 1) (by omega) (by omega)) z e.1.1 e.1.2, bnd_s, x1e]
      rw [q267_27, show w32 ((1 : Int) + 1) = 2 from rfl, if_pos (by omega), m_wants (h.wf (by omega) (by omega)) (h.mf (f := 2) (by omega) (by omega)) z e.1.1 e.1.2, bnd_s, x2e]
      rw [q267_27, show w32 ((2 : Int) + 1) = 3 from rfl, if_neg (by omega)]
      simp (disch := omega) only [w32_l, show -μ 85 (101 * t + z) + x0 + x1 + x2 = x0 + x1 + x2 - μ 85 (101 * t + z) by omega]
      split <;> rfl
    rw [hc, h.m.c18, nn85, w32_l (x := 101 * t) (by omega) (by omega), w32_l (x := 101 * t + z) (by omega) (by omega), jx85 _ (by omega) (by omega), hm]
    refine ⟨_, rfl, ?_⟩
    repeat' split
    all_goals first | rfl | omega | (rw [show x0 + x1 + x2 - μ 85 (101 * t + z) = 0 by omega])
  · simp only [if_neg e]
    exact ⟨_, rfl, rfl⟩
end QB
