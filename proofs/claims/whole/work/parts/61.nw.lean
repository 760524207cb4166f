/-! frame, bay, drop: what holds again; the class' begin, addBay, dropBay -/
abbrev nwC (f c i : Int) : Prop := (c = 41 + 10 * f ∧ i ≤ 4) ∨ (42 + 10 * f ≤ c ∧ c ≤ 48 + 10 * f) ∨ c = 50 + 10 * f ∨ (c = 13 ∧ i = 0) ∨ (c = 71 ∧ i = 10) ∨ (74 ≤ c ∧ c ≤ 76 ∧ i = f) ∨ (77 ≤ c ∧ c ≤ 78 ∧ 10 * f ≤ i ∧ i < 10 * f + 10) ∨ (c = 79 ∧ 193 * f ≤ i ∧ i < 193 * f + 193) ∨ (c = 83 ∧ 6 * f ≤ i ∧ i < 6 * f + 6)
section NW6
variable {M μ μ' : MM} {A f : Int} {V : FV}
theorem UM_z (h : Inv M μ) (f0 : 0 ≤ f) (f1 : f < 3) (hu : μ (41 + 10 * f) 5 = 0) : ∀ k, UM μ f k = 0 := by
  obtain ⟨b1, _, _, b4⟩ := h.u f0 f1
  have hz := SM_nz (f := UM μ f) (n := 396) 0 (fun j _ _ => by
    rcases b1 j with q | q
    · omega
    · have := q.1
      omega)
  intro k
  by_cases e : 0 ≤ k ∧ k < 396
  · exact hz.2 (by rw [← b4]; exact hu) k e.1 e.2
  · exact if_neg e
theorem Inv_new (h : Inv M μ) (f0 : 0 ≤ f) (f1 : f < 3) (hu : μ (41 + 10 * f) 5 = 0) (e : ∀ c i, ¬ nwC f c i → μ' c i = μ c i)
    (k0 : μ' 13 0 = 0) (k1 : μ' 71 10 = 0) (hW : WF (VM μ' f)) (hC : CF μ' (41 + 10 * f) (VM μ' f)) (hT : GT μ' f) : Inv M μ' := by
  have gh := h.h.1
  have e13 : μ' 13 1 = μ 13 1 := e 13 1 (by omega)
  refine ⟨GS_ag (fun c i q => e c i (by omega)) h.s, fun g g0 g1 => ?_, GP_ag (fun c i q => e c i (by omega)) h.p, GD_ag (fun c i q => e c i (by omega)) h.d, GZ_ag (fun c i q => e c i (by omega)) h.z, GK_ag (fun c i q => e c i (by omega)) h.k, GR_ag (fun c i q => e c i (by omega)) h.r, ?_, fun c i q => (e c i (by omega)).trans (h.x c i q)⟩
  · by_cases eg : g = f
    · subst eg
      have hU : UM μ' g = UM μ g := UM_ag (fun i _ _ => e 82 i (by omega))
      have hz := UM_z h f0 f1 hu
      obtain ⟨b1, b2, b3, b4⟩ := h.u f0 f1
      refine ⟨⟨hW, hC⟩, ⟨fun k => ?_, fun k hk => ?_, fun k k0 k1 => ?_, ?_⟩, hT⟩
      · rw [hU]
        exact Or.inl (hz k)
      · rw [hU, hz k] at hk
        omega
      · rw [hU]
        refine Or.inl ⟨hz k, ?_⟩
        rw [e _ _ (by omega)]
        rcases b3 k k0 k1 with q | q
        · exact q.2
        · have := hz k
          omega
      · rw [hU, e _ _ (by omega)]
        exact b4
    · exact ⟨GF_ag (fun c i q => e c i (by omega)) (h.f g0 g1), GU_ag (h.wf g0 g1) (fun c i q => e c i (by omega)) (h.u g0 g1), GT_ag (fun c i q => e c i (by omega)) (h.t g0 g1)⟩
  · refine ⟨⟨by omega, by omega, by omega, by omega, by omega⟩, fun i i0 i1 => ?_⟩
    exact absurd i1 (by omega)
theorem r_isGate {m : MM} (hA : Fr A) {B : Int} (hB : B ≤ 10) (h1 : m A 1 = B) (h6 : m A 6 = A + 1) (b : Int) : EE 17 0 [(41, A), (0, b)] [] m = some (b2i (0 ≤ b ∧ b < B ∧ m (A + 1) b = 1), m) := by
  rw [q17_0, q11_0, h1]
  by_cases e : 0 ≤ b ∧ b < B
  · rw [if_neg (by omega), if_pos e.2, bnd_s, if_neg (by omega), h6, nnA hA _ (by omega), ix1 hA _ e.1 (by omega)]
    unfold b2i
    repeat' split
    all_goals first | rfl | omega
  · rw [b2i_f (by omega)]
    by_cases e1 : b < 0
    · rw [if_pos e1, bnd_s, if_pos rfl]
    · rw [if_neg e1, if_neg (by omega), bnd_s, if_pos rfl]
theorem r_setTie {m : MM} (hA : Fr A) {B L s l v : Int} (h0 : m A 0 ≠ 0) (h1 : m A 1 = B) (h2 : m A 2 = L) (h12 : m A 12 = A + 7) (hB : B ≤ 10) (hL : L ≤ 6) (s0 : 0 ≤ s) (s1 : s ≤ B) (l0 : 0 ≤ l) (l1 : l < L) (hv : v = 0 ∨ v = 1) : EE 31 0 [(41, A), (0, s), (0, l), (0, v)] [] m = some (0, up m (A + 7) (11 * l + s) v) := by
  rw [q31_0, q12_0, if_neg h0, if_neg (by omega), h1, if_neg (by omega), bnd_s, if_neg (by omega), q13_0, if_neg (by omega), h2, if_pos l1, bnd_s, if_neg (by omega), h12, nnA hA _ (by omega), w32_l (x := 11 * l) (by omega) (by omega), w32_l (x := 11 * l + s) (by omega) (by omega), ix7 hA _ (by omega) (by omega)]
  rcases hv with q | q
  · rw [q, zo_0]
  · rw [q, zo_1]
theorem r_setClass {m : MM} (hA : Fr A) {B L b l v : Int} (h1 : m A 1 = B) (h2 : m A 2 = L) (h10 : m A 10 = A + 5) (hB : B ≤ 10) (hL : L ≤ 6) (s0 : 0 ≤ b) (s1 : b < B) (l0 : 0 ≤ l) (l1 : l < L) : EE 27 0 [(41, A), (0, b), (0, l), (0, v)] [] m = some (0, up m (A + 5) (11 * l + b) v) := by
  rw [q27_0, q11_0, if_neg (by omega), h1, if_pos s1, bnd_s, if_neg (by omega), q13_0, if_neg (by omega), h2, if_pos l1, bnd_s, if_neg (by omega), h10, nnA hA _ (by omega), w32_l (x := 11 * l) (by omega) (by omega), w32_l (x := 11 * l + b) (by omega) (by omega), ix5 hA _ (by omega) (by omega)]
theorem r_setBrace {m : MM} (hA : Fr A) {B L b l v : Int} (h1 : m A 1 = B) (h2 : m A 2 = L) (h11 : m A 11 = A + 6) (hB : B ≤ 10) (hL : L ≤ 6) (s0 : 0 ≤ b) (s1 : b < B) (l0 : 0 ≤ l) (l1 : l < L) (hv : v = 0 ∨ v = 1) : EE 29 0 [(41, A), (0, b), (0, l), (0, v)] [] m = some (0, up m (A + 6) (11 * l + b) v) := by
  rw [q29_0, q11_0, if_neg (by omega), h1, if_pos s1, bnd_s, if_neg (by omega), q13_0, if_neg (by omega), h2, if_pos l1, bnd_s, if_neg (by omega), h11, nnA hA _ (by omega), w32_l (x := 11 * l) (by omega) (by omega), w32_l (x := 11 * l + b) (by omega) (by omega), ix6 hA _ (by omega) (by omega)]
  rcases hv with q | q
  · rw [q, zo_0]
  · rw [q, zo_1]
theorem c_addBay {m : MM} (hA : Fr A) (hR : FRf m A) {B L k w : Int} (h0 : m A 0 = 1) (h1 : m A 1 = B) (h2 : m A 2 = L) (b0 : 0 ≤ B) (b1 : B < 10) (l0 : 1 ≤ L) (l1 : L ≤ 6) : ∃ m', EE 9 0 [(41, A), (0, k), (0, w)] [] m = some (0, m') ∧ (∀ c i, ¬ (c = A ∧ i = 1) → ¬ ((c = A + 1 ∨ c = A + 2 ∨ c = A + 7) ∧ i = B) → ¬ (c = A + 3 ∧ (i = B ∨ i = B + 1)) → m' c i = m c i) ∧ m' A 1 = B + 1 ∧ m' (A + 1) B = k ∧ m' (A + 2) B = w ∧ m' (A + 3) (B + 1) = 0 ∧ m' (A + 3) B = b2i (0 < B ∧ m (A + 1) (B - 1) = 1 ∧ k = 1) ∧ m' (A + 7) B = (if 0 < B ∧ m (A + 1) (B - 1) = 1 ∧ k = 1 then 0 else m (A + 7) B) := by
  have ha := fr_p hA
  obtain ⟨r6, r7, r8, r9, r10, r11, r12, r13, r14⟩ := hR
  rw [q9_0, h1, if_pos b1, r6, nnA hA _ (by omega), ix1 hA _ b0 b1]
  generalize hm1 : up m (A + 1) B k = m1
  have a1 : ∀ c i, ¬ (c = A + 1 ∧ i = B) → m1 c i = m c i := fun c i q => by rw [← hm1]; exact up_n _ _ (by omega)
  rw [q9_20, a1 A 7 (by omega), r7, nnA hA _ (by omega), a1 A 1 (by omega), h1, ix2 hA _ b0 b1]
  generalize hm2 : up m1 (A + 2) B w = m2
  have a2 : ∀ c i, ¬ (c = A + 2 ∧ i = B) → m2 c i = m1 c i := fun c i q => by rw [← hm2]; exact up_n _ _ (by omega)
  rw [q9_30, a2 A 1 (by omega), a1 A 1 (by omega), h1, w32_l (by omega) (by omega)]
  generalize hm3 : up m2 A 1 (B + 1) = m3
  have a3 : ∀ c i, ¬ (c = A ∧ i = 1) → m3 c i = m2 c i := fun c i q => by rw [← hm3]; exact up_n _ _ (by omega)
  have v3 : m3 A 1 = B + 1 := by rw [← hm3, up_s]
  have e3 : ∀ c i, ¬ (c = A ∧ i = 1) → ¬ ((c = A + 1 ∨ c = A + 2) ∧ i = B) → m3 c i = m c i := fun c i p q => by rw [a3 c i p, a2 c i (by omega), a1 c i (by omega)]
  rw [q9_40, e3 A 8 (by omega) (by omega), r8, nnA hA _ (by omega), v3, ix3 hA _ (by omega) (by omega)]
  generalize hm4 : up m3 (A + 3) (B + 1) 0 = m4
  have a4 : ∀ c i, ¬ (c = A + 3 ∧ i = B + 1) → m4 c i = m3 c i := fun c i q => by rw [← hm4]; exact up_n _ _ (by omega)
  have z4 : m4 (A + 3) (B + 1) = 0 := by rw [← hm4, up_s]
  have v41 : m4 A 1 = B + 1 := by rw [a4 A 1 (by omega), v3]
  have v46 : m4 A 6 = A + 1 := by rw [a4 A 6 (by omega), e3 A 6 (by omega) (by omega), r6]
  have v48 : m4 A 8 = A + 3 := by rw [a4 A 8 (by omega), e3 A 8 (by omega) (by omega), r8]
  have k4 : m4 (A + 1) B = k := by rw [a4 _ _ (by omega), a3 _ _ (by omega), a2 _ _ (by omega), ← hm1, up_s]
  have w4 : m4 (A + 2) B = w := by rw [a4 _ _ (by omega), a3 _ _ (by omega), ← hm2, up_s]
  have k5 : m4 (A + 1) (B - 1) = m (A + 1) (B - 1) := by rw [a4 _ _ (by omega), e3 _ _ (by omega) (by omega)]
  have hg1 := r_isGate (m := m4) hA (B := B + 1) (by omega) v41 v46
  have x1 : w32 (B + 1 - 2) = B - 1 := by
    rw [w32_l (by omega) (by omega)]
    omega
  have x2 : w32 (B + 1 - 1) = B := by
    rw [w32_l (by omega) (by omega)]
    omega
  have step : EE 9 50 [(41, A), (9, 0), (9, 0)] [] m4 = EE 9 92 [(41, A), (9, 0), (9, 0)] [] (up m4 (A + 3) B (b2i (0 < B ∧ m (A + 1) (B - 1) = 1 ∧ k = 1))) := by
    simp only [q9_50, v41, x1, x2, hg1, bnd_s, v48, k4, k5, b2i_0, q9_90, q9_91]
    simp (disch := omega) only [nnA hA, ix3 hA]
    by_cases g : 0 < B ∧ m (A + 1) (B - 1) = 1 ∧ k = 1
    · rw [b2i_t g, if_neg (by omega), if_neg (by omega)]
    · rw [b2i_f g]
      repeat' split
      all_goals first | rfl | (exfalso; omega)
  rw [step]
  generalize hm5 : up m4 (A + 3) B (b2i (0 < B ∧ m (A + 1) (B - 1) = 1 ∧ k = 1)) = m5
  have a5 : ∀ c i, ¬ (c = A + 3 ∧ i = B) → m5 c i = m4 c i := fun c i q => by rw [← hm5]; exact up_n _ _ (by omega)
  have z5 : m5 (A + 3) B = b2i (0 < B ∧ m (A + 1) (B - 1) = 1 ∧ k = 1) := by rw [← hm5, up_s]
  have e5 : ∀ c i, ¬ (c = A ∧ i = 1) → ¬ ((c = A + 1 ∨ c = A + 2) ∧ i = B) → ¬ (c = A + 3 ∧ (i = B ∨ i = B + 1)) → m5 c i = m c i := fun c i p q r => by rw [a5 c i (by omega), a4 c i (by omega), e3 c i p q]
  have v51 : m5 A 1 = B + 1 := by rw [a5 A 1 (by omega), v41]
  rw [q9_92, a5 A 8 (by omega), v48, nnA hA _ (by omega), v51, x2, ix3 hA _ (by omega) (by omega), z5]
  by_cases g : 0 < B ∧ m (A + 1) (B - 1) = 1 ∧ k = 1
  · rw [b2i_t g, if_pos (by omega), r_setTie (m := m5) hA (B := B + 1) (L := L) (by rw [e5 A 0 (by omega) (by omega) (by omega), h0]; omega) v51 (by rw [e5 A 2 (by omega) (by omega) (by omega), h2]) (by rw [e5 A 12 (by omega) (by omega) (by omega), r12]) (by omega) l1 b0 (by omega) (by omega) (by omega) (Or.inl rfl), bnd_s, if_pos g, show 11 * (0 : Int) + B = B by omega]
    refine ⟨_, rfl, fun c i p q r => ?_, ?_, ?_, ?_, ?_, ?_, ?_⟩
    · rw [up_n _ _ (by omega), e5 c i p (by omega) r]
    · rw [up_nc _ _ (by omega), v51]
    · rw [up_nc _ _ (by omega), a5 _ _ (by omega), k4]
    · rw [up_nc _ _ (by omega), a5 _ _ (by omega), w4]
    · rw [up_nc _ _ (by omega), a5 _ _ (by omega), z4]
    · rw [up_nc _ _ (by omega), z5, b2i_t g]
    · rw [up_s]
  · rw [b2i_f g, if_neg (by omega), if_neg g]
    refine ⟨m5, rfl, fun c i p q r => e5 c i p (by omega) r, v51, ?_, ?_, ?_, ?_, ?_⟩
    · rw [a5 _ _ (by omega), k4]
    · rw [a5 _ _ (by omega), w4]
    · rw [a5 _ _ (by omega), z4]
    · rw [z5, b2i_f g]
    · rw [e5 _ _ (by omega) (by omega) (by omega)]
theorem c_clr {x : Int} (hx : x ≠ 0) (hl : 0 ≤ cln x ∧ cln x < 100000) : ∀ i (m : MM), 0 ≤ i → EE 8 2 [(31, x), (0, i)] [] m = some (0, FLL m x i (cln x) 0) := by
  refine up_ind (cln x) (fun i hi m i0 => ?_) (fun i hi ih m i0 => ?_)
  · rw [q8_2, nn_ok _ hx, if_neg (by omega), FLL_e _ _ hi]
  · rw [q8_2, nn_ok _ hx, if_pos hi, nn_ok _ hx, ix_ok _ i0 hi, w32_l (by omega) (by omega), ih _ (by omega), FLL_s _ _ hi]
theorem c_begin {m : MM} (hA : Fr A) (hR : FRf m A) (L H : Int) : ∃ m', EE 7 0 [(41, A), (0, L), (0, H)] [] m = some (0, m') ∧ (∀ c i, ¬ (c = A ∧ i ≤ 4) → ¬ (A + 3 ≤ c ∧ c ≤ A + 7) → c ≠ A + 9 → m' c i = m c i) ∧ (∀ i, 5 ≤ i → m' A i = m A i) ∧ m' A 0 = 1 ∧ m' A 1 = 0 ∧ m' A 2 = L ∧ m' A 3 = H ∧ m' A 4 = 0 ∧ (∀ i, 0 ≤ i → i < 11 → m' (A + 3) i = 0) ∧ (∀ i, 0 ≤ i → i < 6 → m' (A + 4) i = 0) ∧ (∀ i, 0 ≤ i → i < 66 → m' (A + 5) i = -1 ∧ m' (A + 6) i = 0 ∧ m' (A + 7) i = 0) ∧ ∀ i, 0 ≤ i → i < 6 → m' (A + 9) i = -1 := by
  have ha := fr_p hA
  obtain ⟨r6, r7, r8, r9, r10, r11, r12, r13, r14⟩ := hR
  have l3 := fr_3 hA
  have l4 := fr_4 hA
  have l5 := fr_5 hA
  have l6 := fr_6 hA
  have l7 := fr_7 hA
  have l9 := fr_9 hA
  rw [q7_0, q7_5, q7_10, q7_15, q7_20]
  generalize hm0 : up (up (up (up (up m A 0 1) A 1 0) A 2 L) A 3 H) A 4 0 = m0
  have a0 : ∀ c i, ¬ (c = A ∧ 0 ≤ i ∧ i ≤ 4) → m0 c i = m c i := fun c i q => by rw [← hm0, up_n _ _ (by omega), up_n _ _ (by omega), up_n _ _ (by omega), up_n _ _ (by omega), up_n _ _ (by omega)]
  have w0 : m0 A 0 = 1 := by rw [← hm0, up_ni _ _ (by omega), up_ni _ _ (by omega), up_ni _ _ (by omega), up_ni _ _ (by omega), up_s]
  have w1 : m0 A 1 = 0 := by rw [← hm0, up_ni _ _ (by omega), up_ni _ _ (by omega), up_ni _ _ (by omega), up_s]
  have w2 : m0 A 2 = L := by rw [← hm0, up_ni _ _ (by omega), up_ni _ _ (by omega), up_s]
  have w3 : m0 A 3 = H := by rw [← hm0, up_ni _ _ (by omega), up_s]
  have w4 : m0 A 4 = 0 := by rw [← hm0, up_s]
  rw [q7_25, a0 A 8 (by omega), r8, c_fill0 0 (by omega) (by omega), bnd_s, l3]
  generalize hm1 : FLL m0 (A + 3) 0 11 0 = m1
  have a1 : ∀ c i, c ≠ A + 3 → m1 c i = m0 c i := fun c i q => by rw [← hm1]; exact FLL_n _ (by omega)
  have f1 : ∀ i, 0 ≤ i → i < 11 → m1 (A + 3) i = 0 := fun i p q => by rw [← hm1]; exact FLL_i _ ⟨p, q⟩
  rw [a1 A 9 (by omega), a0 A 9 (by omega), r9, q8_0, c_clr (by omega) (by omega) _ _ (by omega), bnd_s, l4]
  generalize hm2 : FLL m1 (A + 4) 0 6 0 = m2
  have a2 : ∀ c i, c ≠ A + 4 → m2 c i = m1 c i := fun c i q => by rw [← hm2]; exact FLL_n _ (by omega)
  have f2 : ∀ i, 0 ≤ i → i < 6 → m2 (A + 4) i = 0 := fun i p q => by rw [← hm2]; exact FLL_i _ ⟨p, q⟩
  rw [a2 A 10 (by omega), a1 A 10 (by omega), a0 A 10 (by omega), r10, c_fill0 (-1) (by omega) (by omega), bnd_s, l5]
  generalize hm3 : FLL m2 (A + 5) 0 66 (-1) = m3
  have a3 : ∀ c i, c ≠ A + 5 → m3 c i = m2 c i := fun c i q => by rw [← hm3]; exact FLL_n _ (by omega)
  have f3 : ∀ i, 0 ≤ i → i < 66 → m3 (A + 5) i = -1 := fun i p q => by rw [← hm3]; exact FLL_i _ ⟨p, q⟩
  rw [a3 A 11 (by omega), a2 A 11 (by omega), a1 A 11 (by omega), a0 A 11 (by omega), r11, q8_0, c_clr (by omega) (by omega) _ _ (by omega), bnd_s, l6]
  generalize hm4 : FLL m3 (A + 6) 0 66 0 = m4
  have a4 : ∀ c i, c ≠ A + 6 → m4 c i = m3 c i := fun c i q => by rw [← hm4]; exact FLL_n _ (by omega)
  have f4 : ∀ i, 0 ≤ i → i < 66 → m4 (A + 6) i = 0 := fun i p q => by rw [← hm4]; exact FLL_i _ ⟨p, q⟩
  rw [a4 A 12 (by omega), a3 A 12 (by omega), a2 A 12 (by omega), a1 A 12 (by omega), a0 A 12 (by omega), r12, q8_0, c_clr (by omega) (by omega) _ _ (by omega), bnd_s, l7]
  generalize hm5 : FLL m4 (A + 7) 0 66 0 = m5
  have a5 : ∀ c i, c ≠ A + 7 → m5 c i = m4 c i := fun c i q => by rw [← hm5]; exact FLL_n _ (by omega)
  have f5 : ∀ i, 0 ≤ i → i < 66 → m5 (A + 7) i = 0 := fun i p q => by rw [← hm5]; exact FLL_i _ ⟨p, q⟩
  rw [a5 A 14 (by omega), a4 A 14 (by omega), a3 A 14 (by omega), a2 A 14 (by omega), a1 A 14 (by omega), a0 A 14 (by omega), r14, c_fill0 (-1) (by omega) (by omega), bnd_s, l9]
  generalize hm6 : FLL m5 (A + 9) 0 6 (-1) = m6
  have a6 : ∀ c i, c ≠ A + 9 → m6 c i = m5 c i := fun c i q => by rw [← hm6]; exact FLL_n _ (by omega)
  have f6 : ∀ i, 0 ≤ i → i < 6 → m6 (A + 9) i = -1 := fun i p q => by rw [← hm6]; exact FLL_i _ ⟨p, q⟩
  have all : ∀ c i, ¬ (A + 3 ≤ c ∧ c ≤ A + 7) → c ≠ A + 9 → m6 c i = m0 c i := fun c i p q => by rw [a6 c i q, a5 c i (by omega), a4 c i (by omega), a3 c i (by omega), a2 c i (by omega), a1 c i (by omega)]
  refine ⟨m6, rfl, fun c i p q r => ?_, fun i p => ?_, ?_, ?_, ?_, ?_, ?_, fun i p q => ?_, fun i p q => ?_, fun i p q => ⟨?_, ?_, ?_⟩, f6⟩
  · rw [all c i q r, a0 c i (by omega)]
  · rw [all A i (by omega) (by omega), a0 A i (by omega)]
  · rw [all A 0 (by omega) (by omega), w0]
  · rw [all A 1 (by omega) (by omega), w1]
  · rw [all A 2 (by omega) (by omega), w2]
  · rw [all A 3 (by omega) (by omega), w3]
  · rw [all A 4 (by omega) (by omega), w4]
  · rw [a6 _ _ (by omega), a5 _ _ (by omega), a4 _ _ (by omega), a3 _ _ (by omega), a2 _ _ (by omega), f1 i p q]
  · rw [a6 _ _ (by omega), a5 _ _ (by omega), a4 _ _ (by omega), a3 _ _ (by omega), f2 i p q]
  · rw [a6 _ _ (by omega), a5 _ _ (by omega), a4 _ _ (by omega), f3 i p q]
  · rw [a6 _ _ (by omega), a5 _ _ (by omega), f4 i p q]
  · rw [a6 _ _ (by omega), f5 i p q]
/-- the last bay's boards, braces and the last standard's ties from lift l on are no more -/
def DBy (m : MM) (A B L l : Int) : MM := fun c j => if c = A + 5 ∧ 11 * l ≤ j ∧ j < 11 * L ∧ j % 11 = B - 1 then -1 else if c = A + 6 ∧ 11 * l ≤ j ∧ j < 11 * L ∧ j % 11 = B - 1 then 0 else if c = A + 7 ∧ 11 * l ≤ j ∧ j < 11 * L ∧ j % 11 = B then 0 else m c j
theorem DBy_s (m : MM) {B L l : Int} (b0 : 1 ≤ B) (b1 : B ≤ 10) (l0 : 0 ≤ l) (l1 : l < L) : DBy (up (up (up m (A + 5) (11 * l + (B - 1)) (-1)) (A + 6) (11 * l + (B - 1)) 0) (A + 7) (11 * l + B) 0) A B L (l + 1) = DBy m A B L l := by
  funext c j
  unfold DBy
  by_cases q5 : c = A + 5 ∧ j = 11 * l + (B - 1)
  · rw [if_neg (by omega), if_neg (by omega), if_neg (by omega), up_nc _ _ (by omega), up_nc _ _ (by omega), if_pos (by omega), q5.1, q5.2, up_s]
  by_cases q6 : c = A + 6 ∧ j = 11 * l + (B - 1)
  · rw [if_neg (by omega), if_neg (by omega), if_neg (by omega), up_nc _ _ (by omega), if_neg (by omega), if_pos (by omega), q6.1, q6.2, up_s]
  by_cases q7 : c = A + 7 ∧ j = 11 * l + B
  · rw [if_neg (by omega), if_neg (by omega), if_neg (by omega), if_neg (by omega), if_neg (by omega), if_pos (by omega), q7.1, q7.2, up_s]
  rw [up_n _ _ (by omega), up_n _ _ (by omega), up_n _ _ (by omega)]
  by_cases z5 : c = A + 5 ∧ 11 * l ≤ j ∧ j < 11 * L ∧ j % 11 = B - 1
  · rw [if_pos z5, if_pos (by omega)]
  rw [if_neg z5, if_neg (by omega)]
  by_cases z6 : c = A + 6 ∧ 11 * l ≤ j ∧ j < 11 * L ∧ j % 11 = B - 1
  · rw [if_pos z6, if_pos (by omega)]
  rw [if_neg z6, if_neg (by omega)]
  by_cases z7 : c = A + 7 ∧ 11 * l ≤ j ∧ j < 11 * L ∧ j % 11 = B
  · rw [if_pos z7, if_pos (by omega)]
  rw [if_neg z7, if_neg (by omega)]
theorem DBy_e (m : MM) {B L l : Int} (h : L ≤ l) : DBy m A B L l = m := by
  funext c j
  unfold DBy
  rw [if_neg (by omega), if_neg (by omega), if_neg (by omega)]
theorem c_dropL (hA : Fr A) {B L : Int} (b0 : 1 ≤ B) (b1 : B ≤ 10) (hL : L ≤ 6) : ∀ l (m : MM), 0 ≤ l → FRf m A → m A 0 = 1 → m A 1 = B → m A 2 = L → EE 10 11 [(41, A), (0, l)] [] m = some (0, up (up (DBy m A B L l) A 1 (B - 1)) (A + 3) (B - 1) 0) := by
  have ha := fr_p hA
  have x1 : w32 (B - 1) = B - 1 := w32_l (by omega) (by omega)
  refine up_ind L (fun l hl m l0 hR h0 h1 h2 => ?_) (fun l hl ih m l0 hR h0 h1 h2 => ?_)
  · obtain ⟨r6, r7, r8, r9, r10, r11, r12, r13, r14⟩ := hR
    rw [q10_11, h2, if_neg (by omega), h1, x1, up_s, up_ni _ _ (by omega), r8, nnA hA _ (by omega), ix3 hA _ (by omega) (by omega), DBy_e _ hl]
  · obtain ⟨r6, r7, r8, r9, r10, r11, r12, r13, r14⟩ := id hR
    have n1 : ∀ i v j, up m (A + 5) j v A i = m A i := fun i v j => up_nc _ _ (by omega)
    have n2 : ∀ i v j v' j', up (up m (A + 5) j v) (A + 6) j' v' A i = m A i := fun i v j v' j' => by rw [up_nc _ _ (by omega), n1]
    have n3 : ∀ i v j v' j' v2 j2, up (up (up m (A + 5) j v) (A + 6) j' v') (A + 7) j2 v2 A i = m A i := fun i v j v' j' v2 j2 => by rw [up_nc _ _ (by omega), n2]
    rw [q10_11, h2, if_pos hl, h1, x1, r_setClass hA h1 h2 r10 b1 hL (by omega) (by omega) l0 hl, bnd_s, n1, h1, x1, r_setBrace hA (B := B) (L := L) (by rw [n1, h1]) (by rw [n1, h2]) (by rw [n1, r11]) b1 hL (by omega) (by omega) l0 hl (Or.inl rfl), bnd_s, n2, h1, r_setTie hA (B := B) (L := L) (by rw [n2, h0]; omega) (by rw [n2, h1]) (by rw [n2, h2]) (by rw [n2, r12]) b1 hL (by omega) (by omega) l0 hl (Or.inl rfl), bnd_s, w32_l (by omega) (by omega), ih _ (by omega) (by unfold FRf; simp only [n3]; exact hR) (by rw [n3, h0]) (by rw [n3, h1]) (by rw [n3, h2]), DBy_s m b0 b1 l0 hl]
end NW6
