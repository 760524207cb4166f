/-! the law: its cases -/
/-- one call of the law is done: both have answered alike -/
def NXT (M : MM) (G : GG) (μ : MM) (i : Int) (pc : Nat) : Prop := ∃ μ2, EE 0 pc [(99, 0), (47, 1), (48, 71), (0, i)] [] μ = EE 0 1790 [(99, 0), (47, 1), (48, 71), (0, i)] [] μ2 ∧ Inv M μ2 ∧ Mok G μ2
section LC7
variable {M μ μ1 : MM} {G : GG} {i : Int}
theorem keepS (l : Launch) {k : Nat} {ls : List VV} {v : Int} (hE : EE k 0 ls [] μ = some (v, μ1)) (hk : k < 273) (hM : Mok G μ) (hl : ∀ v ∈ ls, okl (μ 0 0) v) (hn : ls.length = mL k) : μ 0 0 ≤ μ1 0 0 ∧ Mok G μ1 := by
  obtain ⟨p1, p2, -, -⟩ := EE_run (l := l) (G := G) k 0 ls [] μ v μ1 hE hk hM hl (fun v hv => by cases hv) hn
  exact ⟨p1, p2⟩
theorem fmc {p : VV → Prop} {a : VV} {l : List VV} (h1 : p a) (h2 : ∀ v ∈ l, p v) : ∀ v ∈ a :: l, p v := by
  intro v hv
  rcases List.mem_cons.mp hv with q | q
  · rw [q]
    exact h1
  · exact h2 v q
theorem fmn {p : VV → Prop} : ∀ v ∈ ([] : List VV), p v := fun v hv => by cases hv
theorem okl_i {n x : Int} (h : R32 x) : okl n (0, x) := Or.inr h
theorem okl_9 {n : Int} : okl n (9, 0) := Or.inl rfl
theorem okl_47 {n : Int} (h : 1 < n) : okl n (47, 1) := Or.inr ⟨by decide, by decide, by decide, h, by decide⟩
theorem okl_48 {n : Int} (h : 71 < n) : okl n (48, 71) := Or.inr ⟨by decide, by decide, by decide, h, by decide⟩
theorem Mok.scr (hM : Mok G μ) {x : Int} (h0 : 0 ≤ x) (h1 : x < μ 0 1) : μ (-1) x = (gX G x.toNat).toInt := by
  obtain ⟨_, _, _, a, _, b⟩ := hM
  have := b x.toNat (by omega)
  rw [← this]
  congr 1
  omega
theorem Mok.len (hM : Mok G μ) : μ 0 1 = gL G := hM.2.2.2.1
theorem sci_k {n x : Int} (K : RR) (h0 : 0 ≤ x) (h1 : x < n) : sci n x K = K := if_pos ⟨rfl, rfl, h0, h1⟩
theorem lc_0 (l : Launch) (hI : Inv M μ) (hM : Mok G μ) (h0 : M 0 0 = 90) (i0 : 0 ≤ i) (i1 : i + 5 ≤ μ 0 1) (i2 : μ 0 1 ≤ 2560) : NXT M G μ i 220 := by
  have g1 : R32 (μ (-1) (i + 1)) := by
    rw [hM.scr (by omega) (by omega)]
    exact i32_R _
  have g2 : R32 (μ (-1) (i + 2)) := by
    rw [hM.scr (by omega) (by omega)]
    exact i32_R _
  have g3 : R32 (μ (-1) (i + 3)) := by
    rw [hM.scr (by omega) (by omega)]
    exact i32_R _
  have n0 : μ 0 0 = 90 := (hI.x 0 0 (by decide)).trans h0
  obtain ⟨v, μ1, μ2, c1, c2, c3⟩ := st_table hI (μ (-1) (i + 1)) (μ (-1) (i + 2)) (μ (-1) (i + 3))
  have c4 : EE 160 0 [(48, 71), (0, (μ (-1) (i + 1))), (0, (μ (-1) (i + 2))), (0, (μ (-1) (i + 3))), (9, 0), (9, 0)] [] μ1 = some (v, μ2) := c2
  have k1 := keepS l c1 (by decide) hM (fmc (okl_47 (by omega)) (fmc (okl_i g1) (fmc (okl_i g2) (fmc (okl_i g3) (fmc okl_9 (fmc okl_9 fmn)))))) rfl
  have k2 := keepS l c4 (by decide) k1.2 (fmc (okl_48 (by omega)) (fmc (okl_i g1) (fmc (okl_i g2) (fmc (okl_i g3) (fmc okl_9 (fmc okl_9 fmn)))))) rfl
  have e0 : μ1 0 1 = μ 0 1 := k1.2.len.trans hM.len.symm
  have w1 : w32 (i + 1) = i + 1 := w32_l (by omega) (by omega)
  have s1 : ∀ K, sci (μ 0 1) (i + 1) K = K := fun K => sci_k K (by omega) (by omega)
  have r1 : μ1 (-1) (i + 1) = μ (-1) (i + 1) := by rw [k1.2.scr (by omega) (by omega), hM.scr (by omega) (by omega)]
  have w2 : w32 (i + 2) = i + 2 := w32_l (by omega) (by omega)
  have s2 : ∀ K, sci (μ 0 1) (i + 2) K = K := fun K => sci_k K (by omega) (by omega)
  have r2 : μ1 (-1) (i + 2) = μ (-1) (i + 2) := by rw [k1.2.scr (by omega) (by omega), hM.scr (by omega) (by omega)]
  have w3 : w32 (i + 3) = i + 3 := w32_l (by omega) (by omega)
  have s3 : ∀ K, sci (μ 0 1) (i + 3) K = K := fun K => sci_k K (by omega) (by omega)
  have r3 : μ1 (-1) (i + 3) = μ (-1) (i + 3) := by rw [k1.2.scr (by omega) (by omega), hM.scr (by omega) (by omega)]
  refine ⟨μ2, ?_, c3, k2.2⟩
  simp only [q0_220, w1, s1, r1, w2, s2, r2, w3, s3, r3, e0, c1, bnd_s, c4, if_true]
theorem lc_1 (l : Launch) (hI : Inv M μ) (hM : Mok G μ) (h0 : M 0 0 = 90) (i0 : 0 ≤ i) (i1 : i + 5 ≤ μ 0 1) (i2 : μ 0 1 ≤ 2560) : NXT M G μ i 263 := by
  have g1 : R32 (μ (-1) (i + 1)) := by
    rw [hM.scr (by omega) (by omega)]
    exact i32_R _
  have g2 : R32 (μ (-1) (i + 2)) := by
    rw [hM.scr (by omega) (by omega)]
    exact i32_R _
  have g3 : R32 (μ (-1) (i + 3)) := by
    rw [hM.scr (by omega) (by omega)]
    exact i32_R _
  have g4 : R32 (μ (-1) (i + 4)) := by
    rw [hM.scr (by omega) (by omega)]
    exact i32_R _
  have n0 : μ 0 0 = 90 := (hI.x 0 0 (by decide)).trans h0
  obtain ⟨v, μ1, μ2, c1, c2, c3⟩ := st_fit hI (μ (-1) (i + 1)) (μ (-1) (i + 2)) (μ (-1) (i + 3)) (μ (-1) (i + 4))
  have c4 : EE 164 0 [(48, 71), (0, (μ (-1) (i + 1))), (0, (μ (-1) (i + 2))), (0, (μ (-1) (i + 3))), (0, (μ (-1) (i + 4)))] [] μ1 = some (v, μ2) := c2
  have k1 := keepS l c1 (by decide) hM (fmc (okl_47 (by omega)) (fmc (okl_i g1) (fmc (okl_i g2) (fmc (okl_i g3) (fmc (okl_i g4) fmn))))) rfl
  have k2 := keepS l c4 (by decide) k1.2 (fmc (okl_48 (by omega)) (fmc (okl_i g1) (fmc (okl_i g2) (fmc (okl_i g3) (fmc (okl_i g4) fmn))))) rfl
  have e0 : μ1 0 1 = μ 0 1 := k1.2.len.trans hM.len.symm
  have w1 : w32 (i + 1) = i + 1 := w32_l (by omega) (by omega)
  have s1 : ∀ K, sci (μ 0 1) (i + 1) K = K := fun K => sci_k K (by omega) (by omega)
  have r1 : μ1 (-1) (i + 1) = μ (-1) (i + 1) := by rw [k1.2.scr (by omega) (by omega), hM.scr (by omega) (by omega)]
  have w2 : w32 (i + 2) = i + 2 := w32_l (by omega) (by omega)
  have s2 : ∀ K, sci (μ 0 1) (i + 2) K = K := fun K => sci_k K (by omega) (by omega)
  have r2 : μ1 (-1) (i + 2) = μ (-1) (i + 2) := by rw [k1.2.scr (by omega) (by omega), hM.scr (by omega) (by omega)]
  have w3 : w32 (i + 3) = i + 3 := w32_l (by omega) (by omega)
  have s3 : ∀ K, sci (μ 0 1) (i + 3) K = K := fun K => sci_k K (by omega) (by omega)
  have r3 : μ1 (-1) (i + 3) = μ (-1) (i + 3) := by rw [k1.2.scr (by omega) (by omega), hM.scr (by omega) (by omega)]
  have w4 : w32 (i + 4) = i + 4 := w32_l (by omega) (by omega)
  have s4 : ∀ K, sci (μ 0 1) (i + 4) K = K := fun K => sci_k K (by omega) (by omega)
  have r4 : μ1 (-1) (i + 4) = μ (-1) (i + 4) := by rw [k1.2.scr (by omega) (by omega), hM.scr (by omega) (by omega)]
  refine ⟨μ2, ?_, c3, k2.2⟩
  simp only [q0_263, w1, s1, r1, w2, s2, r2, w3, s3, r3, w4, s4, r4, e0, c1, bnd_s, c4, if_true]
theorem lc_2 (l : Launch) (hI : Inv M μ) (hM : Mok G μ) (h0 : M 0 0 = 90) (i0 : 0 ≤ i) (i1 : i + 5 ≤ μ 0 1) (i2 : μ 0 1 ≤ 2560) : NXT M G μ i 316 := by
  have g1 : R32 (μ (-1) (i + 1)) := by
    rw [hM.scr (by omega) (by omega)]
    exact i32_R _
  have g2 : R32 (μ (-1) (i + 2)) := by
    rw [hM.scr (by omega) (by omega)]
    exact i32_R _
  have g3 : R32 (μ (-1) (i + 3)) := by
    rw [hM.scr (by omega) (by omega)]
    exact i32_R _
  have g4 : R32 (μ (-1) (i + 4)) := by
    rw [hM.scr (by omega) (by omega)]
    exact i32_R _
  have n0 : μ 0 0 = 90 := (hI.x 0 0 (by decide)).trans h0
  obtain ⟨v, μ1, μ2, c1, c2, c3⟩ := st_join hI (μ (-1) (i + 1)) (μ (-1) (i + 2)) (μ (-1) (i + 3)) (μ (-1) (i + 4))
  have c4 : EE 168 0 [(48, 71), (0, (μ (-1) (i + 1))), (0, (μ (-1) (i + 2))), (0, (μ (-1) (i + 3))), (0, (μ (-1) (i + 4)))] [] μ1 = some (v, μ2) := c2
  have k1 := keepS l c1 (by decide) hM (fmc (okl_47 (by omega)) (fmc (okl_i g1) (fmc (okl_i g2) (fmc (okl_i g3) (fmc (okl_i g4) fmn))))) rfl
  have k2 := keepS l c4 (by decide) k1.2 (fmc (okl_48 (by omega)) (fmc (okl_i g1) (fmc (okl_i g2) (fmc (okl_i g3) (fmc (okl_i g4) fmn))))) rfl
  have e0 : μ1 0 1 = μ 0 1 := k1.2.len.trans hM.len.symm
  have w1 : w32 (i + 1) = i + 1 := w32_l (by omega) (by omega)
  have s1 : ∀ K, sci (μ 0 1) (i + 1) K = K := fun K => sci_k K (by omega) (by omega)
  have r1 : μ1 (-1) (i + 1) = μ (-1) (i + 1) := by rw [k1.2.scr (by omega) (by omega), hM.scr (by omega) (by omega)]
  have w2 : w32 (i + 2) = i + 2 := w32_l (by omega) (by omega)
  have s2 : ∀ K, sci (μ 0 1) (i + 2) K = K := fun K => sci_k K (by omega) (by omega)
  have r2 : μ1 (-1) (i + 2) = μ (-1) (i + 2) := by rw [k1.2.scr (by omega) (by omega), hM.scr (by omega) (by omega)]
  have w3 : w32 (i + 3) = i + 3 := w32_l (by omega) (by omega)
  have s3 : ∀ K, sci (μ 0 1) (i + 3) K = K := fun K => sci_k K (by omega) (by omega)
  have r3 : μ1 (-1) (i + 3) = μ (-1) (i + 3) := by rw [k1.2.scr (by omega) (by omega), hM.scr (by omega) (by omega)]
  have w4 : w32 (i + 4) = i + 4 := w32_l (by omega) (by omega)
  have s4 : ∀ K, sci (μ 0 1) (i + 4) K = K := fun K => sci_k K (by omega) (by omega)
  have r4 : μ1 (-1) (i + 4) = μ (-1) (i + 4) := by rw [k1.2.scr (by omega) (by omega), hM.scr (by omega) (by omega)]
  refine ⟨μ2, ?_, c3, k2.2⟩
  simp only [q0_316, w1, s1, r1, w2, s2, r2, w3, s3, r3, w4, s4, r4, e0, c1, bnd_s, c4, if_true]
theorem lc_3 (l : Launch) (hI : Inv M μ) (hM : Mok G μ) (h0 : M 0 0 = 90) (i0 : 0 ≤ i) (i1 : i + 5 ≤ μ 0 1) (i2 : μ 0 1 ≤ 2560) : NXT M G μ i 369 := by
  have g1 : R32 (μ (-1) (i + 1)) := by
    rw [hM.scr (by omega) (by omega)]
    exact i32_R _
  have g2 : R32 (μ (-1) (i + 2)) := by
    rw [hM.scr (by omega) (by omega)]
    exact i32_R _
  have g3 : R32 (μ (-1) (i + 3)) := by
    rw [hM.scr (by omega) (by omega)]
    exact i32_R _
  have g4 : R32 (μ (-1) (i + 4)) := by
    rw [hM.scr (by omega) (by omega)]
    exact i32_R _
  have n0 : μ 0 0 = 90 := (hI.x 0 0 (by decide)).trans h0
  obtain ⟨v, μ1, μ2, c1, c2, c3⟩ := st_frame hI (μ (-1) (i + 1)) (μ (-1) (i + 2)) (μ (-1) (i + 3)) (μ (-1) (i + 4))
  have c4 : EE 187 0 [(48, 71), (0, (μ (-1) (i + 1))), (0, (μ (-1) (i + 2))), (0, (μ (-1) (i + 3))), (0, (μ (-1) (i + 4))), (9, 0)] [] μ1 = some (v, μ2) := c2
  have k1 := keepS l c1 (by decide) hM (fmc (okl_47 (by omega)) (fmc (okl_i g1) (fmc (okl_i g2) (fmc (okl_i g3) (fmc (okl_i g4) (fmc okl_9 fmn)))))) rfl
  have k2 := keepS l c4 (by decide) k1.2 (fmc (okl_48 (by omega)) (fmc (okl_i g1) (fmc (okl_i g2) (fmc (okl_i g3) (fmc (okl_i g4) (fmc okl_9 fmn)))))) rfl
  have e0 : μ1 0 1 = μ 0 1 := k1.2.len.trans hM.len.symm
  have w1 : w32 (i + 1) = i + 1 := w32_l (by omega) (by omega)
  have s1 : ∀ K, sci (μ 0 1) (i + 1) K = K := fun K => sci_k K (by omega) (by omega)
  have r1 : μ1 (-1) (i + 1) = μ (-1) (i + 1) := by rw [k1.2.scr (by omega) (by omega), hM.scr (by omega) (by omega)]
  have w2 : w32 (i + 2) = i + 2 := w32_l (by omega) (by omega)
  have s2 : ∀ K, sci (μ 0 1) (i + 2) K = K := fun K => sci_k K (by omega) (by omega)
  have r2 : μ1 (-1) (i + 2) = μ (-1) (i + 2) := by rw [k1.2.scr (by omega) (by omega), hM.scr (by omega) (by omega)]
  have w3 : w32 (i + 3) = i + 3 := w32_l (by omega) (by omega)
  have s3 : ∀ K, sci (μ 0 1) (i + 3) K = K := fun K => sci_k K (by omega) (by omega)
  have r3 : μ1 (-1) (i + 3) = μ (-1) (i + 3) := by rw [k1.2.scr (by omega) (by omega), hM.scr (by omega) (by omega)]
  have w4 : w32 (i + 4) = i + 4 := w32_l (by omega) (by omega)
  have s4 : ∀ K, sci (μ 0 1) (i + 4) K = K := fun K => sci_k K (by omega) (by omega)
  have r4 : μ1 (-1) (i + 4) = μ (-1) (i + 4) := by rw [k1.2.scr (by omega) (by omega), hM.scr (by omega) (by omega)]
  refine ⟨μ2, ?_, c3, k2.2⟩
  simp only [q0_369, w1, s1, r1, w2, s2, r2, w3, s3, r3, w4, s4, r4, e0, c1, bnd_s, c4, if_true]
theorem lc_4 (l : Launch) (hI : Inv M μ) (hM : Mok G μ) (h0 : M 0 0 = 90) (i0 : 0 ≤ i) (i1 : i + 5 ≤ μ 0 1) (i2 : μ 0 1 ≤ 2560) : NXT M G μ i 422 := by
  have g1 : R32 (μ (-1) (i + 1)) := by
    rw [hM.scr (by omega) (by omega)]
    exact i32_R _
  have g2 : R32 (μ (-1) (i + 2)) := by
    rw [hM.scr (by omega) (by omega)]
    exact i32_R _
  have g3 : R32 (μ (-1) (i + 3)) := by
    rw [hM.scr (by omega) (by omega)]
    exact i32_R _
  have n0 : μ 0 0 = 90 := (hI.x 0 0 (by decide)).trans h0
  obtain ⟨v, μ1, μ2, c1, c2, c3⟩ := st_bay hI (μ (-1) (i + 1)) (μ (-1) (i + 2)) (μ (-1) (i + 3))
  have c4 : EE 188 0 [(48, 71), (0, (μ (-1) (i + 1))), (0, (μ (-1) (i + 2))), (0, (μ (-1) (i + 3))), (9, 0)] [] μ1 = some (v, μ2) := c2
  have k1 := keepS l c1 (by decide) hM (fmc (okl_47 (by omega)) (fmc (okl_i g1) (fmc (okl_i g2) (fmc (okl_i g3) (fmc okl_9 fmn))))) rfl
  have k2 := keepS l c4 (by decide) k1.2 (fmc (okl_48 (by omega)) (fmc (okl_i g1) (fmc (okl_i g2) (fmc (okl_i g3) (fmc okl_9 fmn))))) rfl
  have e0 : μ1 0 1 = μ 0 1 := k1.2.len.trans hM.len.symm
  have w1 : w32 (i + 1) = i + 1 := w32_l (by omega) (by omega)
  have s1 : ∀ K, sci (μ 0 1) (i + 1) K = K := fun K => sci_k K (by omega) (by omega)
  have r1 : μ1 (-1) (i + 1) = μ (-1) (i + 1) := by rw [k1.2.scr (by omega) (by omega), hM.scr (by omega) (by omega)]
  have w2 : w32 (i + 2) = i + 2 := w32_l (by omega) (by omega)
  have s2 : ∀ K, sci (μ 0 1) (i + 2) K = K := fun K => sci_k K (by omega) (by omega)
  have r2 : μ1 (-1) (i + 2) = μ (-1) (i + 2) := by rw [k1.2.scr (by omega) (by omega), hM.scr (by omega) (by omega)]
  have w3 : w32 (i + 3) = i + 3 := w32_l (by omega) (by omega)
  have s3 : ∀ K, sci (μ 0 1) (i + 3) K = K := fun K => sci_k K (by omega) (by omega)
  have r3 : μ1 (-1) (i + 3) = μ (-1) (i + 3) := by rw [k1.2.scr (by omega) (by omega), hM.scr (by omega) (by omega)]
  refine ⟨μ2, ?_, c3, k2.2⟩
  simp only [q0_422, w1, s1, r1, w2, s2, r2, w3, s3, r3, e0, c1, bnd_s, c4, if_true]
theorem lc_5 (l : Launch) (hI : Inv M μ) (hM : Mok G μ) (h0 : M 0 0 = 90) (i0 : 0 ≤ i) (i1 : i + 5 ≤ μ 0 1) (i2 : μ 0 1 ≤ 2560) : NXT M G μ i 465 := by
  have g1 : R32 (μ (-1) (i + 1)) := by
    rw [hM.scr (by omega) (by omega)]
    exact i32_R _
  have n0 : μ 0 0 = 90 := (hI.x 0 0 (by decide)).trans h0
  obtain ⟨v, μ1, μ2, c1, c2, c3⟩ := st_drop hI (μ (-1) (i + 1))
  have c4 : EE 189 0 [(48, 71), (0, (μ (-1) (i + 1))), (9, 0), (9, 0)] [] μ1 = some (v, μ2) := c2
  have k1 := keepS l c1 (by decide) hM (fmc (okl_47 (by omega)) (fmc (okl_i g1) (fmc okl_9 (fmc okl_9 fmn)))) rfl
  have k2 := keepS l c4 (by decide) k1.2 (fmc (okl_48 (by omega)) (fmc (okl_i g1) (fmc okl_9 (fmc okl_9 fmn)))) rfl
  have e0 : μ1 0 1 = μ 0 1 := k1.2.len.trans hM.len.symm
  have w1 : w32 (i + 1) = i + 1 := w32_l (by omega) (by omega)
  have s1 : ∀ K, sci (μ 0 1) (i + 1) K = K := fun K => sci_k K (by omega) (by omega)
  have r1 : μ1 (-1) (i + 1) = μ (-1) (i + 1) := by rw [k1.2.scr (by omega) (by omega), hM.scr (by omega) (by omega)]
  refine ⟨μ2, ?_, c3, k2.2⟩
  simp only [q0_465, w1, s1, r1, e0, c1, bnd_s, c4, if_true]
theorem lc_6 (l : Launch) (hI : Inv M μ) (hM : Mok G μ) (h0 : M 0 0 = 90) (i0 : 0 ≤ i) (i1 : i + 5 ≤ μ 0 1) (i2 : μ 0 1 ≤ 2560) : NXT M G μ i 488 := by
  have g1 : R32 (μ (-1) (i + 1)) := by
    rw [hM.scr (by omega) (by omega)]
    exact i32_R _
  have g2 : R32 (μ (-1) (i + 2)) := by
    rw [hM.scr (by omega) (by omega)]
    exact i32_R _
  have n0 : μ 0 0 = 90 := (hI.x 0 0 (by decide)).trans h0
  obtain ⟨v, μ1, μ2, c1, c2, c3⟩ := st_floor hI (μ (-1) (i + 1)) (μ (-1) (i + 2))
  have c4 : EE 191 0 [(48, 71), (0, (μ (-1) (i + 1))), (0, (μ (-1) (i + 2))), (9, 0)] [] μ1 = some (v, μ2) := c2
  have k1 := keepS l c1 (by decide) hM (fmc (okl_47 (by omega)) (fmc (okl_i g1) (fmc (okl_i g2) (fmc okl_9 (fmc okl_9 fmn))))) rfl
  have k2 := keepS l c4 (by decide) k1.2 (fmc (okl_48 (by omega)) (fmc (okl_i g1) (fmc (okl_i g2) (fmc okl_9 fmn)))) rfl
  have e0 : μ1 0 1 = μ 0 1 := k1.2.len.trans hM.len.symm
  have w1 : w32 (i + 1) = i + 1 := w32_l (by omega) (by omega)
  have s1 : ∀ K, sci (μ 0 1) (i + 1) K = K := fun K => sci_k K (by omega) (by omega)
  have r1 : μ1 (-1) (i + 1) = μ (-1) (i + 1) := by rw [k1.2.scr (by omega) (by omega), hM.scr (by omega) (by omega)]
  have w2 : w32 (i + 2) = i + 2 := w32_l (by omega) (by omega)
  have s2 : ∀ K, sci (μ 0 1) (i + 2) K = K := fun K => sci_k K (by omega) (by omega)
  have r2 : μ1 (-1) (i + 2) = μ (-1) (i + 2) := by rw [k1.2.scr (by omega) (by omega), hM.scr (by omega) (by omega)]
  refine ⟨μ2, ?_, c3, k2.2⟩
  simp only [q0_488, w1, s1, r1, w2, s2, r2, e0, c1, bnd_s, c4, if_true]
theorem lc_7 (l : Launch) (hI : Inv M μ) (hM : Mok G μ) (h0 : M 0 0 = 90) (i0 : 0 ≤ i) (i1 : i + 5 ≤ μ 0 1) (i2 : μ 0 1 ≤ 2560) : NXT M G μ i 521 := by
  have g1 : R32 (μ (-1) (i + 1)) := by
    rw [hM.scr (by omega) (by omega)]
    exact i32_R _
  have g2 : R32 (μ (-1) (i + 2)) := by
    rw [hM.scr (by omega) (by omega)]
    exact i32_R _
  have n0 : μ 0 0 = 90 := (hI.x 0 0 (by decide)).trans h0
  obtain ⟨v, μ1, μ2, c1, c2, c3⟩ := st_strip hI (μ (-1) (i + 1)) (μ (-1) (i + 2))
  have c4 : EE 192 0 [(48, 71), (0, (μ (-1) (i + 1))), (0, (μ (-1) (i + 2))), (9, 0), (9, 0)] [] μ1 = some (v, μ2) := c2
  have k1 := keepS l c1 (by decide) hM (fmc (okl_47 (by omega)) (fmc (okl_i g1) (fmc (okl_i g2) (fmc okl_9 (fmc okl_9 fmn))))) rfl
  have k2 := keepS l c4 (by decide) k1.2 (fmc (okl_48 (by omega)) (fmc (okl_i g1) (fmc (okl_i g2) (fmc okl_9 (fmc okl_9 fmn))))) rfl
  have e0 : μ1 0 1 = μ 0 1 := k1.2.len.trans hM.len.symm
  have w1 : w32 (i + 1) = i + 1 := w32_l (by omega) (by omega)
  have s1 : ∀ K, sci (μ 0 1) (i + 1) K = K := fun K => sci_k K (by omega) (by omega)
  have r1 : μ1 (-1) (i + 1) = μ (-1) (i + 1) := by rw [k1.2.scr (by omega) (by omega), hM.scr (by omega) (by omega)]
  have w2 : w32 (i + 2) = i + 2 := w32_l (by omega) (by omega)
  have s2 : ∀ K, sci (μ 0 1) (i + 2) K = K := fun K => sci_k K (by omega) (by omega)
  have r2 : μ1 (-1) (i + 2) = μ (-1) (i + 2) := by rw [k1.2.scr (by omega) (by omega), hM.scr (by omega) (by omega)]
  refine ⟨μ2, ?_, c3, k2.2⟩
  simp only [q0_521, w1, s1, r1, w2, s2, r2, e0, c1, bnd_s, c4, if_true]
theorem lc_8 (l : Launch) (hI : Inv M μ) (hM : Mok G μ) (h0 : M 0 0 = 90) (i0 : 0 ≤ i) (i1 : i + 5 ≤ μ 0 1) (i2 : μ 0 1 ≤ 2560) : NXT M G μ i 554 := by
  have g1 : R32 (μ (-1) (i + 1)) := by
    rw [hM.scr (by omega) (by omega)]
    exact i32_R _
  have g2 : R32 (μ (-1) (i + 2)) := by
    rw [hM.scr (by omega) (by omega)]
    exact i32_R _
  have g3 : R32 (μ (-1) (i + 3)) := by
    rw [hM.scr (by omega) (by omega)]
    exact i32_R _
  have g4 : R32 (μ (-1) (i + 4)) := by
    rw [hM.scr (by omega) (by omega)]
    exact i32_R _
  have n0 : μ 0 0 = 90 := (hI.x 0 0 (by decide)).trans h0
  obtain ⟨v, μ1, μ2, c1, c2, c3⟩ := st_board hI (μ (-1) (i + 1)) (μ (-1) (i + 2)) (μ (-1) (i + 3)) (μ (-1) (i + 4))
  have c4 : EE 193 0 [(48, 71), (0, (μ (-1) (i + 1))), (0, (μ (-1) (i + 2))), (0, (μ (-1) (i + 3))), (0, (μ (-1) (i + 4))), (9, 0)] [] μ1 = some (v, μ2) := c2
  have k1 := keepS l c1 (by decide) hM (fmc (okl_47 (by omega)) (fmc (okl_i g1) (fmc (okl_i g2) (fmc (okl_i g3) (fmc (okl_i g4) (fmc okl_9 (fmc okl_9 fmn))))))) rfl
  have k2 := keepS l c4 (by decide) k1.2 (fmc (okl_48 (by omega)) (fmc (okl_i g1) (fmc (okl_i g2) (fmc (okl_i g3) (fmc (okl_i g4) (fmc okl_9 fmn)))))) rfl
  have e0 : μ1 0 1 = μ 0 1 := k1.2.len.trans hM.len.symm
  have w1 : w32 (i + 1) = i + 1 := w32_l (by omega) (by omega)
  have s1 : ∀ K, sci (μ 0 1) (i + 1) K = K := fun K => sci_k K (by omega) (by omega)
  have r1 : μ1 (-1) (i + 1) = μ (-1) (i + 1) := by rw [k1.2.scr (by omega) (by omega), hM.scr (by omega) (by omega)]
  have w2 : w32 (i + 2) = i + 2 := w32_l (by omega) (by omega)
  have s2 : ∀ K, sci (μ 0 1) (i + 2) K = K := fun K => sci_k K (by omega) (by omega)
  have r2 : μ1 (-1) (i + 2) = μ (-1) (i + 2) := by rw [k1.2.scr (by omega) (by omega), hM.scr (by omega) (by omega)]
  have w3 : w32 (i + 3) = i + 3 := w32_l (by omega) (by omega)
  have s3 : ∀ K, sci (μ 0 1) (i + 3) K = K := fun K => sci_k K (by omega) (by omega)
  have r3 : μ1 (-1) (i + 3) = μ (-1) (i + 3) := by rw [k1.2.scr (by omega) (by omega), hM.scr (by omega) (by omega)]
  have w4 : w32 (i + 4) = i + 4 := w32_l (by omega) (by omega)
  have s4 : ∀ K, sci (μ 0 1) (i + 4) K = K := fun K => sci_k K (by omega) (by omega)
  have r4 : μ1 (-1) (i + 4) = μ (-1) (i + 4) := by rw [k1.2.scr (by omega) (by omega), hM.scr (by omega) (by omega)]
  refine ⟨μ2, ?_, c3, k2.2⟩
  simp only [q0_554, w1, s1, r1, w2, s2, r2, w3, s3, r3, w4, s4, r4, e0, c1, bnd_s, c4, if_true]
theorem lc_9 (l : Launch) (hI : Inv M μ) (hM : Mok G μ) (h0 : M 0 0 = 90) (i0 : 0 ≤ i) (i1 : i + 5 ≤ μ 0 1) (i2 : μ 0 1 ≤ 2560) : NXT M G μ i 607 := by
  have g1 : R32 (μ (-1) (i + 1)) := by
    rw [hM.scr (by omega) (by omega)]
    exact i32_R _
  have g2 : R32 (μ (-1) (i + 2)) := by
    rw [hM.scr (by omega) (by omega)]
    exact i32_R _
  have g3 : R32 (μ (-1) (i + 3)) := by
    rw [hM.scr (by omega) (by omega)]
    exact i32_R _
  have g4 : R32 (μ (-1) (i + 4)) := by
    rw [hM.scr (by omega) (by omega)]
    exact i32_R _
  have n0 : μ 0 0 = 90 := (hI.x 0 0 (by decide)).trans h0
  obtain ⟨v, μ1, μ2, c1, c2, c3⟩ := st_brace hI (μ (-1) (i + 1)) (μ (-1) (i + 2)) (μ (-1) (i + 3)) (μ (-1) (i + 4))
  have c4 : EE 194 0 [(48, 71), (0, (μ (-1) (i + 1))), (0, (μ (-1) (i + 2))), (0, (μ (-1) (i + 3))), (0, (μ (-1) (i + 4))), (9, 0)] [] μ1 = some (v, μ2) := c2
  have k1 := keepS l c1 (by decide) hM (fmc (okl_47 (by omega)) (fmc (okl_i g1) (fmc (okl_i g2) (fmc (okl_i g3) (fmc (okl_i g4) (fmc okl_9 (fmc okl_9 fmn))))))) rfl
  have k2 := keepS l c4 (by decide) k1.2 (fmc (okl_48 (by omega)) (fmc (okl_i g1) (fmc (okl_i g2) (fmc (okl_i g3) (fmc (okl_i g4) (fmc okl_9 fmn)))))) rfl
  have e0 : μ1 0 1 = μ 0 1 := k1.2.len.trans hM.len.symm
  have w1 : w32 (i + 1) = i + 1 := w32_l (by omega) (by omega)
  have s1 : ∀ K, sci (μ 0 1) (i + 1) K = K := fun K => sci_k K (by omega) (by omega)
  have r1 : μ1 (-1) (i + 1) = μ (-1) (i + 1) := by rw [k1.2.scr (by omega) (by omega), hM.scr (by omega) (by omega)]
  have w2 : w32 (i + 2) = i + 2 := w32_l (by omega) (by omega)
  have s2 : ∀ K, sci (μ 0 1) (i + 2) K = K := fun K => sci_k K (by omega) (by omega)
  have r2 : μ1 (-1) (i + 2) = μ (-1) (i + 2) := by rw [k1.2.scr (by omega) (by omega), hM.scr (by omega) (by omega)]
  have w3 : w32 (i + 3) = i + 3 := w32_l (by omega) (by omega)
  have s3 : ∀ K, sci (μ 0 1) (i + 3) K = K := fun K => sci_k K (by omega) (by omega)
  have r3 : μ1 (-1) (i + 3) = μ (-1) (i + 3) := by rw [k1.2.scr (by omega) (by omega), hM.scr (by omega) (by omega)]
  have w4 : w32 (i + 4) = i + 4 := w32_l (by omega) (by omega)
  have s4 : ∀ K, sci (μ 0 1) (i + 4) K = K := fun K => sci_k K (by omega) (by omega)
  have r4 : μ1 (-1) (i + 4) = μ (-1) (i + 4) := by rw [k1.2.scr (by omega) (by omega), hM.scr (by omega) (by omega)]
  refine ⟨μ2, ?_, c3, k2.2⟩
  simp only [q0_607, w1, s1, r1, w2, s2, r2, w3, s3, r3, w4, s4, r4, e0, c1, bnd_s, c4, if_true]
theorem lc_10 (l : Launch) (hI : Inv M μ) (hM : Mok G μ) (h0 : M 0 0 = 90) (i0 : 0 ≤ i) (i1 : i + 5 ≤ μ 0 1) (i2 : μ 0 1 ≤ 2560) : NXT M G μ i 660 := by
  have g1 : R32 (μ (-1) (i + 1)) := by
    rw [hM.scr (by omega) (by omega)]
    exact i32_R _
  have g2 : R32 (μ (-1) (i + 2)) := by
    rw [hM.scr (by omega) (by omega)]
    exact i32_R _
  have g3 : R32 (μ (-1) (i + 3)) := by
    rw [hM.scr (by omega) (by omega)]
    exact i32_R _
  have g4 : R32 (μ (-1) (i + 4)) := by
    rw [hM.scr (by omega) (by omega)]
    exact i32_R _
  have n0 : μ 0 0 = 90 := (hI.x 0 0 (by decide)).trans h0
  obtain ⟨v, μ1, μ2, c1, c2, c3⟩ := st_tie hI (μ (-1) (i + 1)) (μ (-1) (i + 2)) (μ (-1) (i + 3)) (μ (-1) (i + 4))
  have c4 : EE 195 0 [(48, 71), (0, (μ (-1) (i + 1))), (0, (μ (-1) (i + 2))), (0, (μ (-1) (i + 3))), (0, (μ (-1) (i + 4))), (9, 0)] [] μ1 = some (v, μ2) := c2
  have k1 := keepS l c1 (by decide) hM (fmc (okl_47 (by omega)) (fmc (okl_i g1) (fmc (okl_i g2) (fmc (okl_i g3) (fmc (okl_i g4) (fmc okl_9 (fmc okl_9 fmn))))))) rfl
  have k2 := keepS l c4 (by decide) k1.2 (fmc (okl_48 (by omega)) (fmc (okl_i g1) (fmc (okl_i g2) (fmc (okl_i g3) (fmc (okl_i g4) (fmc okl_9 fmn)))))) rfl
  have e0 : μ1 0 1 = μ 0 1 := k1.2.len.trans hM.len.symm
  have w1 : w32 (i + 1) = i + 1 := w32_l (by omega) (by omega)
  have s1 : ∀ K, sci (μ 0 1) (i + 1) K = K := fun K => sci_k K (by omega) (by omega)
  have r1 : μ1 (-1) (i + 1) = μ (-1) (i + 1) := by rw [k1.2.scr (by omega) (by omega), hM.scr (by omega) (by omega)]
  have w2 : w32 (i + 2) = i + 2 := w32_l (by omega) (by omega)
  have s2 : ∀ K, sci (μ 0 1) (i + 2) K = K := fun K => sci_k K (by omega) (by omega)
  have r2 : μ1 (-1) (i + 2) = μ (-1) (i + 2) := by rw [k1.2.scr (by omega) (by omega), hM.scr (by omega) (by omega)]
  have w3 : w32 (i + 3) = i + 3 := w32_l (by omega) (by omega)
  have s3 : ∀ K, sci (μ 0 1) (i + 3) K = K := fun K => sci_k K (by omega) (by omega)
  have r3 : μ1 (-1) (i + 3) = μ (-1) (i + 3) := by rw [k1.2.scr (by omega) (by omega), hM.scr (by omega) (by omega)]
  have w4 : w32 (i + 4) = i + 4 := w32_l (by omega) (by omega)
  have s4 : ∀ K, sci (μ 0 1) (i + 4) K = K := fun K => sci_k K (by omega) (by omega)
  have r4 : μ1 (-1) (i + 4) = μ (-1) (i + 4) := by rw [k1.2.scr (by omega) (by omega), hM.scr (by omega) (by omega)]
  refine ⟨μ2, ?_, c3, k2.2⟩
  simp only [q0_660, w1, s1, r1, w2, s2, r2, w3, s3, r3, w4, s4, r4, e0, c1, bnd_s, c4, if_true]
theorem lc_11 (l : Launch) (hI : Inv M μ) (hM : Mok G μ) (h0 : M 0 0 = 90) (i0 : 0 ≤ i) (i1 : i + 5 ≤ μ 0 1) (i2 : μ 0 1 ≤ 2560) : NXT M G μ i 713 := by
  have g1 : R32 (μ (-1) (i + 1)) := by
    rw [hM.scr (by omega) (by omega)]
    exact i32_R _
  have g2 : R32 (μ (-1) (i + 2)) := by
    rw [hM.scr (by omega) (by omega)]
    exact i32_R _
  have n0 : μ 0 0 = 90 := (hI.x 0 0 (by decide)).trans h0
  obtain ⟨v, μ1, μ2, c1, c2, c3⟩ := st_gust hI (μ (-1) (i + 1)) (μ (-1) (i + 2))
  have c4 : EE 196 0 [(48, 71), (0, (μ (-1) (i + 1))), (0, (μ (-1) (i + 2))), (9, 0)] [] μ1 = some (v, μ2) := c2
  have k1 := keepS l c1 (by decide) hM (fmc (okl_47 (by omega)) (fmc (okl_i g1) (fmc (okl_i g2) (fmc okl_9 (fmc okl_9 fmn))))) rfl
  have k2 := keepS l c4 (by decide) k1.2 (fmc (okl_48 (by omega)) (fmc (okl_i g1) (fmc (okl_i g2) (fmc okl_9 fmn)))) rfl
  have e0 : μ1 0 1 = μ 0 1 := k1.2.len.trans hM.len.symm
  have w1 : w32 (i + 1) = i + 1 := w32_l (by omega) (by omega)
  have s1 : ∀ K, sci (μ 0 1) (i + 1) K = K := fun K => sci_k K (by omega) (by omega)
  have r1 : μ1 (-1) (i + 1) = μ (-1) (i + 1) := by rw [k1.2.scr (by omega) (by omega), hM.scr (by omega) (by omega)]
  have w2 : w32 (i + 2) = i + 2 := w32_l (by omega) (by omega)
  have s2 : ∀ K, sci (μ 0 1) (i + 2) K = K := fun K => sci_k K (by omega) (by omega)
  have r2 : μ1 (-1) (i + 2) = μ (-1) (i + 2) := by rw [k1.2.scr (by omega) (by omega), hM.scr (by omega) (by omega)]
  refine ⟨μ2, ?_, c3, k2.2⟩
  simp only [q0_713, w1, s1, r1, w2, s2, r2, e0, c1, bnd_s, c4, if_true]
theorem lc_12 (l : Launch) (hI : Inv M μ) (hM : Mok G μ) (h0 : M 0 0 = 90) (i0 : 0 ≤ i) (i1 : i + 5 ≤ μ 0 1) (i2 : μ 0 1 ≤ 2560) : NXT M G μ i 746 := by
  have n0 : μ 0 0 = 90 := (hI.x 0 0 (by decide)).trans h0
  obtain ⟨v, μ1, μ2, c1, c2, c3⟩ := st_undo hI 
  have c4 : EE 197 0 [(48, 71), (9, 0), (9, 0), (9, 0)] [] μ1 = some (v, μ2) := c2
  have k1 := keepS l c1 (by decide) hM (fmc (okl_47 (by omega)) fmn) rfl
  have k2 := keepS l c4 (by decide) k1.2 (fmc (okl_48 (by omega)) (fmc okl_9 (fmc okl_9 (fmc okl_9 fmn)))) rfl
  have e0 : μ1 0 1 = μ 0 1 := k1.2.len.trans hM.len.symm
  refine ⟨μ2, ?_, c3, k2.2⟩
  simp only [q0_746, c1, bnd_s, c4, if_true]
theorem lc_13 (l : Launch) (hI : Inv M μ) (hM : Mok G μ) (h0 : M 0 0 = 90) (i0 : 0 ≤ i) (i1 : i + 5 ≤ μ 0 1) (i2 : μ 0 1 ≤ 2560) : NXT M G μ i 759 := by
  have g1 : R32 (μ (-1) (i + 1)) := by
    rw [hM.scr (by omega) (by omega)]
    exact i32_R _
  have g2 : R32 (μ (-1) (i + 2)) := by
    rw [hM.scr (by omega) (by omega)]
    exact i32_R _
  have n0 : μ 0 0 = 90 := (hI.x 0 0 (by decide)).trans h0
  obtain ⟨v, μ1, μ2, c1, c2, c3⟩ := ST_q (M := M) (μ := μ) (c := EE 116 0 [(47, 1), (0, (μ (-1) (i + 1))), (0, (μ (-1) (i + 2))), (9, 0)] [] μ) (r := fun m => EE 200 0 [(48, 71), (0, (μ (-1) (i + 1))), (0, (μ (-1) (i + 2)))] [] m) hI (st_about hI (μ (-1) (i + 1)) (μ (-1) (i + 2)))
  have c4 : EE 200 0 [(48, 71), (0, (μ (-1) (i + 1))), (0, (μ (-1) (i + 2)))] [] μ1 = some (v, μ2) := c2
  have k1 := keepS l c1 (by decide) hM (fmc (okl_47 (by omega)) (fmc (okl_i g1) (fmc (okl_i g2) (fmc okl_9 fmn)))) rfl
  have k2 := keepS l c4 (by decide) k1.2 (fmc (okl_48 (by omega)) (fmc (okl_i g1) (fmc (okl_i g2) fmn))) rfl
  have e0 : μ1 0 1 = μ 0 1 := k1.2.len.trans hM.len.symm
  have w1 : w32 (i + 1) = i + 1 := w32_l (by omega) (by omega)
  have s1 : ∀ K, sci (μ 0 1) (i + 1) K = K := fun K => sci_k K (by omega) (by omega)
  have r1 : μ1 (-1) (i + 1) = μ (-1) (i + 1) := by rw [k1.2.scr (by omega) (by omega), hM.scr (by omega) (by omega)]
  have w2 : w32 (i + 2) = i + 2 := w32_l (by omega) (by omega)
  have s2 : ∀ K, sci (μ 0 1) (i + 2) K = K := fun K => sci_k K (by omega) (by omega)
  have r2 : μ1 (-1) (i + 2) = μ (-1) (i + 2) := by rw [k1.2.scr (by omega) (by omega), hM.scr (by omega) (by omega)]
  refine ⟨μ2, ?_, c3, k2.2⟩
  simp only [q0_759, w1, s1, r1, w2, s2, r2, e0, c1, bnd_s, c4, if_true]
theorem lc_14 (l : Launch) (hI : Inv M μ) (hM : Mok G μ) (h0 : M 0 0 = 90) (i0 : 0 ≤ i) (i1 : i + 5 ≤ μ 0 1) (i2 : μ 0 1 ≤ 2560) : NXT M G μ i 792 := by
  have g1 : R32 (μ (-1) (i + 1)) := by
    rw [hM.scr (by omega) (by omega)]
    exact i32_R _
  have g2 : R32 (μ (-1) (i + 2)) := by
    rw [hM.scr (by omega) (by omega)]
    exact i32_R _
  have g3 : R32 (μ (-1) (i + 3)) := by
    rw [hM.scr (by omega) (by omega)]
    exact i32_R _
  have n0 : μ 0 0 = 90 := (hI.x 0 0 (by decide)).trans h0
  obtain ⟨v, μ1, μ2, c1, c2, c3⟩ := ST_q (M := M) (μ := μ) (c := EE 117 0 [(47, 1), (0, (μ (-1) (i + 1))), (0, (μ (-1) (i + 2))), (0, (μ (-1) (i + 3))), (9, 0)] [] μ) (r := fun m => EE 201 0 [(48, 71), (0, (μ (-1) (i + 1))), (0, (μ (-1) (i + 2))), (0, (μ (-1) (i + 3)))] [] m) hI (st_told hI (μ (-1) (i + 1)) (μ (-1) (i + 2)) (μ (-1) (i + 3)))
  have c4 : EE 201 0 [(48, 71), (0, (μ (-1) (i + 1))), (0, (μ (-1) (i + 2))), (0, (μ (-1) (i + 3)))] [] μ1 = some (v, μ2) := c2
  have k1 := keepS l c1 (by decide) hM (fmc (okl_47 (by omega)) (fmc (okl_i g1) (fmc (okl_i g2) (fmc (okl_i g3) (fmc okl_9 fmn))))) rfl
  have k2 := keepS l c4 (by decide) k1.2 (fmc (okl_48 (by omega)) (fmc (okl_i g1) (fmc (okl_i g2) (fmc (okl_i g3) fmn)))) rfl
  have e0 : μ1 0 1 = μ 0 1 := k1.2.len.trans hM.len.symm
  have w1 : w32 (i + 1) = i + 1 := w32_l (by omega) (by omega)
  have s1 : ∀ K, sci (μ 0 1) (i + 1) K = K := fun K => sci_k K (by omega) (by omega)
  have r1 : μ1 (-1) (i + 1) = μ (-1) (i + 1) := by rw [k1.2.scr (by omega) (by omega), hM.scr (by omega) (by omega)]
  have w2 : w32 (i + 2) = i + 2 := w32_l (by omega) (by omega)
  have s2 : ∀ K, sci (μ 0 1) (i + 2) K = K := fun K => sci_k K (by omega) (by omega)
  have r2 : μ1 (-1) (i + 2) = μ (-1) (i + 2) := by rw [k1.2.scr (by omega) (by omega), hM.scr (by omega) (by omega)]
  have w3 : w32 (i + 3) = i + 3 := w32_l (by omega) (by omega)
  have s3 : ∀ K, sci (μ 0 1) (i + 3) K = K := fun K => sci_k K (by omega) (by omega)
  have r3 : μ1 (-1) (i + 3) = μ (-1) (i + 3) := by rw [k1.2.scr (by omega) (by omega), hM.scr (by omega) (by omega)]
  refine ⟨μ2, ?_, c3, k2.2⟩
  simp only [q0_792, w1, s1, r1, w2, s2, r2, w3, s3, r3, e0, c1, bnd_s, c4, if_true]
theorem lc_15 (l : Launch) (hI : Inv M μ) (hM : Mok G μ) (h0 : M 0 0 = 90) (i0 : 0 ≤ i) (i1 : i + 5 ≤ μ 0 1) (i2 : μ 0 1 ≤ 2560) : NXT M G μ i 835 := by
  have g1 : R32 (μ (-1) (i + 1)) := by
    rw [hM.scr (by omega) (by omega)]
    exact i32_R _
  have g2 : R32 (μ (-1) (i + 2)) := by
    rw [hM.scr (by omega) (by omega)]
    exact i32_R _
  have g3 : R32 (μ (-1) (i + 3)) := by
    rw [hM.scr (by omega) (by omega)]
    exact i32_R _
  have n0 : μ 0 0 = 90 := (hI.x 0 0 (by decide)).trans h0
  obtain ⟨v, μ1, μ2, c1, c2, c3⟩ := ST_q (M := M) (μ := μ) (c := EE 118 0 [(47, 1), (0, (μ (-1) (i + 1))), (0, (μ (-1) (i + 2))), (0, (μ (-1) (i + 3))), (9, 0)] [] μ) (r := fun m => EE 202 0 [(48, 71), (0, (μ (-1) (i + 1))), (0, (μ (-1) (i + 2))), (0, (μ (-1) (i + 3))), (9, 0)] [] m) hI (st_isOf hI (μ (-1) (i + 1)) (μ (-1) (i + 2)) (μ (-1) (i + 3)))
  have c4 : EE 202 0 [(48, 71), (0, (μ (-1) (i + 1))), (0, (μ (-1) (i + 2))), (0, (μ (-1) (i + 3))), (9, 0)] [] μ1 = some (v, μ2) := c2
  have k1 := keepS l c1 (by decide) hM (fmc (okl_47 (by omega)) (fmc (okl_i g1) (fmc (okl_i g2) (fmc (okl_i g3) (fmc okl_9 fmn))))) rfl
  have k2 := keepS l c4 (by decide) k1.2 (fmc (okl_48 (by omega)) (fmc (okl_i g1) (fmc (okl_i g2) (fmc (okl_i g3) (fmc okl_9 fmn))))) rfl
  have e0 : μ1 0 1 = μ 0 1 := k1.2.len.trans hM.len.symm
  have w1 : w32 (i + 1) = i + 1 := w32_l (by omega) (by omega)
  have s1 : ∀ K, sci (μ 0 1) (i + 1) K = K := fun K => sci_k K (by omega) (by omega)
  have r1 : μ1 (-1) (i + 1) = μ (-1) (i + 1) := by rw [k1.2.scr (by omega) (by omega), hM.scr (by omega) (by omega)]
  have w2 : w32 (i + 2) = i + 2 := w32_l (by omega) (by omega)
  have s2 : ∀ K, sci (μ 0 1) (i + 2) K = K := fun K => sci_k K (by omega) (by omega)
  have r2 : μ1 (-1) (i + 2) = μ (-1) (i + 2) := by rw [k1.2.scr (by omega) (by omega), hM.scr (by omega) (by omega)]
  have w3 : w32 (i + 3) = i + 3 := w32_l (by omega) (by omega)
  have s3 : ∀ K, sci (μ 0 1) (i + 3) K = K := fun K => sci_k K (by omega) (by omega)
  have r3 : μ1 (-1) (i + 3) = μ (-1) (i + 3) := by rw [k1.2.scr (by omega) (by omega), hM.scr (by omega) (by omega)]
  refine ⟨μ2, ?_, c3, k2.2⟩
  simp only [q0_835, w1, s1, r1, w2, s2, r2, w3, s3, r3, e0, c1, bnd_s, c4, if_true]
theorem lc_16 (l : Launch) (hI : Inv M μ) (hM : Mok G μ) (h0 : M 0 0 = 90) (i0 : 0 ≤ i) (i1 : i + 5 ≤ μ 0 1) (i2 : μ 0 1 ≤ 2560) : NXT M G μ i 878 := by
  have g1 : R32 (μ (-1) (i + 1)) := by
    rw [hM.scr (by omega) (by omega)]
    exact i32_R _
  have g2 : R32 (μ (-1) (i + 2)) := by
    rw [hM.scr (by omega) (by omega)]
    exact i32_R _
  have g3 : R32 (μ (-1) (i + 3)) := by
    rw [hM.scr (by omega) (by omega)]
    exact i32_R _
  have g4 : R32 (μ (-1) (i + 4)) := by
    rw [hM.scr (by omega) (by omega)]
    exact i32_R _
  have n0 : μ 0 0 = 90 := (hI.x 0 0 (by decide)).trans h0
  obtain ⟨v, μ1, μ2, c1, c2, c3⟩ := ST_q (M := M) (μ := μ) (c := EE 119 0 [(47, 1), (0, (μ (-1) (i + 1))), (0, (μ (-1) (i + 2))), (0, (μ (-1) (i + 3))), (0, (μ (-1) (i + 4))), (9, 0), (9, 0), (9, 0)] [] μ) (r := fun m => EE 203 0 [(48, 71), (0, (μ (-1) (i + 1))), (0, (μ (-1) (i + 2))), (0, (μ (-1) (i + 3))), (0, (μ (-1) (i + 4))), (9, 0)] [] m) hI (st_plan hI (μ (-1) (i + 1)) (μ (-1) (i + 2)) (μ (-1) (i + 3)) (μ (-1) (i + 4)))
  have c4 : EE 203 0 [(48, 71), (0, (μ (-1) (i + 1))), (0, (μ (-1) (i + 2))), (0, (μ (-1) (i + 3))), (0, (μ (-1) (i + 4))), (9, 0)] [] μ1 = some (v, μ2) := c2
  have k1 := keepS l c1 (by decide) hM (fmc (okl_47 (by omega)) (fmc (okl_i g1) (fmc (okl_i g2) (fmc (okl_i g3) (fmc (okl_i g4) (fmc okl_9 (fmc okl_9 (fmc okl_9 fmn)))))))) rfl
  have k2 := keepS l c4 (by decide) k1.2 (fmc (okl_48 (by omega)) (fmc (okl_i g1) (fmc (okl_i g2) (fmc (okl_i g3) (fmc (okl_i g4) (fmc okl_9 fmn)))))) rfl
  have e0 : μ1 0 1 = μ 0 1 := k1.2.len.trans hM.len.symm
  have w1 : w32 (i + 1) = i + 1 := w32_l (by omega) (by omega)
  have s1 : ∀ K, sci (μ 0 1) (i + 1) K = K := fun K => sci_k K (by omega) (by omega)
  have r1 : μ1 (-1) (i + 1) = μ (-1) (i + 1) := by rw [k1.2.scr (by omega) (by omega), hM.scr (by omega) (by omega)]
  have w2 : w32 (i + 2) = i + 2 := w32_l (by omega) (by omega)
  have s2 : ∀ K, sci (μ 0 1) (i + 2) K = K := fun K => sci_k K (by omega) (by omega)
  have r2 : μ1 (-1) (i + 2) = μ (-1) (i + 2) := by rw [k1.2.scr (by omega) (by omega), hM.scr (by omega) (by omega)]
  have w3 : w32 (i + 3) = i + 3 := w32_l (by omega) (by omega)
  have s3 : ∀ K, sci (μ 0 1) (i + 3) K = K := fun K => sci_k K (by omega) (by omega)
  have r3 : μ1 (-1) (i + 3) = μ (-1) (i + 3) := by rw [k1.2.scr (by omega) (by omega), hM.scr (by omega) (by omega)]
  have w4 : w32 (i + 4) = i + 4 := w32_l (by omega) (by omega)
  have s4 : ∀ K, sci (μ 0 1) (i + 4) K = K := fun K => sci_k K (by omega) (by omega)
  have r4 : μ1 (-1) (i + 4) = μ (-1) (i + 4) := by rw [k1.2.scr (by omega) (by omega), hM.scr (by omega) (by omega)]
  refine ⟨μ2, ?_, c3, k2.2⟩
  simp only [q0_878, w1, s1, r1, w2, s2, r2, w3, s3, r3, w4, s4, r4, e0, c1, bnd_s, c4, if_true]
theorem lc_17 (l : Launch) (hI : Inv M μ) (hM : Mok G μ) (h0 : M 0 0 = 90) (i0 : 0 ≤ i) (i1 : i + 5 ≤ μ 0 1) (i2 : μ 0 1 ≤ 2560) : NXT M G μ i 931 := by
  have g1 : R32 (μ (-1) (i + 1)) := by
    rw [hM.scr (by omega) (by omega)]
    exact i32_R _
  have g2 : R32 (μ (-1) (i + 2)) := by
    rw [hM.scr (by omega) (by omega)]
    exact i32_R _
  have n0 : μ 0 0 = 90 := (hI.x 0 0 (by decide)).trans h0
  obtain ⟨v, μ1, μ2, c1, c2, c3⟩ := ST_q (M := M) (μ := μ) (c := EE 120 0 [(47, 1), (0, (μ (-1) (i + 1))), (0, (μ (-1) (i + 2))), (9, 0)] [] μ) (r := fun m => EE 208 0 [(48, 71), (0, (μ (-1) (i + 1))), (0, (μ (-1) (i + 2))), (9, 0)] [] m) hI (st_load hI (μ (-1) (i + 1)) (μ (-1) (i + 2)))
  have c4 : EE 208 0 [(48, 71), (0, (μ (-1) (i + 1))), (0, (μ (-1) (i + 2))), (9, 0)] [] μ1 = some (v, μ2) := c2
  have k1 := keepS l c1 (by decide) hM (fmc (okl_47 (by omega)) (fmc (okl_i g1) (fmc (okl_i g2) (fmc okl_9 fmn)))) rfl
  have k2 := keepS l c4 (by decide) k1.2 (fmc (okl_48 (by omega)) (fmc (okl_i g1) (fmc (okl_i g2) (fmc okl_9 fmn)))) rfl
  have e0 : μ1 0 1 = μ 0 1 := k1.2.len.trans hM.len.symm
  have w1 : w32 (i + 1) = i + 1 := w32_l (by omega) (by omega)
  have s1 : ∀ K, sci (μ 0 1) (i + 1) K = K := fun K => sci_k K (by omega) (by omega)
  have r1 : μ1 (-1) (i + 1) = μ (-1) (i + 1) := by rw [k1.2.scr (by omega) (by omega), hM.scr (by omega) (by omega)]
  have w2 : w32 (i + 2) = i + 2 := w32_l (by omega) (by omega)
  have s2 : ∀ K, sci (μ 0 1) (i + 2) K = K := fun K => sci_k K (by omega) (by omega)
  have r2 : μ1 (-1) (i + 2) = μ (-1) (i + 2) := by rw [k1.2.scr (by omega) (by omega), hM.scr (by omega) (by omega)]
  refine ⟨μ2, ?_, c3, k2.2⟩
  simp only [q0_931, w1, s1, r1, w2, s2, r2, e0, c1, bnd_s, c4, if_true]
theorem lc_18 (l : Launch) (hI : Inv M μ) (hM : Mok G μ) (h0 : M 0 0 = 90) (i0 : 0 ≤ i) (i1 : i + 5 ≤ μ 0 1) (i2 : μ 0 1 ≤ 2560) : NXT M G μ i 964 := by
  have g1 : R32 (μ (-1) (i + 1)) := by
    rw [hM.scr (by omega) (by omega)]
    exact i32_R _
  have g2 : R32 (μ (-1) (i + 2)) := by
    rw [hM.scr (by omega) (by omega)]
    exact i32_R _
  have g3 : R32 (μ (-1) (i + 3)) := by
    rw [hM.scr (by omega) (by omega)]
    exact i32_R _
  have n0 : μ 0 0 = 90 := (hI.x 0 0 (by decide)).trans h0
  obtain ⟨v, μ1, μ2, c1, c2, c3⟩ := st_foot hI (μ (-1) (i + 1)) (μ (-1) (i + 2)) (μ (-1) (i + 3))
  have c4 : EE 214 0 [(48, 71), (0, (μ (-1) (i + 1))), (0, (μ (-1) (i + 2))), (0, (μ (-1) (i + 3))), (9, 0)] [] μ1 = some (v, μ2) := c2
  have k1 := keepS l c1 (by decide) hM (fmc (okl_47 (by omega)) (fmc (okl_i g1) (fmc (okl_i g2) (fmc (okl_i g3) (fmc okl_9 fmn))))) rfl
  have k2 := keepS l c4 (by decide) k1.2 (fmc (okl_48 (by omega)) (fmc (okl_i g1) (fmc (okl_i g2) (fmc (okl_i g3) (fmc okl_9 fmn))))) rfl
  have e0 : μ1 0 1 = μ 0 1 := k1.2.len.trans hM.len.symm
  have w1 : w32 (i + 1) = i + 1 := w32_l (by omega) (by omega)
  have s1 : ∀ K, sci (μ 0 1) (i + 1) K = K := fun K => sci_k K (by omega) (by omega)
  have r1 : μ1 (-1) (i + 1) = μ (-1) (i + 1) := by rw [k1.2.scr (by omega) (by omega), hM.scr (by omega) (by omega)]
  have w2 : w32 (i + 2) = i + 2 := w32_l (by omega) (by omega)
  have s2 : ∀ K, sci (μ 0 1) (i + 2) K = K := fun K => sci_k K (by omega) (by omega)
  have r2 : μ1 (-1) (i + 2) = μ (-1) (i + 2) := by rw [k1.2.scr (by omega) (by omega), hM.scr (by omega) (by omega)]
  have w3 : w32 (i + 3) = i + 3 := w32_l (by omega) (by omega)
  have s3 : ∀ K, sci (μ 0 1) (i + 3) K = K := fun K => sci_k K (by omega) (by omega)
  have r3 : μ1 (-1) (i + 3) = μ (-1) (i + 3) := by rw [k1.2.scr (by omega) (by omega), hM.scr (by omega) (by omega)]
  refine ⟨μ2, ?_, c3, k2.2⟩
  simp only [q0_964, w1, s1, r1, w2, s2, r2, w3, s3, r3, e0, c1, bnd_s, c4, if_true, Int.lt_irrefl, if_false]
theorem lc_19 (l : Launch) (hI : Inv M μ) (hM : Mok G μ) (h0 : M 0 0 = 90) (i0 : 0 ≤ i) (i1 : i + 5 ≤ μ 0 1) (i2 : μ 0 1 ≤ 2560) : NXT M G μ i 1008 := by
  have g1 : R32 (μ (-1) (i + 1)) := by
    rw [hM.scr (by omega) (by omega)]
    exact i32_R _
  have g2 : R32 (μ (-1) (i + 2)) := by
    rw [hM.scr (by omega) (by omega)]
    exact i32_R _
  have g3 : R32 (μ (-1) (i + 3)) := by
    rw [hM.scr (by omega) (by omega)]
    exact i32_R _
  have n0 : μ 0 0 = 90 := (hI.x 0 0 (by decide)).trans h0
  obtain ⟨v, μ1, μ2, c1, c2, c3⟩ := st_wind hI (μ (-1) (i + 1)) (μ (-1) (i + 2)) (μ (-1) (i + 3))
  have c4 : EE 218 0 [(48, 71), (0, (μ (-1) (i + 1))), (0, (μ (-1) (i + 2))), (0, (μ (-1) (i + 3))), (9, 0)] [] μ1 = some (v, μ2) := c2
  have k1 := keepS l c1 (by decide) hM (fmc (okl_47 (by omega)) (fmc (okl_i g1) (fmc (okl_i g2) (fmc (okl_i g3) (fmc okl_9 fmn))))) rfl
  have k2 := keepS l c4 (by decide) k1.2 (fmc (okl_48 (by omega)) (fmc (okl_i g1) (fmc (okl_i g2) (fmc (okl_i g3) (fmc okl_9 fmn))))) rfl
  have e0 : μ1 0 1 = μ 0 1 := k1.2.len.trans hM.len.symm
  have w1 : w32 (i + 1) = i + 1 := w32_l (by omega) (by omega)
  have s1 : ∀ K, sci (μ 0 1) (i + 1) K = K := fun K => sci_k K (by omega) (by omega)
  have r1 : μ1 (-1) (i + 1) = μ (-1) (i + 1) := by rw [k1.2.scr (by omega) (by omega), hM.scr (by omega) (by omega)]
  have w2 : w32 (i + 2) = i + 2 := w32_l (by omega) (by omega)
  have s2 : ∀ K, sci (μ 0 1) (i + 2) K = K := fun K => sci_k K (by omega) (by omega)
  have r2 : μ1 (-1) (i + 2) = μ (-1) (i + 2) := by rw [k1.2.scr (by omega) (by omega), hM.scr (by omega) (by omega)]
  have w3 : w32 (i + 3) = i + 3 := w32_l (by omega) (by omega)
  have s3 : ∀ K, sci (μ 0 1) (i + 3) K = K := fun K => sci_k K (by omega) (by omega)
  have r3 : μ1 (-1) (i + 3) = μ (-1) (i + 3) := by rw [k1.2.scr (by omega) (by omega), hM.scr (by omega) (by omega)]
  refine ⟨μ2, ?_, c3, k2.2⟩
  simp only [q0_1008, w1, s1, r1, w2, s2, r2, w3, s3, r3, e0, c1, bnd_s, c4, if_true]
theorem lc_20 (l : Launch) (hI : Inv M μ) (hM : Mok G μ) (h0 : M 0 0 = 90) (i0 : 0 ≤ i) (i1 : i + 5 ≤ μ 0 1) (i2 : μ 0 1 ≤ 2560) : NXT M G μ i 1051 := by
  have g1 : R32 (μ (-1) (i + 1)) := by
    rw [hM.scr (by omega) (by omega)]
    exact i32_R _
  have n0 : μ 0 0 = 90 := (hI.x 0 0 (by decide)).trans h0
  obtain ⟨v, μ1, μ2, c1, c2, c3⟩ := st_lost hI (μ (-1) (i + 1))
  have c4 : EE 219 0 [(48, 71), (0, (μ (-1) (i + 1))), (9, 0)] [] μ1 = some (v, μ2) := c2
  have k1 := keepS l c1 (by decide) hM (fmc (okl_47 (by omega)) (fmc (okl_i g1) (fmc okl_9 fmn))) rfl
  have k2 := keepS l c4 (by decide) k1.2 (fmc (okl_48 (by omega)) (fmc (okl_i g1) (fmc okl_9 fmn))) rfl
  have e0 : μ1 0 1 = μ 0 1 := k1.2.len.trans hM.len.symm
  have w1 : w32 (i + 1) = i + 1 := w32_l (by omega) (by omega)
  have s1 : ∀ K, sci (μ 0 1) (i + 1) K = K := fun K => sci_k K (by omega) (by omega)
  have r1 : μ1 (-1) (i + 1) = μ (-1) (i + 1) := by rw [k1.2.scr (by omega) (by omega), hM.scr (by omega) (by omega)]
  refine ⟨μ2, ?_, c3, k2.2⟩
  simp only [q0_1051, w1, s1, r1, e0, c1, bnd_s, c4, if_true]
theorem lc_21 (l : Launch) (hI : Inv M μ) (hM : Mok G μ) (h0 : M 0 0 = 90) (i0 : 0 ≤ i) (i1 : i + 5 ≤ μ 0 1) (i2 : μ 0 1 ≤ 2560) : NXT M G μ i 1074 := by
  have g1 : R32 (μ (-1) (i + 1)) := by
    rw [hM.scr (by omega) (by omega)]
    exact i32_R _
  have g2 : R32 (μ (-1) (i + 2)) := by
    rw [hM.scr (by omega) (by omega)]
    exact i32_R _
  have n0 : μ 0 0 = 90 := (hI.x 0 0 (by decide)).trans h0
  obtain ⟨v, μ1, μ2, c1, c2, c3⟩ := ST_q (M := M) (μ := μ) (c := EE 124 0 [(47, 1), (0, (μ (-1) (i + 1))), (0, (μ (-1) (i + 2))), (9, 0)] [] μ) (r := fun m => EE 221 0 [(48, 71), (0, (μ (-1) (i + 1))), (0, (μ (-1) (i + 2))), (9, 0)] [] m) hI (st_free hI (μ (-1) (i + 1)) (μ (-1) (i + 2)))
  have c4 : EE 221 0 [(48, 71), (0, (μ (-1) (i + 1))), (0, (μ (-1) (i + 2))), (9, 0)] [] μ1 = some (v, μ2) := c2
  have k1 := keepS l c1 (by decide) hM (fmc (okl_47 (by omega)) (fmc (okl_i g1) (fmc (okl_i g2) (fmc okl_9 fmn)))) rfl
  have k2 := keepS l c4 (by decide) k1.2 (fmc (okl_48 (by omega)) (fmc (okl_i g1) (fmc (okl_i g2) (fmc okl_9 fmn)))) rfl
  have e0 : μ1 0 1 = μ 0 1 := k1.2.len.trans hM.len.symm
  have w1 : w32 (i + 1) = i + 1 := w32_l (by omega) (by omega)
  have s1 : ∀ K, sci (μ 0 1) (i + 1) K = K := fun K => sci_k K (by omega) (by omega)
  have r1 : μ1 (-1) (i + 1) = μ (-1) (i + 1) := by rw [k1.2.scr (by omega) (by omega), hM.scr (by omega) (by omega)]
  have w2 : w32 (i + 2) = i + 2 := w32_l (by omega) (by omega)
  have s2 : ∀ K, sci (μ 0 1) (i + 2) K = K := fun K => sci_k K (by omega) (by omega)
  have r2 : μ1 (-1) (i + 2) = μ (-1) (i + 2) := by rw [k1.2.scr (by omega) (by omega), hM.scr (by omega) (by omega)]
  refine ⟨μ2, ?_, c3, k2.2⟩
  simp only [q0_1074, w1, s1, r1, w2, s2, r2, e0, c1, bnd_s, c4, if_true]
theorem lc_22 (l : Launch) (hI : Inv M μ) (hM : Mok G μ) (h0 : M 0 0 = 90) (i0 : 0 ≤ i) (i1 : i + 5 ≤ μ 0 1) (i2 : μ 0 1 ≤ 2560) : NXT M G μ i 1107 := by
  have g1 : R32 (μ (-1) (i + 1)) := by
    rw [hM.scr (by omega) (by omega)]
    exact i32_R _
  have g2 : R32 (μ (-1) (i + 2)) := by
    rw [hM.scr (by omega) (by omega)]
    exact i32_R _
  have n0 : μ 0 0 = 90 := (hI.x 0 0 (by decide)).trans h0
  obtain ⟨v, μ1, μ2, c1, c2, c3⟩ := st_over hI (μ (-1) (i + 1)) (μ (-1) (i + 2))
  have c4 : EE 224 0 [(48, 71), (0, (μ (-1) (i + 1))), (0, (μ (-1) (i + 2))), (9, 0), (9, 0), (9, 0)] [] μ1 = some (v, μ2) := c2
  have k1 := keepS l c1 (by decide) hM (fmc (okl_47 (by omega)) (fmc (okl_i g1) (fmc (okl_i g2) (fmc okl_9 fmn)))) rfl
  have k2 := keepS l c4 (by decide) k1.2 (fmc (okl_48 (by omega)) (fmc (okl_i g1) (fmc (okl_i g2) (fmc okl_9 (fmc okl_9 (fmc okl_9 fmn)))))) rfl
  have e0 : μ1 0 1 = μ 0 1 := k1.2.len.trans hM.len.symm
  have w1 : w32 (i + 1) = i + 1 := w32_l (by omega) (by omega)
  have s1 : ∀ K, sci (μ 0 1) (i + 1) K = K := fun K => sci_k K (by omega) (by omega)
  have r1 : μ1 (-1) (i + 1) = μ (-1) (i + 1) := by rw [k1.2.scr (by omega) (by omega), hM.scr (by omega) (by omega)]
  have w2 : w32 (i + 2) = i + 2 := w32_l (by omega) (by omega)
  have s2 : ∀ K, sci (μ 0 1) (i + 2) K = K := fun K => sci_k K (by omega) (by omega)
  have r2 : μ1 (-1) (i + 2) = μ (-1) (i + 2) := by rw [k1.2.scr (by omega) (by omega), hM.scr (by omega) (by omega)]
  refine ⟨μ2, ?_, c3, k2.2⟩
  simp only [q0_1107, w1, s1, r1, w2, s2, r2, e0, c1, bnd_s, c4, if_true]
theorem lc_23 (l : Launch) (hI : Inv M μ) (hM : Mok G μ) (h0 : M 0 0 = 90) (i0 : 0 ≤ i) (i1 : i + 5 ≤ μ 0 1) (i2 : μ 0 1 ≤ 2560) : NXT M G μ i 1140 := by
  have g1 : R32 (μ (-1) (i + 1)) := by
    rw [hM.scr (by omega) (by omega)]
    exact i32_R _
  have g2 : R32 (μ (-1) (i + 2)) := by
    rw [hM.scr (by omega) (by omega)]
    exact i32_R _
  have n0 : μ 0 0 = 90 := (hI.x 0 0 (by decide)).trans h0
  obtain ⟨v, μ1, μ2, c1, c2, c3⟩ := st_rule hI (μ (-1) (i + 1)) (μ (-1) (i + 2))
  have c4 : EE 225 0 [(48, 71), (0, (μ (-1) (i + 1))), (0, (μ (-1) (i + 2))), (9, 0), (9, 0)] [] μ1 = some (v, μ2) := c2
  have k1 := keepS l c1 (by decide) hM (fmc (okl_47 (by omega)) (fmc (okl_i g1) (fmc (okl_i g2) fmn))) rfl
  have k2 := keepS l c4 (by decide) k1.2 (fmc (okl_48 (by omega)) (fmc (okl_i g1) (fmc (okl_i g2) (fmc okl_9 (fmc okl_9 fmn))))) rfl
  have e0 : μ1 0 1 = μ 0 1 := k1.2.len.trans hM.len.symm
  have w1 : w32 (i + 1) = i + 1 := w32_l (by omega) (by omega)
  have s1 : ∀ K, sci (μ 0 1) (i + 1) K = K := fun K => sci_k K (by omega) (by omega)
  have r1 : μ1 (-1) (i + 1) = μ (-1) (i + 1) := by rw [k1.2.scr (by omega) (by omega), hM.scr (by omega) (by omega)]
  have w2 : w32 (i + 2) = i + 2 := w32_l (by omega) (by omega)
  have s2 : ∀ K, sci (μ 0 1) (i + 2) K = K := fun K => sci_k K (by omega) (by omega)
  have r2 : μ1 (-1) (i + 2) = μ (-1) (i + 2) := by rw [k1.2.scr (by omega) (by omega), hM.scr (by omega) (by omega)]
  refine ⟨μ2, ?_, c3, k2.2⟩
  simp only [q0_1140, w1, s1, r1, w2, s2, r2, e0, c1, bnd_s, c4, if_true]
theorem lc_24 (l : Launch) (hI : Inv M μ) (hM : Mok G μ) (h0 : M 0 0 = 90) (i0 : 0 ≤ i) (i1 : i + 5 ≤ μ 0 1) (i2 : μ 0 1 ≤ 2560) : NXT M G μ i 1173 := by
  have g1 : R32 (μ (-1) (i + 1)) := by
    rw [hM.scr (by omega) (by omega)]
    exact i32_R _
  have n0 : μ 0 0 = 90 := (hI.x 0 0 (by decide)).trans h0
  obtain ⟨v, μ1, μ2, c1, c2, c3⟩ := st_breaches hI (μ (-1) (i + 1))
  have c4 : EE 231 0 [(48, 71), (0, (μ (-1) (i + 1))), (9, 0)] [] μ1 = some (v, μ2) := c2
  have k1 := keepS l c1 (by decide) hM (fmc (okl_47 (by omega)) (fmc (okl_i g1) (fmc okl_9 fmn))) rfl
  have k2 := keepS l c4 (by decide) k1.2 (fmc (okl_48 (by omega)) (fmc (okl_i g1) (fmc okl_9 fmn))) rfl
  have e0 : μ1 0 1 = μ 0 1 := k1.2.len.trans hM.len.symm
  have w1 : w32 (i + 1) = i + 1 := w32_l (by omega) (by omega)
  have s1 : ∀ K, sci (μ 0 1) (i + 1) K = K := fun K => sci_k K (by omega) (by omega)
  have r1 : μ1 (-1) (i + 1) = μ (-1) (i + 1) := by rw [k1.2.scr (by omega) (by omega), hM.scr (by omega) (by omega)]
  refine ⟨μ2, ?_, c3, k2.2⟩
  simp only [q0_1173, w1, s1, r1, e0, c1, bnd_s, c4, if_true]
theorem lc_25 (l : Launch) (hI : Inv M μ) (hM : Mok G μ) (h0 : M 0 0 = 90) (i0 : 0 ≤ i) (i1 : i + 5 ≤ μ 0 1) (i2 : μ 0 1 ≤ 2560) : NXT M G μ i 1196 := by
  have g1 : R32 (μ (-1) (i + 1)) := by
    rw [hM.scr (by omega) (by omega)]
    exact i32_R _
  have g2 : R32 (μ (-1) (i + 2)) := by
    rw [hM.scr (by omega) (by omega)]
    exact i32_R _
  have g3 : R32 (μ (-1) (i + 3)) := by
    rw [hM.scr (by omega) (by omega)]
    exact i32_R _
  have n0 : μ 0 0 = 90 := (hI.x 0 0 (by decide)).trans h0
  obtain ⟨v, μ1, μ2, c1, c2, c3⟩ := st_breach hI (μ (-1) (i + 1)) (μ (-1) (i + 2)) (μ (-1) (i + 3))
  have c4 : EE 232 0 [(48, 71), (0, (μ (-1) (i + 1))), (0, (μ (-1) (i + 2))), (0, (μ (-1) (i + 3)))] [] μ1 = some (v, μ2) := c2
  have k1 := keepS l c1 (by decide) hM (fmc (okl_47 (by omega)) (fmc (okl_i g1) (fmc (okl_i g2) (fmc (okl_i g3) (fmc okl_9 fmn))))) rfl
  have k2 := keepS l c4 (by decide) k1.2 (fmc (okl_48 (by omega)) (fmc (okl_i g1) (fmc (okl_i g2) (fmc (okl_i g3) fmn)))) rfl
  have e0 : μ1 0 1 = μ 0 1 := k1.2.len.trans hM.len.symm
  have w1 : w32 (i + 1) = i + 1 := w32_l (by omega) (by omega)
  have s1 : ∀ K, sci (μ 0 1) (i + 1) K = K := fun K => sci_k K (by omega) (by omega)
  have r1 : μ1 (-1) (i + 1) = μ (-1) (i + 1) := by rw [k1.2.scr (by omega) (by omega), hM.scr (by omega) (by omega)]
  have w2 : w32 (i + 2) = i + 2 := w32_l (by omega) (by omega)
  have s2 : ∀ K, sci (μ 0 1) (i + 2) K = K := fun K => sci_k K (by omega) (by omega)
  have r2 : μ1 (-1) (i + 2) = μ (-1) (i + 2) := by rw [k1.2.scr (by omega) (by omega), hM.scr (by omega) (by omega)]
  have w3 : w32 (i + 3) = i + 3 := w32_l (by omega) (by omega)
  have s3 : ∀ K, sci (μ 0 1) (i + 3) K = K := fun K => sci_k K (by omega) (by omega)
  have r3 : μ1 (-1) (i + 3) = μ (-1) (i + 3) := by rw [k1.2.scr (by omega) (by omega), hM.scr (by omega) (by omega)]
  refine ⟨μ2, ?_, c3, k2.2⟩
  simp only [q0_1196, w1, s1, r1, w2, s2, r2, w3, s3, r3, e0, c1, bnd_s, c4, if_true]
theorem lc_26 (l : Launch) (hI : Inv M μ) (hM : Mok G μ) (h0 : M 0 0 = 90) (i0 : 0 ≤ i) (i1 : i + 5 ≤ μ 0 1) (i2 : μ 0 1 ≤ 2560) : NXT M G μ i 1239 := by
  have g1 : R32 (μ (-1) (i + 1)) := by
    rw [hM.scr (by omega) (by omega)]
    exact i32_R _
  have g2 : R32 (μ (-1) (i + 2)) := by
    rw [hM.scr (by omega) (by omega)]
    exact i32_R _
  have n0 : μ 0 0 = 90 := (hI.x 0 0 (by decide)).trans h0
  obtain ⟨v, μ1, μ2, c1, c2, c3⟩ := st_put hI (μ (-1) (i + 1)) (μ (-1) (i + 2))
  have c4 : EE 243 0 [(48, 71), (0, (μ (-1) (i + 1))), (0, (μ (-1) (i + 2)))] [] μ1 = some (v, μ2) := c2
  have k1 := keepS l c1 (by decide) hM (fmc (okl_47 (by omega)) (fmc (okl_i g1) (fmc (okl_i g2) (fmc okl_9 fmn)))) rfl
  have k2 := keepS l c4 (by decide) k1.2 (fmc (okl_48 (by omega)) (fmc (okl_i g1) (fmc (okl_i g2) fmn))) rfl
  have e0 : μ1 0 1 = μ 0 1 := k1.2.len.trans hM.len.symm
  have w1 : w32 (i + 1) = i + 1 := w32_l (by omega) (by omega)
  have s1 : ∀ K, sci (μ 0 1) (i + 1) K = K := fun K => sci_k K (by omega) (by omega)
  have r1 : μ1 (-1) (i + 1) = μ (-1) (i + 1) := by rw [k1.2.scr (by omega) (by omega), hM.scr (by omega) (by omega)]
  have w2 : w32 (i + 2) = i + 2 := w32_l (by omega) (by omega)
  have s2 : ∀ K, sci (μ 0 1) (i + 2) K = K := fun K => sci_k K (by omega) (by omega)
  have r2 : μ1 (-1) (i + 2) = μ (-1) (i + 2) := by rw [k1.2.scr (by omega) (by omega), hM.scr (by omega) (by omega)]
  refine ⟨μ2, ?_, c3, k2.2⟩
  simp only [q0_1239, w1, s1, r1, w2, s2, r2, e0, c1, bnd_s, c4, if_true]
theorem lc_27 (l : Launch) (hI : Inv M μ) (hM : Mok G μ) (h0 : M 0 0 = 90) (i0 : 0 ≤ i) (i1 : i + 5 ≤ μ 0 1) (i2 : μ 0 1 ≤ 2560) : NXT M G μ i 1272 := by
  have g1 : R32 (μ (-1) (i + 1)) := by
    rw [hM.scr (by omega) (by omega)]
    exact i32_R _
  have g2 : R32 (μ (-1) (i + 2)) := by
    rw [hM.scr (by omega) (by omega)]
    exact i32_R _
  have n0 : μ 0 0 = 90 := (hI.x 0 0 (by decide)).trans h0
  obtain ⟨v, μ1, μ2, c1, c2, c3⟩ := st_take hI (μ (-1) (i + 1)) (μ (-1) (i + 2))
  have c4 : EE 244 0 [(48, 71), (0, (μ (-1) (i + 1))), (0, (μ (-1) (i + 2)))] [] μ1 = some (v, μ2) := c2
  have k1 := keepS l c1 (by decide) hM (fmc (okl_47 (by omega)) (fmc (okl_i g1) (fmc (okl_i g2) (fmc okl_9 fmn)))) rfl
  have k2 := keepS l c4 (by decide) k1.2 (fmc (okl_48 (by omega)) (fmc (okl_i g1) (fmc (okl_i g2) fmn))) rfl
  have e0 : μ1 0 1 = μ 0 1 := k1.2.len.trans hM.len.symm
  have w1 : w32 (i + 1) = i + 1 := w32_l (by omega) (by omega)
  have s1 : ∀ K, sci (μ 0 1) (i + 1) K = K := fun K => sci_k K (by omega) (by omega)
  have r1 : μ1 (-1) (i + 1) = μ (-1) (i + 1) := by rw [k1.2.scr (by omega) (by omega), hM.scr (by omega) (by omega)]
  have w2 : w32 (i + 2) = i + 2 := w32_l (by omega) (by omega)
  have s2 : ∀ K, sci (μ 0 1) (i + 2) K = K := fun K => sci_k K (by omega) (by omega)
  have r2 : μ1 (-1) (i + 2) = μ (-1) (i + 2) := by rw [k1.2.scr (by omega) (by omega), hM.scr (by omega) (by omega)]
  refine ⟨μ2, ?_, c3, k2.2⟩
  simp only [q0_1272, w1, s1, r1, w2, s2, r2, e0, c1, bnd_s, c4, if_true]
theorem lc_28 (l : Launch) (hI : Inv M μ) (hM : Mok G μ) (h0 : M 0 0 = 90) (i0 : 0 ≤ i) (i1 : i + 5 ≤ μ 0 1) (i2 : μ 0 1 ≤ 2560) : NXT M G μ i 1305 := by
  have g1 : R32 (μ (-1) (i + 1)) := by
    rw [hM.scr (by omega) (by omega)]
    exact i32_R _
  have g2 : R32 (μ (-1) (i + 2)) := by
    rw [hM.scr (by omega) (by omega)]
    exact i32_R _
  have n0 : μ 0 0 = 90 := (hI.x 0 0 (by decide)).trans h0
  obtain ⟨v, μ1, μ2, c1, c2, c3⟩ := ST_q (M := M) (μ := μ) (c := EE 131 0 [(47, 1), (0, (μ (-1) (i + 1))), (0, (μ (-1) (i + 2))), (9, 0)] [] μ) (r := fun m => EE 248 0 [(48, 71), (0, (μ (-1) (i + 1))), (0, (μ (-1) (i + 2)))] [] m) hI (st_next hI (μ (-1) (i + 1)) (μ (-1) (i + 2)))
  have c4 : EE 248 0 [(48, 71), (0, (μ (-1) (i + 1))), (0, (μ (-1) (i + 2)))] [] μ1 = some (v, μ2) := c2
  have k1 := keepS l c1 (by decide) hM (fmc (okl_47 (by omega)) (fmc (okl_i g1) (fmc (okl_i g2) (fmc okl_9 fmn)))) rfl
  have k2 := keepS l c4 (by decide) k1.2 (fmc (okl_48 (by omega)) (fmc (okl_i g1) (fmc (okl_i g2) fmn))) rfl
  have e0 : μ1 0 1 = μ 0 1 := k1.2.len.trans hM.len.symm
  have w1 : w32 (i + 1) = i + 1 := w32_l (by omega) (by omega)
  have s1 : ∀ K, sci (μ 0 1) (i + 1) K = K := fun K => sci_k K (by omega) (by omega)
  have r1 : μ1 (-1) (i + 1) = μ (-1) (i + 1) := by rw [k1.2.scr (by omega) (by omega), hM.scr (by omega) (by omega)]
  have w2 : w32 (i + 2) = i + 2 := w32_l (by omega) (by omega)
  have s2 : ∀ K, sci (μ 0 1) (i + 2) K = K := fun K => sci_k K (by omega) (by omega)
  have r2 : μ1 (-1) (i + 2) = μ (-1) (i + 2) := by rw [k1.2.scr (by omega) (by omega), hM.scr (by omega) (by omega)]
  refine ⟨μ2, ?_, c3, k2.2⟩
  simp only [q0_1305, w1, s1, r1, w2, s2, r2, e0, c1, bnd_s, c4, if_true]
theorem lc_29 (l : Launch) (hI : Inv M μ) (hM : Mok G μ) (h0 : M 0 0 = 90) (i0 : 0 ≤ i) (i1 : i + 5 ≤ μ 0 1) (i2 : μ 0 1 ≤ 2560) : NXT M G μ i 1338 := by
  have g1 : R32 (μ (-1) (i + 1)) := by
    rw [hM.scr (by omega) (by omega)]
    exact i32_R _
  have g2 : R32 (μ (-1) (i + 2)) := by
    rw [hM.scr (by omega) (by omega)]
    exact i32_R _
  have g3 : R32 (μ (-1) (i + 3)) := by
    rw [hM.scr (by omega) (by omega)]
    exact i32_R _
  have n0 : μ 0 0 = 90 := (hI.x 0 0 (by decide)).trans h0
  obtain ⟨v, μ1, μ2, c1, c2, c3⟩ := st_go hI (μ (-1) (i + 1)) (μ (-1) (i + 2)) (μ (-1) (i + 3))
  have c4 : EE 249 0 [(48, 71), (0, (μ (-1) (i + 1))), (0, (μ (-1) (i + 2))), (0, (μ (-1) (i + 3))), (9, 0), (9, 0)] [] μ1 = some (v, μ2) := c2
  have k1 := keepS l c1 (by decide) hM (fmc (okl_47 (by omega)) (fmc (okl_i g1) (fmc (okl_i g2) (fmc (okl_i g3) (fmc okl_9 fmn))))) rfl
  have k2 := keepS l c4 (by decide) k1.2 (fmc (okl_48 (by omega)) (fmc (okl_i g1) (fmc (okl_i g2) (fmc (okl_i g3) (fmc okl_9 (fmc okl_9 fmn)))))) rfl
  have e0 : μ1 0 1 = μ 0 1 := k1.2.len.trans hM.len.symm
  have w1 : w32 (i + 1) = i + 1 := w32_l (by omega) (by omega)
  have s1 : ∀ K, sci (μ 0 1) (i + 1) K = K := fun K => sci_k K (by omega) (by omega)
  have r1 : μ1 (-1) (i + 1) = μ (-1) (i + 1) := by rw [k1.2.scr (by omega) (by omega), hM.scr (by omega) (by omega)]
  have w2 : w32 (i + 2) = i + 2 := w32_l (by omega) (by omega)
  have s2 : ∀ K, sci (μ 0 1) (i + 2) K = K := fun K => sci_k K (by omega) (by omega)
  have r2 : μ1 (-1) (i + 2) = μ (-1) (i + 2) := by rw [k1.2.scr (by omega) (by omega), hM.scr (by omega) (by omega)]
  have w3 : w32 (i + 3) = i + 3 := w32_l (by omega) (by omega)
  have s3 : ∀ K, sci (μ 0 1) (i + 3) K = K := fun K => sci_k K (by omega) (by omega)
  have r3 : μ1 (-1) (i + 3) = μ (-1) (i + 3) := by rw [k1.2.scr (by omega) (by omega), hM.scr (by omega) (by omega)]
  refine ⟨μ2, ?_, c3, k2.2⟩
  simp only [q0_1338, w1, s1, r1, w2, s2, r2, w3, s3, r3, e0, c1, bnd_s, c4, if_true]
theorem lc_30 (l : Launch) (hI : Inv M μ) (hM : Mok G μ) (h0 : M 0 0 = 90) (i0 : 0 ≤ i) (i1 : i + 5 ≤ μ 0 1) (i2 : μ 0 1 ≤ 2560) : NXT M G μ i 1381 := by
  have g1 : R32 (μ (-1) (i + 1)) := by
    rw [hM.scr (by omega) (by omega)]
    exact i32_R _
  have g2 : R32 (μ (-1) (i + 2)) := by
    rw [hM.scr (by omega) (by omega)]
    exact i32_R _
  have n0 : μ 0 0 = 90 := (hI.x 0 0 (by decide)).trans h0
  obtain ⟨v, μ1, μ2, c1, c2, c3⟩ := ST_q (M := M) (μ := μ) (c := EE 133 0 [(47, 1), (0, (μ (-1) (i + 1))), (0, (μ (-1) (i + 2))), (9, 0)] [] μ) (r := fun m => EE 250 0 [(48, 71), (0, (μ (-1) (i + 1))), (0, (μ (-1) (i + 2))), (9, 0)] [] m) hI (st_isUp hI (μ (-1) (i + 1)) (μ (-1) (i + 2)))
  have c4 : EE 250 0 [(48, 71), (0, (μ (-1) (i + 1))), (0, (μ (-1) (i + 2))), (9, 0)] [] μ1 = some (v, μ2) := c2
  have k1 := keepS l c1 (by decide) hM (fmc (okl_47 (by omega)) (fmc (okl_i g1) (fmc (okl_i g2) (fmc okl_9 fmn)))) rfl
  have k2 := keepS l c4 (by decide) k1.2 (fmc (okl_48 (by omega)) (fmc (okl_i g1) (fmc (okl_i g2) (fmc okl_9 fmn)))) rfl
  have e0 : μ1 0 1 = μ 0 1 := k1.2.len.trans hM.len.symm
  have w1 : w32 (i + 1) = i + 1 := w32_l (by omega) (by omega)
  have s1 : ∀ K, sci (μ 0 1) (i + 1) K = K := fun K => sci_k K (by omega) (by omega)
  have r1 : μ1 (-1) (i + 1) = μ (-1) (i + 1) := by rw [k1.2.scr (by omega) (by omega), hM.scr (by omega) (by omega)]
  have w2 : w32 (i + 2) = i + 2 := w32_l (by omega) (by omega)
  have s2 : ∀ K, sci (μ 0 1) (i + 2) K = K := fun K => sci_k K (by omega) (by omega)
  have r2 : μ1 (-1) (i + 2) = μ (-1) (i + 2) := by rw [k1.2.scr (by omega) (by omega), hM.scr (by omega) (by omega)]
  refine ⟨μ2, ?_, c3, k2.2⟩
  simp only [q0_1381, w1, s1, r1, w2, s2, r2, e0, c1, bnd_s, c4, if_true]
theorem lc_31 (l : Launch) (hI : Inv M μ) (hM : Mok G μ) (h0 : M 0 0 = 90) (i0 : 0 ≤ i) (i1 : i + 5 ≤ μ 0 1) (i2 : μ 0 1 ≤ 2560) : NXT M G μ i 1414 := by
  have g1 : R32 (μ (-1) (i + 1)) := by
    rw [hM.scr (by omega) (by omega)]
    exact i32_R _
  have n0 : μ 0 0 = 90 := (hI.x 0 0 (by decide)).trans h0
  obtain ⟨v, μ1, μ2, c1, c2, c3⟩ := st_day hI (μ (-1) (i + 1))
  have c4 : EE 252 0 [(48, 71), (0, (μ (-1) (i + 1)))] [] μ1 = some (v, μ2) := c2
  have k1 := keepS l c1 (by decide) hM (fmc (okl_47 (by omega)) (fmc (okl_i g1) (fmc okl_9 fmn))) rfl
  have k2 := keepS l c4 (by decide) k1.2 (fmc (okl_48 (by omega)) (fmc (okl_i g1) fmn)) rfl
  have e0 : μ1 0 1 = μ 0 1 := k1.2.len.trans hM.len.symm
  have w1 : w32 (i + 1) = i + 1 := w32_l (by omega) (by omega)
  have s1 : ∀ K, sci (μ 0 1) (i + 1) K = K := fun K => sci_k K (by omega) (by omega)
  have r1 : μ1 (-1) (i + 1) = μ (-1) (i + 1) := by rw [k1.2.scr (by omega) (by omega), hM.scr (by omega) (by omega)]
  refine ⟨μ2, ?_, c3, k2.2⟩
  simp only [q0_1414, w1, s1, r1, e0, c1, bnd_s, c4, if_true]
theorem lc_32 (l : Launch) (hI : Inv M μ) (hM : Mok G μ) (h0 : M 0 0 = 90) (i0 : 0 ≤ i) (i1 : i + 5 ≤ μ 0 1) (i2 : μ 0 1 ≤ 2560) : NXT M G μ i 1437 := by
  have n0 : μ 0 0 = 90 := (hI.x 0 0 (by decide)).trans h0
  obtain ⟨v, μ1, μ2, c1, c2, c3⟩ := st_storm hI 
  have c4 : EE 254 0 [(48, 71), (9, 0), (9, 0)] [] μ1 = some (v, μ2) := c2
  have k1 := keepS l c1 (by decide) hM (fmc (okl_47 (by omega)) (fmc okl_9 (fmc okl_9 fmn))) rfl
  have k2 := keepS l c4 (by decide) k1.2 (fmc (okl_48 (by omega)) (fmc okl_9 (fmc okl_9 fmn))) rfl
  have e0 : μ1 0 1 = μ 0 1 := k1.2.len.trans hM.len.symm
  refine ⟨μ2, ?_, c3, k2.2⟩
  simp only [q0_1437, c1, bnd_s, c4, if_true]
theorem lc_33 (l : Launch) (hI : Inv M μ) (hM : Mok G μ) (h0 : M 0 0 = 90) (i0 : 0 ≤ i) (i1 : i + 5 ≤ μ 0 1) (i2 : μ 0 1 ≤ 2560) : NXT M G μ i 1450 := by
  have g1 : R32 (μ (-1) (i + 1)) := by
    rw [hM.scr (by omega) (by omega)]
    exact i32_R _
  have g2 : R32 (μ (-1) (i + 2)) := by
    rw [hM.scr (by omega) (by omega)]
    exact i32_R _
  have g3 : R32 (μ (-1) (i + 3)) := by
    rw [hM.scr (by omega) (by omega)]
    exact i32_R _
  have n0 : μ 0 0 = 90 := (hI.x 0 0 (by decide)).trans h0
  obtain ⟨v, μ1, μ2, c1, c2, c3⟩ := st_tag hI (μ (-1) (i + 1)) (μ (-1) (i + 2)) (μ (-1) (i + 3))
  have c4 : EE 257 0 [(48, 71), (0, (μ (-1) (i + 1))), (0, (μ (-1) (i + 2))), (0, (μ (-1) (i + 3))), (9, 0)] [] μ1 = some (v, μ2) := c2
  have k1 := keepS l c1 (by decide) hM (fmc (okl_47 (by omega)) (fmc (okl_i g1) (fmc (okl_i g2) (fmc (okl_i g3) (fmc okl_9 (fmc okl_9 fmn)))))) rfl
  have k2 := keepS l c4 (by decide) k1.2 (fmc (okl_48 (by omega)) (fmc (okl_i g1) (fmc (okl_i g2) (fmc (okl_i g3) (fmc okl_9 fmn))))) rfl
  have e0 : μ1 0 1 = μ 0 1 := k1.2.len.trans hM.len.symm
  have w1 : w32 (i + 1) = i + 1 := w32_l (by omega) (by omega)
  have s1 : ∀ K, sci (μ 0 1) (i + 1) K = K := fun K => sci_k K (by omega) (by omega)
  have r1 : μ1 (-1) (i + 1) = μ (-1) (i + 1) := by rw [k1.2.scr (by omega) (by omega), hM.scr (by omega) (by omega)]
  have w2 : w32 (i + 2) = i + 2 := w32_l (by omega) (by omega)
  have s2 : ∀ K, sci (μ 0 1) (i + 2) K = K := fun K => sci_k K (by omega) (by omega)
  have r2 : μ1 (-1) (i + 2) = μ (-1) (i + 2) := by rw [k1.2.scr (by omega) (by omega), hM.scr (by omega) (by omega)]
  have w3 : w32 (i + 3) = i + 3 := w32_l (by omega) (by omega)
  have s3 : ∀ K, sci (μ 0 1) (i + 3) K = K := fun K => sci_k K (by omega) (by omega)
  have r3 : μ1 (-1) (i + 3) = μ (-1) (i + 3) := by rw [k1.2.scr (by omega) (by omega), hM.scr (by omega) (by omega)]
  refine ⟨μ2, ?_, c3, k2.2⟩
  simp only [q0_1450, w1, s1, r1, w2, s2, r2, w3, s3, r3, e0, c1, bnd_s, c4, if_true]
theorem lc_34 (l : Launch) (hI : Inv M μ) (hM : Mok G μ) (h0 : M 0 0 = 90) (i0 : 0 ≤ i) (i1 : i + 5 ≤ μ 0 1) (i2 : μ 0 1 ≤ 2560) : NXT M G μ i 1493 := by
  have g1 : R32 (μ (-1) (i + 1)) := by
    rw [hM.scr (by omega) (by omega)]
    exact i32_R _
  have g2 : R32 (μ (-1) (i + 2)) := by
    rw [hM.scr (by omega) (by omega)]
    exact i32_R _
  have n0 : μ 0 0 = 90 := (hI.x 0 0 (by decide)).trans h0
  obtain ⟨v, μ1, μ2, c1, c2, c3⟩ := ST_q (M := M) (μ := μ) (c := EE 137 0 [(47, 1), (0, (μ (-1) (i + 1))), (0, (μ (-1) (i + 2))), (9, 0)] [] μ) (r := fun m => EE 258 0 [(48, 71), (0, (μ (-1) (i + 1))), (0, (μ (-1) (i + 2))), (9, 0)] [] m) hI (st_tagged hI (μ (-1) (i + 1)) (μ (-1) (i + 2)))
  have c4 : EE 258 0 [(48, 71), (0, (μ (-1) (i + 1))), (0, (μ (-1) (i + 2))), (9, 0)] [] μ1 = some (v, μ2) := c2
  have k1 := keepS l c1 (by decide) hM (fmc (okl_47 (by omega)) (fmc (okl_i g1) (fmc (okl_i g2) (fmc okl_9 fmn)))) rfl
  have k2 := keepS l c4 (by decide) k1.2 (fmc (okl_48 (by omega)) (fmc (okl_i g1) (fmc (okl_i g2) (fmc okl_9 fmn)))) rfl
  have e0 : μ1 0 1 = μ 0 1 := k1.2.len.trans hM.len.symm
  have w1 : w32 (i + 1) = i + 1 := w32_l (by omega) (by omega)
  have s1 : ∀ K, sci (μ 0 1) (i + 1) K = K := fun K => sci_k K (by omega) (by omega)
  have r1 : μ1 (-1) (i + 1) = μ (-1) (i + 1) := by rw [k1.2.scr (by omega) (by omega), hM.scr (by omega) (by omega)]
  have w2 : w32 (i + 2) = i + 2 := w32_l (by omega) (by omega)
  have s2 : ∀ K, sci (μ 0 1) (i + 2) K = K := fun K => sci_k K (by omega) (by omega)
  have r2 : μ1 (-1) (i + 2) = μ (-1) (i + 2) := by rw [k1.2.scr (by omega) (by omega), hM.scr (by omega) (by omega)]
  refine ⟨μ2, ?_, c3, k2.2⟩
  simp only [q0_1493, w1, s1, r1, w2, s2, r2, e0, c1, bnd_s, c4, if_true]
theorem lc_35 (l : Launch) (hI : Inv M μ) (hM : Mok G μ) (h0 : M 0 0 = 90) (i0 : 0 ≤ i) (i1 : i + 5 ≤ μ 0 1) (i2 : μ 0 1 ≤ 2560) : NXT M G μ i 1526 := by
  have g1 : R32 (μ (-1) (i + 1)) := by
    rw [hM.scr (by omega) (by omega)]
    exact i32_R _
  have g2 : R32 (μ (-1) (i + 2)) := by
    rw [hM.scr (by omega) (by omega)]
    exact i32_R _
  have g3 : R32 (μ (-1) (i + 3)) := by
    rw [hM.scr (by omega) (by omega)]
    exact i32_R _
  have n0 : μ 0 0 = 90 := (hI.x 0 0 (by decide)).trans h0
  obtain ⟨v, μ1, μ2, c1, c2, c3⟩ := st_enter hI (μ (-1) (i + 1)) (μ (-1) (i + 2)) (μ (-1) (i + 3))
  have c4 : EE 260 0 [(48, 71), (0, (μ (-1) (i + 1))), (0, (μ (-1) (i + 2))), (0, (μ (-1) (i + 3))), (9, 0)] [] μ1 = some (v, μ2) := c2
  have k1 := keepS l c1 (by decide) hM (fmc (okl_47 (by omega)) (fmc (okl_i g1) (fmc (okl_i g2) (fmc (okl_i g3) (fmc okl_9 fmn))))) rfl
  have k2 := keepS l c4 (by decide) k1.2 (fmc (okl_48 (by omega)) (fmc (okl_i g1) (fmc (okl_i g2) (fmc (okl_i g3) (fmc okl_9 fmn))))) rfl
  have e0 : μ1 0 1 = μ 0 1 := k1.2.len.trans hM.len.symm
  have w1 : w32 (i + 1) = i + 1 := w32_l (by omega) (by omega)
  have s1 : ∀ K, sci (μ 0 1) (i + 1) K = K := fun K => sci_k K (by omega) (by omega)
  have r1 : μ1 (-1) (i + 1) = μ (-1) (i + 1) := by rw [k1.2.scr (by omega) (by omega), hM.scr (by omega) (by omega)]
  have w2 : w32 (i + 2) = i + 2 := w32_l (by omega) (by omega)
  have s2 : ∀ K, sci (μ 0 1) (i + 2) K = K := fun K => sci_k K (by omega) (by omega)
  have r2 : μ1 (-1) (i + 2) = μ (-1) (i + 2) := by rw [k1.2.scr (by omega) (by omega), hM.scr (by omega) (by omega)]
  have w3 : w32 (i + 3) = i + 3 := w32_l (by omega) (by omega)
  have s3 : ∀ K, sci (μ 0 1) (i + 3) K = K := fun K => sci_k K (by omega) (by omega)
  have r3 : μ1 (-1) (i + 3) = μ (-1) (i + 3) := by rw [k1.2.scr (by omega) (by omega), hM.scr (by omega) (by omega)]
  refine ⟨μ2, ?_, c3, k2.2⟩
  simp only [q0_1526, w1, s1, r1, w2, s2, r2, w3, s3, r3, e0, c1, bnd_s, c4, if_true]
theorem lc_36 (l : Launch) (hI : Inv M μ) (hM : Mok G μ) (h0 : M 0 0 = 90) (i0 : 0 ≤ i) (i1 : i + 5 ≤ μ 0 1) (i2 : μ 0 1 ≤ 2560) : NXT M G μ i 1569 := by
  have g1 : R32 (μ (-1) (i + 1)) := by
    rw [hM.scr (by omega) (by omega)]
    exact i32_R _
  have n0 : μ 0 0 = 90 := (hI.x 0 0 (by decide)).trans h0
  obtain ⟨v, μ1, μ2, c1, c2, c3⟩ := st_leave hI (μ (-1) (i + 1))
  have c4 : EE 261 0 [(48, 71), (0, (μ (-1) (i + 1))), (9, 0)] [] μ1 = some (v, μ2) := c2
  have k1 := keepS l c1 (by decide) hM (fmc (okl_47 (by omega)) (fmc (okl_i g1) (fmc okl_9 fmn))) rfl
  have k2 := keepS l c4 (by decide) k1.2 (fmc (okl_48 (by omega)) (fmc (okl_i g1) (fmc okl_9 fmn))) rfl
  have e0 : μ1 0 1 = μ 0 1 := k1.2.len.trans hM.len.symm
  have w1 : w32 (i + 1) = i + 1 := w32_l (by omega) (by omega)
  have s1 : ∀ K, sci (μ 0 1) (i + 1) K = K := fun K => sci_k K (by omega) (by omega)
  have r1 : μ1 (-1) (i + 1) = μ (-1) (i + 1) := by rw [k1.2.scr (by omega) (by omega), hM.scr (by omega) (by omega)]
  refine ⟨μ2, ?_, c3, k2.2⟩
  simp only [q0_1569, w1, s1, r1, e0, c1, bnd_s, c4, if_true]
theorem lc_37 (l : Launch) (hI : Inv M μ) (hM : Mok G μ) (h0 : M 0 0 = 90) (i0 : 0 ≤ i) (i1 : i + 5 ≤ μ 0 1) (i2 : μ 0 1 ≤ 2560) : NXT M G μ i 1592 := by
  have n0 : μ 0 0 = 90 := (hI.x 0 0 (by decide)).trans h0
  obtain ⟨v, μ1, μ2, c1, c2, c3⟩ := ST_q (M := M) (μ := μ) (c := EE 140 0 [(47, 1), (9, 0), (9, 0), (9, 0), (9, 0)] [] μ) (r := fun m => EE 262 0 [(48, 71), (9, 0), (9, 0)] [] m) hI (st_stranded hI )
  have c4 : EE 262 0 [(48, 71), (9, 0), (9, 0)] [] μ1 = some (v, μ2) := c2
  have k1 := keepS l c1 (by decide) hM (fmc (okl_47 (by omega)) (fmc okl_9 (fmc okl_9 (fmc okl_9 (fmc okl_9 fmn))))) rfl
  have k2 := keepS l c4 (by decide) k1.2 (fmc (okl_48 (by omega)) (fmc okl_9 (fmc okl_9 fmn))) rfl
  have e0 : μ1 0 1 = μ 0 1 := k1.2.len.trans hM.len.symm
  refine ⟨μ2, ?_, c3, k2.2⟩
  simp only [q0_1592, c1, bnd_s, c4, if_true]
theorem lc_38 (l : Launch) (hI : Inv M μ) (hM : Mok G μ) (h0 : M 0 0 = 90) (i0 : 0 ≤ i) (i1 : i + 5 ≤ μ 0 1) (i2 : μ 0 1 ≤ 2560) : NXT M G μ i 1605 := by
  have g1 : R32 (μ (-1) (i + 1)) := by
    rw [hM.scr (by omega) (by omega)]
    exact i32_R _
  have g2 : R32 (μ (-1) (i + 2)) := by
    rw [hM.scr (by omega) (by omega)]
    exact i32_R _
  have g3 : R32 (μ (-1) (i + 3)) := by
    rw [hM.scr (by omega) (by omega)]
    exact i32_R _
  have n0 : μ 0 0 = 90 := (hI.x 0 0 (by decide)).trans h0
  obtain ⟨v, μ1, μ2, c1, c2, c3⟩ := st_stock hI (μ (-1) (i + 1)) (μ (-1) (i + 2)) (μ (-1) (i + 3))
  have c4 : EE 264 0 [(48, 71), (0, (μ (-1) (i + 1))), (0, (μ (-1) (i + 2))), (0, (μ (-1) (i + 3))), (9, 0)] [] μ1 = some (v, μ2) := c2
  have k1 := keepS l c1 (by decide) hM (fmc (okl_47 (by omega)) (fmc (okl_i g1) (fmc (okl_i g2) (fmc (okl_i g3) (fmc okl_9 (fmc okl_9 fmn)))))) rfl
  have k2 := keepS l c4 (by decide) k1.2 (fmc (okl_48 (by omega)) (fmc (okl_i g1) (fmc (okl_i g2) (fmc (okl_i g3) (fmc okl_9 fmn))))) rfl
  have e0 : μ1 0 1 = μ 0 1 := k1.2.len.trans hM.len.symm
  have w1 : w32 (i + 1) = i + 1 := w32_l (by omega) (by omega)
  have s1 : ∀ K, sci (μ 0 1) (i + 1) K = K := fun K => sci_k K (by omega) (by omega)
  have r1 : μ1 (-1) (i + 1) = μ (-1) (i + 1) := by rw [k1.2.scr (by omega) (by omega), hM.scr (by omega) (by omega)]
  have w2 : w32 (i + 2) = i + 2 := w32_l (by omega) (by omega)
  have s2 : ∀ K, sci (μ 0 1) (i + 2) K = K := fun K => sci_k K (by omega) (by omega)
  have r2 : μ1 (-1) (i + 2) = μ (-1) (i + 2) := by rw [k1.2.scr (by omega) (by omega), hM.scr (by omega) (by omega)]
  have w3 : w32 (i + 3) = i + 3 := w32_l (by omega) (by omega)
  have s3 : ∀ K, sci (μ 0 1) (i + 3) K = K := fun K => sci_k K (by omega) (by omega)
  have r3 : μ1 (-1) (i + 3) = μ (-1) (i + 3) := by rw [k1.2.scr (by omega) (by omega), hM.scr (by omega) (by omega)]
  refine ⟨μ2, ?_, c3, k2.2⟩
  simp only [q0_1605, w1, s1, r1, w2, s2, r2, w3, s3, r3, e0, c1, bnd_s, c4, if_true]
theorem lc_39 (l : Launch) (hI : Inv M μ) (hM : Mok G μ) (h0 : M 0 0 = 90) (i0 : 0 ≤ i) (i1 : i + 5 ≤ μ 0 1) (i2 : μ 0 1 ≤ 2560) : NXT M G μ i 1648 := by
  have g1 : R32 (μ (-1) (i + 1)) := by
    rw [hM.scr (by omega) (by omega)]
    exact i32_R _
  have g2 : R32 (μ (-1) (i + 2)) := by
    rw [hM.scr (by omega) (by omega)]
    exact i32_R _
  have g3 : R32 (μ (-1) (i + 3)) := by
    rw [hM.scr (by omega) (by omega)]
    exact i32_R _
  have n0 : μ 0 0 = 90 := (hI.x 0 0 (by decide)).trans h0
  obtain ⟨v, μ1, μ2, c1, c2, c3⟩ := ST_q (M := M) (μ := μ) (c := EE 142 0 [(47, 1), (0, (μ (-1) (i + 1))), (0, (μ (-1) (i + 2))), (0, (μ (-1) (i + 3))), (9, 0)] [] μ) (r := fun m => EE 266 0 [(48, 71), (0, (μ (-1) (i + 1))), (0, (μ (-1) (i + 2))), (0, (μ (-1) (i + 3)))] [] m) hI (st_wants hI (μ (-1) (i + 1)) (μ (-1) (i + 2)) (μ (-1) (i + 3)))
  have c4 : EE 266 0 [(48, 71), (0, (μ (-1) (i + 1))), (0, (μ (-1) (i + 2))), (0, (μ (-1) (i + 3)))] [] μ1 = some (v, μ2) := c2
  have k1 := keepS l c1 (by decide) hM (fmc (okl_47 (by omega)) (fmc (okl_i g1) (fmc (okl_i g2) (fmc (okl_i g3) (fmc okl_9 fmn))))) rfl
  have k2 := keepS l c4 (by decide) k1.2 (fmc (okl_48 (by omega)) (fmc (okl_i g1) (fmc (okl_i g2) (fmc (okl_i g3) fmn)))) rfl
  have e0 : μ1 0 1 = μ 0 1 := k1.2.len.trans hM.len.symm
  have w1 : w32 (i + 1) = i + 1 := w32_l (by omega) (by omega)
  have s1 : ∀ K, sci (μ 0 1) (i + 1) K = K := fun K => sci_k K (by omega) (by omega)
  have r1 : μ1 (-1) (i + 1) = μ (-1) (i + 1) := by rw [k1.2.scr (by omega) (by omega), hM.scr (by omega) (by omega)]
  have w2 : w32 (i + 2) = i + 2 := w32_l (by omega) (by omega)
  have s2 : ∀ K, sci (μ 0 1) (i + 2) K = K := fun K => sci_k K (by omega) (by omega)
  have r2 : μ1 (-1) (i + 2) = μ (-1) (i + 2) := by rw [k1.2.scr (by omega) (by omega), hM.scr (by omega) (by omega)]
  have w3 : w32 (i + 3) = i + 3 := w32_l (by omega) (by omega)
  have s3 : ∀ K, sci (μ 0 1) (i + 3) K = K := fun K => sci_k K (by omega) (by omega)
  have r3 : μ1 (-1) (i + 3) = μ (-1) (i + 3) := by rw [k1.2.scr (by omega) (by omega), hM.scr (by omega) (by omega)]
  refine ⟨μ2, ?_, c3, k2.2⟩
  simp only [q0_1648, w1, s1, r1, w2, s2, r2, w3, s3, r3, e0, c1, bnd_s, c4, if_true]
theorem lc_40 (l : Launch) (hI : Inv M μ) (hM : Mok G μ) (h0 : M 0 0 = 90) (i0 : 0 ≤ i) (i1 : i + 5 ≤ μ 0 1) (i2 : μ 0 1 ≤ 2560) : NXT M G μ i 1691 := by
  have g1 : R32 (μ (-1) (i + 1)) := by
    rw [hM.scr (by omega) (by omega)]
    exact i32_R _
  have g2 : R32 (μ (-1) (i + 2)) := by
    rw [hM.scr (by omega) (by omega)]
    exact i32_R _
  have n0 : μ 0 0 = 90 := (hI.x 0 0 (by decide)).trans h0
  obtain ⟨v, μ1, μ2, c1, c2, c3⟩ := ST_q (M := M) (μ := μ) (c := EE 143 0 [(47, 1), (0, (μ (-1) (i + 1))), (0, (μ (-1) (i + 2))), (9, 0), (9, 0)] [] μ) (r := fun m => EE 267 0 [(48, 71), (0, (μ (-1) (i + 1))), (0, (μ (-1) (i + 2))), (9, 0), (9, 0)] [] m) hI (st_lacks hI (μ (-1) (i + 1)) (μ (-1) (i + 2)))
  have c4 : EE 267 0 [(48, 71), (0, (μ (-1) (i + 1))), (0, (μ (-1) (i + 2))), (9, 0), (9, 0)] [] μ1 = some (v, μ2) := c2
  have k1 := keepS l c1 (by decide) hM (fmc (okl_47 (by omega)) (fmc (okl_i g1) (fmc (okl_i g2) (fmc okl_9 (fmc okl_9 fmn))))) rfl
  have k2 := keepS l c4 (by decide) k1.2 (fmc (okl_48 (by omega)) (fmc (okl_i g1) (fmc (okl_i g2) (fmc okl_9 (fmc okl_9 fmn))))) rfl
  have e0 : μ1 0 1 = μ 0 1 := k1.2.len.trans hM.len.symm
  have w1 : w32 (i + 1) = i + 1 := w32_l (by omega) (by omega)
  have s1 : ∀ K, sci (μ 0 1) (i + 1) K = K := fun K => sci_k K (by omega) (by omega)
  have r1 : μ1 (-1) (i + 1) = μ (-1) (i + 1) := by rw [k1.2.scr (by omega) (by omega), hM.scr (by omega) (by omega)]
  have w2 : w32 (i + 2) = i + 2 := w32_l (by omega) (by omega)
  have s2 : ∀ K, sci (μ 0 1) (i + 2) K = K := fun K => sci_k K (by omega) (by omega)
  have r2 : μ1 (-1) (i + 2) = μ (-1) (i + 2) := by rw [k1.2.scr (by omega) (by omega), hM.scr (by omega) (by omega)]
  refine ⟨μ2, ?_, c3, k2.2⟩
  simp only [q0_1691, w1, s1, r1, w2, s2, r2, e0, c1, bnd_s, c4, if_true]
theorem lc_41 (l : Launch) (hI : Inv M μ) (hM : Mok G μ) (h0 : M 0 0 = 90) (i0 : 0 ≤ i) (i1 : i + 5 ≤ μ 0 1) (i2 : μ 0 1 ≤ 2560) : NXT M G μ i 1724 := by
  have g1 : R32 (μ (-1) (i + 1)) := by
    rw [hM.scr (by omega) (by omega)]
    exact i32_R _
  have g2 : R32 (μ (-1) (i + 2)) := by
    rw [hM.scr (by omega) (by omega)]
    exact i32_R _
  have g3 : R32 (μ (-1) (i + 3)) := by
    rw [hM.scr (by omega) (by omega)]
    exact i32_R _
  have n0 : μ 0 0 = 90 := (hI.x 0 0 (by decide)).trans h0
  obtain ⟨v, μ1, μ2, c1, c2, c3⟩ := st_stays hI (μ (-1) (i + 1)) (μ (-1) (i + 2)) (μ (-1) (i + 3))
  have c4 : EE 270 0 [(48, 71), (0, (μ (-1) (i + 1))), (0, (μ (-1) (i + 2))), (0, (μ (-1) (i + 3))), (9, 0), (9, 0), (9, 0), (9, 0), (9, 0)] [] μ1 = some (v, μ2) := c2
  have k1 := keepS l c1 (by decide) hM (fmc (okl_47 (by omega)) (fmc (okl_i g1) (fmc (okl_i g2) (fmc (okl_i g3) (fmc okl_9 (fmc okl_9 (fmc okl_9 fmn))))))) rfl
  have k2 := keepS l c4 (by decide) k1.2 (fmc (okl_48 (by omega)) (fmc (okl_i g1) (fmc (okl_i g2) (fmc (okl_i g3) (fmc okl_9 (fmc okl_9 (fmc okl_9 (fmc okl_9 (fmc okl_9 fmn))))))))) rfl
  have e0 : μ1 0 1 = μ 0 1 := k1.2.len.trans hM.len.symm
  have w1 : w32 (i + 1) = i + 1 := w32_l (by omega) (by omega)
  have s1 : ∀ K, sci (μ 0 1) (i + 1) K = K := fun K => sci_k K (by omega) (by omega)
  have r1 : μ1 (-1) (i + 1) = μ (-1) (i + 1) := by rw [k1.2.scr (by omega) (by omega), hM.scr (by omega) (by omega)]
  have w2 : w32 (i + 2) = i + 2 := w32_l (by omega) (by omega)
  have s2 : ∀ K, sci (μ 0 1) (i + 2) K = K := fun K => sci_k K (by omega) (by omega)
  have r2 : μ1 (-1) (i + 2) = μ (-1) (i + 2) := by rw [k1.2.scr (by omega) (by omega), hM.scr (by omega) (by omega)]
  have w3 : w32 (i + 3) = i + 3 := w32_l (by omega) (by omega)
  have s3 : ∀ K, sci (μ 0 1) (i + 3) K = K := fun K => sci_k K (by omega) (by omega)
  have r3 : μ1 (-1) (i + 3) = μ (-1) (i + 3) := by rw [k1.2.scr (by omega) (by omega), hM.scr (by omega) (by omega)]
  refine ⟨μ2, ?_, c3, k2.2⟩
  simp only [q0_1724, w1, s1, r1, w2, s2, r2, w3, s3, r3, e0, c1, bnd_s, c4, if_true]
theorem lc_42 (l : Launch) (hI : Inv M μ) (hM : Mok G μ) (h0 : M 0 0 = 90) (i0 : 0 ≤ i) (i1 : i + 5 ≤ μ 0 1) (i2 : μ 0 1 ≤ 2560) : NXT M G μ i 1767 := by
  have g1 : R32 (μ (-1) (i + 1)) := by
    rw [hM.scr (by omega) (by omega)]
    exact i32_R _
  have n0 : μ 0 0 = 90 := (hI.x 0 0 (by decide)).trans h0
  obtain ⟨v, μ1, μ2, c1, c2, c3⟩ := ST_q (M := M) (μ := μ) (c := EE 145 0 [(47, 1), (0, (μ (-1) (i + 1)))] [] μ) (r := fun m => EE 271 0 [(48, 71), (0, (μ (-1) (i + 1))), (9, 0), (9, 0)] [] m) hI (st_count hI (μ (-1) (i + 1)))
  have c4 : EE 271 0 [(48, 71), (0, (μ (-1) (i + 1))), (9, 0), (9, 0)] [] μ1 = some (v, μ2) := c2
  have k1 := keepS l c1 (by decide) hM (fmc (okl_47 (by omega)) (fmc (okl_i g1) fmn)) rfl
  have k2 := keepS l c4 (by decide) k1.2 (fmc (okl_48 (by omega)) (fmc (okl_i g1) (fmc okl_9 (fmc okl_9 fmn)))) rfl
  have e0 : μ1 0 1 = μ 0 1 := k1.2.len.trans hM.len.symm
  have w1 : w32 (i + 1) = i + 1 := w32_l (by omega) (by omega)
  have s1 : ∀ K, sci (μ 0 1) (i + 1) K = K := fun K => sci_k K (by omega) (by omega)
  have r1 : μ1 (-1) (i + 1) = μ (-1) (i + 1) := by rw [k1.2.scr (by omega) (by omega), hM.scr (by omega) (by omega)]
  refine ⟨μ2, ?_, c3, k2.2⟩
  simp only [q0_1767, w1, s1, r1, e0, c1, bnd_s, c4, if_true]
end LC7
