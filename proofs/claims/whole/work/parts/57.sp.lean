/-! strip -/
section SP
variable {M μ μ' m m3 : MM} {A f : Int} {V : FV} {U : Int → Int}
theorem r_hasBay (h1 : m A 1 = vB V) (b : Int) : EE 11 0 [(41, A), (0, b)] [] m = some (b2i (inB V b), m) := by
  rw [q11_0, h1]
  unfold b2i
  repeat' split
  all_goals first | rfl | omega
theorem r_hasLift (h2 : m A 2 = vL V) (l : Int) : EE 13 0 [(41, A), (0, l)] [] m = some (b2i (inL V l), m) := by
  rw [q13_0, h2]
  unfold b2i
  repeat' split
  all_goals first | rfl | omega
theorem c_clearL (hw : WF V) (hA : Fr A) {l : Int} (hl : inL V l) : ∀ b (m : MM), 0 ≤ b → m A 1 = vB V → m A 2 = vL V → m A 10 = A + 5 → EE 25 8 [(41, A), (0, l), (0, b)] [] m = some (0, FLL m (A + 5) (11 * l + b) (11 * l + vB V) (-1)) := by
  have hr := hw.r
  have ha := fr_p hA
  refine up_ind (vB V) (fun b hb m b0 h1 h2 h3 => ?_) (fun b hb ih m b0 h1 h2 h3 => ?_)
  · rw [q25_8, h1, if_neg (by omega), FLL_e _ _ (by omega)]
  · rw [q25_8, h1, if_pos hb, q27_0, r_hasBay h1, bnd_s, b2i_t ⟨b0, hb⟩, if_neg (by omega), r_hasLift h2, bnd_s, b2i_t hl, if_neg (by omega), h3, nnA hA _ (by omega), w32_l (x := 11 * l) (by omega) (by omega), w32_l (x := 11 * l + b) (by omega) (by omega), ix5 hA _ (by omega) (by omega), bnd_s, w32_l (by omega) (by omega), ih _ (by omega) (by rw [up_nc _ _ (by omega)]; exact h1) (by rw [up_nc _ _ (by omega)]; exact h2) (by rw [up_nc _ _ (by omega)]; exact h3), show 11 * l + (b + 1) = 11 * l + b + 1 by omega, FLL_s _ _ (by omega)]
theorem m_stripL (hm : MRf m) {l n : Int} (f0 : 0 ≤ f ∧ f < 3) (hl : 0 ≤ l ∧ l < 6) : ∀ x (m : MM), 0 ≤ x → MRf m → EE 192 134 [(48, 71), (0, f), (0, l), (0, n), (0, x)] [] m = some (n, FLL m 79 (193 * f + 6 + 10 * l + x) (193 * f + 16 + 10 * l) (-1)) := by
  refine up_ind 10 (fun x hx m x0 hm => ?_) (fun x hx ih m x0 hm => ?_)
  · rw [q192_134, if_neg (by omega), FLL_e _ _ (by omega)]
  · rw [q192_134, if_pos hx, hm.c7, nn79, w32_l (x := 193 * f) (by omega) (by omega), w32_l (x := 193 * f + 6) (by omega) (by omega), w32_l (x := 10 * l) (by omega) (by omega), w32_l (x := 193 * f + 6 + 10 * l) (by omega) (by omega), w32_l (x := 193 * f + 6 + 10 * l + x) (by omega) (by omega), jx79 _ (by omega) (by omega), w32_l (by omega) (by omega), ih _ (by omega) (MRf_ag (fun j _ => up_nc _ _ (by omega)) hm), show 193 * f + 6 + 10 * l + (x + 1) = 193 * f + 6 + 10 * l + x + 1 by omega, FLL_s _ _ (by omega)]
def stpM (m3 : MM) (f l : Int) : MM := FLL (up m3 79 (193 * f + l) 0) 79 (193 * f + 6 + 10 * l) (193 * f + 16 + 10 * l) (-1)
theorem m_strip (hw : WF V) (hB : vB V ≠ 0) (hm : MF m f V) (hu : MU m f V U) (k0 : EE 190 0 [(48, 71), (9, 0)] [] m = some (0, m3)) (k1 : ∀ c i, c ≠ 80 → ¬ (c = 71 ∧ i = 10) → m3 c i = m c i) {l : Int} (hl : inL V l) : ∀ b n, 0 ≤ b → 0 ≤ n → n ≤ b → EE 192 50 [(48, 71), (0, f), (0, l), (0, n), (0, b)] [] m = if FU (fun b => U (198 + 11 * l + b) = 1) (-1) b (vB V) ≠ -1 then some (-1000000002, m) else some (n + SM (fun b => b2i (0 ≤ vC V b l)) b (vB V), stpM m3 f l) := by
  have hf := hm.fr
  have hr := hw.r
  have m3f := keep_mf hm k1
  refine up_ind (vB V) (fun b hb n b0 n0 n1 => ?_) (fun b hb ih n b0 n0 n1 => ?_)
  · rw [q192_50, hm.c4, nn76, jx76 _ (by omega) (by omega), hm.B, if_neg (by omega), k0, bnd_s, m3f.c7, nn79, w32_l (x := 193 * f) (by omega) (by omega), w32_l (x := 193 * f + l) (by omega) (by omega), jx79 _ (by omega) (by omega), m_stripL m3f.m hf (by omega) _ _ (by omega) (MRf_ag (fun j _ => up_nc _ _ (by omega)) m3f.m), FU_e hb, if_neg (fun q => q rfl), SM_e hb, Int.add_zero, Int.add_zero]
    rfl
  · have eu := hu.2 (198 + 11 * l + b) (by omega) (by omega)
    have u01 := hu.1 (198 + 11 * l + b)
    rw [q192_50, hm.c4, nn76, jx76 _ (by omega) (by omega), hm.B, if_pos hb, m_boardAt hB hm (by omega) (by omega) (by omega) (by omega), bnd_s, hm.c11, nn82, w32_l (x := 396 * f) (by omega) (by omega), w32_l (x := 396 * f + 198) (by omega) (by omega), w32_l (x := 11 * l) (by omega) (by omega), w32_l (x := 396 * f + 198 + 11 * l) (by omega) (by omega), w32_l (x := 396 * f + 198 + 11 * l + b) (by omega) (by omega), jx82 _ (by omega) (by omega), nn82, jx82 _ (by omega) (by omega), show 396 * f + 198 + 11 * l + b = 396 * f + (198 + 11 * l + b) by omega, eu, Int.add_zero, w32_l (x := n) (by omega) (by omega), w32_l (x := n + 1) (by omega) (by omega), w32_l (x := b + 1) (by omega) (by omega), ih n (by omega) n0 (by omega), ih (n + 1) (by omega) (by omega) (by omega), FU_s hb, SM_s hb]
    by_cases e : U (198 + 11 * l + b) = 0
    · have ne : ¬ U (198 + 11 * l + b) = 1 := by omega
      rw [if_neg ne]
      by_cases q : vC V b l < 0
      · rw [if_pos q, if_pos e, b2i_f (by omega), Int.zero_add]
      · rw [if_neg q, if_pos e, b2i_t (by omega), ← Int.add_assoc]
    · have ne : U (198 + 11 * l + b) = 1 := by omega
      rw [if_pos ne, if_pos (show b ≠ -1 by omega), if_neg e]
      split <;> rfl
end SP
