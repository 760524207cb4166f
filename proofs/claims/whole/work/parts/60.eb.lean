/-! a bay emptied, in the reference -/
def EBy (m : MM) (f b l : Int) : MM := fun c j => if c = 79 ∧ 193 * f + 6 + 10 * l ≤ j ∧ j < 193 * f + 66 ∧ (j - (193 * f + 6)) % 10 = b then -1 else if c = 79 ∧ 193 * f + 66 + 10 * l ≤ j ∧ j < 193 * f + 126 ∧ (j - (193 * f + 66)) % 10 = b then 0 else m c j
def ETi (m : MM) (f s l : Int) : MM := fun c j => if c = 79 ∧ 193 * f + 126 + 11 * l ≤ j ∧ j < 193 * f + 192 ∧ (j - (193 * f + 126)) % 11 = s then 0 else m c j
section EB9
variable {f b : Int}
theorem m_emptyTies (f0 : 0 ≤ f ∧ f < 3) {s : Int} (s0 : 0 ≤ s ∧ s < 11) : ∀ l (m : MM), 0 ≤ l → MRf m → EE 185 2 [(48, 71), (0, f), (0, s), (0, l)] [] m = some (0, ETi m f s l) := by
  refine up_ind 6 (fun l hl m l0 hm => ?_) (fun l hl ih m l0 hm => ?_)
  · rw [q185_2, if_neg (by omega)]
    have e : ETi m f s l = m := by
      funext c j
      exact if_neg (by omega)
    rw [e]
  · have e : ETi (up m 79 (193 * f + 126 + 11 * l + s) 0) f s (l + 1) = ETi m f s l := by
      funext c j
      unfold ETi
      by_cases q : c = 79 ∧ j = 193 * f + 126 + 11 * l + s
      · rw [if_neg (by omega), if_pos (by omega), q.1, q.2, up_s]
      · rw [up_n _ _ (by omega)]
        by_cases q2 : c = 79 ∧ 193 * f + 126 + 11 * l ≤ j ∧ j < 193 * f + 192 ∧ (j - (193 * f + 126)) % 11 = s
        · rw [if_pos q2, if_pos (by omega)]
        · rw [if_neg q2, if_neg (by omega)]
    rw [q185_2, if_pos hl, hm.c7, nn79, w32_l (x := 193 * f) (by omega) (by omega), w32_l (x := 193 * f + 126) (by omega) (by omega), w32_l (x := 11 * l) (by omega) (by omega), w32_l (x := 193 * f + 126 + 11 * l) (by omega) (by omega), w32_l (x := 193 * f + 126 + 11 * l + s) (by omega) (by omega), jx79 _ (by omega) (by omega), w32_l (by omega) (by omega), ih _ (by omega) (MRf_ag (fun j _ => up_nc _ _ (by omega)) hm), e]
end EB9
