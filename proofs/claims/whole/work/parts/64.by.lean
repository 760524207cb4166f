/-! bay, drop: the reference -/
abbrev gtm (m : MM) (f b : Int) : Prop := 0 ≤ b ∧ b < m 76 f ∧ m 77 (10 * f + b) = 1
def LTs (m : MM) (f B s : Int) (K : Int → Int) : MM := fun c j => if c = 79 ∧ 193 * f + 126 + s ≤ j ∧ j ≤ 193 * f + 126 + B ∧ K (j - (193 * f + 126) - 1) = 1 ∧ K (j - (193 * f + 126)) = 1 then 0 else m c j
section BY6
variable {M μ μ' m : MM} {f : Int} {V : FV} {K : Int → Int}
theorem r_gate (hm : MRf m) (f0 : 0 ≤ f ∧ f < 3) (hB : m 76 f ≤ 10) (b : Int) : EE 173 0 [(48, 71), (0, f), (0, b)] [] m = some (b2i (gtm m f b), m) := by
  rw [q173_0]
  by_cases e : b < 0
  · rw [if_pos e, b2i_f (by omega)]
  · rw [if_neg e, hm.c4, nn76, jx76 _ f0.1 f0.2]
    by_cases e2 : b < m 76 f
    · rw [if_pos e2, q171_0, hm.c5, nn77, w32_l (x := 10 * f) (by omega) (by omega), w32_l (x := 10 * f + b) (by omega) (by omega), jx77 _ (by omega) (by omega), bnd_s]
      unfold b2i
      repeat' split
      all_goals first | rfl | omega
    · rw [if_neg e2, b2i_f (by omega)]
theorem r_foot (hm : MRf m) (f0 : 0 ≤ f ∧ f < 3) (hB : m 76 f ≤ 10) (hK : ∀ b, K b = 1 ↔ gtm m f b) {s : Int} (s0 : -100 ≤ s) (s1 : s ≤ 100) : EE 174 0 [(48, 71), (0, f), (0, s)] [] m = some (b2i (¬ (K (s - 1) = 1 ∧ K s = 1)), m) := by
  rw [q174_0, w32_l (by omega) (by omega), r_gate hm f0 hB, bnd_s]
  simp only [r_gate hm f0 hB, bnd_s, b2i_0, ← hK]
  by_cases e1 : K (s - 1) = 1
  · rw [if_neg (fun q => q e1)]
    by_cases e2 : K s = 1
    · rw [if_neg (fun q => q e2), b2i_f (fun q => q ⟨e1, e2⟩)]
    · rw [if_pos e2, b2i_t (show ¬ (K (s - 1) = 1 ∧ K s = 1) from fun q => e2 q.2)]
  · rw [if_pos e1, b2i_t (show ¬ (K (s - 1) = 1 ∧ K s = 1) from fun q => e1 q.1)]
theorem m_loseTies (f0 : 0 ≤ f ∧ f < 3) {B : Int} (B0 : 0 ≤ B) (B1 : B ≤ 10) : ∀ s (m : MM), 0 ≤ s → MRf m → m 76 f = B → (∀ b, K b = 1 ↔ gtm m f b) → EE 186 2 [(48, 71), (0, f), (0, s)] [] m = some (0, LTs m f B s K) := by
  refine up_ind (B + 1) (fun s hs m s0 hm hB hK => ?_) (fun s hs ih m s0 hm hB hK => ?_)
  · have e : LTs m f B s K = m := by
      funext c j
      unfold LTs
      exact if_neg (fun q => by omega)
    rw [q186_2, hm.c4, nn76, jx76 _ f0.1 f0.2, hB, if_pos (by omega), e]
  · rw [q186_2, hm.c4, nn76, jx76 _ f0.1 f0.2, hB, if_neg (by omega), r_foot hm f0 (by omega) hK (by omega) (by omega), bnd_s]
    have j1 : 193 * f + 126 + s - (193 * f + 126) - 1 = s - 1 := by omega
    have j2 : 193 * f + 126 + s - (193 * f + 126) = s := by omega
    by_cases g : K (s - 1) = 1 ∧ K s = 1
    · have e : LTs (up m 79 (193 * f + 126 + s) 0) f B (s + 1) K = LTs m f B s K := by
        funext c j
        unfold LTs
        by_cases q : c = 79 ∧ j = 193 * f + 126 + s
        · rw [if_neg (fun z => by omega), q.1, q.2, up_s, if_pos ⟨rfl, by omega, by omega, by rw [j1]; exact g.1, by rw [j2]; exact g.2⟩]
        · rw [up_n _ _ (by omega)]
          by_cases z : c = 79 ∧ 193 * f + 126 + s ≤ j ∧ j ≤ 193 * f + 126 + B ∧ K (j - (193 * f + 126) - 1) = 1 ∧ K (j - (193 * f + 126)) = 1
          · rw [if_pos z, if_pos ⟨z.1, by omega, z.2.2⟩]
          · rw [if_neg z, if_neg (fun y => z ⟨y.1, by omega, y.2.2⟩)]
      have hm2 : MRf (up m 79 (193 * f + 126 + s) 0) := MRf_ag (fun j _ => up_nc _ _ (by omega)) hm
      have hB2 : up m 79 (193 * f + 126 + s) 0 76 f = B := by rw [up_nc _ _ (by omega), hB]
      have hK2 : ∀ b, K b = 1 ↔ gtm (up m 79 (193 * f + 126 + s) 0) f b := by
        intro b
        unfold gtm
        rw [up_nc _ _ (by omega), up_nc _ _ (by omega)]
        exact hK b
      rw [b2i_f (fun q => q g), if_pos rfl, hm.c7, nn79, w32_l (x := 193 * f) (by omega) (by omega), w32_l (x := 193 * f + 126) (by omega) (by omega), w32_l (x := 193 * f + 126 + s) (by omega) (by omega), jx79 _ (by omega) (by omega), w32_l (by omega) (by omega), ih _ (by omega) hm2 hB2 hK2, e]
    · have e : LTs m f B (s + 1) K = LTs m f B s K := by
        funext c j
        unfold LTs
        by_cases z : c = 79 ∧ 193 * f + 126 + s ≤ j ∧ j ≤ 193 * f + 126 + B ∧ K (j - (193 * f + 126) - 1) = 1 ∧ K (j - (193 * f + 126)) = 1
        · have hj : j ≠ 193 * f + 126 + s := by
            intro q
            obtain ⟨_, _, _, z3, z4⟩ := z
            rw [q, j1] at z3
            rw [q, j2] at z4
            exact g ⟨z3, z4⟩
          rw [if_pos z, if_pos ⟨z.1, by omega, z.2.2⟩]
        · rw [if_neg z, if_neg (fun y => z ⟨y.1, by omega, y.2.2⟩)]
      rw [b2i_t g, if_neg (by omega), w32_l (by omega) (by omega), ih _ (by omega) hm hB hK, e]
/-- the plan behind emptyBay, emptyTies, loseTies -/
theorem EL_p {X Y : MM} {b s0 B : Int} (b0 : 0 ≤ b ∧ b < 10) (q0 : 0 ≤ s0 ∧ s0 < 11) (hB : B ≤ 10) (hY : ∀ j, Y 79 j = ETi (EBy X f b 0) f s0 0 79 j) :
    (∀ x l, 0 ≤ x → x < 10 → 0 ≤ l → l < 6 → LTs Y f B 0 K 79 (193 * f + 6 + 10 * l + x) = if x = b then -1 else X 79 (193 * f + 6 + 10 * l + x)) ∧
    (∀ x l, 0 ≤ x → x < 10 → 0 ≤ l → l < 6 → LTs Y f B 0 K 79 (193 * f + 66 + 10 * l + x) = if x = b then 0 else X 79 (193 * f + 66 + 10 * l + x)) ∧
    (∀ s l, 0 ≤ s → s < 11 → 0 ≤ l → l < 6 → LTs Y f B 0 K 79 (193 * f + 126 + 11 * l + s) = if s = s0 then 0 else if l = 0 ∧ s ≤ B ∧ K (s - 1) = 1 ∧ K s = 1 then 0 else X 79 (193 * f + 126 + 11 * l + s)) ∧
    (∀ j, ¬ (193 * f + 6 ≤ j ∧ j < 193 * f + 192) → LTs Y f B 0 K 79 j = X 79 j) := by
  refine ⟨fun x l x0 x1 l0 l1 => ?_, fun x l x0 x1 l0 l1 => ?_, fun s l x0 x1 l0 l1 => ?_, fun j q => ?_⟩
  · unfold LTs
    rw [if_neg (fun z => by omega), hY]
    unfold ETi EBy
    rw [if_neg (by omega)]
    by_cases q : x = b
    · rw [if_pos q, if_pos (by omega)]
    · rw [if_neg q, if_neg (by omega), if_neg (by omega)]
  · unfold LTs
    rw [if_neg (fun z => by omega), hY]
    unfold ETi EBy
    rw [if_neg (by omega), if_neg (by omega)]
    by_cases q : x = b
    · rw [if_pos q, if_pos (by omega)]
    · rw [if_neg q, if_neg (by omega)]
  · have e79 : Y 79 (193 * f + 126 + 11 * l + s) = if s = s0 then 0 else X 79 (193 * f + 126 + 11 * l + s) := by
      rw [hY]
      unfold ETi EBy
      by_cases q : s = s0
      · rw [if_pos q, if_pos (by omega)]
      · rw [if_neg q, if_neg (by omega), if_neg (by omega), if_neg (by omega)]
    unfold LTs
    rw [e79]
    by_cases q : l = 0
    · have j1 : 193 * f + 126 + 11 * l + s - (193 * f + 126) - 1 = s - 1 := by omega
      have j2 : 193 * f + 126 + 11 * l + s - (193 * f + 126) = s := by omega
      rw [j1, j2]
      by_cases g : s ≤ B ∧ K (s - 1) = 1 ∧ K s = 1
      · rw [if_pos ⟨rfl, by omega, by omega, g.2⟩, if_pos (show l = 0 ∧ s ≤ B ∧ K (s - 1) = 1 ∧ K s = 1 from ⟨q, g⟩)]
        split <;> rfl
      · rw [if_neg (fun y => g ⟨by omega, y.2.2.2⟩), if_neg (show ¬ (l = 0 ∧ s ≤ B ∧ K (s - 1) = 1 ∧ K s = 1) from fun y => g y.2)]
    · rw [if_neg (fun y => by omega), if_neg (show ¬ (l = 0 ∧ s ≤ B ∧ K (s - 1) = 1 ∧ K s = 1) from fun y => q y.1)]
  · unfold LTs
    rw [if_neg (fun z => by omega), hY]
    unfold ETi EBy
    rw [if_neg (by omega), if_neg (by omega), if_neg (by omega)]
theorem LTs_n {B s : Int} {c j : Int} (h : c ≠ 79) : LTs m f B s K c j = m c j := if_neg (fun q => h q.1)
theorem ETi_n {s l c j : Int} (h : c ≠ 79) : ETi m f s l c j = m c j := if_neg (fun q => h q.1)
theorem EBy_n {b l c j : Int} (h : c ≠ 79) : EBy m f b l c j = m c j := by
  unfold EBy
  rw [if_neg (fun q => h q.1), if_neg (fun q => h q.1)]
theorem LTs_o {B s : Int} {c j : Int} (h : ¬ (193 * f ≤ j ∧ j < 193 * f + 193)) (s0 : 0 ≤ s) (hB : B ≤ 10) : LTs m f B s K c j = m c j := if_neg (fun q => by omega)
theorem m_bay (hm : MRf m) (f0 : 0 ≤ f ∧ f < 3) {B kd w : Int} (hB : m 76 f = B) (B0 : 1 ≤ B) (B1 : B < 10) (hK : ∀ b, K b = 1 ↔ 0 ≤ b ∧ b < B + 1 ∧ (if b = B then kd else m 77 (10 * f + b)) = 1) : ∃ m2, EE 188 80 [(48, 71), (0, f), (0, kd), (0, w), (0, B)] [] (up m 76 f (B + 1)) = some (B, m2) ∧ (∀ c i, ¬ (c = 76 ∧ i = f) → ¬ (77 ≤ c ∧ c ≤ 78 ∧ i = 10 * f + B) → c ≠ 79 → ¬ (c = 71 ∧ i = 10) → m2 c i = m c i) ∧ m2 76 f = B + 1 ∧ m2 77 (10 * f + B) = kd ∧ m2 78 (10 * f + B) = w ∧ m2 71 10 = 0 ∧
    (∀ x l, 0 ≤ x → x < 10 → 0 ≤ l → l < 6 → m2 79 (193 * f + 6 + 10 * l + x) = if x = B then -1 else m 79 (193 * f + 6 + 10 * l + x)) ∧
    (∀ x l, 0 ≤ x → x < 10 → 0 ≤ l → l < 6 → m2 79 (193 * f + 66 + 10 * l + x) = if x = B then 0 else m 79 (193 * f + 66 + 10 * l + x)) ∧
    (∀ s l, 0 ≤ s → s < 11 → 0 ≤ l → l < 6 → m2 79 (193 * f + 126 + 11 * l + s) = if s = B + 1 then 0 else if l = 0 ∧ s ≤ B + 1 ∧ K (s - 1) = 1 ∧ K s = 1 then 0 else m 79 (193 * f + 126 + 11 * l + s)) ∧
    (∀ j, ¬ (193 * f + 6 ≤ j ∧ j < 193 * f + 192) → m2 79 j = m 79 j) := by
  have x10 : w32 (10 * f) = 10 * f := w32_l (by omega) (by omega)
  have x11 : w32 (10 * f + B) = 10 * f + B := w32_l (by omega) (by omega)
  have b0 : ∀ i, up m 76 f (B + 1) 71 i = m 71 i := fun i => up_nc _ _ (by omega)
  have b1 : ∀ i, up (up m 76 f (B + 1)) 77 (10 * f + B) kd 71 i = m 71 i := fun i => by rw [up_nc _ _ (by omega), b0]
  have b2 : ∀ i, up (up (up m 76 f (B + 1)) 77 (10 * f + B) kd) 78 (10 * f + B) w 71 i = m 71 i := fun i => by rw [up_nc _ _ (by omega), b1]
  rw [q188_80, b0, hm.c5, nn77, x10, x11, jx77 _ (by omega) (by omega), q188_93, b1, hm.c6, nn78, x10, x11, jx78 _ (by omega) (by omega), q188_106]
  generalize hm0 : up (up (up m 76 f (B + 1)) 77 (10 * f + B) kd) 78 (10 * f + B) w = m0
  have hq0 : MRf m0 := MRf_ag (fun i _ => by rw [← hm0, b2]) hm
  have a0 : ∀ c i, ¬ (c = 76 ∧ i = f) → ¬ (77 ≤ c ∧ c ≤ 78 ∧ i = 10 * f + B) → m0 c i = m c i := fun c i p q => by rw [← hm0, up_n _ _ (by omega), up_n _ _ (by omega), up_n _ _ (by omega)]
  have w6 : m0 76 f = B + 1 := by rw [← hm0, up_nc _ _ (by omega), up_nc _ _ (by omega), up_s]
  have w7 : m0 77 (10 * f + B) = kd := by rw [← hm0, up_nc _ _ (by omega), up_s]
  have w8 : m0 78 (10 * f + B) = w := by rw [← hm0, up_s]
  have hq1 : MRf (EBy m0 f B 0) := EBy_m hq0
  have hq2 : MRf (ETi (EBy m0 f B 0) f (B + 1) 0) := MRf_ag (fun i _ => ETi_n (by omega)) hq1
  have n2 : ∀ c i, c ≠ 79 → ETi (EBy m0 f B 0) f (B + 1) 0 c i = m0 c i := fun c i q => by rw [ETi_n q, EBy_n q]
  have hK2 : ∀ b, K b = 1 ↔ gtm (ETi (EBy m0 f B 0) f (B + 1) 0) f b := by
    intro b
    unfold gtm
    rw [n2 _ _ (by omega), n2 _ _ (by omega), w6, hK b]
    by_cases q : b = B
    · rw [if_pos q, q, w7]
    · rw [if_neg q, a0 _ _ (by omega) (by omega)]
  rw [q184_0, m_emptyBay f0 ⟨by omega, B1⟩ _ _ (by omega) hq0, bnd_s, q185_0, w32_l (x := B + 1) (by omega) (by omega), m_emptyTies f0 ⟨by omega, by omega⟩ _ _ (by omega) hq1, bnd_s, q186_0, m_loseTies (K := K) f0 (B := B + 1) (by omega) (by omega) _ _ (by omega) hq2 (by rw [n2 _ _ (by omega), w6]) hK2, bnd_s, q188_132]
  obtain ⟨y1, y2, y3, y4⟩ := EL_p (f := f) (K := K) (X := m0) (Y := ETi (EBy m0 f B 0) f (B + 1) 0) (b := B) (s0 := B + 1) (B := B + 1) ⟨by omega, B1⟩ ⟨by omega, by omega⟩ (by omega) (fun _ => rfl)
  have a79 : ∀ j, m0 79 j = m 79 j := fun j => a0 _ _ (by omega) (by omega)
  have all : ∀ c i, c ≠ 79 → ¬ (c = 71 ∧ i = 10) → up (LTs (ETi (EBy m0 f B 0) f (B + 1) 0) f (B + 1) 0 K) 71 10 0 c i = m0 c i := fun c i p q => by rw [up_n _ _ (by omega), LTs_n p, n2 c i p]
  refine ⟨_, rfl, fun c i p q r s => ?_, ?_, ?_, ?_, up_s _ _ _ _, fun x l c1 c2 c3 c4 => ?_, fun x l c1 c2 c3 c4 => ?_, fun x l c1 c2 c3 c4 => ?_, fun j q => ?_⟩
  · rw [all c i r s, a0 c i p q]
  · rw [all _ _ (by omega) (by omega), w6]
  · rw [all _ _ (by omega) (by omega), w7]
  · rw [all _ _ (by omega) (by omega), w8]
  · rw [up_nc _ _ (by omega), y1 x l c1 c2 c3 c4, a79]
  · rw [up_nc _ _ (by omega), y2 x l c1 c2 c3 c4, a79]
  · rw [up_nc _ _ (by omega), y3 x l c1 c2 c3 c4, a79]
  · rw [up_nc _ _ (by omega), y4 j q, a79]
theorem m_drop (hm : MRf m) (f0 : 0 ≤ f ∧ f < 3) {B w : Int} (hB : m 76 f = B) (B0 : 2 ≤ B) (B1 : B ≤ 10) (hK : ∀ b, K b = 1 ↔ 0 ≤ b ∧ b < B - 1 ∧ m 77 (10 * f + b) = 1) : ∃ m2, (bnd (EE 184 0 [(48, 71), (0, f), (0, (w32 (m 76 f - 1))), (9, 0)] [] m) (fun _ m8 => (bnd (EE 185 0 [(48, 71), (0, f), (0, (w32 ((w32 (m 76 f - 1)) + 1))), (9, 0)] [] m8) (fun _ m10 => (nn (m10 71 4) (ix (m10 71 4) f (nn (m10 71 4) (ix (m10 71 4) f (EE 189 71 [(48, 71), (0, f), (0, (w32 (m 76 f - 1))), (0, w)] [] (up m10 (m10 71 4) f (w32 ((m10 (m10 71 4) f) - 1)))))))))))) = some (w, m2) ∧ (∀ c i, ¬ (c = 76 ∧ i = f) → c ≠ 79 → ¬ (c = 71 ∧ i = 10) → m2 c i = m c i) ∧ m2 76 f = B - 1 ∧ m2 71 10 = 0 ∧
    (∀ x l, 0 ≤ x → x < 10 → 0 ≤ l → l < 6 → m2 79 (193 * f + 6 + 10 * l + x) = if x = B - 1 then -1 else m 79 (193 * f + 6 + 10 * l + x)) ∧
    (∀ x l, 0 ≤ x → x < 10 → 0 ≤ l → l < 6 → m2 79 (193 * f + 66 + 10 * l + x) = if x = B - 1 then 0 else m 79 (193 * f + 66 + 10 * l + x)) ∧
    (∀ s l, 0 ≤ s → s < 11 → 0 ≤ l → l < 6 → m2 79 (193 * f + 126 + 11 * l + s) = if s = B then 0 else if l = 0 ∧ s ≤ B - 1 ∧ K (s - 1) = 1 ∧ K s = 1 then 0 else m 79 (193 * f + 126 + 11 * l + s)) ∧
    (∀ j, ¬ (193 * f + 6 ≤ j ∧ j < 193 * f + 192) → m2 79 j = m 79 j) := by
  have x1 : w32 (B - 1) = B - 1 := w32_l (by omega) (by omega)
  have x2 : w32 (B - 1 + 1) = B := by
    rw [w32_l (by omega) (by omega)]
    omega
  have hq1 : MRf (EBy m f (B - 1) 0) := EBy_m hm
  have hq2 : MRf (ETi (EBy m f (B - 1) 0) f B 0) := MRf_ag (fun i _ => ETi_n (by omega)) hq1
  have n2 : ∀ c i, c ≠ 79 → ETi (EBy m f (B - 1) 0) f B 0 c i = m c i := fun c i q => by rw [ETi_n q, EBy_n q]
  rw [hB, x1, x2, q184_0, m_emptyBay f0 ⟨by omega, by omega⟩ _ _ (by omega) hm, bnd_s, q185_0, m_emptyTies f0 ⟨by omega, by omega⟩ _ _ (by omega) hq1, bnd_s, hq2.c4, nn76, jx76 _ f0.1 f0.2, nn76, jx76 _ f0.1 f0.2, n2 76 f (by omega), hB, x1, q189_71]
  generalize hm0 : up (ETi (EBy m f (B - 1) 0) f B 0) 76 f (B - 1) = m0
  have hq0 : MRf m0 := MRf_ag (fun i _ => by rw [← hm0, up_nc _ _ (by omega)]) hq2
  have a0 : ∀ c i, ¬ (c = 76 ∧ i = f) → c ≠ 79 → m0 c i = m c i := fun c i p q => by rw [← hm0, up_n _ _ (by omega), n2 c i q]
  have w6 : m0 76 f = B - 1 := by rw [← hm0, up_s]
  have hK2 : ∀ b, K b = 1 ↔ gtm m0 f b := by
    intro b
    unfold gtm
    rw [w6, a0 _ _ (by omega) (by omega), hK b]
  rw [q186_0, m_loseTies (K := K) f0 (B := B - 1) (by omega) (by omega) _ _ (by omega) hq0 w6 hK2, bnd_s, q189_81]
  obtain ⟨y1, y2, y3, y4⟩ := EL_p (f := f) (K := K) (X := m) (Y := m0) (b := B - 1) (s0 := B) (B := B - 1) ⟨by omega, by omega⟩ ⟨by omega, by omega⟩ (by omega) (fun j => by rw [← hm0, up_nc _ _ (by omega)])
  have all : ∀ c i, c ≠ 79 → ¬ (c = 71 ∧ i = 10) → up (LTs m0 f (B - 1) 0 K) 71 10 0 c i = m0 c i := fun c i p q => by rw [up_n _ _ (by omega), LTs_n p]
  refine ⟨_, rfl, fun c i p r s => ?_, ?_, up_s _ _ _ _, fun x l c1 c2 c3 c4 => ?_, fun x l c1 c2 c3 c4 => ?_, fun x l c1 c2 c3 c4 => ?_, fun j q => ?_⟩
  · rw [all c i r s, a0 c i p r]
  · rw [all _ _ (by omega) (by omega), w6]
  · rw [up_nc _ _ (by omega), y1 x l c1 c2 c3 c4]
  · rw [up_nc _ _ (by omega), y2 x l c1 c2 c3 c4]
  · rw [up_nc _ _ (by omega), y3 x l c1 c2 c3 c4]
  · rw [up_nc _ _ (by omega), y4 j q]
end BY6
