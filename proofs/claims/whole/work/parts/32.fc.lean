/-! what comes down at a foot: the class -/
def bA (μ μ' : MM) : Prop := ∀ c i, ¬ (c = 8 ∧ i ≤ 1) → μ' c i = μ c i
theorem bA_r (μ : MM) : bA μ μ := fun _ _ _ => rfl
def fin (μ : MM) (all t : Int) : MM := if 0 < t then up (up μ 8 0 (μ 8 0 * 2 * all + t * μ 8 1)) 8 1 (μ 8 1 * 2 * all) else μ
section FC
variable {μ μ' : MM} {A : Int} {V : FV}
theorem bA_t {μ'' : MM} (h1 : bA μ μ') (h2 : bA μ' μ'') : bA μ μ'' := fun c i q => (h2 c i q).trans (h1 c i q)
theorem bA_sA (h : bA μ μ') : sA μ μ' := fun c i q => h c i (by omega)
theorem bA_GS (e : bA μ μ') (h : GS μ) : GS μ' := GS_ag (fun c i q => e c i (by omega)) h
theorem bA_CF (e : bA μ μ') (h : CF μ A V) : CF μ' A V := CF_ag (fun c i q => e c i (by have := fr_p h.fr; omega)) h
theorem fin_bA (μ : MM) (all t : Int) : bA μ (fin μ all t) := by
  unfold fin
  split
  · intro c i q
    rw [up_n _ _ (by omega), up_n _ _ (by omega)]
  · exact bA_r μ
theorem fin_0 (μ : MM) (all t : Int) : fin μ all t 8 0 = (if 0 < t then μ 8 0 * 2 * all + t * μ 8 1 else μ 8 0) ∧ fin μ all t 8 1 = (if 0 < t then μ 8 1 * 2 * all else μ 8 1) := by
  unfold fin
  by_cases e : 0 < t
  · rw [if_pos e, if_pos e, if_pos e]
    exact ⟨by rw [up_ni _ _ (by omega), up_s], by rw [up_s]⟩
  · rw [if_neg e, if_neg e, if_neg e]
    exact ⟨rfl, rfl⟩
abbrev TW (μ : MM) (V : FV) : Prop := ∀ j, 0 ≤ j → j ≤ vB V → μ 10 j = tl V j
theorem c_weigh (hw : WF V) (hB : vB V ≠ 0) : ∀ i (μ : MM), 0 ≤ i → GS μ → CF μ A V → ∃ μ', EE 66 2 [(43, 8), (11, A), (0, i)] [] μ = some (0, μ') ∧ (∀ c j, c ≠ 10 → μ' c j = μ c j) ∧ (∀ j, i ≤ j → j ≤ vB V → μ' 10 j = tl V j) ∧ ∀ j, j < i → μ' 10 j = μ 10 j := by
  have hr := hw.r
  refine up_ind (vB V + 1) ?_ ?_
  · intro i hi μ i0 hs h
    rw [q66_2, nA0 h.fr, h.c1, if_pos (by omega)]
    exact ⟨μ, rfl, fun _ _ _ => rfl, fun j a b => by omega, fun _ _ => rfl⟩
  · intro i hi ih μ i0 hs h
    obtain ⟨m1, x1, x2, x3, x4⟩ := ih (up μ 10 i (tl V i)) (by omega) (GS_ag (fun c i q => up_nc _ _ (by omega)) hs) (CF_ag (fun c i q => up_nc _ _ (by have := fr_p h.fr; omega)) h)
    refine ⟨m1, ?_, fun c j q => ?_, fun j a b => ?_, fun j a => ?_⟩
    · rw [q66_2, nA0 h.fr, h.c1, if_neg (by omega), hs.2.2.1.2.2.1, nn10, cle10, if_pos (by omega), nA0 h.fr, c_twiceLoad hw h i0 (by omega) hB, bnd_s, nn10, jx10 _ (by omega) (by omega), w32_l (by omega) (by omega), x1]
    · rw [x2 c j q, up_nc _ _ q]
    · by_cases e : j = i
      · subst e
        rw [x4 _ (by omega), up_s]
      · exact x3 j (by omega) b
    · rw [x4 j (by omega), up_ni _ _ (by omega)]
theorem c_footL2 (hw : WF V) (hs : GS μ) (h : CF μ A V) (tw : TW μ V) {s e all mx lo : Int} (G : Int → Int) (hm : (if s < e then e else s) = mx) (hx : mx ≤ vB V) (l0 : 0 ≤ lo) (hG : ∀ j, lo ≤ j → j < mx → EE 22 0 [(41, A), (0, j), (0, e), (9, 0), (9, 0)] [] μ = some (G j, μ) ∧ 0 ≤ G j ∧ G j ≤ 1000)
    (ha : 0 ≤ all ∧ all ≤ 1000) (h80 : 0 ≤ μ 8 0 ∧ μ 8 0 ≤ 1000000000) (h81 : 0 ≤ μ 8 1 ∧ μ 8 1 ≤ 10000000) : ∀ i acc d3, lo ≤ i → i ≤ 12 → 0 ≤ acc → acc ≤ 4056000 * i → EE 68 39 [(43, 8), (11, A), (0, s), d3, (0, e), (1, all), (9, 0), (1, acc), (9, 0), (0, i)] [] μ = some (0, fin μ all (acc + SM (fun j => tl V j * G j) i mx)) := by
  have hr := hw.r
  refine up_ind mx ?_ ?_
  · intro i hi acc d3 i0 i1 a0 a1
    have p1 := mul_b (a := μ 8 0 * 2) (b := all) (c := 2000000000) (d := 1000) (by omega) (by omega) (by omega) (by omega)
    have p2 := mul_b (a := acc) (b := μ 8 1) (c := 48672000) (d := 10000000) (by omega) (by omega) (by omega) (by omega)
    have p3 := mul_b (a := μ 8 1 * 2) (b := all) (c := 20000000) (d := 1000) (by omega) (by omega) (by omega) (by omega)
    rw [q68_39, hm, if_neg (by omega), SM_e hi, Int.add_zero]
    unfold fin
    by_cases z : 0 < acc
    · rw [if_pos (sgp.2 z), if_pos z, up_ni _ _ (by omega), w64_l (x := μ 8 0 * 2) (by omega) (by omega), w64_l (x := μ 8 0 * 2 * all) (by omega) (by omega), w64_l (x := acc * μ 8 1) (by omega) (by omega), w64_l (x := μ 8 0 * 2 * all + acc * μ 8 1) (by omega) (by omega), w64_l (x := μ 8 1 * 2) (by omega) (by omega), w64_l (x := μ 8 1 * 2 * all) (by omega) (by omega)]
    · rw [if_neg (fun q => z (sgp.1 q)), if_neg z]
  · intro i hi ih acc d3 i0 i1 a0 a1
    obtain ⟨g1, g2, g3⟩ := hG i i0 hi
    have t := tl_r hw i
    have p := mul_b (a := tl V i) (b := G i) (c := 4056) (d := 1000) (by omega) (by omega) (by omega) (by omega)
    rw [q68_39, hm, if_pos hi, hs.2.2.1.2.2.1, nn10, cle10, if_pos (by omega), nn10, jx10 _ (by omega) (by omega), nA0 h.fr, g1, bnd_s, tw i (by omega) (by omega), w64_l (x := tl V i * G i) (by omega) (by omega), w64_l (by omega) (by omega), w32_l (by omega) (by omega), ih _ _ (by omega) (by omega) (by omega) (by omega), SM_s hi, Int.add_assoc]
theorem sgL_e (hw : WF V) {s : Int} (s0 : 0 < s) (s1 : s ≤ vB V) : SM (hgL V s) 0 (vB V + 1) = SM (fun j => tl V j * SM (vW V) (eL V s) j) (eL V s + 1) s := by
  have e := eL_p hw s0
  rw [SM_sp (m := eL V s + 1) (by omega) 0 (by omega), SM_sp (m := s) (by omega) (eL V s + 1) (by omega), SM_0 (f := hgL V s) 0 (fun j _ _ => if_neg (by omega)), SM_0 (f := hgL V s) s (fun j _ _ => if_neg (by omega)), Int.zero_add, Int.add_zero]
  exact SM_c _ (fun j _ _ => if_pos (by omega))
theorem sgR_e (hw : WF V) {s : Int} (s0 : 0 ≤ s) (s1 : s < vB V) : SM (hgR V s) 0 (vB V + 1) = SM (fun j => tl V j * SM (vW V) j (eR V s)) (s + 1) (eR V s) := by
  have e := eR_p hw s1
  rw [SM_sp (m := s + 1) (by omega) 0 (by omega), SM_sp (m := eR V s) (by omega) (s + 1) (by omega), SM_0 (f := hgR V s) 0 (fun j _ _ => if_neg (by omega)), SM_0 (f := hgR V s) (eR V s) (fun j _ _ => if_neg (by omega)), Int.zero_add, Int.add_zero]
  exact SM_c _ (fun j _ _ => if_pos (by omega))
theorem c_addL (hw : WF V) (hs : GS μ) (h : CF μ A V) (tw : TW μ V) {s : Int} (s0 : 0 ≤ s) (s1 : s ≤ vB V) (h80 : 0 ≤ μ 8 0 ∧ μ 8 0 ≤ 1000000000) (h81 : 0 ≤ μ 8 1 ∧ μ 8 1 ≤ 10000000) : EE 68 0 [(43, 8), (11, A), (0, s), (0, -1), (9, 0), (9, 0), (9, 0), (9, 0), (9, 0), (9, 0)] [] μ = some (0, fin μ (aL V s) (SM (hgL V s) 0 (vB V + 1))) := by
  have hr := hw.r
  rw [q68_0, nA0 h.fr, w32_l (by omega) (by omega), q21_0, c_footL hw h _ _ _ (by omega) (by omega) (by omega), bnd_s, show LF V (s + -1) = eL V s from rfl]
  by_cases z : s = 0
  · subst z
    rw [eL_0, if_pos (by omega), SM_0 (f := hgL V 0) 0 (fun j j0 _ => if_neg (by omega))]
    rfl
  · have e := eL_p hw (s := s) (by omega)
    have w := sW_r hw (a := eL V s) (b := s) (by omega) (by omega) (by omega)
    have ea : aL V s = SM (vW V) (eL V s) s := if_neg (by omega)
    rw [if_neg (by omega), nA0 h.fr, c_spanR hw h (by omega) (by omega) (by omega), bnd_s, if_pos (by omega), w32_l (by omega) (by omega), c_footL2 hw hs h tw (mx := s) (lo := eL V s + 1) (fun j => SM (vW V) (eL V s) j) (if_neg (by omega)) s1 (by omega) (fun j j0 j1 => ⟨c_spanR hw h (by omega) (by omega) (by omega), by
      have := sW_r hw (a := eL V s) (b := j) (by omega) (by omega) (by omega)
      omega⟩) (by omega) h80 h81 _ _ _ (by omega) (by omega) (by omega) (by omega), Int.zero_add, ea, sgL_e hw (by omega) s1]
theorem c_addR (hw : WF V) (hs : GS μ) (h : CF μ A V) (tw : TW μ V) {s : Int} (s0 : 0 ≤ s) (s1 : s ≤ vB V) (h80 : 0 ≤ μ 8 0 ∧ μ 8 0 ≤ 1000000000) (h81 : 0 ≤ μ 8 1 ∧ μ 8 1 ≤ 10000000) : EE 68 0 [(43, 8), (11, A), (0, s), (0, 1), (9, 0), (9, 0), (9, 0), (9, 0), (9, 0), (9, 0)] [] μ = some (0, fin μ (aR V s) (SM (hgR V s) 0 (vB V + 1))) := by
  have hr := hw.r
  rw [q68_0, nA0 h.fr, w32_l (by omega) (by omega), q21_0, c_footR hw h _ _ _ (by omega) (by omega) (by omega), bnd_s, show RF V (s + 1) = eR V s from rfl]
  by_cases z : s = vB V
  · subst z
    rw [eR_B, if_pos (by omega), SM_0 (f := hgR V (vB V)) 0 (fun j j0 _ => if_neg (by rw [eR_B]; omega))]
    rfl
  · have e := eR_p hw (s := s) (by omega)
    have w := sW_r hw (a := s) (b := eR V s) (by omega) (by omega) (by omega)
    have ea : aR V s = SM (vW V) s (eR V s) := if_neg (by omega)
    rw [if_neg (by omega), nA0 h.fr, c_span hw h (by omega) (by omega) (by omega), bnd_s, if_neg (by omega), w32_l (by omega) (by omega), c_footL2 hw hs h tw (mx := eR V s) (lo := s + 1) (fun j => SM (vW V) j (eR V s)) (if_pos (by omega)) (by omega) (by omega) (fun j j0 j1 => ⟨c_span hw h (by omega) (by omega) (by omega), by
      have := sW_r hw (a := j) (b := eR V s) (by omega) (by omega) (by omega)
      omega⟩) (by omega) h80 h81 _ _ _ (by omega) (by omega) (by omega) (by omega), Int.zero_add, ea, sgR_e hw s0 (by omega)]
theorem c_reckonFoot (hw : WF V) (hs : GS μ) (h : CF μ A V) (tw : TW μ V) {s : Int} (s0 : 0 ≤ s) (s1 : s ≤ vB V) : ∃ μ', EE 67 0 [(43, 8), (11, A), (0, s), (9, 0), (9, 0)] [] μ = some (0, μ') ∧ bA μ μ' ∧ μ' 8 0 = AB V s ∧ μ' 8 1 = BE V s := by
  have hr := hw.r
  have ht := tl_r hw s
  have hL := aL_r hw s0 s1
  have hR := aR_r hw s0 s1
  have tL := sgL_r hw s0 s1 (k := vB V + 1) (by omega) (by omega)
  have tR := sgR_r hw s0 s1 (k := vB V + 1) (by omega) (by omega)
  have hN := fN_r hw s0 s1 (k := vB V + 1) (by omega) (by omega)
  have hD := fD2_r hw s0 s1
  have a0 : bA μ (up (up μ 8 0 (tl V s)) 8 1 2) := by
    intro c i q
    rw [up_n _ _ (by omega), up_n _ _ (by omega)]
  have u0 : up (up μ 8 0 (tl V s)) 8 1 2 8 0 = tl V s := by rw [up_ni _ _ (by omega), up_s]
  have v0 : up (up μ 8 0 (tl V s)) 8 1 2 8 1 = 2 := up_s _ _ _ _
  rw [q67_0, hs.2.2.1.2.2.1, nn10, cle10, w32_l (by omega) (by omega), c_within, bnd_s, b2i_t (by omega), if_neg (by omega), hs.2.2.1.2.2.1, nn10, jx10 _ (by omega) (by omega), tw s s0 s1]
  generalize up (up μ 8 0 (tl V s)) 8 1 2 = m0 at *
  rw [c_addL hw (bA_GS a0 hs) (bA_CF a0 h) (fun j j0 j1 => by rw [a0 10 j (by omega)]; exact tw j j0 j1) s0 s1 (by omega) (by omega), bnd_s]
  have a1 : bA μ (fin m0 (aL V s) (SM (hgL V s) 0 (vB V + 1))) := bA_t a0 (fin_bA _ _ _)
  have w1 := fin_0 m0 (aL V s) (SM (hgL V s) 0 (vB V + 1))
  rw [u0, v0] at w1
  generalize fin m0 (aL V s) (SM (hgL V s) 0 (vB V + 1)) = m1 at *
  have p1 := mul_b (a := tl V s * 2) (b := aL V s) (c := 8112) (d := 1000) (by omega) (by omega) (by omega) (by omega)
  have b1 : 0 ≤ m1 8 0 ∧ m1 8 0 ≤ 100000000 ∧ 0 < m1 8 1 ∧ m1 8 1 ≤ 4000 := by
    rw [w1.1, w1.2]
    by_cases q : 0 < SM (hgL V s) 0 (vB V + 1)
    · rw [if_pos q, if_pos q]
      omega
    · rw [if_neg q, if_neg q]
      omega
  rw [c_addR hw (bA_GS a1 hs) (bA_CF a1 h) (fun j j0 j1 => by rw [a1 10 j (by omega)]; exact tw j j0 j1) s0 s1 (by omega) (by omega), bnd_s]
  have a2 : bA μ (fin m1 (aR V s) (SM (hgR V s) 0 (vB V + 1))) := bA_t a1 (fin_bA _ _ _)
  have w2 := fin_0 m1 (aR V s) (SM (hgR V s) 0 (vB V + 1))
  generalize fin m1 (aR V s) (SM (hgR V s) 0 (vB V + 1)) = m2 at *
  have p2 := mul_b (a := m1 8 0 * 2) (b := aR V s) (c := 200000000) (d := 1000) (by omega) (by omega) (by omega) (by omega)
  have p3 := mul_b (a := SM (hgR V s) 0 (vB V + 1)) (b := m1 8 1) (c := 44616000) (d := 4000) (by omega) (by omega) (by omega) (by omega)
  have p4 := mul_b (a := m1 8 1 * 2) (b := aR V s) (c := 8000) (d := 1000) (by omega) (by omega) (by omega) (by omega)
  have p5 : 0 < m1 8 1 * 2 * aR V s := Int.mul_pos (by omega) (by omega)
  have b2 : 0 ≤ m2 8 0 ∧ m2 8 0 ≤ 1000000000000 ∧ 0 < m2 8 1 ∧ m2 8 1 ≤ 8000000 := by
    rw [w2.1, w2.2]
    by_cases q : 0 < SM (hgR V s) 0 (vB V + 1)
    · rw [if_pos q, if_pos q]
      omega
    · rw [if_neg q, if_neg q]
      omega
  have cr : m2 8 0 * fD2 V s = fN V s (vB V + 1) * m2 8 1 := by
    rw [w2.1, w2.2, w1.1, w1.2]
    unfold fN fD2
    generalize SM (hgL V s) 0 (vB V + 1) = x at *
    generalize SM (hgR V s) 0 (vB V + 1) = y at *
    generalize aL V s = p at *
    generalize aR V s = q at *
    generalize tl V s = t at *
    by_cases z1 : 0 < x
    · by_cases z2 : 0 < y
      · rw [if_pos z1, if_pos z1, if_pos z2, if_pos z2]
        grind
      · have e2 : y = 0 := by omega
        rw [if_pos z1, if_pos z1, if_neg z2, if_neg z2, e2]
        grind
    · have e1 : x = 0 := by omega
      by_cases z2 : 0 < y
      · rw [if_neg z1, if_neg z1, if_pos z2, if_pos z2, e1]
        grind
      · have e2 : y = 0 := by omega
        rw [if_neg z1, if_neg z1, if_neg z2, if_neg z2, e1, e2]
        grind
  have k := R_eq b2.1 b2.2.2.1 hN.1 hD.1 cr
  have g := R_g (n := m2 8 0) b2.2.2.1
  have rr := R_r b2.1 b2.2.2.1
  rw [c_com (by omega) (by omega) (by omega) (by omega), bnd_s]
  by_cases z : 1 < ((Int.gcd (m2 8 0) (m2 8 1) : Nat) : Int)
  · rw [if_pos (sgp.2 z), nn_ok _ (by omega), nn_ok _ (by omega), up_ni _ _ (by omega), Int.tdiv_eq_ediv_of_nonneg (by omega), Int.tdiv_eq_ediv_of_nonneg (by omega), show m2 8 0 / ((Int.gcd (m2 8 0) (m2 8 1) : Nat) : Int) = R1 (m2 8 0) (m2 8 1) from rfl, show m2 8 1 / ((Int.gcd (m2 8 0) (m2 8 1) : Nat) : Int) = R2 (m2 8 0) (m2 8 1) from rfl, w64_l (by omega) (by omega), w64_l (by omega) (by omega)]
    refine ⟨_, rfl, fun c i q => ?_, ?_, ?_⟩
    · rw [up_n _ _ (by omega), up_n _ _ (by omega)]
      exact a2 c i q
    · rw [up_ni _ _ (by omega), up_s]
      exact k.1
    · rw [up_s]
      exact k.2
  · rw [if_neg (fun q => z (sgp.1 q))]
    have e1 : ((Int.gcd (m2 8 0) (m2 8 1) : Nat) : Int) = 1 := by omega
    refine ⟨m2, rfl, a2, ?_, ?_⟩
    · have : R1 (m2 8 0) (m2 8 1) = m2 8 0 := by
        unfold R1
        rw [e1, Int.ediv_one]
      rw [← this]
      exact k.1
    · have : R2 (m2 8 0) (m2 8 1) = m2 8 1 := by
        unfold R2
        rw [e1, Int.ediv_one]
      rw [← this]
      exact k.2
end FC
