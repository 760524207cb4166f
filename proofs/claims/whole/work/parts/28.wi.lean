/-! the wind -/
def dst (b l s k : Int) : Int := (if 0 ≤ 2 * s - 2 * b - 1 then 2 * s - 2 * b - 1 else 0 - (2 * s - 2 * b - 1)) + 2 * (if 0 ≤ k - l then k - l else 0 - (k - l))
def ntI (V : FV) (b l s : Int) : Nat → Int → Int → Int → Int × Int
  | 0, _, be, le => (be, le)
  | n + 1, k, be, le => if vT V s k ≠ 0 ∧ (be < 0 ∨ dst b l s k < le) then ntI V b l s n (k + 1) (6 * s + k) (dst b l s k) else ntI V b l s n (k + 1) be le
def NI (V : FV) (b l s k be le : Int) : Int × Int := ntI V b l s (vL V - k).toNat k be le
theorem NI_e {V : FV} {b l s k be le : Int} (h : vL V ≤ k) : NI V b l s k be le = (be, le) := by
  unfold NI
  rw [show (vL V - k).toNat = 0 by omega]
  rfl
theorem NI_s {V : FV} {b l s k be le : Int} (h : k < vL V) : NI V b l s k be le = if vT V s k ≠ 0 ∧ (be < 0 ∨ dst b l s k < le) then NI V b l s (k + 1) (6 * s + k) (dst b l s k) else NI V b l s (k + 1) be le := by
  unfold NI
  rw [show (vL V - k).toNat = (vL V - (k + 1)).toNat + 1 by omega]
  rfl
def ntO (V : FV) (b l : Int) : Nat → Int → Int → Int → Int × Int
  | 0, _, be, le => (be, le)
  | n + 1, s, be, le => ntO V b l n (s + 1) (NI V b l s 0 be le).1 (NI V b l s 0 be le).2
def NO (V : FV) (b l s be le : Int) : Int × Int := ntO V b l (vB V + 1 - s).toNat s be le
theorem NO_e {V : FV} {b l s be le : Int} (h : vB V < s) : NO V b l s be le = (be, le) := by
  unfold NO
  rw [show (vB V + 1 - s).toNat = 0 by omega]
  rfl
theorem NO_s {V : FV} {b l s be le : Int} (h : s ≤ vB V) : NO V b l s be le = NO V b l (s + 1) (NI V b l s 0 be le).1 (NI V b l s 0 be le).2 := by
  unfold NO
  rw [show (vB V + 1 - s).toNat = (vB V + 1 - (s + 1)).toNat + 1 by omega]
  rfl
/-- the tie that holds the wind on a bay, as 6 times its standard and its lift -/
def NT (V : FV) (b l : Int) : Int := (NO V b l 0 (-1) 0).1
abbrev okT (V : FV) (be : Int) : Prop := be = -1 ∨ (0 ≤ be ∧ be < 66 ∧ vT V (be / 6) (be % 6) ≠ 0)
def cv (be : Int) : Int := if be < 0 then -1 else 11 * (be % 6) + be / 6
section WI
variable {μ : MM} {A f : Int} {V : FV}
theorem NI_q (hw : WF V) {b l s : Int} (h0 : 0 ≤ s) (h1 : s ≤ vB V) : ∀ k be le, 0 ≤ k → okT V be → okT V (NI V b l s k be le).1 := by
  have hr := hw.r
  refine up_ind (vL V) ?_ ?_
  · intro k hk be le _ h
    rw [NI_e hk]
    exact h
  · intro k hk ih be le k0 h
    rw [NI_s hk]
    split
    · rename_i e
      refine ih _ _ (by omega) (Or.inr ⟨by omega, by omega, ?_⟩)
      rw [show (6 * s + k) / 6 = s by omega, show (6 * s + k) % 6 = k by omega]
      exact e.1
    · exact ih _ _ (by omega) h
theorem NO_q (hw : WF V) {b l : Int} : ∀ s be le, 0 ≤ s → okT V be → okT V (NO V b l s be le).1 := by
  refine up_ind (vB V + 1) ?_ ?_
  · intro s hs be le _ h
    rw [NO_e (by omega)]
    exact h
  · intro s hs ih be le s0 h
    rw [NO_s (by omega)]
    exact ih _ _ (by omega) (NI_q hw s0 (by omega) _ _ _ (by omega) h)
theorem NT_q (hw : WF V) (b l : Int) : okT V (NT V b l) := NO_q hw _ _ _ (by omega) (Or.inl rfl)
theorem dst_c {b l s k : Int} (hb : 0 ≤ b ∧ b < 100) (hl : 0 ≤ l ∧ l < 100) (hs : 0 ≤ s ∧ s < 100) (hk : 0 ≤ k ∧ k < 100) : (w32 ((if 0 ≤ (w32 ((w32 ((w32 (2 * s)) - (w32 (2 * b)))) - 1)) then (w32 ((w32 ((w32 (2 * s)) - (w32 (2 * b)))) - 1)) else w32 (0 - (w32 ((w32 ((w32 (2 * s)) - (w32 (2 * b)))) - 1)))) + (w32 (2 * (if 0 ≤ (w32 (k - l)) then (w32 (k - l)) else w32 (0 - (w32 (k - l)))))))) = dst b l s k := by
  unfold dst
  rw [w32_l (x := 2 * s) (by omega) (by omega), w32_l (x := 2 * b) (by omega) (by omega), w32_l (x := 2 * s - 2 * b) (by omega) (by omega), w32_l (x := 2 * s - 2 * b - 1) (by omega) (by omega), w32_l (x := k - l) (by omega) (by omega), w32_l (x := 0 - (2 * s - 2 * b - 1)) (by omega) (by omega), w32_l (x := 0 - (k - l)) (by omega) (by omega)]
  split <;> split <;> simp (disch := omega) only [w32_l]
theorem nA0 {A : Int} (h : Fr A) (K : RR) : nn A K = K := nn_ok K (by have := fr_p h; omega)
theorem cv_0 {be : Int} (h : okT V be) : cv be < 0 ↔ be < 0 := by
  unfold cv
  split <;> omega
theorem c_nearI (hw : WF V) (h : CF μ A V) {b l s : Int} (hb : 0 ≤ b ∧ b < 100) (hl : 0 ≤ l ∧ l < 100) (h0 : 0 ≤ s) (h1 : s ≤ vB V) : ∀ k be le d, 0 ≤ k → okT V be → EE 75 20 [(11, A), (0, b), (0, l), (0, cv be), (0, le), (0, s), (0, k), d] [] μ = EE 75 8 [(11, A), (0, b), (0, l), (0, cv (NI V b l s k be le).1), (0, (NI V b l s k be le).2), (0, s + 1), (9, 0), (9, 0)] [] μ := by
  have hr := hw.r
  refine up_ind (vL V) ?_ ?_
  · intro k hk be le d _ _
    rw [q75_20, nA0 h.fr, h.c2, if_neg (by omega), NI_e hk, w32_l (by omega) (by omega), q75_8, q75_8]
  · intro k hk ih be le d k0 hq
    have ht := hw.t s k
    rw [q75_20, nA0 h.fr, h.c2, if_pos hk, nA0 h.fr, c_hasTie hw h, bnd_s, dst_c hb hl (by omega) (by omega), NI_s hk]
    by_cases e : vT V s k = 0
    · rw [if_pos e, if_neg (fun q => q.1 e), q75_89, w32_l (by omega) (by omega), ih _ _ _ (by omega) hq]
    · have hn : okT V (6 * s + k) := by
        refine Or.inr ⟨by omega, by omega, ?_⟩
        rw [show (6 * s + k) / 6 = s by omega, show (6 * s + k) % 6 = k by omega]
        exact e
      have hc : cv (6 * s + k) = 11 * k + s := by
        unfold cv
        rw [if_neg (by omega)]
        omega
      rw [if_neg e]
      by_cases e2 : be < 0
      · rw [if_pos ((cv_0 hq).2 e2), if_pos ⟨e, Or.inl e2⟩, q75_76, q75_89, w32_l (x := k + 1) (by omega) (by omega), w32_l (x := 11 * k) (by omega) (by omega), w32_l (by omega) (by omega), ← hc, ih _ _ _ (by omega) hn]
      · rw [if_neg (fun q => e2 ((cv_0 hq).1 q))]
        by_cases e3 : dst b l s k < le
        · rw [if_pos e3, if_pos ⟨e, Or.inr e3⟩, q75_76, q75_89, w32_l (x := k + 1) (by omega) (by omega), w32_l (x := 11 * k) (by omega) (by omega), w32_l (by omega) (by omega), ← hc, ih _ _ _ (by omega) hn]
        · rw [if_neg e3, if_neg (fun q => q.2.elim e2 e3), q75_89, w32_l (by omega) (by omega), ih _ _ _ (by omega) hq]
theorem c_nearO (hw : WF V) (h : CF μ A V) {b l : Int} (hb : 0 ≤ b ∧ b < 100) (hl : 0 ≤ l ∧ l < 100) : ∀ s be le d e, 0 ≤ s → okT V be → EE 75 8 [(11, A), (0, b), (0, l), (0, cv be), (0, le), (0, s), d, e] [] μ = some (cv (NO V b l s be le).1, μ) := by
  refine up_ind (vB V + 1) ?_ ?_
  · intro s hs be le d e _ _
    rw [q75_8, nA0 h.fr, h.c1, if_pos (by omega), NO_e (by omega)]
  · intro s hs ih be le d e s0 hq
    rw [q75_8, nA0 h.fr, h.c1, if_neg (by omega), c_nearI hw h hb hl s0 (by omega) _ _ _ _ (by omega) hq, ih _ _ _ _ (by omega) (NI_q hw s0 (by omega) _ _ _ (by omega) hq), ← NO_s (by omega)]
theorem c_near (hw : WF V) (h : CF μ A V) {b l : Int} (hb : 0 ≤ b ∧ b < 100) (hl : 0 ≤ l ∧ l < 100) : EE 75 0 [(11, A), (0, b), (0, l), (9, 0), (9, 0), (9, 0), (9, 0), (9, 0)] [] μ = some (cv (NT V b l), μ) := by
  rw [q75_0]
  exact c_nearO hw h hb hl 0 (-1) 0 _ _ (by omega) (Or.inl rfl)
theorem m_size {x : Int} (h : -1000 < x ∧ x < 1000) : EE 215 0 [(0, x)] [] μ = some (if 0 ≤ x then x else 0 - x, μ) := by
  rw [q215_0]
  by_cases e : x < 0
  · rw [if_pos e, if_neg (by omega), w32_l (by omega) (by omega), Int.zero_sub]
  · rw [if_neg e, if_pos (by omega)]
theorem m_tieI (hw : WF V) (hB : vB V ≠ 0) (h : MF μ f V) {b l s : Int} (hb : 0 ≤ b ∧ b < 100) (hl : 0 ≤ l ∧ l < 100) (h0 : 0 ≤ s) (h1 : s ≤ vB V) : ∀ k be le d, 0 ≤ k → EE 216 23 [(48, 71), (0, f), (0, b), (0, l), (0, be), (0, le), (0, s), (0, k), d] [] μ = EE 216 9 [(48, 71), (0, f), (0, b), (0, l), (0, (NI V b l s k be le).1), (0, (NI V b l s k be le).2), (0, s + 1), (9, 0), (9, 0)] [] μ := by
  have hr := hw.r
  have hf := h.fr
  refine up_ind (vL V) ?_ ?_
  · intro k hk be le d _
    rw [q216_23, h.c2, nn74, jx74 _ (by omega) (by omega), h.L, if_neg (by omega), NI_e hk, w32_l (by omega) (by omega), q216_9, q216_9]
  · intro k hk ih be le d k0
    have ht := hw.t s k
    have hd : w32 ((if 0 ≤ 2 * s - 2 * b - 1 then 2 * s - 2 * b - 1 else 0 - (2 * s - 2 * b - 1)) + w32 (2 * (if 0 ≤ k - l then k - l else 0 - (k - l)))) = dst b l s k := by
      unfold dst
      split <;> split <;> simp (disch := omega) only [w32_l]
    rw [q216_23, h.c2, nn74, jx74 _ (by omega) (by omega), h.L, if_pos hk, w32_l (x := 2 * s) (by omega) (by omega), w32_l (x := 2 * b) (by omega) (by omega), w32_l (x := 2 * s - 2 * b) (by omega) (by omega), w32_l (x := 2 * s - 2 * b - 1) (by omega) (by omega), w32_l (x := k - l) (by omega) (by omega), m_size (by omega), bnd_s, m_size (by omega), bnd_s, m_hasTie hw hB h (by omega) (by omega) (by omega) (by omega), bnd_s, hd, NI_s hk, w32_l (x := k + 1) (by omega) (by omega), w32_l (x := 6 * s) (by omega) (by omega), w32_l (x := 6 * s + k) (by omega) (by omega)]
    by_cases e : vT V s k = 0
    · rw [if_pos e, if_neg (fun q => q.1 e), ih _ _ _ (by omega)]
    · rw [if_neg e]
      by_cases e2 : be < 0
      · rw [if_pos e2, if_pos ⟨e, Or.inl e2⟩, ih _ _ _ (by omega)]
      · rw [if_neg e2]
        by_cases e3 : dst b l s k < le
        · rw [if_pos e3, if_pos ⟨e, Or.inr e3⟩, ih _ _ _ (by omega)]
        · rw [if_neg e3, if_neg (fun q => q.2.elim e2 e3), ih _ _ _ (by omega)]
theorem m_tieO (hw : WF V) (hB : vB V ≠ 0) (h : MF μ f V) {b l : Int} (hb : 0 ≤ b ∧ b < 100) (hl : 0 ≤ l ∧ l < 100) : ∀ s be le d e, 0 ≤ s → EE 216 9 [(48, 71), (0, f), (0, b), (0, l), (0, be), (0, le), (0, s), d, e] [] μ = some ((NO V b l s be le).1, μ) := by
  have hf := h.fr
  refine up_ind (vB V + 1) ?_ ?_
  · intro s hs be le d e _
    rw [q216_9, h.c4, nn76, jx76 _ (by omega) (by omega), h.B, if_pos (by omega), NO_e (by omega)]
  · intro s hs ih be le d e s0
    rw [q216_9, h.c4, nn76, jx76 _ (by omega) (by omega), h.B, if_neg (by omega), m_tieI hw hB h hb hl s0 (by omega) _ _ _ _ (by omega), ih _ _ _ _ (by omega), ← NO_s (by omega)]
theorem m_tieFor (hw : WF V) (hB : vB V ≠ 0) (h : MF μ f V) {b l : Int} (hb : 0 ≤ b ∧ b < 100) (hl : 0 ≤ l ∧ l < 100) : EE 216 0 [(48, 71), (0, f), (0, b), (0, l), (9, 0), (9, 0), (9, 0), (9, 0), (9, 0)] [] μ = some (NT V b l, μ) := by
  rw [q216_0]
  exact m_tieO hw hB h hb hl 0 (-1) 0 _ _ (by omega)
/-- the force on a bay -/
def frc (V : FV) (b : Int) : Int := vP V * vW V b * vH V
theorem frc_r (hw : WF V) (b : Int) : 0 ≤ frc V b ∧ frc V b ≤ 40000 ∧ 0 ≤ vP V * vW V b ∧ vP V * vW V b ≤ 2000 := by
  have hr := hw.r
  have hk := hw.k b
  have h1 := mul_b (a := vP V) (b := vW V b) (c := 20) (d := 100) (by omega) (by omega) (by omega) (by omega)
  have h2 := mul_b (a := vP V * vW V b) (b := vH V) (c := 2000) (d := 20) (by omega) (by omega) (by omega) (by omega)
  unfold frc
  omega
def wtL (V : FV) (c b l : Int) : Int := if NT V b l = c then frc V b else 0
def wtB (V : FV) (c b : Int) : Int := if vK V b = 4 then SM (wtL V c b) 0 (vL V) else 0
/-- the wind on a tie; -1: that no tie holds -/
def WT (V : FV) (c : Int) : Int := SM (wtB V c) 0 (vB V)
theorem wtL_r (hw : WF V) (c b l : Int) : 0 ≤ wtL V c b l ∧ wtL V c b l ≤ 40000 := by
  have := frc_r hw b
  unfold wtL
  split <;> omega
theorem wtB_r (hw : WF V) (c b : Int) : 0 ≤ wtB V c b ∧ wtB V c b ≤ 240000 := by
  have hr := hw.r
  have := SM_b (f := wtL V c b) (lo := 0) (hi := 40000) (n := vL V) 0 (fun j _ _ => wtL_r hw c b j) (by omega)
  unfold wtB
  split <;> omega
theorem m_windI (hw : WF V) (hB : vB V ≠ 0) (h : MF μ f V) (c : Int) {b : Int} (b0 : 0 ≤ b) (b1 : b < vB V) : ∀ l acc, 0 ≤ l → 0 ≤ acc → acc ≤ 240000 * b + 40000 * l → EE 217 19 [(48, 71), (0, f), (0, c), (0, acc), (0, b), (0, l)] [] μ = EE 217 5 [(48, 71), (0, f), (0, c), (0, acc + (if vK V b = 4 then SM (wtL V c b) l (vL V) else 0)), (0, b + 1), (9, 0)] [] μ := by
  have hr := hw.r
  have hf := h.fr
  have hF := frc_r hw b
  refine up_ind (vL V) ?_ ?_
  · intro l hl acc _ _ _
    rw [q217_19, h.c2, nn74, jx74 _ (by omega) (by omega), h.L, if_neg (by omega), SM_e hl, w32_l (by omega) (by omega), q217_5, q217_5]
    simp only [ite_self, Int.add_zero]
  · intro l hl ih acc l0 _ _
    rw [q217_19, h.c2, nn74, jx74 _ (by omega) (by omega), h.L, if_pos hl, m_kind hw h b0 b1, bnd_s, w32_l (x := l + 1) (by omega) (by omega)]
    by_cases e : vK V b = 4
    · rw [if_pos e, m_tieFor hw hB h (by omega) (by omega), bnd_s, if_pos e, SM_s hl]
      by_cases e2 : NT V b l = c
      · have hx : wtL V c b l = frc V b := if_pos e2
        rw [if_pos e2, h.c7, nn79, w32_l (x := 193 * f) (by omega) (by omega), w32_l (x := 193 * f + 192) (by omega) (by omega), jx79 _ (by omega) (by omega), h.P, m_width hw h b0 b1, bnd_s, h.c3, nn75, jx75 _ (by omega) (by omega), h.H, w32_l (x := vP V * vW V b) (by omega) (by omega), show vP V * vW V b * vH V = frc V b from rfl, w32_l (x := frc V b) (by omega) (by omega), w32_l (x := acc + frc V b) (by omega) (by omega), ih _ (by omega) (by omega) (by omega), if_pos e, hx, Int.add_assoc]
      · have hx : wtL V c b l = 0 := if_neg e2
        rw [if_neg e2, ih _ (by omega) (by omega) (by omega), if_pos e, hx, Int.zero_add]
    · rw [if_neg e, ih _ (by omega) (by omega) (by omega), if_neg e, if_neg e]
theorem m_windTo (hw : WF V) (hB : vB V ≠ 0) (h : MF μ f V) (c : Int) : EE 217 0 [(48, 71), (0, f), (0, c), (9, 0), (9, 0), (9, 0)] [] μ = some (WT V c, μ) := by
  have hr := hw.r
  have hf := h.fr
  have loop : ∀ b acc d, 0 ≤ b → 0 ≤ acc → acc ≤ 240000 * b → EE 217 5 [(48, 71), (0, f), (0, c), (0, acc), (0, b), d] [] μ = some (acc + SM (wtB V c) b (vB V), μ) := by
    refine up_ind (vB V) ?_ ?_
    · intro b hb acc d _ _ _
      rw [q217_5, h.c4, nn76, jx76 _ (by omega) (by omega), h.B, if_neg (by omega), SM_e hb, Int.add_zero]
    · intro b hb ih acc d b0 _ _
      have hx := wtB_r hw c b
      have hy : (if vK V b = 4 then SM (wtL V c b) 0 (vL V) else 0) = wtB V c b := rfl
      rw [q217_5, h.c4, nn76, jx76 _ (by omega) (by omega), h.B, if_pos hb, m_windI hw hB h c b0 hb _ _ (by omega) (by omega) (by omega), hy, ih _ _ (by omega) (by omega) (by omega), SM_s hb, Int.add_assoc]
  rw [q217_0, loop _ _ _ (by omega) (by omega) (by omega), Int.zero_add]
  rfl
end WI
