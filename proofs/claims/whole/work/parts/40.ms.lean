/-! stays -/
def tC (μ : MM) (a b : Int) : Int := μ (28 + a) b
def tM (μ : MM) (a b : Int) : Int := μ 89 (11 * a + b)
def vA (μ μ' : MM) : Prop := ∀ c i, ¬ ((28 ≤ c ∧ c ≤ 38) ∨ c = 26 ∨ (c = 25 ∧ i = 0)) → μ' c i = μ c i
theorem vA_r (μ : MM) : vA μ μ := fun _ _ _ => rfl
section MS
variable {M μ μ' : MM} {A B f g : Int} {V W : FV}
theorem vA_t {μ'' : MM} (h1 : vA μ μ') (h2 : vA μ' μ'') : vA μ μ'' := fun c i q => (h2 c i q).trans (h1 c i q)
theorem vA_sA (h : vA μ μ') : sA μ μ' := fun c i q => h c i (by omega)
theorem vA_GS (e : vA μ μ') (h : GS μ) : GS μ' := GS_ag (fun c i q => e c i (by omega)) h
theorem vA_CF (e : vA μ μ') (h : CF μ A V) : CF μ' A V := CF_ag (fun c i q => e c i (by have := fr_p h.fr; omega)) h
theorem c_isLike (hv : WF V) (hw : WF W) (h1 : CF μ A V) (h2 : CF μ B W) (a b : Int) : EE 80 0 [(11, A), (0, a), (11, B), (0, b)] [] μ = some (b2i (lk V W a b), μ) := by
  rw [q80_0, nA0 h1.fr, c_kindOf hv h1, bnd_s, nA0 h2.fr, c_kindOf hw h2, bnd_s, nA0 h1.fr, c_widthOf hv h1, bnd_s, nA0 h2.fr, c_widthOf hw h2, bnd_s]
  unfold b2i lk
  repeat' split
  all_goals first | rfl | omega
theorem clR {x : Int} (x0 : 0 ≤ x) (x1 : x < 11) : cln (28 + x) = 11 := by
  have : x = 0 ∨ x = 1 ∨ x = 2 ∨ x = 3 ∨ x = 4 ∨ x = 5 ∨ x = 6 ∨ x = 7 ∨ x = 8 ∨ x = 9 ∨ x = 10 := by omega
  rcases this with h | h | h | h | h | h | h | h | h | h | h <;> subst h <;> decide
theorem nnR {x : Int} (K : RR) (x0 : 0 ≤ x) : nn (28 + x) K = K := nn_ok K (by omega)
theorem ixR {x i : Int} (K : RR) (x0 : 0 ≤ x) (x1 : x < 11) (i0 : 0 ≤ i) (i1 : i < 11) : ix (28 + x) i K = K := ix_ok K i0 (by rw [clR x0 x1]; exact i1)
theorem c_mostFrom (hs : GS μ) (hv : WF V) (hw : WF W) (h1 : CF μ A V) (h2 : CF μ B W) {a b : Int} (a0 : 0 ≤ a) (a1 : a ≤ vB V) (b0 : 0 ≤ b) (b1 : b ≤ vB W) (hp : Pd V W (tC μ) a b) : EE 79 0 [(44, 25), (11, A), (11, B), (0, a), (0, b), (9, 0)] [] μ = some (rcv3 V W (tC μ) a b, μ) := by
  have rv := hv.r
  have rw' := hw.r
  have m := hs.2.2.2.2.1
  unfold rcv3
  rw [q79_0, nA0 h1.fr, h1.c1, nA0 h2.fr, h2.c1]
  by_cases q1 : a < vB V
  · rw [if_pos q1]
    by_cases q2 : b < vB W
    · have p1 := (hp (a + 1) (b + 1) (Or.inl ⟨by omega, by omega, by omega, by omega⟩)).2
      unfold tC at p1
      rw [if_pos q2, if_pos (show a < vB V ∧ b < vB W from ⟨q1, q2⟩), c_isLike hv hw h1 h2, bnd_s]
      simp (disch := omega) only [hs.2.2.1.2.2.2.2.2.2, nn27, w32_l, jx27, m, nnR, ixR, b2i_0, ite_not]
      unfold m2x tC
      by_cases z : lk V W a b
      · rw [if_pos z, if_pos z]
      · rw [if_neg z, if_neg z]
    · rw [if_neg q2, if_neg (show ¬ (a < vB V ∧ b < vB W) from fun z => q2 z.2)]
  · rw [if_neg q1, if_neg (show ¬ (a < vB V ∧ b < vB W) from fun z => q1 z.1)]
theorem c_mvI (hv : WF V) (hw : WF W) {a : Int} (a0 : 0 ≤ a) (a1 : a ≤ vB V) : ∀ b (μ : MM), b ≤ vB W → -1 ≤ b → GS μ → CF μ A V → CF μ B W → Pd V W (tC μ) a b → ∃ μ', EE 78 15 [(44, 25), (11, A), (11, B), (0, a), (0, b)] [] μ = EE 78 5 [(44, 25), (11, A), (11, B), (0, a - 1), (9, 0)] [] μ' ∧ vA μ μ' ∧ Pd V W (tC μ') a (-1) := by
  have rv := hv.r
  have rw' := hw.r
  refine dn_ind 0 ?_ ?_
  · intro b hb μ b1 b2 hs h1 h2 hp
    refine ⟨μ, ?_, vA_r μ, ?_⟩
    · rw [q78_15, if_pos hb, w32_l (by omega) (by omega), show a + -1 = a - 1 by omega, q78_5, q78_5]
    · rw [show (-1 : Int) = b by omega]
      exact hp
  · intro b hb ih μ b1 b2 hs h1 h2 hp
    have m := hs.2.2.2.2.1 a a0 (by omega)
    have e1 : vA μ (up μ (28 + a) b (rcv3 V W (tC μ) a b)) := fun c i q => up_nc _ _ (by omega)
    have hw1 := Pd_w (S := tC (up μ (28 + a) b (rcv3 V W (tC μ) a b))) a0 a1 hb b1 hp (fun x y q => by
      unfold tC
      exact up_n _ _ (by omega)) (by
      show up μ (28 + a) b (rcv3 V W (tC μ) a b) (28 + a) b = _
      exact up_s _ _ _ _)
    obtain ⟨m1, x1, x2, x3⟩ := ih (up μ (28 + a) b (rcv3 V W (tC μ) a b)) (by omega) (by omega) (vA_GS e1 hs) (vA_CF e1 h1) (vA_CF e1 h2) hw1.1
    refine ⟨m1, ?_, vA_t e1 x2, x3⟩
    rw [q78_15, if_neg (by omega), hs.2.2.1.2.2.2.2.2.2, nn27, jx27 _ (by omega) (by omega), m, c_mostFrom hs hv hw h1 h2 a0 a1 hb b1 hp, bnd_s, nnR _ a0, ixR _ a0 (by omega) hb (by omega), w32_l (by omega) (by omega), show b + -1 = b - 1 by omega, x1]
theorem c_mvO (hv : WF V) (hw : WF W) : ∀ a (μ : MM) d, a ≤ vB V → -1 ≤ a → GS μ → CF μ A V → CF μ B W → Pd V W (tC μ) a (vB W) → ∃ μ', EE 78 5 [(44, 25), (11, A), (11, B), (0, a), d] [] μ = bnd (EE 81 0 [(44, 25), (11, A), (11, B), (9, 0), (9, 0), (9, 0)] [] μ') (fun _ m2 => some (m2 25 0, m2)) ∧ vA μ μ' ∧ TB V W (tC μ') := by
  have rv := hv.r
  have rw' := hw.r
  refine dn_ind 0 ?_ ?_
  · intro a ha μ d a1 a2 hs h1 h2 hp
    refine ⟨μ, ?_, vA_r μ, fun x y x0 x1 y0 y1 => ?_⟩
    · rw [q78_5, if_pos ha]
    · exact hp x y (Or.inl ⟨by omega, x1, y0, y1⟩)
  · intro a ha ih μ d a1 a2 hs h1 h2 hp
    obtain ⟨m1, x1, x2, x3⟩ := c_mvI hv hw ha a1 (vB W) μ (by omega) (by omega) hs h1 h2 hp
    obtain ⟨m2, y1, y2, y3⟩ := ih m1 (9, 0) (by omega) (by omega) (vA_GS x2 hs) (vA_CF x2 h1) (vA_CF x2 h2) (fun x y q => x3 x y (by omega))
    refine ⟨m2, ?_, vA_t x2 y2, y3⟩
    rw [q78_5, if_neg (by omega), nA0 h2.fr, h2.c1, x1, y1]
theorem c_firstLike (hv : WF V) (hw : WF W) (h1 : CF μ A V) (h2 : CF μ B W) {a : Int} : ∀ b d, 0 ≤ b → EE 82 3 [(11, A), (0, a), (11, B), d, (0, b)] [] μ = some (fl V W a b, μ) := by
  have rw' := hw.r
  refine up_ind (vB W) ?_ ?_
  · intro b hb d _
    rw [q82_3, nA0 h2.fr, h2.c1, if_neg (by omega), nA0 h2.fr]
    unfold fl
    rw [FU_e hb]
  · intro b hb ih d b0
    rw [q82_3, nA0 h2.fr, h2.c1, if_pos hb, c_isLike hv hw h1 h2, bnd_s]
    simp only [b2i_0]
    unfold fl at *
    rw [FU_s hb]
    by_cases z : lk V W a b
    · rw [if_neg (fun q => q z), if_pos z]
    · rw [if_pos z, if_neg z, w32_l (by omega) (by omega), ih _ (by omega)]
/-- staying written behind those there -/
def Sp (μ μ' : MM) (xs : List Int) : Prop := (∀ c i, ¬ (c = 26 ∨ (c = 25 ∧ i = 0)) → μ' c i = μ c i) ∧ μ' 25 0 = μ 25 0 + xs.length ∧ (∀ j, j < μ 25 0 → μ' 26 j = μ 26 j) ∧ ∀ i : Int, 0 ≤ i → i < xs.length → μ' 26 (μ 25 0 + i) = cd xs i
theorem Sp_r (μ : MM) : Sp μ μ [] := ⟨fun _ _ _ => rfl, by simp, fun _ _ => rfl, fun i a b => by have b2 : i < ((0 : Nat) : Int) := b; omega⟩
theorem Sp_c {x : Int} {xs : List Int} {m1 : MM} (h : Sp (up (up μ 26 (μ 25 0) x) 25 0 (μ 25 0 + 1)) m1 xs) : Sp μ m1 (x :: xs) := by
  obtain ⟨h1, h2, h3, h4⟩ := h
  have e0 : up (up μ 26 (μ 25 0) x) 25 0 (μ 25 0 + 1) 25 0 = μ 25 0 + 1 := up_s _ _ _ _
  rw [e0] at h2 h3 h4
  refine ⟨fun c i q => ?_, ?_, fun j q => ?_, fun i a b => ?_⟩
  · rw [h1 c i q, up_n _ _ (by omega), up_n _ _ (by omega)]
  · rw [h2, List.length_cons, Int.natCast_add]
    have : ((1 : Nat) : Int) = 1 := rfl
    omega
  · rw [h3 j (by omega), up_nc _ _ (by omega), up_ni _ _ (by omega)]
  · rw [List.length_cons, Int.natCast_add] at b
    by_cases e : i = 0
    · subst e
      rw [Int.add_zero, h3 _ (by omega), up_nc _ _ (by omega), up_s]
      rfl
    · rw [cd_s _ _ (by omega), ← h4 (i - 1) (by omega) (by have : ((1 : Nat) : Int) = 1 := rfl; omega), show μ 25 0 + 1 + (i - 1) = μ 25 0 + i by omega]
theorem c_choose (hv : WF V) (hw : WF W) {T : Int → Int → Int} (ht : TB V W T) : ∀ a (μ : MM) b d, 0 ≤ a → a ≤ vB V → 0 ≤ b → b ≤ vB W → GS μ → CF μ A V → CF μ B W → (∀ x y, 0 ≤ x → tC μ x y = T x y) → 0 ≤ μ 25 0 → μ 25 0 ≤ a → ∃ μ', EE 81 10 [(44, 25), (11, A), (11, B), (0, b), (0, a), d] [] μ = some (0, μ') ∧ Sp μ μ' (CH V W T a b) := by
  have rv := hv.r
  have rw' := hw.r
  refine up_ind (vB V) ?_ ?_
  · intro a ha μ b d a0 a1 b0 b1 hs h1 h2 hT n0 n1
    rw [q81_10, nA0 h1.fr, h1.c1, if_neg (by omega), CH_e ha]
    exact ⟨μ, rfl, Sp_r μ⟩
  · intro a ha ih μ b d a0 a1 b0 b1 hs h1 h2 hT n0 n1
    have m := hs.2.2.2.2.1
    have hf := fl_r (V := V) (W := W) (a := a) b1
    rw [q81_10, nA0 h1.fr, h1.c1, if_pos ha, hs.2.2.1.2.2.2.2.2.1, nn26, cle26, if_pos (by omega), q82_0, c_firstLike hv hw h1 h2 _ _ b0, bnd_s, nA0 h2.fr, h2.c1, CH_s ha]
    by_cases z : fl V W a b < vB W
    · have t1 := (ht (a + 1) (fl V W a b + 1) (by omega) (by omega) (by omega) (by omega)).2
      have e1 : μ (28 + (a + 1)) (fl V W a b + 1) = T (a + 1) (fl V W a b + 1) := hT (a + 1) _ (by omega)
      have e2 : μ (28 + a) b = T a b := hT a b a0
      rw [if_pos z]
      simp (disch := omega) only [hs.2.2.1.2.2.2.2.2.2, nn27, w32_l, jx27, m, nnR, ixR, e1, e2, hs.2.2.1.2.2.2.2.2.1, nn26, jx26]
      by_cases z2 : T (a + 1) (fl V W a b + 1) + 1 = T a b
      · rw [if_pos z2, if_pos ⟨z, z2⟩, up_nc _ _ (by omega), w32_l (by omega) (by omega)]
        have e3 : ∀ c i, ¬ (c = 26 ∨ (c = 25 ∧ i = 0)) → up (up μ 26 (μ 25 0) a) 25 0 (μ 25 0 + 1) c i = μ c i := by
          intro c i q
          rw [up_n _ _ (by omega), up_n _ _ (by omega)]
        have e4 : vA μ (up (up μ 26 (μ 25 0) a) 25 0 (μ 25 0 + 1)) := fun c i q => e3 c i (by omega)
        have e5 : up (up μ 26 (μ 25 0) a) 25 0 (μ 25 0 + 1) 25 0 = μ 25 0 + 1 := up_s _ _ _ _
        obtain ⟨m1, x1, x2⟩ := ih (up (up μ 26 (μ 25 0) a) 25 0 (μ 25 0 + 1)) (fl V W a b + 1) (0, fl V W a b) (by omega) (by omega) (by omega) (by omega) (vA_GS e4 hs) (vA_CF e4 h1) (vA_CF e4 h2) (fun x y x0 => by
          rw [← hT x y x0]
          exact e3 _ _ (by omega)) (by omega) (by omega)
        exact ⟨m1, x1, Sp_c x2⟩
      · rw [if_neg z2, if_neg (fun q => z2 q.2)]
        obtain ⟨m1, x1, x2⟩ := ih μ b (0, fl V W a b) (by omega) (by omega) b0 b1 hs h1 h2 hT n0 (by omega)
        exact ⟨m1, x1, x2⟩
    · rw [if_neg z, if_neg (fun q => z q.1), w32_l (by omega) (by omega)]
      obtain ⟨m1, x1, x2⟩ := ih μ b (0, fl V W a b) (by omega) (by omega) b0 b1 hs h1 h2 hT n0 (by omega)
      exact ⟨m1, x1, x2⟩
theorem m_isLike (hv : WF V) (hw : WF W) (h1 : MF μ f V) (h2 : MF μ g W) {a b : Int} (a0 : 0 ≤ a) (a1 : a < vB V) (b0 : 0 ≤ b) (b1 : b < vB W) : EE 268 0 [(48, 71), (0, f), (0, a), (0, g), (0, b)] [] μ = some (b2i (lk V W a b), μ) := by
  rw [q268_0, m_kind hv h1 a0 a1, bnd_s, m_kind hw h2 b0 b1, bnd_s, m_width hv h1 a0 a1, bnd_s, m_width hw h2 b0 b1, bnd_s]
  unfold b2i lk
  repeat' split
  all_goals first | rfl | omega
theorem m_best (hv : WF V) (hw : WF W) (h1 : MF μ f V) (h2 : MF μ g W) {a b : Int} (a0 : 0 ≤ a) (a1 : a ≤ vB V) (b0 : 0 ≤ b) (b1 : b ≤ vB W) (hp : Pd V W (tM μ) a b) (d : VV) : EE 269 19 [(48, 71), (0, f), (0, g), (0, a), (0, b), d] [] μ = EE 269 167 [(48, 71), (0, f), (0, g), (0, a), (0, b), (0, rcv3 V W (tM μ) a b)] [] μ := by
  have rv := hv.r
  have rw' := hw.r
  have hf := h1.fr
  have hg := h2.fr
  have t1 : μ 89 (11 * (a + 1) + b) = tM μ (a + 1) b := rfl
  have t2 : μ 89 (11 * a + b + 1) = tM μ a (b + 1) := by
    unfold tM
    rw [Int.add_assoc]
  have t3 : μ 89 (11 * (a + 1) + b + 1) = tM μ (a + 1) (b + 1) := by
    unfold tM
    rw [Int.add_assoc]
  unfold rcv3
  rw [q269_19, if_neg (by omega), h1.c4, nn76, jx76 _ (by omega) (by omega), h1.B, nn76, jx76 _ (by omega) (by omega), h2.B]
  by_cases q1 : a < vB V
  · rw [if_pos q1]
    by_cases q2 : b < vB W
    · have p1 := (hp (a + 1) (b + 1) (Or.inl ⟨by omega, by omega, by omega, by omega⟩)).2
      rw [if_pos q2, if_pos (show a < vB V ∧ b < vB W from ⟨q1, q2⟩)]
      simp (disch := omega) only [h1.m.c29, nn89, w32_l, jx89, t1, t2]
      have key : ∀ w, EE 269 110 [(48, 71), (0, f), (0, g), (0, a), (0, b), (0, 0)] [(0, w)] μ = EE 269 167 [(48, 71), (0, f), (0, g), (0, a), (0, b), (0, if lk V W a b then m2x w (tM μ (a + 1) (b + 1) + 1) else w)] [] μ := by
        intro w
        rw [q269_110, m_isLike hv hw h1 h2 a0 q1 b0 q2, bnd_s]
        simp (disch := omega) only [h1.m.c29, nn89, w32_l, jx89, t3, b2i_0, ite_not]
        unfold m2x
        repeat' split
        all_goals first | rfl | omega
      rw [key, key]
      have e1 : tM μ a (b + 1) < tM μ (a + 1) b → m2x (tM μ (a + 1) b) (tM μ a (b + 1)) = tM μ (a + 1) b := by
        intro q
        unfold m2x
        rw [if_neg (by omega)]
      have e2 : ¬ tM μ a (b + 1) < tM μ (a + 1) b → m2x (tM μ (a + 1) b) (tM μ a (b + 1)) = tM μ a (b + 1) := by
        intro q
        unfold m2x
        split <;> omega
      by_cases q3 : tM μ a (b + 1) < tM μ (a + 1) b
      · rw [if_pos q3, e1 q3]
      · rw [if_neg q3, e2 q3]
    · rw [if_neg q2, if_neg (show ¬ (a < vB V ∧ b < vB W) from fun z => q2 z.2)]
  · rw [if_neg q1, if_neg (show ¬ (a < vB V ∧ b < vB W) from fun z => q1 z.1)]
def xA (μ μ' : MM) : Prop := ∀ c i, c ≠ 89 → μ' c i = μ c i
theorem xA_sA (h : xA μ μ') : sA μ μ' := fun c i q => h c i (by omega)
theorem xA_MF (e : xA μ μ') (h : MF μ f V) : MF μ' f V := MF_ag (MRf_ag (fun i q => e 71 i (by omega)) h.m) (fun c i q => e c i (by omega)) h
theorem m_fillI (hv : WF V) (hw : WF W) {a : Int} (a0 : 0 ≤ a) (a1 : a ≤ vB V) : ∀ b (μ : MM) d, b ≤ vB W → -1 ≤ b → MF μ f V → MF μ g W → Pd V W (tM μ) a b → ∃ μ', EE 269 19 [(48, 71), (0, f), (0, g), (0, a), (0, b), d] [] μ = EE 269 7 [(48, 71), (0, f), (0, g), (0, a - 1), (9, 0), (9, 0)] [] μ' ∧ xA μ μ' ∧ Pd V W (tM μ') a (-1) := by
  have rv := hv.r
  have rw' := hw.r
  refine dn_ind 0 ?_ ?_
  · intro b hb μ d b1 b2 h1 h2 hp
    refine ⟨μ, ?_, fun _ _ _ => rfl, ?_⟩
    · rw [q269_19, if_pos hb, w32_l (by omega) (by omega), show a + -1 = a - 1 by omega, q269_7, q269_7]
    · rw [show (-1 : Int) = b by omega]
      exact hp
  · intro b hb ih μ d b1 b2 h1 h2 hp
    have e1 : xA μ (up μ 89 (11 * a + b) (rcv3 V W (tM μ) a b)) := fun c i q => up_nc _ _ q
    have hw1 := Pd_w (S := tM (up μ 89 (11 * a + b) (rcv3 V W (tM μ) a b))) a0 a1 hb b1 hp (fun x y q => by
      unfold tM
      exact up_n _ _ (by omega)) (by
      show up μ 89 (11 * a + b) (rcv3 V W (tM μ) a b) 89 (11 * a + b) = _
      exact up_s _ _ _ _)
    obtain ⟨m1, x1, x2, x3⟩ := ih (up μ 89 (11 * a + b) (rcv3 V W (tM μ) a b)) (9, 0) (by omega) (by omega) (xA_MF e1 h1) (xA_MF e1 h2) hw1.1
    refine ⟨m1, ?_, fun c i q => (x2 c i q).trans (e1 c i q), x3⟩
    rw [m_best hv hw h1 h2 a0 a1 hb b1 hp, q269_167, h1.m.c29, nn89, w32_l (x := 11 * a) (by omega) (by omega), w32_l (x := 11 * a + b) (by omega) (by omega), jx89 _ (by omega) (by omega), w32_l (by omega) (by omega), show b + -1 = b - 1 by omega, ← x1, q269_19, q269_19]
theorem m_fillO (hv : WF V) (hw : WF W) : ∀ a (μ : MM) d4 d5, a ≤ vB V → -1 ≤ a → MF μ f V → MF μ g W → Pd V W (tM μ) a (vB W) → ∃ μ', EE 269 7 [(48, 71), (0, f), (0, g), (0, a), d4, d5] [] μ = some (0, μ') ∧ xA μ μ' ∧ TB V W (tM μ') := by
  have rv := hv.r
  have rw' := hw.r
  refine dn_ind 0 ?_ ?_
  · intro a ha μ d4 d5 a1 a2 h1 h2 hp
    refine ⟨μ, ?_, fun _ _ _ => rfl, fun x y x0 x1 y0 y1 => ?_⟩
    · rw [q269_7, if_pos ha]
    · exact hp x y (Or.inl ⟨by omega, x1, y0, y1⟩)
  · intro a ha ih μ d4 d5 a1 a2 h1 h2 hp
    have hg := h2.fr
    obtain ⟨m1, x1, x2, x3⟩ := m_fillI hv hw ha a1 (vB W) μ (9, 0) (by omega) (by omega) h1 h2 hp
    obtain ⟨m2, y1, y2, y3⟩ := ih m1 (9, 0) (9, 0) (by omega) (by omega) (xA_MF x2 h1) (xA_MF x2 h2) (fun x y q => x3 x y (by omega))
    refine ⟨m2, ?_, fun c i q => (y2 c i q).trans (x2 c i q), y3⟩
    rw [q269_7, if_neg (by omega), h2.c4, nn76, jx76 _ (by omega) (by omega), h2.B, x1, y1]
section SE
variable {T : Int → Int → Int}
theorem m_se90 (hv : WF V) (hw : WF W) (h1 : MF μ f V) (h2 : MF μ g W) (hT : ∀ x y, 0 ≤ x → 0 ≤ y → tM μ x y = T x y) {i left a b n : Int} (hl : 0 ≤ left ∧ left ≤ 20) (a0 : 0 ≤ a) (a1 : a < vB V) : ∀ j, 0 ≤ j → EE 270 90 [(48, 71), (0, f), (0, g), (0, i), (0, left), (0, a), (0, b), (0, n), (0, j)] [] μ = EE 270 144 [(48, 71), (0, f), (0, g), (0, i), (0, left), (0, a), (0, b), (0, n), (0, if j < vB W then FU (fun j => lk V W a j ∧ T (a + 1) (j + 1) = left - 1) (vB W) j (vB W) else j)] [] μ := by
  have rv := hv.r
  have rw' := hw.r
  have hg := h2.fr
  refine up_ind (vB W) ?_ ?_
  · intro j hj j0
    rw [q270_90, h2.c4, nn76, jx76 _ (by omega) (by omega), h2.B, if_neg (by omega), if_neg (by omega)]
  · intro j hj ih j0
    have t3 : μ 89 (11 * (a + 1) + j + 1) = T (a + 1) (j + 1) := by
      rw [← hT (a + 1) (j + 1) (by omega) (by omega)]
      unfold tM
      rw [Int.add_assoc]
    have e9 : (if j + 1 < vB W then FU (fun j => lk V W a j ∧ T (a + 1) (j + 1) = left - 1) (vB W) (j + 1) (vB W) else j + 1) = FU (fun j => lk V W a j ∧ T (a + 1) (j + 1) = left - 1) (vB W) (j + 1) (vB W) := by
      by_cases q : j + 1 < vB W
      · rw [if_pos q]
      · rw [if_neg q, FU_e (by omega)]
        omega
    have ih2 := ih (by omega)
    rw [e9] at ih2
    rw [q270_90, h2.c4, nn76, jx76 _ (by omega) (by omega), h2.B, if_pos hj, m_isLike hv hw h1 h2 a0 a1 j0 hj, bnd_s, if_pos hj, FU_s hj, h2.m.c29, nn89, w32_l (x := a + 1) (by omega) (by omega), w32_l (x := 11 * (a + 1)) (by omega) (by omega), w32_l (x := 11 * (a + 1) + j) (by omega) (by omega), w32_l (x := 11 * (a + 1) + j + 1) (by omega) (by omega), jx89 _ (by omega) (by omega), t3, w32_l (x := j + 1) (by omega) (by omega), w32_l (x := left - 1) (by omega) (by omega), ih2]
    simp only [b2i_0]
    by_cases z : lk V W a j
    · rw [if_neg (fun q => q z)]
      by_cases z2 : T (a + 1) (j + 1) = left - 1
      · rw [if_pos z2, if_pos ⟨z, z2⟩]
      · rw [if_neg z2, if_neg (show ¬ (lk V W a j ∧ T (a + 1) (j + 1) = left - 1) from fun q => z2 q.2)]
    · rw [if_pos z, if_neg (show ¬ (lk V W a j ∧ T (a + 1) (j + 1) = left - 1) from fun q => z q.1)]
theorem m_se162 (hv : WF V) (hw : WF W) (h1 : MF μ f V) (h2 : MF μ g W) (hT : ∀ x y, 0 ≤ x → 0 ≤ y → tM μ x y = T x y) {i left a b n : Int} (hl : 0 ≤ left ∧ left ≤ 20) (a0 : 0 ≤ a) (a1 : a < vB V) : ∀ j, 0 ≤ j → EE 270 162 [(48, 71), (0, f), (0, g), (0, i), (0, left), (0, a), (0, b), (0, n), (0, j)] [] μ = EE 270 144 [(48, 71), (0, f), (0, g), (0, i), (0, left), (0, a), (0, b), (0, n), (0, if j < vB W then FU (fun j => lk V W a j ∧ T (a + 1) (j + 1) = left - 1) (vB W) j (vB W) else j)] [] μ := by
  have rv := hv.r
  have rw' := hw.r
  have hg := h2.fr
  refine up_ind (vB W) ?_ ?_
  · intro j hj j0
    rw [q270_162, h2.c4, nn76, jx76 _ (by omega) (by omega), h2.B, if_neg (by omega), if_neg (by omega)]
  · intro j hj ih j0
    have t3 : μ 89 (11 * (a + 1) + j + 1) = T (a + 1) (j + 1) := by
      rw [← hT (a + 1) (j + 1) (by omega) (by omega)]
      unfold tM
      rw [Int.add_assoc]
    have e9 : (if j + 1 < vB W then FU (fun j => lk V W a j ∧ T (a + 1) (j + 1) = left - 1) (vB W) (j + 1) (vB W) else j + 1) = FU (fun j => lk V W a j ∧ T (a + 1) (j + 1) = left - 1) (vB W) (j + 1) (vB W) := by
      by_cases q : j + 1 < vB W
      · rw [if_pos q]
      · rw [if_neg q, FU_e (by omega)]
        omega
    have ih2 := ih (by omega)
    rw [e9] at ih2
    rw [q270_162, h2.c4, nn76, jx76 _ (by omega) (by omega), h2.B, if_pos hj, m_isLike hv hw h1 h2 a0 a1 j0 hj, bnd_s, if_pos hj, FU_s hj, h2.m.c29, nn89, w32_l (x := a + 1) (by omega) (by omega), w32_l (x := 11 * (a + 1)) (by omega) (by omega), w32_l (x := 11 * (a + 1) + j) (by omega) (by omega), w32_l (x := 11 * (a + 1) + j + 1) (by omega) (by omega), jx89 _ (by omega) (by omega), t3, w32_l (x := j + 1) (by omega) (by omega), w32_l (x := left - 1) (by omega) (by omega), ih2]
    simp only [b2i_0]
    by_cases z : lk V W a j
    · rw [if_neg (fun q => q z)]
      by_cases z2 : T (a + 1) (j + 1) = left - 1
      · rw [if_pos z2, if_pos ⟨z, z2⟩]
      · rw [if_neg z2, if_neg (show ¬ (lk V W a j ∧ T (a + 1) (j + 1) = left - 1) from fun q => z2 q.2)]
    · rw [if_pos z, if_neg (show ¬ (lk V W a j ∧ T (a + 1) (j + 1) = left - 1) from fun q => z q.1)]
theorem m_seek (hv : WF V) (hw : WF W) (h1 : MF μ f V) (h2 : MF μ g W) (ht : TB V W T) (hT : ∀ x y, 0 ≤ x → 0 ≤ y → tM μ x y = T x y) {i : Int} (hi : i ≤ 20) : ∀ a b n left, 0 ≤ a → a ≤ vB V → 0 ≤ b → b ≤ vB W → left = T a b → 0 ≤ n → n ≤ i → i - n < left →
    EE 270 90 [(48, 71), (0, f), (0, g), (0, i), (0, left), (0, a), (0, b), (0, n), (0, b)] [] μ = some (cd (CH V W T a b) (i - n), μ) ∧ EE 270 162 [(48, 71), (0, f), (0, g), (0, i), (0, left), (0, a), (0, b), (0, n), (0, b)] [] μ = some (cd (CH V W T a b) (i - n), μ) := by
  have rv := hv.r
  have rw' := hw.r
  have hg := h2.fr
  refine up_ind (vB V) ?_ ?_
  · intro a ha b n left a0 a1 b0 b1 hl n0 n1 hn
    have := (ht a b a0 a1 b0 b1).2
    omega
  · intro a ha ih b n left a0 a1 b0 b1 hl n0 n1 hn
    have r := (ht a b a0 a1 b0 b1).2
    have hf := fl_r (V := V) (W := W) (a := a) b1
    have se : FU (fun j => lk V W a j ∧ T (a + 1) (j + 1) = left - 1) (vB W) b (vB W) = if tk V W T a b then fl V W a b else vB W := by
      subst hl
      exact tk_s ht a0 ha b0 b1
    have e9 : (if b < vB W then FU (fun j => lk V W a j ∧ T (a + 1) (j + 1) = left - 1) (vB W) b (vB W) else b) = FU (fun j => lk V W a j ∧ T (a + 1) (j + 1) = left - 1) (vB W) b (vB W) := by
      by_cases q : b < vB W
      · rw [if_pos q]
      · rw [if_neg q, FU_e (by omega)]
        omega
    have key : EE 270 144 [(48, 71), (0, f), (0, g), (0, i), (0, left), (0, a), (0, b), (0, n), (0, if tk V W T a b then fl V W a b else vB W)] [] μ = some (cd (CH V W T a b) (i - n), μ) := by
      rw [CH_s ha, q270_144, h2.c4, nn76, jx76 _ (by omega) (by omega), h2.B]
      by_cases q : tk V W T a b
      · have q1 := q.1
        have q2 := q.2
        rw [if_pos q, if_pos q, if_neg (by omega), w32_l (x := left + -1) (by omega) (by omega), w32_l (x := a + 1) (by omega) (by omega), w32_l (x := fl V W a b + 1) (by omega) (by omega), w32_l (x := n + 1) (by omega) (by omega), q270_80]
        by_cases q3 : i < n + 1
        · rw [if_pos q3, show i - n = 0 by omega, cd_0, w32_l (by omega) (by omega), show a + 1 - 1 = a by omega]
        · rw [if_neg q3, cd_s _ _ (by omega), show i - n - 1 = i - (n + 1) by omega]
          exact (ih (fl V W a b + 1) (n + 1) (left + -1) (by omega) (by omega) (by omega) (by omega) (by omega) (by omega) (by omega) (by omega)).1
      · have e := tk_n ht a0 ha b0 b1 q
        rw [if_neg q, if_neg q, if_pos rfl, w32_l (x := a + 1) (by omega) (by omega)]
        exact (ih b n left (by omega) (by omega) b0 b1 (by omega) n0 n1 hn).2
    constructor
    · rw [m_se90 hv hw h1 h2 hT (by omega) a0 ha b b0, e9, se, key]
    · rw [m_se162 hv hw h1 h2 hT (by omega) a0 ha b b0, e9, se, key]
end SE
theorem st_stays (h : Inv M μ) (f g i : Int) : ST M (EE 144 0 [(47, 1), (0, f), (0, g), (0, i), (9, 0), (9, 0), (9, 0)] [] μ) (fun m => EE 270 0 [(48, 71), (0, f), (0, g), (0, i), (9, 0), (9, 0), (9, 0), (9, 0), (9, 0)] [] m) := by
  unfold ST
  rw [q144_0, c_frameAt h.s, bnd_s, c_frameAt h.s, bnd_s]
  by_cases hf : 0 ≤ f ∧ f ≤ 2
  · by_cases hg : 0 ≤ g ∧ g ≤ 2
    · have hv := h.wf hf.1 (show f < 3 by omega)
      have hw := h.wf hg.1 (show g < 3 by omega)
      have c1 := h.cf hf.1 (show f < 3 by omega)
      have c2 := h.cf hg.1 (show g < 3 by omega)
      have rv := hv.r
      have rw' := hw.r
      rw [if_pos hf, if_pos hg, if_neg (by omega), if_neg (by omega)]
      by_cases e0 : i < -1
      · rw [if_pos e0]
        refine ⟨_, _, _, rfl, ?_, h⟩
        simp only [q270_0, m_isFrame, bnd_s, b2i_0, ite_not, if_pos hf, if_pos hg, if_pos e0]
      · rw [if_neg e0, nA0 c1.fr, c1.c0, nA0 c2.fr, c2.c0]
        simp only [b2i_0, ne_eq, Decidable.not_not]
        by_cases e1 : vB (VM μ f) = 0
        · rw [if_pos e1]
          refine ⟨_, _, _, rfl, ?_, h⟩
          simp only [q270_0, m_isFrame, m_isMissing (h.mf hf.1 (show f < 3 by omega)), bnd_s, b2i_0, ite_not, if_pos hf, if_pos hg, if_neg e0, if_pos e1]
        · rw [if_neg e1]
          by_cases e2 : vB (VM μ g) = 0
          · rw [if_pos e2]
            refine ⟨_, _, _, rfl, ?_, h⟩
            simp only [q270_0, m_isFrame, m_isMissing (h.mf hf.1 (show f < 3 by omega)), m_isMissing (h.mf hg.1 (show g < 3 by omega)), bnd_s, b2i_0, ite_not, if_pos hf, if_pos hg, if_neg e0, if_neg e1, if_pos e2]
          · rw [if_neg e2, h.s.1.2.2.2.2.2.2.2.2.1, nn25, q78_0, nA0 c1.fr, c1.c1]
            obtain ⟨m1, x1, x2, x3⟩ := c_mvO hv hw (vB (VM μ f)) μ (9, 0) (by omega) (by omega) h.s c1 c2 (fun x y q => by omega)
            have s1 := vA_GS x2 h.s
            have u0 : vA m1 (up m1 25 0 0) := fun c j q => up_n _ _ (by omega)
            have n0 : up m1 25 0 0 25 0 = 0 := up_s _ _ _ _
            obtain ⟨m2, y1, y2⟩ := c_choose hv hw x3 0 (up m1 25 0 0) 0 (9, 0) (by omega) (by omega) (by omega) (by omega) (vA_GS u0 s1) (vA_CF u0 (vA_CF x2 c1)) (vA_CF u0 (vA_CF x2 c2)) (fun x y x0 => up_n _ _ (by omega)) (by omega) (by omega)
            have sa : sA μ m2 := fun c j q => by
              rw [y2.1 c j (by omega), u0 c j (by omega), x2 c j (by omega)]
            have hI := Inv_sA sa h
            have v1 := VM_sA sa hv
            have v2 := VM_sA sa hw
            have ln := CH_n x3 0 0 (by omega) (by omega) (by omega) (by omega)
            have many : m2 25 0 = tC m1 0 0 := by
              rw [y2.2.1, n0, Int.zero_add, ln]
            have rT := (x3 0 0 (by omega) (by omega) (by omega) (by omega)).2
            have k1 := hI.mf hf.1 (show f < 3 by omega)
            have k2 := hI.mf hg.1 (show g < 3 by omega)
            rw [v1] at k1
            rw [v2] at k2
            obtain ⟨m3, z1, z2, z3⟩ := m_fillO hv hw (vB (VM μ f)) m2 (9, 0) (9, 0) (by omega) (by omega) k1 k2 (fun x y q => by omega)
            have l1 := xA_MF z2 k1
            have l2 := xA_MF z2 k2
            have un := TB_u z3 x3
            have e00 : m3 89 0 = tC m1 0 0 := un 0 (by omega) (by omega) 0 (by omega) (by omega)
            have hI3 := Inv_sA (xA_sA z2) hI
            have hm : EE 270 0 [(48, 71), (0, f), (0, g), (0, i), (9, 0), (9, 0), (9, 0), (9, 0), (9, 0)] [] m2 = if i < 0 then some (tC m1 0 0, m3) else if i < tC m1 0 0 then EE 270 80 [(48, 71), (0, f), (0, g), (0, i), (0, tC m1 0 0), (0, 0), (0, 0), (0, 0), (9, 0)] [] m3 else some (-1000000005, m3) := by
              simp only [q270_0, m_isFrame, m_isMissing k1, m_isMissing k2, bnd_s, b2i_0, ite_not, if_pos hf, if_pos hg, if_neg e0, if_neg e1, if_neg e2]
              rw [q269_0, k1.c4, nn76, jx76 _ (by omega) (by omega), k1.B, z1, bnd_s, l1.m.c29, nn89, jx89 _ (by omega) (by omega), e00]
            rw [x1, q81_0, y1, bnd_s, bnd_s, many]
            by_cases e5 : i = -1
            · rw [if_pos e5]
              refine ⟨_, _, m3, rfl, ?_, hI3⟩
              show EE 270 0 [(48, 71), (0, f), (0, g), (0, i), (9, 0), (9, 0), (9, 0), (9, 0), (9, 0)] [] m2 = _
              rw [hm, if_pos (by omega)]
            · rw [if_neg e5]
              rw [if_neg (by omega)] at hm
              by_cases e6 : i < tC m1 0 0
              · rw [if_pos e6] at hm ⊢
                have st := y2.2.2.2 i (by omega) (by omega)
                rw [n0, Int.zero_add] at st
                rw [hI.s.1.2.2.2.2.2.2.2.2.1, nn25, q83_0, hI.s.2.2.1.2.2.2.2.2.1, nn26, cle26, w32_l (by omega) (by omega), c_within, bnd_s, b2i_t (by omega), if_neg (by omega), hI.s.2.2.1.2.2.2.2.2.1, nn26, jx26 _ (by omega) (by omega), bnd_s, st]
                refine ⟨_, _, m3, rfl, ?_, hI3⟩
                show EE 270 0 [(48, 71), (0, f), (0, g), (0, i), (9, 0), (9, 0), (9, 0), (9, 0), (9, 0)] [] m2 = _
                have sk := (m_seek (i := i) hv hw l1 l2 (T := fun x y => tM m3 x y) z3 (fun x y _ _ => rfl) (by omega) 0 0 0 (tC m1 0 0) (by omega) (by omega) (by omega) (by omega) e00.symm (by omega) (by omega) (by omega)).1
                rw [hm, q270_80, if_neg (by omega), sk, Int.sub_zero]
                have ch : ∀ a b, 0 ≤ a → 0 ≤ b → b ≤ vB (VM μ g) → CH (VM μ f) (VM μ g) (fun x y => tM m3 x y) a b = CH (VM μ f) (VM μ g) (tC m1) a b := by
                  refine up_ind (vB (VM μ f)) (fun a ha b a0 b0 b1 => ?_) (fun a ha ih b a0 b0 b1 => ?_)
                  · rw [CH_e ha, CH_e ha]
                  · have hfl := fl_r (V := VM μ f) (W := VM μ g) (a := a) b1
                    have eq1 : tk (VM μ f) (VM μ g) (fun x y => tM m3 x y) a b ↔ tk (VM μ f) (VM μ g) (tC m1) a b := by
                      unfold tk
                      constructor
                      · intro q
                        refine ⟨q.1, ?_⟩
                        rw [← un (a + 1) (by omega) (by omega) _ (by have := q.1; omega) (by omega), ← un a (by omega) a0 b b1 b0]
                        exact q.2
                      · intro q
                        refine ⟨q.1, ?_⟩
                        show tM m3 _ _ + 1 = tM m3 _ _
                        rw [un (a + 1) (by omega) (by omega) _ (by have := q.1; omega) (by omega), un a (by omega) a0 b b1 b0]
                        exact q.2
                    rw [CH_s ha, CH_s ha]
                    by_cases q : tk (VM μ f) (VM μ g) (tC m1) a b
                    · rw [if_pos q, if_pos (eq1.2 q), ih _ (by omega) (by omega) (by have := q.1; omega)]
                    · rw [if_neg q, if_neg (fun w => q (eq1.1 w)), ih _ (by omega) b0 b1]
                rw [ch 0 0 (by omega) (by omega) (by omega)]
              · rw [if_neg e6] at hm ⊢
                exact ⟨_, _, m3, rfl, hm, hI3⟩
    · rw [if_pos hf, if_neg hg, if_neg (by omega), if_pos rfl]
      refine ⟨_, _, _, rfl, ?_, h⟩
      simp only [q270_0, m_isFrame, bnd_s, b2i_0, ite_not, if_pos hf, if_neg hg]
  · rw [if_neg hf, if_pos rfl]
    refine ⟨_, _, _, rfl, ?_, h⟩
    simp only [q270_0, m_isFrame, bnd_s, b2i_0, ite_not, if_neg hf]
end MS
