/-! the list of breaches -/
def cd (xs : List Int) (i : Int) : Int := xs.getD i.toNat 0
theorem cd_l {xs ys : List Int} {i : Int} (h0 : 0 ≤ i) (h : i < xs.length) : cd (xs ++ ys) i = cd xs i := by
  unfold cd
  rw [List.getD_eq_getElem?_getD, List.getD_eq_getElem?_getD, List.getElem?_append, if_pos (by omega)]
theorem cd_r {xs ys : List Int} {i : Int} (h : (xs.length : Int) ≤ i) : cd (xs ++ ys) i = cd ys (i - xs.length) := by
  unfold cd
  rw [List.getD_eq_getElem?_getD, List.getD_eq_getElem?_getD, List.getElem?_append, if_neg (by omega), show i.toNat - xs.length = (i - xs.length).toNat by omega]
theorem cd_m {xs : List Int} {i : Int} (h0 : 0 ≤ i) (h : i < xs.length) : cd xs i ∈ xs := by
  unfold cd
  have : i.toNat < xs.length := by omega
  rw [List.getD_eq_getElem?_getD, List.getElem?_eq_getElem this]
  exact List.getElem_mem this
abbrev TDp (V : FV) (sd hi l s : Int) : Prop := FU (fun l' => FU (fun s' => vT V s' l' ≠ 0) (-1) s (s + sd) ≠ -1) (-1) l (l + hi) ≠ -1
abbrev BRp (V : FV) (wd l b : Int) : Prop := FU (fun b' => vR V b' l ≠ 0 ∨ (l = 0 ∧ gat V b')) (-1) b (b + wd) ≠ -1
def lsN (q : Int → Prop) [DecidablePred q] (k : Int) : Nat → Int → List Int
  | 0, _ => []
  | n + 1, s => (if q s then [] else [k + s]) ++ lsN q k n (s + 1)
/-- those of i .. n-1 without q, each with k added -/
def LSt (q : Int → Prop) [DecidablePred q] (k i n : Int) : List Int := lsN q k (n - i).toNat i
theorem LSt_e {q : Int → Prop} [DecidablePred q] {k i n : Int} (h : n ≤ i) : LSt q k i n = [] := by
  unfold LSt
  rw [show (n - i).toNat = 0 by omega]
  rfl
theorem LSt_s {q : Int → Prop} [DecidablePred q] {k i n : Int} (h : i < n) : LSt q k i n = (if q i then [] else [k + i]) ++ LSt q k (i + 1) n := by
  unfold LSt
  rw [show (n - i).toNat = (n - (i + 1)).toNat + 1 by omega]
  rfl
theorem LSt_n {q : Int → Prop} [DecidablePred q] {k n : Int} : ∀ i, ((LSt q k i n).length : Int) ≤ (if i < n then n - i else 0) ∧ ∀ x ∈ LSt q k i n, k + i ≤ x ∧ x < k + n := by
  refine up_ind n ?_ ?_
  · intro i hi
    rw [LSt_e hi, if_neg (by omega)]
    exact ⟨by simp, fun x hx => by simp at hx⟩
  · intro i hi ih
    rw [LSt_s hi, if_pos hi]
    have h1 : ((if q i then [] else [k + i] : List Int).length : Int) ≤ 1 := by split <;> simp
    constructor
    · rw [List.length_append]
      have := ih.1
      split at this <;> omega
    · intro x hx
      rcases List.mem_append.1 hx with hx | hx
      · split at hx
        · simp at hx
        · simp at hx
          omega
      · have := ih.2 x hx
        omega
def loN (F : Int → List Int) : Nat → Int → List Int
  | 0, _ => []
  | n + 1, l => F l ++ loN F n (l + 1)
def LO (F : Int → List Int) (i n : Int) : List Int := loN F (n - i).toNat i
theorem LO_e {F : Int → List Int} {i n : Int} (h : n ≤ i) : LO F i n = [] := by
  unfold LO
  rw [show (n - i).toNat = 0 by omega]
  rfl
theorem LO_s {F : Int → List Int} {i n : Int} (h : i < n) : LO F i n = F i ++ LO F (i + 1) n := by
  unfold LO
  rw [show (n - i).toNat = (n - (i + 1)).toNat + 1 by omega]
  rfl
theorem LO_m {F : Int → List Int} {n : Int} {x : Int} : ∀ i, x ∈ LO F i n → ∃ l, i ≤ l ∧ l < n ∧ x ∈ F l := by
  refine up_ind n ?_ ?_
  · intro i hi hx
    rw [LO_e hi] at hx
    simp at hx
  · intro i hi ih hx
    rw [LO_s hi] at hx
    rcases List.mem_append.1 hx with hx | hx
    · exact ⟨i, by omega, hi, hx⟩
    · obtain ⟨l, a, b, c⟩ := ih hx
      exact ⟨l, by omega, b, c⟩
def tRow (V : FV) (sd hi l : Int) : List Int := LSt (TDp V sd hi l) (11 * l) 0 (vB V + 2 - sd)
def bRow (V : FV) (wd l : Int) : List Int := LSt (BRp V wd l) (66 + 11 * l) 0 (vB V + 1 - wd)
def sdO (V : FV) (a : Int) : Int := if vB V + 1 < a + 1 then vB V + 1 else a + 1
def hiO (V : FV) (b : Int) : Int := if vL V < b then vL V else b
def wdO (V : FV) (c : Int) : Int := if vB V < c then vB V else c
def BL1 (V : FV) (a b : Int) : List Int := if 0 < a then LO (tRow V (sdO V a) (hiO V b)) 0 (vL V + 1 - hiO V b) else []
def BL2 (V : FV) (c : Int) : List Int := if 0 < c then LO (bRow V (wdO V c)) 0 (vL V) else []
def BL (V : FV) (a b c : Int) : List Int := BL1 V a b ++ BL2 V c
theorem BL_r {V : FV} (hw : WF V) (hB : vB V ≠ 0) {a b c : Int} (ha : 0 ≤ a) (hb : 1 ≤ b) : ∀ x ∈ BL V a b c, 0 ≤ x ∧ x < 132 := by
  have hr := hw.r
  intro x hx
  unfold BL BL1 BL2 at hx
  rcases List.mem_append.1 hx with hx | hx
  · split at hx
    · obtain ⟨l, l0, l1, hx⟩ := LO_m _ hx
      have := (LSt_n _).2 x hx
      have h1 : 1 ≤ hiO V b := by unfold hiO; split <;> omega
      have h2 : 1 ≤ sdO V a := by unfold sdO; split <;> omega
      omega
    · simp at hx
  · split at hx
    · obtain ⟨l, l0, l1, hx⟩ := LO_m _ hx
      have := (LSt_n _).2 x hx
      have h2 : 1 ≤ wdO V c := by unfold wdO; split <;> omega
      omega
    · simp at hx
/-- codes written behind those there -/
def Ap (μ μ' : MM) (xs : List Int) : Prop := (∀ c i, ¬ (c = 12 ∨ (c = 11 ∧ i = 3)) → μ' c i = μ c i) ∧ μ' 11 3 = μ 11 3 + xs.length ∧ (∀ j, j < μ 11 3 → μ' 12 j = μ 12 j) ∧ ∀ i : Int, 0 ≤ i → i < xs.length → μ' 12 (μ 11 3 + i) = cd xs i
theorem Ap_r (μ : MM) : Ap μ μ [] := ⟨fun _ _ _ => rfl, by simp, fun _ _ => rfl, fun i a b => by have b2 : i < ((0 : Nat) : Int) := b; omega⟩
theorem Ap_t {μ m1 m2 : MM} {xs ys : List Int} (h1 : Ap μ m1 xs) (h2 : Ap m1 m2 ys) : Ap μ m2 (xs ++ ys) := by
  have l := List.length_append (as := xs) (bs := ys)
  have e1 := h1.2.1
  refine ⟨fun c i q => (h2.1 c i q).trans (h1.1 c i q), ?_, fun j q => ?_, fun i a b => ?_⟩
  · rw [h2.2.1, e1, l]
    omega
  · rw [h2.2.2.1 j (by omega), h1.2.2.1 j q]
  · rw [l] at b
    by_cases e : i < xs.length
    · rw [h2.2.2.1 _ (by omega), h1.2.2.2 i a e, cd_l a e]
    · have := h2.2.2.2 (i - xs.length) (by omega) (by omega)
      rw [e1, show μ 11 3 + (xs.length : Int) + (i - xs.length) = μ 11 3 + i by omega] at this
      rw [this, cd_r (by omega)]
/-- the reference's note of breach i, where those of xs are numbered from n -/
def Nt (μ μ' : MM) (xs : List Int) (n i : Int) : Prop := (∀ c j, ¬ (c = 71 ∧ 26 ≤ j ∧ j ≤ 28) → μ' c j = μ c j) ∧ (∀ k : Int, 0 ≤ k → k < xs.length → n + k = i → μ' 71 26 = cd xs k / 66 ∧ μ' 71 27 = cd xs k % 66 / 11 ∧ μ' 71 28 = cd xs k % 11) ∧ (¬ (n ≤ i ∧ i < n + xs.length) → ∀ j, μ' 71 j = μ 71 j)
theorem Nt_r (μ : MM) (n i : Int) : Nt μ μ [] n i := ⟨fun _ _ _ => rfl, fun k a b _ => by have b2 : k < ((0 : Nat) : Int) := b; omega, fun _ _ => rfl⟩
theorem Nt_t {μ m1 m2 : MM} {xs ys : List Int} {n i : Int} (h1 : Nt μ m1 xs n i) (h2 : Nt m1 m2 ys (n + xs.length) i) : Nt μ m2 (xs ++ ys) n i := by
  have l := List.length_append (as := xs) (bs := ys)
  refine ⟨fun c j q => (h2.1 c j q).trans (h1.1 c j q), fun k a b e => ?_, fun q j => ?_⟩
  · rw [l] at b
    by_cases z : k < xs.length
    · have h3 := h2.2.2 (by omega)
      rw [h3, h3, h3, cd_l a z]
      exact h1.2.1 k a z e
    · rw [cd_r (by omega)]
      exact h2.2.1 _ (by omega) (by omega) (by omega)
  · rw [l] at q
    rw [h2.2.2 (by omega), h1.2.2 (by omega)]
theorem Nt_sA {μ μ' : MM} {xs : List Int} {n i : Int} (h : Nt μ μ' xs n i) : sA μ μ' := fun c j q => h.1 c j (by omega)
theorem Ap_sA {μ μ' : MM} {xs : List Int} (h : Ap μ μ' xs) : sA μ μ' := fun c j q => h.1 c j (by omega)
section BR
variable {M μ μ' : MM} {A f : Int} {V : FV}
theorem Ap_GS {xs : List Int} (e : Ap μ μ' xs) (h : GS μ) : GS μ' := GS_ag (fun c i q => e.1 c i (by omega)) h
theorem Ap_CF {xs : List Int} (e : Ap μ μ' xs) (h : CF μ A V) : CF μ' A V := CF_ag (fun c i q => e.1 c i (by have := fr_p h.fr; omega)) h
theorem c_list (hs : GS μ) {k l p : Int} (hk : k = 0 ∨ k = 1) (hl : 0 ≤ l ∧ l < 6) (hp : 0 ≤ p ∧ p < 11) (hn : 0 ≤ μ 11 3 ∧ μ 11 3 < 132) : ∃ μ', EE 99 0 [(46, 11), (0, k), (0, l), (0, p)] [] μ = some (0, μ') ∧ Ap μ μ' [66 * k + 11 * l + p] := by
  rw [q99_0, hs.2.2.1.2.2.2.1, nn12, cle12, if_pos (by omega), c_pieceAt _ (by omega) (by omega) (by omega), bnd_s, nn12, jx12 _ (by omega) (by omega), up_nc _ _ (by omega), w32_l (by omega) (by omega)]
  refine ⟨_, rfl, fun c i q => ?_, ?_, fun j q => ?_, fun i a b => ?_⟩
  · rw [up_n _ _ (by omega), up_n _ _ (by omega)]
  · rw [up_s]
    rfl
  · rw [up_nc _ _ (by omega), up_ni _ _ (by omega)]
  · have b2 : i < 1 := b
    have e : i = 0 := by omega
    subst e
    rw [up_nc _ _ (by omega), Int.add_zero, up_s]
    rfl
theorem c_tiedI (hw : WF V) (h : CF μ A V) {a r e : Int} (a0 : 0 ≤ a) (hr : r ≤ 100) {l : Int} : ∀ s d, a ≤ s → EE 96 13 [(11, A), (0, a), (0, r), d, (0, e), (0, l), (0, s)] [] μ = if FU (fun s' => vT V s' l ≠ 0) (-1) s r ≠ -1 then some (1, μ) else EE 96 3 [(11, A), (0, a), (0, r), (9, 0), (0, e), (0, w32 (l + 1)), (9, 0)] [] μ := by
  refine up_ind r ?_ ?_
  · intro s hs d _
    rw [q96_13, if_neg (by omega), FU_e hs, if_neg (fun q => q rfl), q96_3, q96_3]
  · intro s hs ih d s0
    rw [q96_13, if_pos hs, nA0 h.fr, c_hasTie hw h, bnd_s, FU_s hs]
    by_cases z : vT V s l = 0
    · rw [if_pos z, w32_l (x := s + 1) (by omega) (by omega), ih _ (by omega), if_neg (show ¬ vT V s l ≠ 0 from fun q => q z)]
    · rw [if_neg z, if_pos z, if_pos (by omega)]
theorem c_isTied (hw : WF V) (h : CF μ A V) {a r e : Int} (a0 : 0 ≤ a) (hr : r ≤ 100) (he : e ≤ 100) : ∀ l d3 d6, 0 ≤ l → EE 96 3 [(11, A), (0, a), (0, r), d3, (0, e), (0, l), d6] [] μ = some (b2i (FU (fun l' => FU (fun s' => vT V s' l' ≠ 0) (-1) a r ≠ -1) (-1) l e ≠ -1), μ) := by
  refine up_ind e ?_ ?_
  · intro l hl d3 d6 _
    rw [q96_3, if_neg (by omega), FU_e hl, b2i_f (fun q => q rfl)]
  · intro l hl ih d3 d6 l0
    rw [q96_3, if_pos hl, c_tiedI hw h a0 hr _ _ (by omega), FU_s hl]
    by_cases z : FU (fun s' => vT V s' l ≠ 0) (-1) a r ≠ -1
    · rw [if_pos z, if_pos z, b2i_t (by omega)]
    · rw [if_neg z, if_neg z, w32_l (by omega) (by omega), ih _ _ (by omega)]
theorem c_isBraced (hw : WF V) (h : CF μ A V) {r l : Int} (hr : r ≤ 100) : ∀ b d, 0 ≤ b → EE 98 3 [(11, A), d, (0, r), (0, l), (0, b)] [] μ = some (b2i (FU (fun b' => vR V b' l ≠ 0 ∨ (l = 0 ∧ gat V b')) (-1) b r ≠ -1), μ) := by
  refine up_ind r ?_ ?_
  · intro b hb d _
    rw [q98_3, if_neg (by omega), FU_e hb, b2i_f (fun q => q rfl)]
  · intro b hb ih d b0
    rw [q98_3, if_pos hb, nA0 h.fr, c_hasBrace hw h, bnd_s, nA0 h.fr, c_isOpening hw h, bnd_s, FU_s hb]
    simp only [b2i_0]
    by_cases z : vR V b l = 0
    · rw [if_pos z]
      by_cases z2 : l = 0 ∧ gat V b
      · rw [if_neg (fun q => q z2), if_pos (Or.inr z2), b2i_t (by omega)]
      · rw [if_pos z2, if_neg (fun q => q.elim (fun y => y z) z2), w32_l (by omega) (by omega), ih _ (by omega)]
    · rw [if_neg z, if_pos (Or.inl z), b2i_t (by omega)]
theorem c_tieRow (hw : WF V) {sd hi l : Int} (d0 : 1 ≤ sd) (d1 : sd ≤ vB V + 1) (h0 : 1 ≤ hi) (h1 : l + hi ≤ vL V) (l0 : 0 ≤ l) : ∀ s (μ : MM), 0 ≤ s → s ≤ 20 → GS μ → CF μ A V → 0 ≤ μ 11 3 → μ 11 3 ≤ 11 * l + s → ∃ μ', EE 95 45 [(46, 11), (11, A), (0, sd), (0, hi), (0, l), (0, s)] [] μ = EE 95 31 [(46, 11), (11, A), (0, sd), (0, hi), (0, l + 1), (9, 0)] [] μ' ∧ Ap μ μ' (LSt (TDp V sd hi l) (11 * l) s (vB V + 2 - sd)) := by
  have hr := hw.r
  refine up_ind (vB V + 2 - sd) ?_ ?_
  · intro s hs μ s0 s2 hg h _ _
    refine ⟨μ, ?_, ?_⟩
    · rw [q95_45, nA0 h.fr, h.c1, w32_l (x := vB V + 1) (by omega) (by omega), w32_l (x := s + sd) (by omega) (by omega), if_pos (by omega), w32_l (by omega) (by omega), q95_31, q95_31]
    · rw [LSt_e hs]
      exact Ap_r μ
  · intro s hs ih μ s0 s2 hg h n0 n1
    rw [q95_45, nA0 h.fr, h.c1, w32_l (x := vB V + 1) (by omega) (by omega), w32_l (x := s + sd) (by omega) (by omega), if_neg (by omega), w32_l (x := l + hi) (by omega) (by omega), q96_0, c_isTied hw h s0 (by omega) (by omega) _ _ _ l0, bnd_s, w32_l (x := s + 1) (by omega) (by omega), LSt_s hs]
    simp only [b2i_0]
    by_cases z : TDp V sd hi l s
    · rw [if_neg (fun q => q z), if_pos z]
      obtain ⟨m2, y1, y2⟩ := ih μ (by omega) (by omega) hg h n0 (by omega)
      exact ⟨m2, y1, y2⟩
    · rw [if_pos z, if_neg z]
      obtain ⟨m1, x1, x2⟩ := c_list hg (k := 0) (l := l) (p := s) (Or.inl rfl) (by omega) (by omega) (by omega)
      have e1 : m1 11 3 = μ 11 3 + 1 := x2.2.1
      obtain ⟨m2, y1, y2⟩ := ih m1 (by omega) (by omega) (Ap_GS x2 hg) (Ap_CF x2 h) (by omega) (by omega)
      refine ⟨m2, ?_, ?_⟩
      · rw [x1, bnd_s, y1]
      · rw [show (66 : Int) * 0 + 11 * l + s = 11 * l + s by omega] at x2
        exact Ap_t x2 y2
theorem c_tieRows (hw : WF V) {sd hi : Int} (d0 : 1 ≤ sd) (d1 : sd ≤ vB V + 1) (h0 : 1 ≤ hi) (h1 : hi ≤ vL V) : ∀ l (μ : MM) d, 0 ≤ l → l ≤ 20 → GS μ → CF μ A V → 0 ≤ μ 11 3 → μ 11 3 ≤ 11 * l → ∃ μ', EE 95 31 [(46, 11), (11, A), (0, sd), (0, hi), (0, l), d] [] μ = some (0, μ') ∧ Ap μ μ' (LO (tRow V sd hi) l (vL V + 1 - hi)) := by
  have hr := hw.r
  refine up_ind (vL V + 1 - hi) ?_ ?_
  · intro l hl μ d l0 l2 hg h _ _
    refine ⟨μ, ?_, ?_⟩
    · rw [q95_31, nA0 h.fr, h.c2, w32_l (by omega) (by omega), if_pos (by omega)]
    · rw [LO_e hl]
      exact Ap_r μ
  · intro l hl ih μ d l0 l2 hg h n0 n1
    obtain ⟨m1, x1, x2⟩ := c_tieRow (A := A) hw d0 d1 h0 (l := l) (by omega) l0 0 μ (by omega) (by omega) hg h n0 (by omega)
    have e1 := x2.2.1
    have e2 := (LSt_n (q := TDp V sd hi l) (k := 11 * l) (n := vB V + 2 - sd) 0).1
    rw [if_pos (by omega)] at e2
    obtain ⟨m2, y1, y2⟩ := ih m1 (9, 0) (by omega) (by omega) (Ap_GS x2 hg) (Ap_CF x2 h) (by omega) (by omega)
    refine ⟨m2, ?_, ?_⟩
    · rw [q95_31, nA0 h.fr, h.c2, w32_l (by omega) (by omega), if_neg (by omega), x1, y1]
    · rw [LO_s hl]
      exact Ap_t x2 y2
theorem c_braceRow (hw : WF V) {wd l : Int} (d0 : 1 ≤ wd) (d1 : wd ≤ vB V) (h1 : l < vL V) (l0 : 0 ≤ l) : ∀ s (μ : MM), 0 ≤ s → s ≤ 20 → GS μ → CF μ A V → 0 ≤ μ 11 3 → μ 11 3 ≤ 66 + 10 * l + s → ∃ μ', EE 97 25 [(46, 11), (11, A), (0, wd), (0, l), (0, s)] [] μ = EE 97 14 [(46, 11), (11, A), (0, wd), (0, l + 1), (9, 0)] [] μ' ∧ Ap μ μ' (LSt (BRp V wd l) (66 + 11 * l) s (vB V + 1 - wd)) := by
  have hr := hw.r
  refine up_ind (vB V + 1 - wd) ?_ ?_
  · intro s hs μ s0 s2 hg h _ _
    refine ⟨μ, ?_, ?_⟩
    · rw [q97_25, nA0 h.fr, h.c1, w32_l (x := s + wd) (by omega) (by omega), if_pos (by omega), w32_l (by omega) (by omega), q97_14, q97_14]
    · rw [LSt_e hs]
      exact Ap_r μ
  · intro s hs ih μ s0 s2 hg h n0 n1
    rw [q97_25, nA0 h.fr, h.c1, w32_l (x := s + wd) (by omega) (by omega), if_neg (by omega), q98_0, c_isBraced hw h (by omega) _ _ s0, bnd_s, w32_l (x := s + 1) (by omega) (by omega), LSt_s hs]
    simp only [b2i_0]
    by_cases z : BRp V wd l s
    · rw [if_neg (fun q => q z), if_pos z]
      obtain ⟨m2, y1, y2⟩ := ih μ (by omega) (by omega) hg h n0 (by omega)
      exact ⟨m2, y1, y2⟩
    · rw [if_pos z, if_neg z]
      obtain ⟨m1, x1, x2⟩ := c_list hg (k := 1) (l := l) (p := s) (Or.inr rfl) (by omega) (by omega) (by omega)
      have e1 : m1 11 3 = μ 11 3 + 1 := x2.2.1
      obtain ⟨m2, y1, y2⟩ := ih m1 (by omega) (by omega) (Ap_GS x2 hg) (Ap_CF x2 h) (by omega) (by omega)
      refine ⟨m2, ?_, ?_⟩
      · rw [x1, bnd_s, y1]
      · rw [show (66 : Int) * 1 + 11 * l + s = 66 + 11 * l + s by omega] at x2
        exact Ap_t x2 y2
theorem c_braceRows (hw : WF V) {wd : Int} (d0 : 1 ≤ wd) (d1 : wd ≤ vB V) : ∀ l (μ : MM) d, 0 ≤ l → l ≤ 20 → GS μ → CF μ A V → 0 ≤ μ 11 3 → μ 11 3 ≤ 66 + 10 * l → ∃ μ', EE 97 14 [(46, 11), (11, A), (0, wd), (0, l), d] [] μ = some (0, μ') ∧ Ap μ μ' (LO (bRow V wd) l (vL V)) := by
  have hr := hw.r
  refine up_ind (vL V) ?_ ?_
  · intro l hl μ d l0 l2 hg h _ _
    refine ⟨μ, ?_, ?_⟩
    · rw [q97_14, nA0 h.fr, h.c2, if_neg (by omega)]
    · rw [LO_e hl]
      exact Ap_r μ
  · intro l hl ih μ d l0 l2 hg h n0 n1
    obtain ⟨m1, x1, x2⟩ := c_braceRow (A := A) hw d0 d1 hl l0 0 μ (by omega) (by omega) hg h n0 (by omega)
    have e1 := x2.2.1
    have e2 := (LSt_n (q := BRp V wd l) (k := 66 + 11 * l) (n := vB V + 1 - wd) 0).1
    rw [if_pos (by omega)] at e2
    obtain ⟨m2, y1, y2⟩ := ih m1 (9, 0) (by omega) (by omega) (Ap_GS x2 hg) (Ap_CF x2 h) (by omega) (by omega)
    refine ⟨m2, ?_, ?_⟩
    · rw [q97_14, nA0 h.fr, h.c2, if_pos hl, x1, y1]
    · rw [LO_s hl]
      exact Ap_t x2 y2
theorem LO_n {F : Int → List Int} {n w : Int} (hw : 0 ≤ w) (h : ∀ l, ((F l).length : Int) ≤ w) : ∀ i, i ≤ n → ((LO F i n).length : Int) ≤ w * (n - i) := by
  refine up_ind n ?_ ?_
  · intro i hi hn
    rw [LO_e hi, show n - i = 0 by omega]
    simp
  · intro i hi ih hn
    have h1 := ih (by omega)
    have h2 := h i
    rw [LO_s hi, List.length_append, show n - i = (n - (i + 1)) + 1 by omega, Int.mul_add]
    omega
theorem c_reckon (hw : WF V) (hB : vB V ≠ 0) (hs : GS μ) (h : CF μ A V) (hr : GR μ) : ∃ μ', EE 94 0 [(46, 11), (11, A)] [] μ = some (((BL V (μ 71 15) (μ 71 16) (μ 71 17)).length : Int), μ') ∧ (∀ c i, ¬ (c = 12 ∨ (c = 11 ∧ i = 3)) → μ' c i = μ c i) ∧ μ' 11 3 = (BL V (μ 71 15) (μ 71 16) (μ 71 17)).length ∧ ∀ i : Int, 0 ≤ i → i < (BL V (μ 71 15) (μ 71 16) (μ 71 17)).length → μ' 12 i = cd (BL V (μ 71 15) (μ 71 16) (μ 71 17)) i := by
  have hb := hw.r
  unfold GR at hr
  have a0 : ∀ c i, ¬ (c = 12 ∨ (c = 11 ∧ i = 3)) → up μ 11 3 0 c i = μ c i := fun c i q => up_n _ _ (by omega)
  have g0 : GS (up μ 11 3 0) := GS_ag (fun c i q => a0 c i (by omega)) hs
  have f0 : CF (up μ 11 3 0) A V := CF_ag (fun c i q => a0 c i (by have := fr_p h.fr; omega)) h
  have n0 : up μ 11 3 0 11 3 = 0 := up_s _ _ _ _
  have r0 : up μ 11 3 0 11 0 = μ 71 15 := by rw [a0 11 0 (by omega)]; exact hr.1.1
  have r1 : up μ 11 3 0 11 1 = μ 71 16 := by rw [a0 11 1 (by omega)]; exact hr.2.1.1
  have r2 : up μ 11 3 0 11 2 = μ 71 17 := by rw [a0 11 2 (by omega)]; exact hr.2.2.1
  rw [q94_0]
  generalize up μ 11 3 0 = m0 at *
  have b1 : ∃ m1, (if 0 < μ 71 15 then EE 95 0 [(46, 11), (11, A), (9, 0), (9, 0), (9, 0), (9, 0)] [] m0 else some (0, m0)) = some (0, m1) ∧ Ap m0 m1 (BL1 V (μ 71 15) (μ 71 16)) ∧ ((BL1 V (μ 71 15) (μ 71 16)).length : Int) ≤ 66 := by
    unfold BL1
    by_cases z : 0 < μ 71 15
    · rw [if_pos z, if_pos z, q95_0, nA0 f0.fr, nA0 f0.fr, f0.c1, f0.c2, r0, r1, w32_l (x := vB V + 1) (by omega) (by omega), w32_l (x := μ 71 15 + 1) (by omega) (by omega)]
      have e1 : 1 ≤ sdO V (μ 71 15) ∧ sdO V (μ 71 15) ≤ vB V + 1 := by unfold sdO; split <;> omega
      have e2 : 1 ≤ hiO V (μ 71 16) ∧ hiO V (μ 71 16) ≤ vL V := by unfold hiO; split <;> omega
      obtain ⟨m1, x1, x2⟩ := c_tieRows (A := A) hw e1.1 e1.2 e2.1 e2.2 0 m0 (9, 0) (by omega) (by omega) g0 f0 (by omega) (by omega)
      refine ⟨m1, x1, x2, ?_⟩
      have := LO_n (F := tRow V (sdO V (μ 71 15)) (hiO V (μ 71 16))) (w := 11) (n := vL V + 1 - hiO V (μ 71 16)) (by omega) (fun l => by
        have := (LSt_n (q := TDp V (sdO V (μ 71 15)) (hiO V (μ 71 16)) l) (k := 11 * l) (n := vB V + 2 - sdO V (μ 71 15)) 0).1
        rw [if_pos (by omega)] at this
        unfold tRow
        omega) 0 (by omega)
      omega
    · rw [if_neg z, if_neg z]
      exact ⟨m0, rfl, Ap_r m0, by simp⟩
  obtain ⟨m1, x1, x2, x3⟩ := b1
  have g1 := Ap_GS x2 g0
  have f1 := Ap_CF x2 f0
  have n1 := x2.2.1
  have r3 : m1 11 2 = μ 71 17 := by rw [x2.1 11 2 (by omega)]; exact r2
  have b2 : ∃ m2, (if 0 < μ 71 17 then EE 97 0 [(46, 11), (11, A), (9, 0), (9, 0), (9, 0)] [] m1 else some (0, m1)) = some (0, m2) ∧ Ap m1 m2 (BL2 V (μ 71 17)) := by
    unfold BL2
    by_cases z : 0 < μ 71 17
    · rw [if_pos z, if_pos z, q97_0, nA0 f0.fr, f1.c1, r3]
      have e1 : 1 ≤ wdO V (μ 71 17) ∧ wdO V (μ 71 17) ≤ vB V := by unfold wdO; split <;> omega
      obtain ⟨m2, y1, y2⟩ := c_braceRows (A := A) hw e1.1 e1.2 0 m1 (9, 0) (by omega) (by omega) g1 f1 (by omega) (by omega)
      exact ⟨m2, y1, y2⟩
    · rw [if_neg z, if_neg z]
      exact ⟨m1, rfl, Ap_r m1⟩
  obtain ⟨m2, y1, y2⟩ := b2
  have t := Ap_t x2 y2
  have n2 := t.2.1
  rw [n0, Int.zero_add] at n2
  have fin1 : m2 11 3 = (BL V (μ 71 15) (μ 71 16) (μ 71 17)).length := n2
  refine ⟨m2, ?_, fun c i q => (t.1 c i q).trans (a0 c i q), fin1, fun i i0 i1 => ?_⟩
  · rw [r0, r2]
    by_cases z : 0 < μ 71 15
    · rw [if_pos z] at x1 ⊢
      rw [x1, bnd_s, r3]
      by_cases z2 : 0 < μ 71 17
      · rw [if_pos z2] at y1 ⊢
        rw [y1, bnd_s, fin1]
      · rw [if_neg z2] at y1 ⊢
        have e : m1 = m2 := by injection y1 with y1; injection y1
        rw [e, fin1]
    · rw [if_neg z] at x1 ⊢
      have e : m0 = m1 := by injection x1 with x1; injection x1
      rw [e]
      by_cases z2 : 0 < μ 71 17
      · rw [if_pos z2] at y1 ⊢
        rw [y1, bnd_s, fin1]
      · rw [if_neg z2] at y1 ⊢
        have e : m1 = m2 := by injection y1 with y1; injection y1
        rw [e, fin1]
  · have := t.2.2.2 i i0 i1
    rw [n0, Int.zero_add] at this
    exact this
end BR
