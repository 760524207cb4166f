/-! go -/
theorem FU_from {p : Int → Prop} [DecidablePred p] {d j n : Int} : ∀ i, i ≤ j → (∀ k, i ≤ k → k < j → ¬ p k) → FU p d i n = FU p d j n := by
  refine up_ind j (fun i hi h1 h => ?_) (fun i hi ih h1 h => ?_)
  · rw [show i = j by omega]
  · by_cases q : i < n
    · rw [FU_s q, if_neg (h i (by omega) hi), ih (by omega) (fun k a b => h k (by omega) b)]
    · rw [FU_e (by omega), FU_e (by omega)]
theorem FD_from {p : Int → Prop} [DecidablePred p] {d j : Int} (j0 : -1 ≤ j) : ∀ i, j ≤ i → (∀ k, j < k → k ≤ i → ¬ p k) → FD p d i = FD p d j := by
  refine dn_ind (j + 1) (fun i hi h1 h => ?_) (fun i hi ih h1 h => ?_)
  · rw [show i = j by omega]
  · rw [FD_s (by omega), if_neg (h i (by omega) (by omega)), ih (by omega) (fun k a b => h k a (by omega))]
def pick (V : FV) (v : Int) (U : Int → Int) : Int := if v = 1 then FU (cR V U) (-1000000005) 0 396 else FD (mTk V U) (-1000000005) 395
def mnI (a b : Int) : Int := if a < b then a else b
def gN (V : FV) (v : Int) : Nat → (Int → Int) → Int × (Int → Int) × Int
  | 0, U => (0, U, 6)
  | r + 1, U => if pick V v U < 0 then (0, U, 6) else (1 + (gN V v r (uPd U (pick V v U) v)).1, (gN V v r (uPd U (pick V v U) v)).2.1, mnI (pick V v U % 66 / 11) (gN V v r (uPd U (pick V v U) v)).2.2)
section GG
variable {M μ μ' : MM} {A f : Int} {V : FV} {U : Int → Int}
theorem pick_1 : (pick V 1 U = -1000000005 ∧ ∀ k, 0 ≤ k → k < 396 → ¬ cR V U k) ∨ (0 ≤ pick V 1 U ∧ pick V 1 U < 396 ∧ cR V U (pick V 1 U) ∧ ∀ k, 0 ≤ k → k < pick V 1 U → ¬ cR V U k) := by
  unfold pick
  rw [if_pos rfl]
  exact FU_p 0
theorem pick_0 : (pick V 0 U = -1000000005 ∧ ∀ k, 0 ≤ k → k ≤ 395 → ¬ mTk V U k) ∨ (0 ≤ pick V 0 U ∧ pick V 0 U ≤ 395 ∧ mTk V U (pick V 0 U) ∧ ∀ k, pick V 0 U < k → k ≤ 395 → ¬ mTk V U k) := by
  unfold pick
  rw [if_neg (by omega)]
  exact FD_p 395
theorem gN_l {v : Int} (hv : v = 0 ∨ v = 1) : ∀ (r : Nat) (U : Int → Int), 0 ≤ (gN V v r U).2.2 ∧ (gN V v r U).2.2 ≤ 6 := by
  intro r
  induction r with
  | zero =>
    intro U
    show (0 : Int) ≤ 6 ∧ (6 : Int) ≤ 6
    omega
  | succ r ih =>
    intro U
    rw [gN]
    split
    · show (0 : Int) ≤ 6 ∧ (6 : Int) ≤ 6
      omega
    · rename_i e
      have := ih (uPd U (pick V v U) v)
      show 0 ≤ mnI _ _ ∧ mnI _ _ ≤ 6
      unfold mnI
      split <;> omega
theorem tag_mn {a b L x y l : Int} (h : y = if a ≤ l ∧ l < L then -1 else x) : (if b ≤ l ∧ l < L then -1 else y) = if mnI a b ≤ l ∧ l < L then -1 else x := by
  rw [h]
  unfold mnI
  repeat' split
  all_goals first | rfl | omega
theorem c_goUp (hw : WF V) {n : Int} (hn : n ≤ 400) : ∀ (r : Nat) (done from' : Int) (U : Int → Int) (μ : MM) d4, done + r = n → 0 ≤ done → 0 ≤ from' → from' ≤ 396 → CF μ A V → GUx μ A V U → (∀ k, 0 ≤ k → k < from' → ¬ cR V U k) → ∃ μ', EE 52 4 [(41, A), (0, n), (0, from'), (0, done), d4] [] μ = some (done + (gN V 1 r U).1, μ') ∧ mvA A μ μ' ∧ GUx μ' A V (gN V 1 r U).2.1 ∧ ∀ l, μ' (A + 9) l = if (gN V 1 r U).2.2 ≤ l ∧ l < vL V then -1 else μ (A + 9) l := by
  have hr := hw.r
  intro r
  induction r with
  | zero =>
    intro done from' U μ d4 h1 h2 h3 h4 hc hu hF
    refine ⟨μ, ?_, fun _ _ _ _ _ => rfl, hu, fun l => ?_⟩
    · have e : ((0 : Nat) : Int) = 0 := rfl
      rw [q52_4, if_neg (by omega)]
      show some (n, μ) = some (done + 0, μ)
      rw [show done + 0 = n by omega]
    · show _ = if (6 : Int) ≤ l ∧ l < vL V then -1 else _
      rw [if_neg (by omega)]
  | succ r ih =>
    intro done from' U μ d4 h1 h2 h3 h4 hc hu hF
    have hA := fr_p hc.fr
    have e : (((r + 1 : Nat)) : Int) = (r : Int) + 1 := rfl
    have ep : FU (cR V U) (-1000000005) from' 396 = pick V 1 U := by
      unfold pick
      rw [if_pos rfl, FU_from 0 h3 hF]
    rw [q52_4, if_pos (by omega), q49_0, c_leastToRaise hw hc hu.cu _ _ h3, bnd_s, ep, gN]
    rcases pick_1 (V := V) (U := U) with q | ⟨q1, q2, q3, q4⟩
    · rw [if_pos (show pick V 1 U < 0 by omega), if_pos (show pick V 1 U < 0 by omega)]
      refine ⟨μ, ?_, fun _ _ _ _ _ => rfl, hu, fun l => ?_⟩
      · show some (done, μ) = some (done + 0, μ)
        rw [Int.add_zero]
      · show _ = if (6 : Int) ≤ l ∧ l < vL V then -1 else _
        rw [if_neg (by omega)]
    · generalize pick V 1 U = p at *
      obtain ⟨m1, x1, x2, x3, x4⟩ := c_raise hw hc hu q3
      have f1 : CF m1 A V := CF_ag (fun c i w => x2 c i (by omega) (by omega) (by omega)) hc
      rw [if_neg (show ¬ p < 0 by omega), if_neg (show ¬ p < 0 by omega), x1, bnd_s, td66 q1, w32_l (x := p / 66) (by omega) (by omega), w32_l (x := p + 1) (by omega) (by omega), w32_l (x := done + 1) (by omega) (by omega)]
      have fin : ∀ fr d, 0 ≤ fr → fr ≤ 396 → (∀ k, 0 ≤ k → k < fr → ¬ cR V (uPd U p 1) k) → ∃ μ', EE 52 4 [(41, A), (0, n), (0, fr), (0, done + 1), d] [] m1 = some (done + (1 + (gN V 1 r (uPd U p 1)).1), μ') ∧ mvA A μ μ' ∧ GUx μ' A V (gN V 1 r (uPd U p 1)).2.1 ∧ ∀ l, μ' (A + 9) l = if mnI (p % 66 / 11) (gN V 1 r (uPd U p 1)).2.2 ≤ l ∧ l < vL V then -1 else μ (A + 9) l := by
        intro fr d a b c
        obtain ⟨m2, y1, y2, y3, y4⟩ := ih (done + 1) fr (uPd U p 1) m1 d (by omega) (by omega) a b f1 x3 c
        refine ⟨m2, ?_, fun c i u v w => (y2 c i u v w).trans (x2 c i u v w), y3, fun l => ?_⟩
        · rw [y1, Int.add_assoc]
        · rw [y4 l]
          exact tag_mn (x4 l)
      by_cases q5 : p / 66 = 5
      · rw [if_pos q5]
        exact fin 0 _ (by omega) (by omega) (fun k a b => by omega)
      · rw [if_neg q5]
        refine fin (p + 1) _ (by omega) (by omega) (fun k k0 k1 w => ?_)
        obtain ⟨w1, w2, w3, w4⟩ := w
        by_cases ek : k = p
        · rw [ek, uPd_s] at w1
          omega
        · rw [uPd_n _ _ ek] at w1
          refine q4 k k0 (by omega) ⟨w1, w2, ?_, ?_⟩
          · rcases w3 with y | y
            · exact Or.inl y
            · right
              by_cases en : nd V k 0 = p
              · have := nd_lt hw w2 (Or.inl rfl) (by omega)
                omega
              · rw [uPd_n _ _ en] at y
                exact y
          · rcases w4 with y | y
            · exact Or.inl y
            · right
              by_cases en : nd V k 1 = p
              · have := nd_lt hw w2 (Or.inr rfl) (by omega)
                omega
              · rw [uPd_n _ _ en] at y
                exact y
theorem c_goDn (hw : WF V) {n : Int} (hn : n ≤ 400) : ∀ (r : Nat) (done from' : Int) (U : Int → Int) (μ : MM) d4, done + r = n → 0 ≤ done → -1 ≤ from' → from' ≤ 395 → CF μ A V → GUx μ A V U → (∀ k, from' < k → k ≤ 395 → ¬ mTk V U k) → ∃ μ', EE 53 6 [(41, A), (0, n), (0, from'), (0, done), d4] [] μ = some (done + (gN V 0 r U).1, μ') ∧ mvA A μ μ' ∧ GUx μ' A V (gN V 0 r U).2.1 ∧ ∀ l, μ' (A + 9) l = if (gN V 0 r U).2.2 ≤ l ∧ l < vL V then -1 else μ (A + 9) l := by
  have hr := hw.r
  intro r
  induction r with
  | zero =>
    intro done from' U μ d4 h1 h2 h3 h4 hc hu hF
    refine ⟨μ, ?_, fun _ _ _ _ _ => rfl, hu, fun l => ?_⟩
    · have e : ((0 : Nat) : Int) = 0 := rfl
      rw [q53_6, if_neg (by omega)]
      show some (n, μ) = some (done + 0, μ)
      rw [show done + 0 = n by omega]
    · show _ = if (6 : Int) ≤ l ∧ l < vL V then -1 else _
      rw [if_neg (by omega)]
  | succ r ih =>
    intro done from' U μ d4 h1 h2 h3 h4 hc hu hF
    have hA := fr_p hc.fr
    have e : (((r + 1 : Nat)) : Int) = (r : Int) + 1 := rfl
    have ep : FD (fun k => U k = 1 ∧ μ (A + 8) k = 0) (-1000000005) from' = pick V 0 U := by
      unfold pick
      rw [if_neg (by omega), FD_c (q := mTk V U) from' (fun k _ _ => mTk_c hu k), FD_from h3 395 h4 hF]
    rw [q53_6, if_pos (by omega), q50_0, c_greatestToLower hc hu.cu _ _ h4, bnd_s, ep, gN]
    rcases pick_0 (V := V) (U := U) with q | ⟨q1, q2, q3, q4⟩
    · rw [if_pos (show pick V 0 U < 0 by omega), if_pos (show pick V 0 U < 0 by omega)]
      refine ⟨μ, ?_, fun _ _ _ _ _ => rfl, hu, fun l => ?_⟩
      · show some (done, μ) = some (done + 0, μ)
        rw [Int.add_zero]
      · show _ = if (6 : Int) ≤ l ∧ l < vL V then -1 else _
        rw [if_neg (by omega)]
    · generalize pick V 0 U = p at *
      have hp : isP V p := q3.1
      obtain ⟨m1, x1, x2, x3, x4⟩ := c_lower hw hc hu ((mTk_c hu p).2 q3)
      have f1 : CF m1 A V := CF_ag (fun c i w => x2 c i (by omega) (by omega) (by omega)) hc
      rw [if_neg (show ¬ p < 0 by omega), if_neg (show ¬ p < 0 by omega), x1, bnd_s, td66 q1, w32_l (x := p / 66) (by omega) (by omega), w32_l (x := p - 1) (by omega) (by omega), w32_l (x := done + 1) (by omega) (by omega)]
      have fin : ∀ fr d, -1 ≤ fr → fr ≤ 395 → (∀ k, fr < k → k ≤ 395 → ¬ mTk V (uPd U p 0) k) → ∃ μ', EE 53 6 [(41, A), (0, n), (0, fr), (0, done + 1), d] [] m1 = some (done + (1 + (gN V 0 r (uPd U p 0)).1), μ') ∧ mvA A μ μ' ∧ GUx μ' A V (gN V 0 r (uPd U p 0)).2.1 ∧ ∀ l, μ' (A + 9) l = if mnI (p % 66 / 11) (gN V 0 r (uPd U p 0)).2.2 ≤ l ∧ l < vL V then -1 else μ (A + 9) l := by
        intro fr d a b c
        obtain ⟨m2, y1, y2, y3, y4⟩ := ih (done + 1) fr (uPd U p 0) m1 d (by omega) (by omega) a b f1 x3 c
        refine ⟨m2, ?_, fun c i u v w => (y2 c i u v w).trans (x2 c i u v w), y3, fun l => ?_⟩
        · rw [y1, Int.add_assoc]
        · rw [y4 l]
          exact tag_mn (x4 l)
      by_cases q5 : p / 66 = 0
      · rw [if_pos q5]
        exact fin 395 _ (by omega) (by omega) (fun k a b => by omega)
      · rw [if_neg q5]
        refine fin (p - 1) _ (by omega) (by omega) (fun k k0 k1 w => ?_)
        obtain ⟨w1, w2, w3⟩ := w
        by_cases ek : k = p
        · rw [ek, uPd_s] at w2
          omega
        · rw [uPd_n _ _ ek] at w2
          refine q4 k (by omega) k1 ⟨w1, w2, (FU_n (by omega)).2 (fun j j0 j1 y => ?_)⟩
          by_cases ej : j = p
          · rw [ej] at y
            rcases y.2 with z | z
            · have := nd_lt hw hp (Or.inl rfl) (by rw [← z]; exact w1.1)
              omega
            · have := nd_lt hw hp (Or.inr rfl) (by rw [← z]; exact w1.1)
              omega
          · exact (FU_n (by omega)).1 w3 j j0 j1 ⟨by rw [uPd_n _ _ ej]; exact y.1, y.2⟩
def rA (f : Int) (μ μ' : MM) : Prop := ∀ c i, ¬ (c = 82 ∧ 396 * f ≤ i ∧ i < 396 * f + 396) → ¬ (c = 83 ∧ 6 * f ≤ i ∧ i < 6 * f + 6) → μ' c i = μ c i
theorem m_goL (hw : WF V) {n v : Int} (hn : n ≤ 400) (hv : v = 0 ∨ v = 1) : ∀ (r : Nat) (done : Int) (U : Int → Int) (μ : MM) d5, done + r = n → 0 ≤ done → MF μ f V → MU μ f V U → ∃ μ', EE 249 44 [(48, 71), (0, f), (0, n), (0, v), (0, done), d5] [] μ = some (done + (gN V v r U).1, μ') ∧ rA f μ μ' ∧ (∀ k, 0 ≤ k → k < 396 → μ' 82 (396 * f + k) = (gN V v r U).2.1 k) ∧ ∀ l, 0 ≤ l → l < 6 → μ' 83 (6 * f + l) = if (gN V v r U).2.2 ≤ l then NON else μ 83 (6 * f + l) := by
  intro r
  induction r with
  | zero =>
    intro done U μ d5 h1 h2 hm hu
    have e : ((0 : Nat) : Int) = 0 := rfl
    refine ⟨μ, ?_, fun _ _ _ _ => rfl, fun k a b => hu.2 k a b, fun l a b => ?_⟩
    · rw [q249_44, if_neg (by omega)]
      show some (done, μ) = some (done + 0, μ)
      rw [Int.add_zero]
    · show _ = if (6 : Int) ≤ l then NON else _
      rw [if_neg (by omega)]
  | succ r ih =>
    intro done U μ d5 h1 h2 hm hu
    have hf := hm.fr
    have e : (((r + 1 : Nat)) : Int) = (r : Int) + 1 := rfl
    have none : pick V v U < 0 → ∃ μ', (some (done, μ) : RR) = some (done + (gN V v (r + 1) U).1, μ') ∧ rA f μ μ' ∧ (∀ k, 0 ≤ k → k < 396 → μ' 82 (396 * f + k) = (gN V v (r + 1) U).2.1 k) ∧ ∀ l, 0 ≤ l → l < 6 → μ' 83 (6 * f + l) = if (gN V v (r + 1) U).2.2 ≤ l then NON else μ 83 (6 * f + l) := by
      intro q
      rw [gN, if_pos q]
      refine ⟨μ, ?_, fun _ _ _ _ => rfl, fun k a b => hu.2 k a b, fun l a b => ?_⟩
      · show some (done, μ) = some (done + 0, μ)
        rw [Int.add_zero]
      · show _ = if (6 : Int) ≤ l then NON else _
        rw [if_neg (by omega)]
    have go : ∀ d, isP V (pick V v U) → ∃ μ', bnd (EE 241 0 [(48, 71), (0, f), (0, pick V v U), (0, v), (9, 0)] [] μ) (fun _ m => EE 249 44 [(48, 71), (0, f), (0, n), (0, v), (0, w32 (done + 1)), d] [] m) = some (done + (gN V v (r + 1) U).1, μ') ∧ rA f μ μ' ∧ (∀ k, 0 ≤ k → k < 396 → μ' 82 (396 * f + k) = (gN V v (r + 1) U).2.1 k) ∧ ∀ l, 0 ≤ l → l < 6 → μ' 83 (6 * f + l) = if (gN V v (r + 1) U).2.2 ≤ l then NON else μ 83 (6 * f + l) := by
      intro d hp
      rw [gN, if_neg (show ¬ pick V v U < 0 by have := hp.1; omega)]
      generalize pick V v U = p at *
      have sa : rA f μ (stM μ f p v) := fun c i a b => stM_a c i (by have := hp.1; have := hp.2.1; omega) (by have := hp.1; omega)
      have mf1 : MF (stM μ f p v) f V := MF_ag (MRf_ag (fun i _ => sa 71 i (by omega) (by omega)) hm.m) (fun c i q => sa c i (by omega) (by omega)) hm
      have mu1 : MU (stM μ f p v) f V (uPd U p v) := by
        refine ⟨fun k => ?_, fun k k0 k1 => ?_⟩
        · by_cases ek : k = p
          · rw [ek, uPd_s]
            rcases hv with z | z
            · exact Or.inl z
            · exact Or.inr ⟨z, hp⟩
          · rw [uPd_n _ _ ek]
            exact hu.1 k
        · by_cases ek : k = p
          · rw [ek, uPd_s]
            unfold stM
            rw [FLL_n _ (by omega), up_s]
          · rw [uPd_n _ _ ek, stM_a _ _ (by omega) (by omega)]
            exact hu.2 k k0 k1
      obtain ⟨m2, y1, y2, y3, y4⟩ := ih (done + 1) (uPd U p v) (stM μ f p v) d (by omega) (by omega) mf1 mu1
      rw [m_set hm.m hf.1 hf.2 hp.1 hp.2.1 hv, bnd_s, w32_l (by omega) (by omega), y1]
      refine ⟨m2, ?_, fun c i a b => (y2 c i a b).trans (sa c i a b), y3, fun l a b => ?_⟩
      · show some (done + 1 + _, m2) = some (done + (1 + _), m2)
        rw [Int.add_assoc]
      · have e83 : stM μ f p v 83 (6 * f + l) = if p % 66 / 11 ≤ l then NON else μ 83 (6 * f + l) := by
          unfold stM
          by_cases q : p % 66 / 11 ≤ l
          · rw [if_pos q, FLL_i _ (by omega)]
          · rw [if_neg q, FLL_n _ (by omega), up_nc _ _ (by omega)]
        rw [y4 l a b, e83]
        show _ = if mnI (p % 66 / 11) _ ≤ l then NON else _
        unfold mnI
        repeat' split
        all_goals first | rfl | omega
    rw [q249_44, if_pos (by omega)]
    rcases hv with z | z
    · subst z
      rw [if_neg (by omega), q246_0, m_greatestTaken hw hm hu _ (by omega), bnd_s]
      have ep : FD (mTk V U) (-1000000005) 395 = pick V 0 U := by
        unfold pick
        rw [if_neg (by omega)]
      rw [ep]
      rcases pick_0 (V := V) (U := U) with q | ⟨q1, q2, q3, q4⟩
      · rw [if_pos q.1]
        exact none (by omega)
      · rw [if_neg (by omega), if_neg (by omega)]
        exact go _ q3.1
    · subst z
      rw [if_pos rfl, q245_0, m_leastPut hw hm hu _ (by omega), bnd_s]
      have ep : FU (mPt V U) (-1000000005) 0 396 = pick V 1 U := by
        unfold pick
        rw [if_pos rfl]
        exact (FU_c 0 (fun j _ _ => cR_mP hw hu.1 j)).symm
      rw [ep]
      rcases pick_1 (V := V) (U := U) with q | ⟨q1, q2, q3, q4⟩
      · rw [if_pos q.1]
        exact none (by omega)
      · rw [if_neg (by omega), if_pos rfl]
        exact go _ q3.2.1
theorem st_go (h : Inv M μ) (f n v : Int) : ST M (EE 132 0 [(47, 1), (0, f), (0, n), (0, v), (9, 0)] [] μ) (fun m => EE 249 0 [(48, 71), (0, f), (0, n), (0, v), (9, 0), (9, 0)] [] m) := by
  unfold ST
  rw [q132_0, c_frameAt h.s, bnd_s]
  by_cases hf : 0 ≤ f ∧ f ≤ 2
  · have f1 : f < 3 := by omega
    have hw := h.wf hf.1 f1
    have hc := h.cf hf.1 f1
    have hu : GUx μ (41 + 10 * f) (VM μ f) (UM μ f) := h.u hf.1 f1
    have hmu := h.mu hf.1 f1
    have hA : 41 + 10 * f ≠ 0 := by omega
    simp only [if_pos hf, if_neg hA, nn_ok _ hA, hc.c0, b2i_0, ite_not, ne_eq, Decidable.not_not, c_within, bnd_s]
    by_cases g1 : 1 ≤ n ∧ n ≤ 400
    · rw [if_pos g1]
      by_cases g2 : 0 ≤ v ∧ v ≤ 1
      · rw [if_pos g2]
        by_cases e2 : vB (VM μ f) = 0
        · rw [if_pos e2]
          refine ⟨_, _, _, rfl, ?_, h⟩
          simp only [q249_0, m_isFrame, m_isIn, m_isMissing (h.mf hf.1 f1), bnd_s, b2i_0, ite_not, if_pos hf, if_pos g1, if_pos g2, if_pos e2]
        · rw [if_neg e2]
          have cls : ∃ m1, (if v = 1 then bnd (EE 52 0 [(41, 41 + 10 * f), (0, n), (9, 0), (9, 0), (9, 0)] [] μ) (fun v9 m10 => some (v9, m10)) else bnd (EE 53 0 [(41, 41 + 10 * f), (0, n), (9, 0), (9, 0), (9, 0)] [] μ) (fun v7 m8 => some (v7, m8))) = some (0 + (gN (VM μ f) v n.toNat (UM μ f)).1, m1) ∧ mvA (41 + 10 * f) μ m1 ∧ GUx m1 (41 + 10 * f) (VM μ f) (gN (VM μ f) v n.toNat (UM μ f)).2.1 ∧ ∀ l, m1 (41 + 10 * f + 9) l = if (gN (VM μ f) v n.toNat (UM μ f)).2.2 ≤ l ∧ l < vL (VM μ f) then -1 else μ (41 + 10 * f + 9) l := by
            by_cases ev : v = 1
            · subst ev
              obtain ⟨m1, x1, x2, x3, x4⟩ := c_goUp hw g1.2 n.toNat 0 0 (UM μ f) μ (9, 0) (by omega) (by omega) (by omega) (by omega) hc hu (fun k a b => by omega)
              refine ⟨m1, ?_, x2, x3, x4⟩
              rw [if_pos rfl, q52_0, x1, bnd_s]
            · have ev0 : v = 0 := by omega
              subst ev0
              obtain ⟨m1, x1, x2, x3, x4⟩ := c_goDn hw g1.2 n.toNat 0 395 (UM μ f) μ (9, 0) (by omega) (by omega) (by omega) (by omega) hc hu (fun k a b => by omega)
              refine ⟨m1, ?_, x2, x3, x4⟩
              rw [if_neg ev, q53_0, x1, bnd_s]
          obtain ⟨m1, x1, x2, x3, x4⟩ := cls
          have ca := mv_cA (by omega) x2
          obtain ⟨ri, rv⟩ := h.ri.cA ca
          have hv := rv f hf.1 f1
          have mu1 : MU m1 f (VM μ f) (UM μ f) := MU_cA ca hmu
          have mf1 := ri.mf hf.1 f1
          rw [hv] at mf1
          obtain ⟨m2, y1, y2, y3, y4⟩ := m_goL hw g1.2 (show v = 0 ∨ v = 1 by omega) n.toNat 0 (UM μ f) m1 (9, 0) (by omega) (by omega) mf1 mu1
          have lo := gN_l (V := VM μ f) (show v = 0 ∨ v = 1 by omega) n.toNat (UM μ f)
          have u2 : UM m2 f = (gN (VM μ f) v n.toNat (UM μ f)).2.1 := by
            funext k
            unfold UM
            by_cases q : 0 ≤ k ∧ k < 396
            · rw [if_pos q]
              exact y3 k q.1 q.2
            · rw [if_neg q]
              rcases x3.1 k with z | z
              · exact z.symm
              · exact absurd ⟨z.2.1, z.2.2.1⟩ q
          have hI : Inv M m2 := Inv_mv h hf.1 f1 lo.1 x2 x3 x4 y2 u2 (fun l a b => by rw [y4 l a b, ca 83 _ (by omega)])
          rw [x1]
          refine ⟨_, _, m2, rfl, ?_, hI⟩
          simp only [q249_0, m_isFrame, m_isIn, m_isMissing mf1, bnd_s, b2i_0, ite_not, if_pos hf, if_pos g1, if_pos g2, if_neg e2]
          exact y1
      · rw [if_neg g2]
        refine ⟨_, _, _, rfl, ?_, h⟩
        simp only [q249_0, m_isFrame, m_isIn, bnd_s, b2i_0, ite_not, if_pos hf, if_pos g1, if_neg g2]
    · rw [if_neg g1]
      refine ⟨_, _, _, rfl, ?_, h⟩
      simp only [q249_0, m_isFrame, m_isIn, bnd_s, b2i_0, ite_not, if_pos hf, if_neg g1]
  · simp only [if_neg hf, if_true]
    refine ⟨_, _, _, rfl, ?_, h⟩
    simp only [q249_0, m_isFrame, bnd_s, b2i_0, ite_not, if_neg hf]
end GG
