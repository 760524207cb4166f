/-! putting up and taking down -/
def uPd (U : Int → Int) (p v : Int) : Int → Int := fun k => if k = p then v else U k
theorem uPd_s (U : Int → Int) (p v : Int) : uPd U p v p = v := if_pos rfl
theorem uPd_n (U : Int → Int) {p k : Int} (v : Int) (h : k ≠ p) : uPd U p v k = U k := if_neg h
theorem SM_uPd {f g : Int → Int} {n p : Int} (p1 : p < n) : ∀ i, i ≤ p → (∀ j, i ≤ j → j < n → j ≠ p → g j = f j) → SM g i n = SM f i n + (g p - f p) := by
  refine up_ind p (fun i hi h1 h => ?_) (fun i hi ih h1 h => ?_)
  · have e : i = p := by omega
    subst e
    rw [SM_s p1, SM_s p1, SM_c (f := g) (g := f) (i + 1) (fun j a b => h j (by omega) b (by omega))]
    omega
  · rw [SM_s (f := g) (show i < n by omega), SM_s (f := f) (show i < n by omega), ih (by omega) (fun j a b c => h j (by omega) b c), h i (by omega) (by omega) (by omega)]
    omega
section PU
variable {M μ μ' : MM} {A f : Int} {V : FV} {U : Int → Int}
theorem nd_lt {k w : Int} (hw : WF V) (hk : isP V k) (hw2 : w = 0 ∨ w = 1) (h0 : 0 ≤ nd V k w) : nd V k w < k ∨ (330 ≤ nd V k w ∧ k / 66 = 0) := by
  have hr := hw.r
  obtain ⟨e0, e1, hp⟩ := hk
  unfold nd at h0 ⊢
  by_cases t0 : k / 66 = 0
  · rw [if_pos t0] at h0 ⊢
    unfold ndT at h0 ⊢
    have := b2i_r (p := ¬ fot V (k % 11))
    by_cases q1 : b2i (¬ fot V (k % 11)) < k % 66 / 11
    · rw [if_pos q1] at h0 ⊢
      by_cases q2 : w = 0
      · rw [if_pos q2] at h0 ⊢
        omega
      · rw [if_neg q2] at h0
        omega
    · rw [if_neg q1] at h0 ⊢
      by_cases q2 : fot V (k % 11)
      · rw [if_pos q2] at h0
        omega
      · rw [if_neg q2]
        have k1 : k % 11 ≠ 0 := by
          intro e
          rw [e] at q2
          exact q2 (fot0 hw)
        right
        omega
  · rw [if_neg t0] at h0 ⊢
    by_cases t1 : k / 66 = 1
    · rw [if_pos t1]
      omega
    · rw [if_neg t1] at h0 ⊢
      by_cases t2 : k / 66 = 2
      · rw [if_pos t2] at h0 ⊢
        split at h0 <;> split <;> omega
      · rw [if_neg t2] at h0 ⊢
        by_cases t3 : k / 66 = 3
        · rw [if_pos t3] at h0 ⊢
          split at h0 <;> split <;> omega
        · rw [if_neg t3] at h0 ⊢
          by_cases t4 : k / 66 = 4
          · rw [if_pos t4] at h0 ⊢
            split at h0 <;> split <;> omega
          · rw [if_neg t4]
            have t5 : k / 66 = 5 := by omega
            have g := PI_5 (PI_x hp t5)
            have gi := gat_in hw g.2.2
            left
            by_cases q2 : w = 0
            · rw [if_pos q2]
              have := LF_r hw (s := k % 11) (by omega)
              omega
            · rw [if_neg q2]
              have := RF_r hw (s := k % 11 + 1) (by omega)
              omega
theorem c_hang (h : CF μ A V) (hu : CU μ A V U) {x d : Int} (hb : U x = 1 → -1000000 ≤ μ (A + 8) x + d ∧ μ (A + 8) x + d ≤ 1000000) : EE 48 0 [(41, A), (0, x), (0, d)] [] μ = some (0, if U x = 1 then up μ (A + 8) x (μ (A + 8) x + d) else μ) := by
  rw [q48_0, c_stands h hu, bnd_s]
  rcases hu.1 x with q | ⟨q, qp⟩
  · rw [if_pos q, if_neg (by omega)]
  · have b := hb q
    rw [if_neg (by omega), if_pos q, h.c13, nnA h.fr _ (by omega), ix8 h.fr _ qp.1 qp.2.1, nnA h.fr _ (by omega), ix8 h.fr _ qp.1 qp.2.1, w32_l (by omega) (by omega)]
theorem CU_g (h : CU μ A V U) {x d : Int} (hd : U x = 1 → 0 ≤ μ (A + 8) x + d) : CU (if U x = 1 then up μ (A + 8) x (μ (A + 8) x + d) else μ) A V U := by
  by_cases q : U x = 1
  · rw [if_pos q]
    refine ⟨h.1, fun k k0 k1 => ?_⟩
    by_cases e : k = x
    · rw [e, up_s]
      exact ⟨fun _ => q, fun _ => hd q⟩
    · rw [up_ni _ _ e]
      exact h.2 k k0 k1
  · rw [if_neg q]
    exact h
theorem hng_a {x d : Int} : ∀ c i, c ≠ A + 8 → (if U x = 1 then up μ (A + 8) x (μ (A + 8) x + d) else μ) c i = μ c i := by
  intro c i q
  split
  · exact up_nc _ _ q
  · rfl
theorem hng_v {x d k : Int} : (if U x = 1 then up μ (A + 8) x (μ (A + 8) x + d) else μ) (A + 8) k = μ (A + 8) k + (if U x = 1 ∧ k = x then d else 0) := by
  by_cases q : U x = 1
  · rw [if_pos q]
    by_cases e : k = x
    · rw [if_pos ⟨q, e⟩, e, up_s]
    · rw [if_neg (fun w => e w.2), up_ni _ _ e, Int.add_zero]
  · rw [if_neg q, if_neg (fun w => q w.1), Int.add_zero]
theorem HN_uPd {p v k : Int} (p0 : 0 ≤ p) (p1 : p < 396) (hv : v = 0 ∨ v = 1) (hp : U p = 1 - v) : HN V (uPd U p v) k = HN V U k + (2 * v - 1) * (b2i (nd V p 0 = k) + b2i (nd V p 1 = k)) := by
  unfold HN
  rw [SM_uPd (f := fun j => b2i (U j = 1 ∧ nd V j 0 = k) + b2i (U j = 1 ∧ nd V j 1 = k)) (g := fun j => b2i (uPd U p v j = 1 ∧ nd V j 0 = k) + b2i (uPd U p v j = 1 ∧ nd V j 1 = k)) p1 0 p0 (fun j _ _ e => by rw [uPd_n _ _ e])]
  congr 1
  rw [uPd_s]
  rcases hv with e | e
  · subst e
    have hp1 : U p = 1 := hp
    rw [b2i_f (p := (0 : Int) = 1 ∧ nd V p 0 = k) (fun q => by omega), b2i_f (p := (0 : Int) = 1 ∧ nd V p 1 = k) (fun q => by omega), b2i_c (p := U p = 1 ∧ nd V p 0 = k) (q := nd V p 0 = k) ⟨fun q => q.2, fun q => ⟨hp1, q⟩⟩, b2i_c (p := U p = 1 ∧ nd V p 1 = k) (q := nd V p 1 = k) ⟨fun q => q.2, fun q => ⟨hp1, q⟩⟩]
    omega
  · subst e
    have hp1 : U p = 0 := hp
    rw [b2i_f (p := U p = 1 ∧ nd V p 0 = k) (fun q => by omega), b2i_f (p := U p = 1 ∧ nd V p 1 = k) (fun q => by omega), b2i_c (p := (1 : Int) = 1 ∧ nd V p 0 = k) (q := nd V p 0 = k) ⟨fun q => q.2, fun q => ⟨rfl, q⟩⟩, b2i_c (p := (1 : Int) = 1 ∧ nd V p 1 = k) (q := nd V p 1 = k) ⟨fun q => q.2, fun q => ⟨rfl, q⟩⟩]
    omega
theorem nd_ne {p w : Int} (hw : WF V) (hp : isP V p) (hw2 : w = 0 ∨ w = 1) : nd V p w ≠ p := by
  intro e
  have := nd_lt hw hp hw2 (by rw [e]; exact hp.1)
  have := hp.2.1
  omega
/-- both ways of moving one piece -/
def mvA (A : Int) (μ μ' : MM) : Prop := ∀ c i, ¬ (c = A ∧ i = 5) → c ≠ A + 8 → c ≠ A + 9 → μ' c i = μ c i
theorem c_moveT (hw : WF V) (h : CF μ A V) (hu : GUx μ A V U) {p v : Int} (hv : v = 0 ∨ v = 1) (hp : isP V p) (h0 : U p = 1 - v) (hn : v = 1 → (nd V p 0 < 0 ∨ U (nd V p 0) = 1) ∧ (nd V p 1 < 0 ∨ U (nd V p 1) = 1)) (hz : v = 0 → HN V U p = 0) :
    ∃ μ', (bnd (EE 41 0 [(41, A), (0, p), (0, 0), (9, 0), (9, 0)] [] (up (up μ (A + 8) p (v - 1)) A 5 (μ A 5 + (2 * v - 1)))) (fun v3 m4 => (bnd (EE 48 0 [(41, A), (0, v3), (0, 2 * v - 1)] [] m4) (fun _ m6 => (bnd (EE 41 0 [(41, A), (0, p), (0, 1), (9, 0), (9, 0)] [] m6) (fun v7 m8 => (bnd (EE 48 0 [(41, A), (0, v7), (0, 2 * v - 1)] [] m8) (fun _ m10 => (bnd (EE 59 0 [(41, A), (0, p % 66 / 11), (9, 0)] [] m10) (fun _ m12 => (some (0, m12)))))))))))) = some (0, μ') ∧ mvA A μ μ' ∧ GUx μ' A V (uPd U p v) ∧ ∀ l, μ' (A + 9) l = if p % 66 / 11 ≤ l ∧ l < vL V then -1 else μ (A + 9) l := by
  have hA := fr_p h.fr
  obtain ⟨g1, g2, g3, g4⟩ := hu
  have p0 := hp.1
  have p1 := hp.2.1
  have n0 := nd_ne hw hp (Or.inl rfl)
  have n1 := nd_ne hw hp (Or.inr rfl)

  have q0 : nd V p 0 < 0 ∨ U (nd V p 0) = 1 := by
    rcases hv with e | e
    · exact (g2 p (by omega)).1
    · exact (hn e).1
  have q1 : nd V p 1 < 0 ∨ U (nd V p 1) = 1 := by
    rcases hv with e | e
    · exact (g2 p (by omega)).2
    · exact (hn e).2
  have U1 : ∀ k, uPd U p v k = 0 ∨ (uPd U p v k = 1 ∧ isP V k) := by
    intro k
    by_cases e : k = p
    · rw [e, uPd_s]
      rcases hv with e | e
      · exact Or.inl e
      · exact Or.inr ⟨e, hp⟩
    · rw [uPd_n _ _ e]
      exact g1 k
  have neg : ∀ k, k < 0 → U k = 0 := by
    intro k hk
    rcases g1 k with e | e
    · exact e
    · have := e.2.1
      omega
  have hU0 : ∀ k, uPd U p v (nd V p 0) = 1 ∧ k = nd V p 0 ∧ 0 ≤ k ↔ 0 ≤ k ∧ nd V p 0 = k := by
    intro k
    rw [uPd_n _ _ n0]
    constructor
    · intro w
      exact ⟨w.2.2, w.2.1.symm⟩
    · intro w
      refine ⟨?_, w.2.symm, w.1⟩
      rcases q0 with z | z
      · omega
      · exact z
  have hU1 : ∀ k, uPd U p v (nd V p 1) = 1 ∧ k = nd V p 1 ∧ 0 ≤ k ↔ 0 ≤ k ∧ nd V p 1 = k := by
    intro k
    rw [uPd_n _ _ n1]
    constructor
    · intro w
      exact ⟨w.2.2, w.2.1.symm⟩
    · intro w
      refine ⟨?_, w.2.symm, w.1⟩
      rcases q1 with z | z
      · omega
      · exact z
  generalize hm1 : up (up μ (A + 8) p (v - 1)) A 5 (μ A 5 + (2 * v - 1)) = m1
  have a1 : ∀ c i, ¬ (c = A ∧ i = 5) → c ≠ A + 8 → m1 c i = μ c i := by
    intro c i x y
    rw [← hm1, up_n _ _ (by omega), up_nc _ _ y]
  have f1 : CF m1 A V := CF_ag (fun c i q => a1 c i (by omega) (by omega)) h
  have v1 : ∀ k, m1 (A + 8) k = if k = p then v - 1 else μ (A + 8) k := by
    intro k
    rw [← hm1, up_nc _ _ (by omega)]
    by_cases e : k = p
    · rw [if_pos e, e, up_s]
    · rw [if_neg e, up_ni _ _ e]
  have hr : ∀ k, 0 ≤ k → k < 396 → -1 ≤ m1 (A + 8) k ∧ m1 (A + 8) k ≤ 792 := by
    intro k k0 k1
    rw [v1 k]
    have := HN_r V U k
    have := g3 k k0 k1
    split <;> omega

  have base : ∀ k, 0 ≤ k → k < 396 → uPd U p v k = 1 → m1 (A + 8) k = HN V U k := by
    intro k k0 k1 hk
    rw [v1 k]
    by_cases e : k = p
    · rw [if_pos e]
      rw [e, uPd_s] at hk
      have : HN V U p = 0 := HN_0.2 (fun j _ _ w => by
        have cj := g2 j w.1
        rcases w.2 with x | x
        · rcases cj.1 with y | y
          · omega
          · rw [← x] at y
            omega
        · rcases cj.2 with y | y
          · omega
          · rw [← x] at y
            omega)
      rw [e, this]
      omega
    · rw [if_neg e]
      rw [uPd_n _ _ e] at hk
      have := g3 k k0 k1
      omega
  have cu1 : CU m1 A V (uPd U p v) := by
    refine ⟨U1, fun k k0 k1 => ?_⟩
    have hN := HN_r V U k
    constructor
    · intro w
      rw [v1 k] at w
      by_cases e : k = p
      · rw [if_pos e] at w
        rw [e, uPd_s]
        omega
      · rw [if_neg e] at w
        rw [uPd_n _ _ e]
        have := g3 k k0 k1
        omega
    · intro w
      rw [base k k0 k1 w]
      exact hN.1
  have two : ∀ k, 0 ≤ k → k < 396 → uPd U p v k = 1 → 0 ≤ m1 (A + 8) k + (2 * v - 1) * (b2i (nd V p 0 = k) + b2i (nd V p 1 = k)) := by
    intro k k0 k1 hk
    rw [base k k0 k1 hk, ← HN_uPd p0 p1 hv h0]
    exact (HN_r V (uPd U p v) k).1
  have bb0 : ∀ k, 0 ≤ b2i (nd V p 0 = k) ∧ b2i (nd V p 0 = k) ≤ 1 := fun k => b2i_r
  have bb1 : ∀ k, 0 ≤ b2i (nd V p 1 = k) ∧ b2i (nd V p 1 = k) ≤ 1 := fun k => b2i_r
  have d0 : uPd U p v (nd V p 0) = 1 → 0 ≤ m1 (A + 8) (nd V p 0) + (2 * v - 1) := by
    intro w
    have hx : isP V (nd V p 0) := by
      rcases U1 (nd V p 0) with e | e
      · omega
      · exact e.2
    have t := two (nd V p 0) hx.1 hx.2.1 w
    have t2 := bb1 (nd V p 0)
    have t3 := (cu1.2 _ hx.1 hx.2.1).2 w
    rw [b2i_t rfl] at t
    rcases hv with e | e
    · rw [e] at t ⊢
      omega
    · rw [e]
      omega
  rw [c_need hw f1 hp (Or.inl rfl), bnd_s, c_hang f1 cu1 (fun w => by
    have hx : isP V (nd V p 0) := by
      rcases U1 (nd V p 0) with e | e
      · omega
      · exact e.2
    have := hr _ hx.1 hx.2.1
    omega), bnd_s]
  have cu2 := CU_g cu1 d0
  have a2 := hng_a (μ := m1) (A := A) (U := uPd U p v) (x := nd V p 0) (d := 2 * v - 1)
  have v2 := fun k => hng_v (μ := m1) (A := A) (U := uPd U p v) (x := nd V p 0) (d := 2 * v - 1) (k := k)
  generalize (if uPd U p v (nd V p 0) = 1 then up m1 (A + 8) (nd V p 0) (m1 (A + 8) (nd V p 0) + (2 * v - 1)) else m1) = m2 at *
  have f2 : CF m2 A V := CF_ag (fun c i q => a2 c i (by omega)) f1
  have v2' : ∀ k, 0 ≤ k → m2 (A + 8) k = m1 (A + 8) k + (2 * v - 1) * b2i (nd V p 0 = k) := by
    intro k k0
    rw [v2 k]
    by_cases e : nd V p 0 = k
    · have := (hU0 k).2 ⟨k0, e⟩
      rw [if_pos ⟨this.1, this.2.1⟩, b2i_t e]
      omega
    · rw [if_neg (fun w => e w.2.symm), b2i_f e]
      omega
  have d1 : uPd U p v (nd V p 1) = 1 → 0 ≤ m2 (A + 8) (nd V p 1) + (2 * v - 1) ∧ m2 (A + 8) (nd V p 1) ≤ 800 := by
    intro w
    have hx : isP V (nd V p 1) := by
      rcases U1 (nd V p 1) with e | e
      · omega
      · exact e.2
    have t := two (nd V p 1) hx.1 hx.2.1 w
    have t2 := bb0 (nd V p 1)
    have t3 := (cu2.2 _ hx.1 hx.2.1).2 w
    have t4 := hr _ hx.1 hx.2.1
    have t5 := v2' (nd V p 1) hx.1
    rw [b2i_t (p := nd V p 1 = nd V p 1) rfl] at t
    rcases hv with e | e
    · rw [e] at t t5 ⊢
      omega
    · rw [e] at t t5 ⊢
      omega
  rw [c_need hw f2 hp (Or.inr rfl), bnd_s, c_hang f2 cu2 (fun w => by have := d1 w; omega), bnd_s]
  have a3 := hng_a (μ := m2) (A := A) (U := uPd U p v) (x := nd V p 1) (d := 2 * v - 1)
  have v3 := fun k => hng_v (μ := m2) (A := A) (U := uPd U p v) (x := nd V p 1) (d := 2 * v - 1) (k := k)
  generalize (if uPd U p v (nd V p 1) = 1 then up m2 (A + 8) (nd V p 1) (m2 (A + 8) (nd V p 1) + (2 * v - 1)) else m2) = m3 at *
  have f3 : CF m3 A V := CF_ag (fun c i q => a3 c i (by omega)) f2
  have v3' : ∀ k, 0 ≤ k → m3 (A + 8) k = m1 (A + 8) k + (2 * v - 1) * (b2i (nd V p 0 = k) + b2i (nd V p 1 = k)) := by
    intro k k0
    rw [v3 k, v2' k k0, Int.mul_add]
    by_cases e : nd V p 1 = k
    · have := (hU1 k).2 ⟨k0, e⟩
      rw [if_pos ⟨this.1, this.2.1⟩, b2i_t e]
      omega
    · rw [if_neg (fun w => e w.2.symm), b2i_f e]
      omega
  rw [q59_0, c_endFrom hw _ _ _ (by omega) f3, bnd_s]
  refine ⟨_, rfl, fun c i x y w => ?_, ⟨U1, fun k hk => ?_, fun k k0 k1 => ?_, ?_⟩, fun l => ?_⟩
  · rw [FLL_n _ (by omega), a3 c i y, a2 c i y, a1 c i x y]
  · by_cases e : k = p
    · rw [e, uPd_n _ _ n0, uPd_n _ _ n1]
      exact ⟨q0, q1⟩
    · rw [uPd_n _ _ e] at hk
      have c := g2 k hk
      have nb : ∀ w, (nd V k w < 0 ∨ U (nd V k w) = 1) → (w = 0 ∨ w = 1) → (nd V k w < 0 ∨ uPd U p v (nd V k w) = 1) := by
        intro w c1 w2
        rcases c1 with c1 | c1
        · exact Or.inl c1
        · right
          by_cases e2 : nd V k w = p
          · rw [e2, uPd_s]
            rcases hv with e3 | e3
            · exfalso
              have hk2 : isP V k := by
                rcases g1 k with x | x
                · omega
                · exact x.2
              refine HN_0.1 (hz e3) k hk2.1 hk2.2.1 ⟨hk, ?_⟩
              rcases w2 with y | y
              · rw [y] at e2
                exact Or.inl e2.symm
              · rw [y] at e2
                exact Or.inr e2.symm
            · exact e3
          · rw [uPd_n _ _ e2]
            exact c1
      exact ⟨nb 0 c.1 (Or.inl rfl), nb 1 c.2 (Or.inr rfl)⟩
  · rw [FLL_n _ (by omega)]
    rcases U1 k with e | e
    · left
      refine ⟨e, ?_⟩
      have z0 : b2i (nd V p 0 = k) = 0 := b2i_f (fun w => by have := (hU0 k).2 ⟨k0, w⟩; rw [this.2.1] at e; omega)
      have z1 : b2i (nd V p 1 = k) = 0 := b2i_f (fun w => by have := (hU1 k).2 ⟨k0, w⟩; rw [this.2.1] at e; omega)
      rw [v3' k k0, z0, z1, v1 k]
      by_cases e2 : k = p
      · rw [if_pos e2]
        rw [e2, uPd_s] at e
        omega
      · rw [if_neg e2]
        rw [uPd_n _ _ e2] at e
        have := g3 k k0 k1
        omega
    · right
      refine ⟨e.1, ?_⟩
      rw [v3' k k0, base k k0 k1 e.1, HN_uPd p0 p1 hv h0]
  · rw [FLL_n _ (by omega), a3 A 5 (by omega), a2 A 5 (by omega), ← hm1, up_s, g4, SM_uPd (f := U) (g := uPd U p v) p1 0 p0 (fun j _ _ e => uPd_n _ _ e), uPd_s]
    omega
  · unfold FLL
    by_cases e : p % 66 / 11 ≤ l ∧ l < vL V
    · rw [if_pos ⟨rfl, e⟩, if_pos e]
    · rw [if_neg (fun w => e w.2), if_neg e, a3 _ _ (by omega), a2 _ _ (by omega), a1 _ _ (by omega) (by omega)]
end PU
