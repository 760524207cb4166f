/-! what stays as a frame is moved -/
abbrev lk (V W : FV) (a b : Int) : Prop := vK V a = vK W b ∧ vW V a = vW W b
def m2x (p q : Int) : Int := if p < q then q else p
theorem m2x_r (p q : Int) : p ≤ m2x p q ∧ q ≤ m2x p q ∧ (m2x p q = p ∨ m2x p q = q) := by
  unfold m2x
  split <;> omega
/-- what a place of the table is, by those behind it -/
def rcv3 (V W : FV) (T : Int → Int → Int) (x y : Int) : Int := if x < vB V ∧ y < vB W then (if lk V W x y then m2x (m2x (T (x + 1) y) (T x (y + 1))) (T (x + 1) (y + 1) + 1) else m2x (T (x + 1) y) (T x (y + 1))) else 0
abbrev dn (V W : FV) (a b x y : Int) : Prop := (a < x ∧ x ≤ vB V ∧ 0 ≤ y ∧ y ≤ vB W) ∨ (x = a ∧ b < y ∧ y ≤ vB W)
def Pd (V W : FV) (T : Int → Int → Int) (a b : Int) : Prop := ∀ x y, dn V W a b x y → T x y = rcv3 V W T x y ∧ 0 ≤ T x y ∧ T x y ≤ vB V - x
section MO
variable {V W : FV} {T S : Int → Int → Int}
theorem Pd_w {a b : Int} (a0 : 0 ≤ a) (a1 : a ≤ vB V) (b0 : 0 ≤ b) (b1 : b ≤ vB W) (h : Pd V W T a b) (he : ∀ x y, dn V W a b x y → S x y = T x y) (hs : S a b = rcv3 V W T a b) : Pd V W S a (b - 1) ∧ 0 ≤ S a b ∧ S a b ≤ vB V - a := by
  have hb : 0 ≤ S a b ∧ S a b ≤ vB V - a := by
    rw [hs]
    unfold rcv3
    by_cases q : a < vB V ∧ b < vB W
    · have h1 := (h (a + 1) b (Or.inl ⟨by omega, by omega, b0, b1⟩)).2
      have h2 := (h a (b + 1) (Or.inr ⟨rfl, by omega, by omega⟩)).2
      have h3 := (h (a + 1) (b + 1) (Or.inl ⟨by omega, by omega, by omega, by omega⟩)).2
      rw [if_pos q]
      have r1 := m2x_r (T (a + 1) b) (T a (b + 1))
      have r2 := m2x_r (m2x (T (a + 1) b) (T a (b + 1))) (T (a + 1) (b + 1) + 1)
      split <;> omega
    · rw [if_neg q]
      omega
  refine ⟨fun x y q => ?_, hb⟩
  by_cases e : x = a ∧ y = b
  · have e1 := e.1
    have e2 := e.2
    subst e1
    subst e2
    refine ⟨?_, hb⟩
    rw [hs]
    unfold rcv3
    by_cases z : x < vB V ∧ y < vB W
    · rw [if_pos z, if_pos z, he (x + 1) y (Or.inl ⟨by omega, by omega, b0, b1⟩), he x (y + 1) (Or.inr ⟨rfl, by omega, by omega⟩), he (x + 1) (y + 1) (Or.inl ⟨by omega, by omega, by omega, by omega⟩)]
    · rw [if_neg z, if_neg z]
  · have d : dn V W a b x y := by
      rcases q with q | q
      · exact Or.inl q
      · exact Or.inr ⟨q.1, by omega, q.2.2⟩
    obtain ⟨h1, h2⟩ := h x y d
    rw [he x y d]
    refine ⟨?_, h2⟩
    rw [h1]
    unfold rcv3
    by_cases z : x < vB V ∧ y < vB W
    · rw [if_pos z, if_pos z, he (x + 1) y (by omega), he x (y + 1) (by omega), he (x + 1) (y + 1) (by omega)]
    · rw [if_neg z, if_neg z]
/-- a whole table -/
def TB (V W : FV) (T : Int → Int → Int) : Prop := ∀ x y, 0 ≤ x → x ≤ vB V → 0 ≤ y → y ≤ vB W → T x y = rcv3 V W T x y ∧ 0 ≤ T x y ∧ T x y ≤ vB V - x
theorem TB_u (h1 : TB V W T) (h2 : TB V W S) : ∀ x, x ≤ vB V → 0 ≤ x → ∀ y, y ≤ vB W → 0 ≤ y → T x y = S x y := by
  refine up_ind (vB V + 1) (fun x hx hx2 => by omega) (fun x hx ih x1 x0 => ?_)
  refine up_ind (vB W + 1) (fun y hy hy2 => by omega) (fun y hy ih2 y1 y0 => ?_)
  rw [(h1 x y x0 x1 y0 y1).1, (h2 x y x0 x1 y0 y1).1]
  unfold rcv3
  by_cases z : x < vB V ∧ y < vB W
  · rw [if_pos z, if_pos z, ih (by omega) (by omega) y y1 y0, ih2 (by omega) (by omega), ih (by omega) (by omega) (y + 1) (by omega) (by omega)]
  · rw [if_neg z, if_neg z]
theorem TB_at (h : TB V W T) {x y : Int} (x0 : 0 ≤ x) (x1 : x ≤ vB V) (y0 : 0 ≤ y) (y1 : y < vB W) : T x (y + 1) ≤ T x y := by
  have e := (h x y x0 x1 y0 (by omega)).1
  unfold rcv3 at e
  by_cases z : x < vB V
  · rw [if_pos ⟨z, y1⟩] at e
    have r1 := m2x_r (T (x + 1) y) (T x (y + 1))
    have r2 := m2x_r (m2x (T (x + 1) y) (T x (y + 1))) (T (x + 1) (y + 1) + 1)
    split at e <;> omega
  · have := (h x (y + 1) x0 x1 (by omega) (by omega)).2
    have := (h x y x0 x1 y0 (by omega)).2
    omega
theorem TB_am (h : TB V W T) {x : Int} (x0 : 0 ≤ x) (x1 : x ≤ vB V) {z : Int} (z1 : z ≤ vB W) : ∀ y, 0 ≤ y → y ≤ z → T x z ≤ T x y := by
  refine up_ind z (fun y hy y0 hy2 => ?_) (fun y hy ih y0 hy2 => ?_)
  · rw [show y = z by omega]
    omega
  · have := ih (by omega) (by omega)
    have := TB_at h x0 x1 y0 (by omega)
    omega
abbrev fl (V W : FV) (a b : Int) : Int := FU (fun j => lk V W a j) (vB W) b (vB W)
theorem fl_r {a b : Int} (b1 : b ≤ vB W) : b ≤ fl V W a b ∧ fl V W a b ≤ vB W := by
  have := FU_p (p := fun j => lk V W a j) (d := vB W) (n := vB W) b
  unfold fl
  omega
theorem TB_st (h : TB V W T) {a : Int} (a0 : 0 ≤ a) (a1 : a < vB V) : ∀ y, 0 ≤ y → y ≤ vB W → T a y = if fl V W a y < vB W then m2x (T (a + 1) y) (T (a + 1) (fl V W a y + 1) + 1) else T (a + 1) y := by
  refine up_ind (vB W) (fun y hy y0 y1 => ?_) (fun y hy ih y0 y1 => ?_)
  · have e : y = vB W := by omega
    subst e
    have e1 : fl V W a (vB W) = vB W := FU_e (by omega)
    rw [e1, if_neg (by omega), (h a (vB W) a0 (by omega) y0 y1).1, (h (a + 1) (vB W) (by omega) (by omega) y0 y1).1]
    unfold rcv3
    rw [if_neg (by omega), if_neg (by omega)]
  · have ih2 := ih (by omega) (by omega)
    have f1 := fl_r (V := V) (W := W) (a := a) (b := y + 1) (by omega)
    have e1 := (h a y a0 (by omega) y0 y1).1
    unfold rcv3 at e1
    rw [if_pos ⟨a1, hy⟩] at e1
    have m1 := TB_at h (x := a + 1) (by omega) (by omega) y0 hy
    have s1 : fl V W a y = if lk V W a y then y else fl V W a (y + 1) := FU_s hy
    have m2 : fl V W a (y + 1) < vB W → T (a + 1) (fl V W a (y + 1) + 1) ≤ T (a + 1) (y + 1) := fun q => TB_am h (by omega) (by omega) (by omega) _ (by omega) (by omega)
    by_cases q : lk V W a y
    · rw [if_pos q] at e1 s1
      rw [s1, if_pos hy, e1]
      by_cases q2 : fl V W a (y + 1) < vB W
      · rw [if_pos q2] at ih2
        have m3 := m2 q2
        unfold m2x at *
        repeat' split
        all_goals (repeat' split at ih2)
        all_goals omega
      · rw [if_neg q2] at ih2
        unfold m2x at *
        repeat' split
        all_goals omega
    · rw [if_neg q] at e1 s1
      rw [s1, e1]
      by_cases q2 : fl V W a (y + 1) < vB W
      · rw [if_pos q2] at ih2
        rw [if_pos q2]
        have m3 := m2 q2
        unfold m2x at *
        repeat' split
        all_goals (repeat' split at ih2)
        all_goals omega
      · rw [if_neg q2] at ih2
        rw [if_neg q2]
        unfold m2x at *
        repeat' split
        all_goals omega
abbrev tk (V W : FV) (T : Int → Int → Int) (a b : Int) : Prop := fl V W a b < vB W ∧ T (a + 1) (fl V W a b + 1) + 1 = T a b
theorem tk_n (h : TB V W T) {a b : Int} (a0 : 0 ≤ a) (a1 : a < vB V) (b0 : 0 ≤ b) (b1 : b ≤ vB W) (q : ¬ tk V W T a b) : T (a + 1) b = T a b := by
  have e := TB_st h a0 a1 b b0 b1
  by_cases z : fl V W a b < vB W
  · rw [if_pos z] at e
    unfold m2x at e
    split at e
    · exact absurd ⟨z, e.symm⟩ q
    · exact e.symm
  · rw [if_neg z] at e
    exact e.symm
/-- the reference's search -/
theorem tk_s (h : TB V W T) {a b : Int} (a0 : 0 ≤ a) (a1 : a < vB V) (b0 : 0 ≤ b) (b1 : b ≤ vB W) : FU (fun j => lk V W a j ∧ T (a + 1) (j + 1) = T a b - 1) (vB W) b (vB W) = if tk V W T a b then fl V W a b else vB W := by
  have e := TB_st h a0 a1 b b0 b1
  have p := FU_p (p := fun j => lk V W a j) (d := vB W) (n := vB W) b
  have s := FU_p (p := fun j => lk V W a j ∧ T (a + 1) (j + 1) = T a b - 1) (d := vB W) (n := vB W) b
  have hf := fl_r (V := V) (W := W) (a := a) b1
  generalize eS : FU (fun j => lk V W a j ∧ T (a + 1) (j + 1) = T a b - 1) (vB W) b (vB W) = z at *
  by_cases q : tk V W T a b
  · rw [if_pos q]
    have pl : lk V W a (fl V W a b) := by
      rcases p with p | p
      · exact absurd p.1 (by have := q.1; unfold fl at this; omega)
      · exact p.2.2.1
    rcases s with s | s
    · exact absurd ⟨pl, by have := q.2; omega⟩ (s.2 (fl V W a b) hf.1 q.1)
    · have h1 : fl V W a b ≤ z := by
        rcases p with p | p
        · exact absurd s.2.2.1.1 (p.2 z s.1 s.2.1)
        · by_cases w : z < fl V W a b
          · exact absurd s.2.2.1.1 (p.2.2.2 z s.1 w)
          · omega
      by_cases w : fl V W a b < z
      · exact absurd ⟨pl, by have := q.2; omega⟩ (s.2.2.2 (fl V W a b) hf.1 w)
      · omega
  · rw [if_neg q]
    rcases s with s | s
    · exact s.1
    · exfalso
      apply q
      rcases p with p | p
      · exact absurd s.2.2.1.1 (p.2 z s.1 s.2.1)
      · have h1 : fl V W a b ≤ z := by
          by_cases w : z < fl V W a b
          · exact absurd s.2.2.1.1 (p.2.2.2 z s.1 w)
          · omega
        have h2 : fl V W a b < vB W := by omega
        rw [if_pos h2] at e
        have h3 := TB_am h (x := a + 1) (by omega) (by omega) (z := z + 1) (by omega) (fl V W a b + 1) (by omega) (by omega)
        have h4 := s.2.2.1.2
        have r := m2x_r (T (a + 1) b) (T (a + 1) (fl V W a b + 1) + 1)
        exact ⟨h2, by omega⟩
def chN (V W : FV) (T : Int → Int → Int) : Nat → Int → Int → List Int
  | 0, _, _ => []
  | n + 1, a, b => if tk V W T a b then a :: chN V W T n (a + 1) (fl V W a b + 1) else chN V W T n (a + 1) b
def CH (V W : FV) (T : Int → Int → Int) (a b : Int) : List Int := chN V W T (vB V - a).toNat a b
theorem CH_e {a b : Int} (h : vB V ≤ a) : CH V W T a b = [] := by
  unfold CH
  rw [show (vB V - a).toNat = 0 by omega]
  rfl
theorem CH_s {a b : Int} (h : a < vB V) : CH V W T a b = if tk V W T a b then a :: CH V W T (a + 1) (fl V W a b + 1) else CH V W T (a + 1) b := by
  unfold CH
  rw [show (vB V - a).toNat = (vB V - (a + 1)).toNat + 1 by omega]
  rfl
theorem CH_n (h : TB V W T) : ∀ a b, 0 ≤ a → a ≤ vB V → 0 ≤ b → b ≤ vB W → ((CH V W T a b).length : Int) = T a b := by
  refine up_ind (vB V) (fun a ha b a0 a1 b0 b1 => ?_) (fun a ha ih b a0 a1 b0 b1 => ?_)
  · rw [CH_e ha]
    have := (h a b a0 a1 b0 b1).2
    simp only [List.length_nil, Int.natCast_zero]
    omega
  · have hf := fl_r (V := V) (W := W) (a := a) b1
    rw [CH_s ha]
    by_cases q : tk V W T a b
    · rw [if_pos q, List.length_cons, Int.natCast_add, ih _ (by omega) (by omega) (by omega) (by have := q.1; omega)]
      exact q.2
    · rw [if_neg q, ih _ (by omega) (by omega) b0 b1]
      exact tk_n h a0 ha b0 b1 q
theorem cd_0 (x : Int) (xs : List Int) : cd (x :: xs) 0 = x := rfl
theorem cd_s (x : Int) (xs : List Int) {i : Int} (h : 1 ≤ i) : cd (x :: xs) i = cd xs (i - 1) := by
  unfold cd
  rw [show i.toNat = (i - 1).toNat + 1 by omega]
  rfl
end MO
