/-! ===== numbers of the machine as whole numbers ===== -/
def R32 (x : Int) : Prop := -2147483648 ≤ x ∧ x < 2147483648
def R64 (x : Int) : Prop := -9223372036854775808 ≤ x ∧ x < 9223372036854775808
theorem w32_R (x : Int) : R32 (w32 x) := by unfold R32 w32; omega
theorem w64_R (x : Int) : R64 (w64 x) := by unfold R64 w64; omega
theorem w32_id {x : Int} (h : R32 x) : w32 x = x := by unfold R32 at h; unfold w32; omega
theorem w64_id {x : Int} (h : R64 x) : w64 x = x := by unfold R64 at h; unfold w64; omega
theorem w32_bm (x : Int) : w32 x = x.bmod (2 ^ 32) := by
  have h := w32_R x
  unfold R32 at h
  have h1 : w32 x = (w32 x).bmod (2 ^ 32) := (Int.bmod_eq_of_le (by omega) (by omega)).symm
  rw [h1]
  unfold w32
  have e : (x + 2147483648) % 4294967296 - 2147483648 = x + ((2 ^ 32 : Nat) : Int) * (- ((x + 2147483648) / 4294967296)) := by omega
  rw [e, Int.add_mul_bmod_self_left]
theorem w64_bm (x : Int) : w64 x = x.bmod (2 ^ 64) := by
  have h := w64_R x
  unfold R64 at h
  have h1 : w64 x = (w64 x).bmod (2 ^ 64) := (Int.bmod_eq_of_le (by omega) (by omega)).symm
  rw [h1]
  unfold w64
  have e : (x + 9223372036854775808) % 18446744073709551616 - 9223372036854775808 = x + ((2 ^ 64 : Nat) : Int) * (- ((x + 9223372036854775808) / 18446744073709551616)) := by omega
  rw [e, Int.add_mul_bmod_self_left]
theorem i32_toInt {x : Int} (h : R32 x) : (Int32.ofInt x).toInt = x := Int32.toInt_ofInt_of_le (by unfold R32 at h; omega) (by unfold R32 at h; omega)
theorem i64_toInt {x : Int} (h : R64 x) : (Int64.ofInt x).toInt = x := Int64.toInt_ofInt_of_le (by unfold R64 at h; omega) (by unfold R64 at h; omega)
theorem i32_w (x : Int) : Int32.ofInt (w32 x) = Int32.ofInt x := by
  apply Int32.toInt.inj
  rw [i32_toInt (w32_R x), Int32.toInt_ofInt, w32_bm]
theorem i64_w (x : Int) : Int64.ofInt (w64 x) = Int64.ofInt x := by
  apply Int64.toInt.inj
  rw [i64_toInt (w64_R x), Int64.toInt_ofInt, w64_bm]
theorem i32_R (x : Int32) : R32 x.toInt := ⟨by have := x.le_toInt; omega, by have := x.toInt_lt; omega⟩
theorem i64_R (x : Int64) : R64 x.toInt := ⟨by have := x.le_toInt; omega, by have := x.toInt_lt; omega⟩
theorem i32_lt {x y : Int} (hx : R32 x) (hy : R32 y) : Int32.ofInt x < Int32.ofInt y ↔ x < y := by rw [Int32.lt_iff_toInt_lt, i32_toInt hx, i32_toInt hy]
theorem i32_le {x y : Int} (hx : R32 x) (hy : R32 y) : Int32.ofInt x ≤ Int32.ofInt y ↔ x ≤ y := by rw [Int32.le_iff_toInt_le, i32_toInt hx, i32_toInt hy]
theorem i32_eq {x y : Int} (hx : R32 x) (hy : R32 y) : Int32.ofInt x = Int32.ofInt y ↔ x = y := by rw [← Int32.toInt_inj, i32_toInt hx, i32_toInt hy]
theorem i64_lt {x y : Int} (hx : R64 x) (hy : R64 y) : Int64.ofInt x < Int64.ofInt y ↔ x < y := by rw [Int64.lt_iff_toInt_lt, i64_toInt hx, i64_toInt hy]
theorem i64_eq {x y : Int} (hx : R64 x) (hy : R64 y) : Int64.ofInt x = Int64.ofInt y ↔ x = y := by rw [← Int64.toInt_inj, i64_toInt hx, i64_toInt hy]
theorem z32 : R32 0 := ⟨by omega, by omega⟩
theorem i32_eq0 {x : Int} (hx : R32 x) : Int32.ofInt x = 0 ↔ x = 0 := i32_eq hx z32
theorem i32_div {x y : Int} (hx : R32 x) (hy : R32 y) : Int32.ofInt x / Int32.ofInt y = Int32.ofInt (w32 (Int.tdiv x y)) := by
  apply Int32.toInt.inj
  rw [Int32.toInt_div, i32_toInt hx, i32_toInt hy, i32_toInt (w32_R _), w32_bm]
theorem i64_div {x y : Int} (hx : R64 x) (hy : R64 y) : Int64.ofInt x / Int64.ofInt y = Int64.ofInt (w64 (Int.tdiv x y)) := by
  apply Int64.toInt.inj
  rw [Int64.toInt_div, i64_toInt hx, i64_toInt hy, i64_toInt (w64_R _), w64_bm]
theorem i32_rem {x y : Int} (hx : R32 x) (hy : R32 y) : Int32.ofInt x - Int32.ofInt x / Int32.ofInt y * Int32.ofInt y = Int32.ofInt (Int.tmod x y) := by
  rw [i32_div hx hy, i32_w, ← Int32.ofInt_mul, ← Int32.ofInt_sub, Int.tmod_def, Int.mul_comm]
theorem i64_rem {x y : Int} (hx : R64 x) (hy : R64 y) : Int64.ofInt x - Int64.ofInt x / Int64.ofInt y * Int64.ofInt y = Int64.ofInt (Int.tmod x y) := by
  rw [i64_div hx hy, i64_w, ← Int64.ofInt_mul, ← Int64.ofInt_sub, Int.tmod_def, Int.mul_comm]
theorem tmod_R {x y : Int} (hx : R32 x) : R32 (Int.tmod x y) := by
  unfold R32 at hx ⊢
  have h := Int.natAbs_tmod x y
  have h2 : x.natAbs % y.natAbs ≤ x.natAbs := Nat.mod_le _ _
  have h3 : 0 ≤ x → 0 ≤ Int.tmod x y := fun q => Int.tmod_nonneg y q
  have h4 : x ≤ 0 → Int.tmod x y ≤ 0 := fun q => by
    have := Int.tmod_nonneg y (show 0 ≤ -x by omega)
    rw [Int.neg_tmod] at this
    omega
  omega
theorem tmod_R64 {x y : Int} (hx : R64 x) : R64 (Int.tmod x y) := by
  unfold R64 at hx ⊢
  have h := Int.natAbs_tmod x y
  have h2 : x.natAbs % y.natAbs ≤ x.natAbs := Nat.mod_le _ _
  have h3 : 0 ≤ x → 0 ≤ Int.tmod x y := fun q => Int.tmod_nonneg y q
  have h4 : x ≤ 0 → Int.tmod x y ≤ 0 := fun q => by
    have := Int.tmod_nonneg y (show 0 ≤ -x by omega)
    rw [Int.neg_tmod] at this
    omega
  omega
theorem bin_R (a : Nat) (x y : Int) : R32 (bin a x y) := by
  unfold bin
  split <;> first | exact w32_R _ | exact i32_R _
/-! ===== a value, a cell, a store ===== -/
abbrev GG : Type := va_G × (Nat → ClassId) × Nat × Nat × Nat × (Nat → Int32)
abbrev gD (G : GG) : va_G := G.1
abbrev gA (G : GG) : Nat → ClassId := G.2.1
abbrev gB (G : GG) : Nat := G.2.2.1
abbrev gS (G : GG) : Nat := G.2.2.2.1
abbrev gL (G : GG) : Nat := G.2.2.2.2.1
abbrev gX (G : GG) : Nat → Int32 := G.2.2.2.2.2
def adr (G : GG) (x : Int) : Nat := gB G + (x - 1).toNat
def toV (G : GG) (t : Nat) (x : Int) : Value := if t = 1 then .long (Int64.ofInt x) else if t < 8 then .int (Int32.ofInt x) else if t = 99 then .ref (gS G) else if x = 0 then .null else .ref (adr G x)
def tvs (G : GG) (st : List VV) : List Value := st.map (fun v => toV G v.1 v.2)
def okv (nc : Int) (t : Nat) (x : Int) : Prop :=
  if t = 0 then R32 x else if t = 1 then R64 x else if t = 3 then (x = 0 ∨ x = 1) else if t = 8 then x = 0 else if t = 99 then True
  else if 10 ≤ t ∧ t < 40 then (x = 0 ∨ (1 ≤ x ∧ x < nc ∧ cty x + 10 = t)) else (40 ≤ t ∧ t < 70 ∧ 1 ≤ x ∧ x < nc ∧ cty x + 40 = t)
def okl (nc : Int) (v : VV) : Prop := v.1 = 9 ∨ okv nc v.1 v.2
theorem okv.mono {nc nc' : Int} {t : Nat} {x : Int} (h : nc ≤ nc') (hv : okv nc t x) : okv nc' t x := by
  unfold okv at hv ⊢
  repeat' split
  all_goals (simp_all; try omega)
theorem okv.no9 {nc : Int} {t : Nat} {x : Int} (hv : okv nc t x) : t ≠ 9 := by
  intro e
  subst e
  simp [okv] at hv
theorem okv_ref {nc : Int} {t : Nat} {x : Int} (h1 : 40 ≤ t) (h2 : t < 70) : okv nc t x ↔ (1 ≤ x ∧ x < nc ∧ cty x + 40 = t) := by
  unfold okv
  rw [if_neg (by omega), if_neg (by omega), if_neg (by omega), if_neg (by omega), if_neg (by omega), if_neg (by omega)]
  constructor
  · exact fun h => h.2.2
  · exact fun h => ⟨h1, h2, h⟩
theorem okv_nul {nc : Int} {t : Nat} {x : Int} (h1 : 10 ≤ t) (h2 : t < 40) : okv nc t x ↔ (x = 0 ∨ (1 ≤ x ∧ x < nc ∧ cty x + 10 = t)) := by
  unfold okv
  rw [if_neg (by omega), if_neg (by omega), if_neg (by omega), if_neg (by omega), if_neg (by omega), if_pos ⟨h1, h2⟩]
theorem okv_0 {nc : Int} {x : Int} : okv nc 0 x ↔ R32 x := Iff.rfl
theorem okv_1 {nc : Int} {x : Int} : okv nc 1 x ↔ R64 x := Iff.rfl
theorem okv_3 {nc : Int} {x : Int} : okv nc 3 x ↔ (x = 0 ∨ x = 1) := Iff.rfl
theorem toV_0 (G : GG) (x : Int) : toV G 0 x = .int (Int32.ofInt x) := rfl
theorem toV_3 (G : GG) (x : Int) : toV G 3 x = .int (Int32.ofInt x) := rfl
theorem toV_1 (G : GG) (x : Int) : toV G 1 x = .long (Int64.ofInt x) := rfl
theorem toV_99 (G : GG) (x : Int) : toV G 99 x = .ref (gS G) := rfl
theorem toV_r (G : GG) {t : Nat} {x : Int} (h : 8 ≤ t) (h9 : t ≠ 99) : toV G t x = if x = 0 then .null else .ref (adr G x) := by
  unfold toV
  rw [if_neg (by omega), if_neg (by omega), if_neg h9]
theorem toV_ref (G : GG) {t : Nat} {x : Int} (h : 8 ≤ t) (h9 : t ≠ 99) (hx : x ≠ 0) : toV G t x = .ref (adr G x) := by rw [toV_r G h h9, if_neg hx]
theorem toV_cat (G : GG) (t : Nat) (x : Int) : (toV G t x).category = if t = 1 then 2 else 1 := by
  unfold toV
  repeat' split
  all_goals first | rfl | (exfalso; omega)
theorem tvs_cats (G : GG) (st : List VV) : ((tvs G st).map fun v => v.category).sum = cats st := by
  induction st with
  | nil => rfl
  | cons v r ih =>
    show (toV G v.1 v.2).category + ((tvs G r).map fun v => v.category).sum = _
    rw [ih, toV_cat]
    rfl
def slt (n : Int) : Nat := ((CT.take n.toNat).map Prod.snd).sum
def Cel (G : GG) (μ : MM) (x : Int) (H : Heap) : Prop :=
  if cty x < 10 then ∃ r, vwCl[cty x]? = some r ∧ t_OB (adr G x) ((gD G).1 (cty x)) r.2.2 ((gD G).2 (cty x)) H (fun j => toV G (ftg (cty x) j) (μ x j))
  else H[adr G x]? = some (arrV (gA G (cty x)) (cln x).toNat (fun j => toV G (stg (cty x)) (μ x j)))
def stag (x : Int) (j : Nat) : Nat := if cty x < 10 then ftg (cty x) j else stg (cty x)
def Mok (G : GG) (μ : MM) : Prop :=
  1 ≤ μ 0 0 ∧ μ 0 0 ≤ 90 ∧ (∀ (x : Int) (j : Nat), 1 ≤ x → x < μ 0 0 → (j : Int) < cln x → okv (μ 0 0) (stag x j) (μ x j)) ∧ μ 0 1 = gL G ∧ gL G < 2 ^ 31 ∧ ∀ j : Nat, j < gL G → μ (-1) j = (gX G j).toInt
def Rl (G : GG) (μ : MM) (H : Heap) : Prop := H.size = gB G + (μ 0 0 - 1).toNat ∧ ∀ x : Int, 1 ≤ x → x < μ 0 0 → Cel G μ x H
def tyl (G : GG) : List (ClassId × FieldType) := [(gA G 20, .int), (gA G 21, .boolean), (gA G 22, .object RX1), (gA G 23, .object RX0), (gA G 24, .array .int)]
def AA (G : GG) : Nat → Prop := fun q => gB G ≤ q
def LR (G : GG) (n : Nat) (ls : List VV) (lm : Array Slot) : Prop := ls.length = n ∧ lm.size = n ∧ lv_wf lm ∧ ∀ (i : Nat) (v : VV), ls[i]? = some v → v.1 ≠ 9 → lm[i]? = some (.val (toV G v.1 v.2))
def lvl (G : GG) (ls : List VV) : List (Nat × Value) := (List.range ls.length).filterMap (fun i => match ls[i]? with
  | some v => if v.1 = 9 then none else some (i, toV G v.1 v.2)
  | none => none)
theorem mem_lvl {G : GG} {ls : List VV} {i : Nat} {w : Value} : (i, w) ∈ lvl G ls ↔ ∃ v, ls[i]? = some v ∧ v.1 ≠ 9 ∧ w = toV G v.1 v.2 := by
  unfold lvl
  rw [List.mem_filterMap]
  constructor
  · rintro ⟨j, hj, h⟩
    cases hv : ls[j]? with
    | none => rw [hv] at h; cases h
    | some v =>
      rw [hv] at h
      by_cases e : v.1 = 9
      · simp [e] at h
      · simp only [e, if_false] at h
        cases h
        exact ⟨v, hv, e, rfl⟩
  · rintro ⟨v, hv, e, rfl⟩
    refine ⟨i, List.mem_range.mpr (List.getElem?_eq_some_iff.mp hv).1, ?_⟩
    rw [hv]
    simp [e]
theorem LR.has {G : GG} {n : Nat} {ls : List VV} {lm : Array Slot} (h : LR G n ls lm) : lv_has lm n (lvl G ls) := by
  refine ⟨h.2.1, h.2.2.1, fun q hq => ?_⟩
  obtain ⟨i, w⟩ := q
  obtain ⟨v, h1, h2, rfl⟩ := mem_lvl.mp hq
  exact h.2.2.2 i v h1 h2
theorem LR.set1 {G : GG} {n a : Nat} {ls : List VV} {lm lm' : Array Slot} {v : VV} (h : LR G n ls lm) (ha : a < n) (hp : a = 0 ∨ (ls.getD (a - 1) (9, 0)).1 ≠ 1)
    (h' : lv_has lm' n ((a, toV G v.1 v.2) :: (lvl G ls).filter (fun q => !(q.1 == a) && !(q.1 + 1 == a && q.2.category == 2)))) : LR G n (ls.set a v) lm' := by
  refine ⟨by rw [List.length_set]; exact h.1, h'.1, h'.2.1, fun i w hi hw => ?_⟩
  rw [List.getElem?_set] at hi
  by_cases e : a = i
  · subst e
    rw [if_pos rfl, if_pos (by rw [h.1]; exact ha)] at hi
    cases hi
    exact h'.2.2 (a, toV G v.1 v.2) List.mem_cons_self
  · rw [if_neg e] at hi
    refine h'.2.2 (i, toV G w.1 w.2) (List.mem_cons_of_mem _ (List.mem_filter.mpr ⟨mem_lvl.mpr ⟨w, hi, hw, rfl⟩, ?_⟩))
    have e1 : (i == a) = false := by simp; exact fun q => e q.symm
    simp only [e1, Bool.not_false, Bool.true_and]
    by_cases e2 : i + 1 = a
    · have hc : w.1 ≠ 1 := by
        rcases hp with hp | hp
        · omega
        · rw [show a - 1 = i by omega, List.getD_eq_getElem?_getD, hi] at hp
          exact hp
      rw [toV_cat, if_neg hc]
      simp
    · simp [e2]
theorem LR.set2 {G : GG} {n a : Nat} {ls : List VV} {lm lm' : Array Slot} {v : VV} (h : LR G n ls lm) (ha : a + 1 < n) (hp : a = 0 ∨ (ls.getD (a - 1) (9, 0)).1 ≠ 1)
    (h' : lv_has lm' n ((a, toV G v.1 v.2) :: (lvl G ls).filter (fun q => !(q.1 == a) && (!(q.1 == a + 1) && !(q.1 + 1 == a && q.2.category == 2))))) : LR G n ((ls.set a v).set (a + 1) (9, 0)) lm' := by
  refine ⟨by rw [List.length_set, List.length_set]; exact h.1, h'.1, h'.2.1, fun i w hi hw => ?_⟩
  rw [List.getElem?_set] at hi
  by_cases e0 : a + 1 = i
  · subst e0
    rw [if_pos rfl, if_pos (by rw [List.length_set, h.1]; exact ha)] at hi
    cases hi
    exact absurd rfl hw
  rw [if_neg e0, List.getElem?_set] at hi
  by_cases e : a = i
  · subst e
    rw [if_pos rfl, if_pos (by rw [h.1]; omega)] at hi
    cases hi
    exact h'.2.2 (a, toV G v.1 v.2) List.mem_cons_self
  · rw [if_neg e] at hi
    refine h'.2.2 (i, toV G w.1 w.2) (List.mem_cons_of_mem _ (List.mem_filter.mpr ⟨mem_lvl.mpr ⟨w, hi, hw, rfl⟩, ?_⟩))
    have e1 : (i == a) = false := by simp; exact fun q => e q.symm
    have e3 : (i == a + 1) = false := by simp; exact fun q => e0 q.symm
    simp only [e1, e3, Bool.not_false, Bool.true_and]
    by_cases e2 : i + 1 = a
    · have hc : w.1 ≠ 1 := by
        rcases hp with hp | hp
        · omega
        · rw [show a - 1 = i by omega, List.getD_eq_getElem?_getD, hi] at hp
          exact hp
      rw [toV_cat, if_neg hc]
      simp
    · simp [e2]
