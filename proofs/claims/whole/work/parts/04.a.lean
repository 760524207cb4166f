noncomputable def mwc (k : Nat) : Nat := (miOf k).2.2.2.2.2.2.2.2.2.1
noncomputable def mwi (k : Nat) : Nat := (miOf k).2.2.2.2.2.2.2.2.2.2.1
noncomputable def mws (k : Nat) : Nat := (miOf k).2.2.2.2.2.2.2.2.2.2.2.1
noncomputable def mwl (k : Nat) : Nat := (miOf k).2.2.2.2.2.2.2.2.2.2.2.2
def rtk : Option FieldType → Nat → Bool
  | none, t => t == 9
  | some .int, t => t == 0
  | some .boolean, t => t == 3
  | some .long, t => t == 1
  | some (.object _), t => decide (10 ≤ t) && decide (t < 40)
  | some (.array _), t => decide (10 ≤ t) && decide (t < 40)
  | _, _ => false
def tagk (t : Nat) : Bool := t == 0 || t == 1 || (decide (10 ≤ t) && decide (t < 70))
def tcat : List Nat → Nat
  | [] => 0
  | t :: r => (if t = 1 then 2 else 1) + tcat r
noncomputable def chM (k : Nat) : Bool := plainName (mY k).cls && (decide ((mY k).cls ≠ "java/lang/invoke/MethodHandle") && (decide ((mY k).cls ≠ "java/lang/invoke/VarHandle")
  && (decide ((parseMethodDescriptor (mY k).desc).map (fun d => d.parameters.length) = some ((mP k).length - (if mK k = 0 then 0 else 1)))
  && ((decide (wd (mwi k) = some (.initialized (mY k).cls))
  && ((match mK k with
    | 0 => decide (wd (mws k) = some (.static (mY k)))
    | 1 => decide (wd (mws k) = some (.instanceMethod (mY k))) && decide (wd (mwl k) = some (.selects (mY k).cls (mY k) (mY k)))
    | 2 => decide (wd (mws k) = some (.instanceMethod (mY k))) && decide ((mY k).name = "<init>") && mT k == 9
    | _ => false)
  && (rtk (mR k) (mT k) && ((mP k).all tagk && (decide (tcat (mP k) ≤ mL k)
  && (mK k == 0 || (match vwCl[(mP k).headD 0 - 40]? with
    | some r => decide (r.1 = (mY k).cls) && decide (40 ≤ (mP k).headD 0) && decide ((mP k).headD 0 < 50) && decide ((mP k) ≠ [])
    | none => false)))))))))))
set_option maxRecDepth 1000000 in
theorem cm1 : (List.range 34).all (fun j => chM (j + 1)) = true := by decide +kernel
set_option maxRecDepth 1000000 in
theorem cm2 : (List.range 34).all (fun j => chM (j + 35)) = true := by decide +kernel
set_option maxRecDepth 1000000 in
theorem cm3 : (List.range 34).all (fun j => chM (j + 69)) = true := by decide +kernel
set_option maxRecDepth 1000000 in
theorem cm4 : (List.range 34).all (fun j => chM (j + 103)) = true := by decide +kernel
set_option maxRecDepth 1000000 in
theorem cm5 : (List.range 34).all (fun j => chM (j + 137)) = true := by decide +kernel
set_option maxRecDepth 1000000 in
theorem cm6 : (List.range 34).all (fun j => chM (j + 171)) = true := by decide +kernel
set_option maxRecDepth 1000000 in
theorem cm7 : (List.range 34).all (fun j => chM (j + 205)) = true := by decide +kernel
set_option maxRecDepth 1000000 in
theorem cm8 : (List.range 34).all (fun j => chM (j + 239)) = true := by decide +kernel
theorem chM_ok {k : Nat} (h0 : k ≠ 0) (h : k < 273) : chM k = true := by
  by_cases h1 : k < 35
  · have := List.all_eq_true.mp cm1 (k - 1) (List.mem_range.mpr (by omega))
    rwa [show k - 1 + 1 = k by omega] at this
  by_cases h2 : k < 69
  · have := List.all_eq_true.mp cm2 (k - 35) (List.mem_range.mpr (by omega))
    rwa [show k - 35 + 35 = k by omega] at this
  by_cases h3 : k < 103
  · have := List.all_eq_true.mp cm3 (k - 69) (List.mem_range.mpr (by omega))
    rwa [show k - 69 + 69 = k by omega] at this
  by_cases h4 : k < 137
  · have := List.all_eq_true.mp cm4 (k - 103) (List.mem_range.mpr (by omega))
    rwa [show k - 103 + 103 = k by omega] at this
  by_cases h5 : k < 171
  · have := List.all_eq_true.mp cm5 (k - 137) (List.mem_range.mpr (by omega))
    rwa [show k - 137 + 137 = k by omega] at this
  by_cases h6 : k < 205
  · have := List.all_eq_true.mp cm6 (k - 171) (List.mem_range.mpr (by omega))
    rwa [show k - 171 + 171 = k by omega] at this
  by_cases h7 : k < 239
  · have := List.all_eq_true.mp cm7 (k - 205) (List.mem_range.mpr (by omega))
    rwa [show k - 205 + 205 = k by omega] at this
  have := List.all_eq_true.mp cm8 (k - 239) (List.mem_range.mpr (by omega))
  rwa [show k - 239 + 239 = k by omega] at this
def gws : List Cond := lw_tbl.filter goodWord
theorem gws_in {w : Cond} (h : w ∈ lw_tbl) (hg : goodWord w = true := by rfl) : w ∈ gws := List.mem_filter.mpr ⟨h, hg⟩
theorem u_good {C : String} {T : u_T} {N : Nat} {w : Cond} (h : w ∈ u_ws C T N) : goodWord w = true := by
  obtain ⟨k, -, rfl⟩ := List.mem_map.mp h
  unfold u_lay
  split <;> rfl
/-! fields: their words, their types -/
def tagTy : FieldType → Nat → Bool
  | .int, t => t == 0
  | .boolean, t => t == 3
  | .long, t => t == 1
  | .object _, t => decide (10 ≤ t) && decide (t < 40)
  | .array _, t => decide (10 ≤ t) && decide (t < 40)
  | _, _ => false
def clsOk (b : Nat) (r : vw_C) (ty : Nat → FieldType) : Prop := (∀ w ∈ u_ws r.1 r.2.1 r.2.2, w ∈ gws) ∧ Cond.instantiable r.1 r.2.2 ∈ gws ∧ Cond.initialized r.1 ∈ gws ∧ (∀ a, a < r.2.2 → parseFieldDescriptor (r.2.1 a).2.2.1 = some (ty a)) ∧ (∀ a, a < r.2.2 → ∀ b, b < r.2.2 → a ≠ b → (r.2.1 a).2.1 ≠ (r.2.1 b).2.1) ∧ (∀ a, a < r.2.2 → tagTy (ty a) (ftg b a) = true) ∧ fnum b = r.2.2
theorem cw0 : ∀ w ∈ u_ws RX0 TX0 6, w ∈ lw_tbl := by decide +kernel
theorem cn0 : Cond.instantiable RX0 6 ∈ lw_tbl := by decide +kernel
theorem ci0 : Cond.initialized RX0 ∈ lw_tbl := by decide +kernel
theorem ctg0 : ∀ a, a < 6 → tagTy (tyX0 a) (ftg 0 a) = true := by decide +kernel
theorem cw1 : ∀ w ∈ u_ws RX1 TX1 15, w ∈ lw_tbl := by decide +kernel
theorem cn1 : Cond.instantiable RX1 15 ∈ lw_tbl := by decide +kernel
theorem ci1 : Cond.initialized RX1 ∈ lw_tbl := by decide +kernel
theorem ctg1 : ∀ a, a < 15 → tagTy (tyX1 a) (ftg 1 a) = true := by decide +kernel
theorem cw2 : ∀ w ∈ u_ws RX2 TX2 3, w ∈ lw_tbl := by decide +kernel
theorem cn2 : Cond.instantiable RX2 3 ∈ lw_tbl := by decide +kernel
theorem ci2 : Cond.initialized RX2 ∈ lw_tbl := by decide +kernel
theorem ctg2 : ∀ a, a < 3 → tagTy (tyX2 a) (ftg 2 a) = true := by decide +kernel
theorem cw3 : ∀ w ∈ u_ws RX3 TX3 5, w ∈ lw_tbl := by decide +kernel
theorem cn3 : Cond.instantiable RX3 5 ∈ lw_tbl := by decide +kernel
theorem ci3 : Cond.initialized RX3 ∈ lw_tbl := by decide +kernel
theorem ctg3 : ∀ a, a < 5 → tagTy (tyX3 a) (ftg 3 a) = true := by decide +kernel
theorem cw4 : ∀ w ∈ u_ws RX4 TX4 3, w ∈ lw_tbl := by decide +kernel
theorem cn4 : Cond.instantiable RX4 3 ∈ lw_tbl := by decide +kernel
theorem ci4 : Cond.initialized RX4 ∈ lw_tbl := by decide +kernel
theorem ctg4 : ∀ a, a < 3 → tagTy (tyX4 a) (ftg 4 a) = true := by decide +kernel
theorem cw5 : ∀ w ∈ u_ws RX5 TX5 3, w ∈ lw_tbl := by decide +kernel
theorem cn5 : Cond.instantiable RX5 3 ∈ lw_tbl := by decide +kernel
theorem ci5 : Cond.initialized RX5 ∈ lw_tbl := by decide +kernel
theorem ctg5 : ∀ a, a < 3 → tagTy (tyX5 a) (ftg 5 a) = true := by decide +kernel
theorem cw6 : ∀ w ∈ u_ws RX6 TX6 5, w ∈ lw_tbl := by decide +kernel
theorem cn6 : Cond.instantiable RX6 5 ∈ lw_tbl := by decide +kernel
theorem ci6 : Cond.initialized RX6 ∈ lw_tbl := by decide +kernel
theorem ctg6 : ∀ a, a < 5 → tagTy (tyX6 a) (ftg 6 a) = true := by decide +kernel
theorem cw7 : ∀ w ∈ u_ws RX7 TX7 12, w ∈ lw_tbl := by decide +kernel
theorem cn7 : Cond.instantiable RX7 12 ∈ lw_tbl := by decide +kernel
theorem ci7 : Cond.initialized RX7 ∈ lw_tbl := by decide +kernel
theorem ctg7 : ∀ a, a < 12 → tagTy (tyX7 a) (ftg 7 a) = true := by decide +kernel
theorem cw8 : ∀ w ∈ u_ws RX8 TX8 30, w ∈ lw_tbl := by decide +kernel
theorem cn8 : Cond.instantiable RX8 30 ∈ lw_tbl := by decide +kernel
theorem ci8 : Cond.initialized RX8 ∈ lw_tbl := by decide +kernel
theorem ctg8 : ∀ a, a < 30 → tagTy (tyX8 a) (ftg 8 a) = true := by decide +kernel
def tyOf (b : Nat) : Nat → FieldType := match b with
  | 0 => tyX0
  | 1 => tyX1
  | 2 => tyX2
  | 3 => tyX3
  | 4 => tyX4
  | 5 => tyX5
  | 6 => tyX6
  | 7 => tyX7
  | _ => tyX8
theorem cls_ok : ∀ (b : Nat) (r : vw_C), vwCl[b]? = some r → clsOk b r (tyOf b)
  | 0, _, h => by cases h; exact ⟨fun w h => gws_in (cw0 w h) (u_good h), gws_in cn0, gws_in ci0, tyX0_ok, nmX0, ctg0, rfl⟩
  | 1, _, h => by cases h; exact ⟨fun w h => gws_in (cw1 w h) (u_good h), gws_in cn1, gws_in ci1, tyX1_ok, nmX1, ctg1, rfl⟩
  | 2, _, h => by cases h; exact ⟨fun w h => gws_in (cw2 w h) (u_good h), gws_in cn2, gws_in ci2, tyX2_ok, nmX2, ctg2, rfl⟩
  | 3, _, h => by cases h; exact ⟨fun w h => gws_in (cw3 w h) (u_good h), gws_in cn3, gws_in ci3, tyX3_ok, nmX3, ctg3, rfl⟩
  | 4, _, h => by cases h; exact ⟨fun w h => gws_in (cw4 w h) (u_good h), gws_in cn4, gws_in ci4, tyX4_ok, nmX4, ctg4, rfl⟩
  | 5, _, h => by cases h; exact ⟨fun w h => gws_in (cw5 w h) (u_good h), gws_in cn5, gws_in ci5, tyX5_ok, nmX5, ctg5, rfl⟩
  | 6, _, h => by cases h; exact ⟨fun w h => gws_in (cw6 w h) (u_good h), gws_in cn6, gws_in ci6, tyX6_ok, nmX6, ctg6, rfl⟩
  | 7, _, h => by cases h; exact ⟨fun w h => gws_in (cw7 w h) (u_good h), gws_in cn7, gws_in ci7, tyX7_ok, nmX7, ctg7, rfl⟩
  | 8, _, h => by cases h; exact ⟨fun w h => gws_in (cw8 w h) (u_good h), gws_in cn8, gws_in ci8, tyX8_ok, nmX8, ctg8, rfl⟩
  | _ + 9, _, h => by simp [vwCl] at h
