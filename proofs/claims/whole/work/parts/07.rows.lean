/-! ===== where a method stands, and what one instruction does ===== -/
def nst (w : Jvm.Cond) : Bool := match w with
  | .methodLinkNest .. => true
  | _ => false
/-- words that are carried along beside the others -/
def NW (s : State) : Prop := (∀ w ∈ lw_tbl, nst w = true → va_Nw w s) ∧ va_AO RX1 s ∧ va_AO RX0 s ∧ (Jvm.Cond.arrayOver (.array .int)).before #[] s = true
def Cx (G : GG) (k : Nat) (p : Program) (s : State) (m : MethodId) (args : Array Value) (meth : Method) (c : Code) : Prop :=
  p.tables.exec = Jvm.exec ∧ c.code = mC k ∧ c.maxLocals = mL k ∧ meth.sig.returnType = mR k ∧ meth.locks = false ∧ s.vm.findClass (mY k).cls = some m.cls ∧ (∀ w ∈ gws, w.before args s = true) ∧ va_K (gD G) vwCl (tyl G) s ∧ ((mY k).name = "<init>" → meth.name = "<init>") ∧ gB G ≤ s.heap.size ∧ NW s ∧ (k = 0 → gS G < gB G ∧ va_X (gS G) (gL G) (gX G) s s.heap)
def dc (μ μ1 : MM) : Nat := (μ1 0 0).toNat - (μ 0 0).toNat
def ds (μ μ1 : MM) : Nat := slt (μ1 0 0) - slt (μ 0 0)
def Row (l : Launch) (G : GG) (k pc : Nat) (ls st : List VV) (μ : MM) (nx : Nat) (ls' st' : List VV) (μ1 : MM) : Prop :=
  ∀ (p : Program) (e : Env) (R : Room) (s : State) (m : MethodId) (args : Array Value) (below : List Frame) (meth : Method) (c : Code) (Q : State → Prop) (H : Heap) (locs : List Loc) (cells slots : Nat) (lm : Array Slot),
    Cx G k p s m args meth c → mD k ≤ R.frames → mW k ≤ R.locals → Rl G μ H → va_S (AA G) s.heap H locs → LR G (mL k) ls lm → cells + dc μ μ1 ≤ R.cells → slots + ds μ μ1 ≤ R.slots →
    (∀ (H' : Heap) (locs' : List Loc) (lm' : Array Slot), Rl G μ1 H' → va_S (AA G) s.heap H' locs' → LR G (mL k) ls' lm' → W p l e R s m args below meth c H' locs' (cells + dc μ μ1) (slots + ds μ μ1) Q (F0 m nx lm' (tvs G st'))) →
    W p l e R s m args below meth c H locs cells slots Q (F0 m pc lm (tvs G st))
theorem dc_same {μ μ1 : MM} (h : μ1 0 0 = μ 0 0) : dc μ μ1 = 0 := by unfold dc; rw [h]; omega
theorem ds_same {μ μ1 : MM} (h : μ1 0 0 = μ 0 0) : ds μ μ1 = 0 := by unfold ds; rw [h]; omega
/-- an instruction that leaves the store as it is -/
theorem Row.same {l : Launch} {G : GG} {k pc : Nat} {ls st : List VV} {μ : MM} {nx : Nat} {ls' st' : List VV}
    (h : ∀ (p : Program) (e : Env) (R : Room) (s : State) (m : MethodId) (args : Array Value) (below : List Frame) (meth : Method) (c : Code) (Q : State → Prop) (H : Heap) (locs : List Loc) (cells slots : Nat) (lm : Array Slot),
      Cx G k p s m args meth c → mD k ≤ R.frames → mW k ≤ R.locals → Rl G μ H → va_S (AA G) s.heap H locs → LR G (mL k) ls lm →
      (∀ lm' : Array Slot, LR G (mL k) ls' lm' → W p l e R s m args below meth c H locs cells slots Q (F0 m nx lm' (tvs G st'))) →
      W p l e R s m args below meth c H locs cells slots Q (F0 m pc lm (tvs G st))) : Row l G k pc ls st μ nx ls' st' μ := by
  intro p e R s m args below meth c Q H locs cells slots lm C hf hw hR hS hL _ _ kk
  rw [dc_same rfl, ds_same rfl] at kk
  exact h p e R s m args below meth c Q H locs cells slots lm C hf hw hR hS hL (fun lm' hl => kk H locs lm' hR hS hl)
theorem cod_in {k pc : Nat} {i : II} (h : cod k pc = some i) : ∃ r ∈ tabOf k, (pc, i) ∈ r := by
  have hf : ∀ (r : List (Nat × II)), fnd r pc = some i → (pc, i) ∈ r := by
    intro r
    induction r with
    | nil => exact fun h => by cases h
    | cons q r ih =>
      intro h
      unfold fnd at h
      split at h
      · rename_i e
        obtain ⟨q1, q2⟩ := q
        cases h
        have e : q1 = pc := e
        subst e
        exact List.mem_cons_self
      · exact List.mem_cons_of_mem _ (ih h)
  unfold cod at h
  rw [List.getD_eq_getElem?_getD] at h
  cases hr : (tabOf k)[pc / 32]? with
  | none => rw [hr] at h; cases h
  | some r => rw [hr] at h; exact ⟨r, List.mem_of_getElem? hr, hf r h⟩
theorem cod_chk {k pc : Nat} {i : II} (hk : chT k = true) (h : cod k pc = some i) : ∃ (ins : Instr) (len : Nat), decode (mC k) pc = .ok (ins, len) ∧ chO k pc ins len i = true := by
  obtain ⟨r, h1, h2⟩ := cod_in h
  have h3 := List.all_eq_true.mp (List.all_eq_true.mp hk r h1) _ h2
  unfold chI at h3
  cases hd : decode (mC k) pc with
  | error x => rw [hd] at h3; cases h3
  | ok q =>
    rw [hd] at h3
    exact ⟨q.1, q.2, rfl, h3⟩
theorem rg32_R {z : Int} (h : rg32 z = true) : R32 z := by
  unfold rg32 at h
  simp only [Bool.and_eq_true, decide_eq_true_eq] at h
  exact h
theorem rg64_R {z : Int} (h : rg64 z = true) : R64 z := by
  unfold rg64 at h
  simp only [Bool.and_eq_true, decide_eq_true_eq] at h
  exact h
theorem wd_ok {w : Nat} {x : Jvm.Cond} {args : Array Value} {s : State} (hts : ∀ w ∈ gws, w.before args s = true) (h : wd w = some x) (hg : goodWord x = true := by rfl) : x.before args s = true := hts x (gws_in (List.mem_of_getElem? h) hg)
section Rows
variable {l : Launch} {G : GG} {k pc : Nat} {ls st : List VV} {μ : MM} {ins : Instr} {len : Nat}
theorem row0 {a w : Nat} {z : Int} (hd : decode (mC k) pc = .ok (ins, len)) (hc : ch0 k ins len a w z = true) (nc : Int) : Row l G k pc ls st μ (pc + len) ls ((a, z) :: st) μ ∧ okv nc a z := by
  unfold ch0 at hc
  split at hc
  · simp only [Bool.and_eq_true, beq_iff_eq, decide_eq_true_eq] at hc
    obtain ⟨⟨⟨rfl, rfl⟩, rfl⟩, hr⟩ := hc
    refine ⟨Row.same fun p e R s m args below meth c Q H locs cells slots lm C hf hw hR hS hL kk => ?_, rg32_R hr⟩
    exact lv_iconst C.1 C.2.1 hd rfl (kk lm hL)
  · simp only [Bool.and_eq_true, beq_iff_eq, decide_eq_true_eq] at hc
    obtain ⟨⟨⟨rfl, rfl⟩, hv⟩, hr⟩ := hc
    refine ⟨Row.same fun p e R s m args below meth c Q H locs cells slots lm C hf hw hR hS hL kk => ?_, rg32_R hr⟩
    exact lv_bipush C.1 C.2.1 hd hv (kk lm hL)
  · simp only [Bool.and_eq_true, beq_iff_eq, decide_eq_true_eq] at hc
    obtain ⟨⟨⟨rfl, rfl⟩, hv⟩, hr⟩ := hc
    refine ⟨Row.same fun p e R s m args below meth c Q H locs cells slots lm C hf hw hR hS hL kk => ?_, rg32_R hr⟩
    exact lv_sipush C.1 C.2.1 hd hv (kk lm hL)
  · simp only [Bool.and_eq_true, beq_iff_eq, decide_eq_true_eq] at hc
    obtain ⟨⟨⟨rfl, rfl⟩, hr⟩, hv⟩ := hc
    refine ⟨Row.same fun p e R s m args below meth c Q H locs cells slots lm C hf hw hR hS hL kk => ?_, rg32_R hr⟩
    obtain ⟨hx, hb, hml, hrt, hlk, hown, hts, hK, hn, hB, hN, hX⟩ := C
    exact lv_ldc hx hb hown (wd_ok hts hv) hd (kk lm hL)
  · simp only [Bool.and_eq_true, beq_iff_eq, decide_eq_true_eq] at hc
    obtain ⟨⟨⟨rfl, rfl⟩, hr⟩, hv⟩ := hc
    refine ⟨Row.same fun p e R s m args below meth c Q H locs cells slots lm C hf hw hR hS hL kk => ?_, rg32_R hr⟩
    obtain ⟨hx, hb, hml, hrt, hlk, hown, hts, hK, hn, hB, hN, hX⟩ := C
    exact lv_ldcw hx hb hown (wd_ok hts hv) hd (kk lm hL)
  · simp only [Bool.and_eq_true, beq_iff_eq, decide_eq_true_eq] at hc
    obtain ⟨⟨⟨rfl, rfl⟩, hv⟩, hr⟩ := hc
    refine ⟨Row.same fun p e R s m args below meth c Q H locs cells slots lm C hf hw hR hS hL kk => ?_, rg64_R hr⟩
    exact lv_lconst C.1 C.2.1 hd hv (kk lm hL)
  · simp only [Bool.and_eq_true, beq_iff_eq, decide_eq_true_eq] at hc
    obtain ⟨⟨⟨rfl, rfl⟩, hr⟩, hv⟩ := hc
    refine ⟨Row.same fun p e R s m args below meth c Q H locs cells slots lm C hf hw hR hS hL kk => ?_, rg64_R hr⟩
    obtain ⟨hx, hb, hml, hrt, hlk, hown, hts, hK, hn, hB, hN, hX⟩ := C
    exact lv_ldc2 hx hb hown (wd_ok hts hv) hd (kk lm hL)
  · simp only [Bool.and_eq_true, beq_iff_eq, decide_eq_true_eq] at hc
    obtain ⟨⟨rfl, rfl⟩, rfl⟩ := hc
    refine ⟨Row.same fun p e R s m args below meth c Q H locs cells slots lm C hf hw hR hS hL kk => ?_, rfl⟩
    exact lv_null C.1 C.2.1 hd (kk lm hL)
  · cases hc
theorem row1 {a b : Nat} {v : VV} (hd : decode (mC k) pc = .ok (ins, len)) (hc : ch1 ins len a b = true) (hv : ls[a]? = some v) (hb : lod b v.1 = true) : Row l G k pc ls st μ (pc + len) ls (v :: st) μ := by
  obtain ⟨t, x⟩ := v
  have h9 : t ≠ 9 := by
    intro e
    have e : t = 9 := e
    subst e
    simp [lod] at hb
  refine Row.same fun p e R s m args below meth c Q H locs cells slots lm C hf hw hR hS hL kk => ?_
  have hat := hL.2.2.2 a (t, x) hv h9
  have hk := kk lm hL
  unfold ch1 at hc
  split at hc
  · simp only [Bool.and_eq_true, beq_iff_eq] at hc
    obtain ⟨⟨rfl, hn⟩, rfl⟩ := hc
    have e : t = 0 := by simpa [lod] using hb
    subst e
    exact lv_iload_n C.1 C.2.1 hd hn hat hk
  · simp only [Bool.and_eq_true, beq_iff_eq] at hc
    obtain ⟨⟨rfl, rfl⟩, rfl⟩ := hc
    have e : t = 0 := by simpa [lod] using hb
    subst e
    exact lv_iload C.1 C.2.1 hd hat hk
  · simp only [Bool.and_eq_true, beq_iff_eq] at hc
    obtain ⟨⟨rfl, hn⟩, rfl⟩ := hc
    have e : t = 1 := by simpa [lod] using hb
    subst e
    exact lv_lload_n C.1 C.2.1 hd hn hat hk
  · simp only [Bool.and_eq_true, beq_iff_eq] at hc
    obtain ⟨⟨rfl, rfl⟩, rfl⟩ := hc
    have e : t = 1 := by simpa [lod] using hb
    subst e
    exact lv_lload C.1 C.2.1 hd hat hk
  · simp only [Bool.and_eq_true, beq_iff_eq] at hc
    obtain ⟨⟨rfl, hn⟩, rfl⟩ := hc
    have hb' : 8 ≤ t := by
      simp [lod] at hb
      omega
    have hr : toV G t x = .null ∨ ∃ q, toV G t x = .ref q := by
      by_cases e : t = 99
      · subst e; exact Or.inr ⟨_, rfl⟩
      · rw [toV_r G hb' e]
        by_cases e : x = 0
        · exact Or.inl (if_pos e)
        · exact Or.inr ⟨_, if_neg e⟩
    have hk : W p l e R s m args below meth c H locs cells slots Q (F0 m (pc + 1) lm (toV G t x :: tvs G st)) := hk
    dsimp only at hat
    rcases hr with hr | ⟨q, hr⟩
    · rw [hr] at hat hk
      exact lv_aload_nN C.1 C.2.1 hd hn hat hk
    · rw [hr] at hat hk
      exact lv_aload_n C.1 C.2.1 hd hn hat hk
  · simp only [Bool.and_eq_true, beq_iff_eq] at hc
    obtain ⟨⟨rfl, rfl⟩, rfl⟩ := hc
    have hb' : 8 ≤ t := by
      simp [lod] at hb
      omega
    have hr : toV G t x = .null ∨ ∃ q, toV G t x = .ref q := by
      by_cases e : t = 99
      · subst e; exact Or.inr ⟨_, rfl⟩
      · rw [toV_r G hb' e]
        by_cases e : x = 0
        · exact Or.inl (if_pos e)
        · exact Or.inr ⟨_, if_neg e⟩
    have hk : W p l e R s m args below meth c H locs cells slots Q (F0 m (pc + 2) lm (toV G t x :: tvs G st)) := hk
    dsimp only at hat
    rcases hr with hr | ⟨q, hr⟩
    · rw [hr] at hat hk
      exact lv_aloadN C.1 C.2.1 hd hat hk
    · rw [hr] at hat hk
      exact lv_aload C.1 C.2.1 hd hat hk
  · cases hc
theorem ref_cases {t : Nat} {x : Int} (h : 8 ≤ t) : toV G t x = .null ∨ ∃ q, toV G t x = .ref q := by
  by_cases e : t = 99
  · subst e; exact Or.inr ⟨_, rfl⟩
  · rw [toV_r G h e]
    by_cases e : x = 0
    · exact Or.inl (if_pos e)
    · exact Or.inr ⟨_, if_neg e⟩
theorem row2 {a b : Nat} {v : VV} {r : List VV} (hd : decode (mC k) pc = .ok (ins, len)) (hc : ch2 ins len a b = true) (hb : lod b v.1 = true) (hlt : a + (if b = 1 then 1 else 0) < ls.length) (hp : a = 0 ∨ (ls.getD (a - 1) (9, 0)).1 ≠ 1) :
    Row l G k pc ls (v :: r) μ (pc + len) (if b = 1 then (ls.set a v).set (a + 1) (9, 0) else ls.set a v) r μ := by
  obtain ⟨t, x⟩ := v
  refine Row.same fun p e R s m args below meth c Q H locs cells slots lm C hf hw hR hS hL kk => ?_
  have hlt : a + (if b = 1 then 1 else 0) < mL k := by rw [← hL.1]; exact hlt
  unfold ch2 at hc
  split at hc
  · simp only [Bool.and_eq_true, beq_iff_eq] at hc
    obtain ⟨⟨rfl, hn⟩, rfl⟩ := hc
    have e : t = 0 := by simpa [lod] using hb
    subst e
    exact lv_istore_n C.1 C.2.1 hd hn hL.has (by simpa using hlt) rfl (fun lm' h' => kk lm' (hL.set1 (v := (0, x)) (by simpa using hlt) hp h'))
  · simp only [Bool.and_eq_true, beq_iff_eq] at hc
    obtain ⟨⟨rfl, rfl⟩, rfl⟩ := hc
    have e : t = 0 := by simpa [lod] using hb
    subst e
    exact lv_istore C.1 C.2.1 hd hL.has (by simpa using hlt) rfl (fun lm' h' => kk lm' (hL.set1 (v := (0, x)) (by simpa using hlt) hp h'))
  · simp only [Bool.and_eq_true, beq_iff_eq] at hc
    obtain ⟨⟨rfl, hn⟩, rfl⟩ := hc
    have e : t = 1 := by simpa [lod] using hb
    subst e
    exact lv_lstore_n C.1 C.2.1 hd hn hL.has (by simpa using hlt) rfl (fun lm' h' => kk lm' (hL.set2 (v := (1, x)) (by simpa using hlt) hp h'))
  · simp only [Bool.and_eq_true, beq_iff_eq] at hc
    obtain ⟨⟨rfl, rfl⟩, rfl⟩ := hc
    have e : t = 1 := by simpa [lod] using hb
    subst e
    exact lv_lstore C.1 C.2.1 hd hL.has (by simpa using hlt) rfl (fun lm' h' => kk lm' (hL.set2 (v := (1, x)) (by simpa using hlt) hp h'))
  · simp only [Bool.and_eq_true, beq_iff_eq] at hc
    obtain ⟨⟨rfl, hn⟩, rfl⟩ := hc
    have hb' : 8 ≤ t := by
      simp [lod] at hb
      omega
    show W p l e R s m args below meth c H locs cells slots Q (F0 m pc lm (toV G t x :: tvs G r))
    rcases ref_cases (G := G) (x := x) hb' with hr | ⟨q, hr⟩
    · rw [hr]
      refine lv_astore_nN C.1 C.2.1 hd hn hL.has (by simpa using hlt) rfl (fun lm' h' => kk lm' (hL.set1 (v := (t, x)) (by simpa using hlt) hp (by rw [hr]; exact h')))
    · rw [hr]
      refine lv_astore_n C.1 C.2.1 hd hn hL.has (by simpa using hlt) rfl (fun lm' h' => kk lm' (hL.set1 (v := (t, x)) (by simpa using hlt) hp (by rw [hr]; exact h')))
  · simp only [Bool.and_eq_true, beq_iff_eq] at hc
    obtain ⟨⟨rfl, rfl⟩, rfl⟩ := hc
    have hb' : 8 ≤ t := by
      simp [lod] at hb
      omega
    show W p l e R s m args below meth c H locs cells slots Q (F0 m pc lm (toV G t x :: tvs G r))
    rcases ref_cases (G := G) (x := x) hb' with hr | ⟨q, hr⟩
    · rw [hr]
      refine lv_astoreN C.1 C.2.1 hd hL.has (by simpa using hlt) rfl (fun lm' h' => kk lm' (hL.set1 (v := (t, x)) (by simpa using hlt) hp (by rw [hr]; exact h')))
    · rw [hr]
      refine lv_astore C.1 C.2.1 hd hL.has (by simpa using hlt) rfl (fun lm' h' => kk lm' (hL.set1 (v := (t, x)) (by simpa using hlt) hp (by rw [hr]; exact h')))
  · cases hc
theorem row3 {a : Nat} {z x : Int} (hd : decode (mC k) pc = .ok (ins, len)) (hc : ch3 ins len a z = true) (hv : ls[a]? = some (0, x)) (hp : a = 0 ∨ (ls.getD (a - 1) (9, 0)).1 ≠ 1) :
    Row l G k pc ls st μ (pc + len) (ls.set a (0, w32 (x + z))) st μ := by
  refine Row.same fun p e R s m args below meth c Q H locs cells slots lm C hf hw hR hS hL kk => ?_
  unfold ch3 at hc
  split at hc
  · rename_i n9 i9
    simp only [Bool.and_eq_true, beq_iff_eq] at hc
    obtain ⟨⟨rfl, rfl⟩, rfl⟩ := hc
    have hlt : n9 < mL k := by
      have := (List.getElem?_eq_some_iff.mp hv).1
      rw [hL.1] at this
      exact this
    obtain ⟨j, hj⟩ := List.getElem?_of_mem (mem_lvl (G := G).mpr ⟨_, hv, (show (0 : Nat) ≠ 9 by decide), rfl⟩)
    refine lv_iinc (v := Int32.ofInt (w32 (x + z))) C.1 C.2.1 hd hL.has (k := j) hj ?_ hlt rfl (fun lm' h' => kk lm' (hL.set1 (v := (0, w32 (x + z))) hlt hp h'))
    rw [i32_w, Int32.ofInt_add]
  · cases hc
theorem row4 {a : Nat} {x y : Int} {r : List VV} (hd : decode (mC k) pc = .ok (ins, len)) (hc : ch4 ins len a = true) : Row l G k pc ls ((0, y) :: (0, x) :: r) μ (pc + len) ls ((0, bin a x y) :: r) μ := by
  refine Row.same fun p e R s m args below meth c Q H locs cells slots lm C hf hw hR hS hL kk => ?_
  have hk := kk lm hL
  unfold ch4 at hc
  split at hc
  · simp only [Bool.and_eq_true, beq_iff_eq] at hc
    obtain ⟨rfl, rfl⟩ := hc
    refine lv_iadd C.1 C.2.1 hd ?_
    rw [← Int32.ofInt_add, ← i32_w]; exact hk
  · simp only [Bool.and_eq_true, beq_iff_eq] at hc
    obtain ⟨rfl, rfl⟩ := hc
    refine lv_isub C.1 C.2.1 hd ?_
    rw [← Int32.ofInt_sub, ← i32_w]; exact hk
  · simp only [Bool.and_eq_true, beq_iff_eq] at hc
    obtain ⟨rfl, rfl⟩ := hc
    refine lv_imul C.1 C.2.1 hd ?_
    rw [← Int32.ofInt_mul, ← i32_w]; exact hk
  · simp only [Bool.and_eq_true, beq_iff_eq] at hc
    obtain ⟨rfl, rfl⟩ := hc
    refine lv_iand C.1 C.2.1 hd ?_
    rw [← Int32.ofInt_toInt (Int32.ofInt x &&& Int32.ofInt y)]; exact hk
  · simp only [Bool.and_eq_true, beq_iff_eq] at hc
    obtain ⟨rfl, rfl⟩ := hc
    refine lv_ior C.1 C.2.1 hd ?_
    rw [← Int32.ofInt_toInt (Int32.ofInt x ||| Int32.ofInt y)]; exact hk
  · simp only [Bool.and_eq_true, beq_iff_eq] at hc
    obtain ⟨rfl, rfl⟩ := hc
    refine lv_ishl C.1 C.2.1 hd ?_
    rw [← Int32.ofInt_toInt (Int32.ofInt x <<< (Int32.ofInt y &&& 31))]; exact hk
  · simp only [Bool.and_eq_true, beq_iff_eq] at hc
    obtain ⟨rfl, rfl⟩ := hc
    refine lv_ishr C.1 C.2.1 hd ?_
    rw [← Int32.ofInt_toInt (Int32.ofInt x >>> (Int32.ofInt y &&& 31))]; exact hk
  · cases hc
theorem row5 {a : Nat} {x y : Int} {r : List VV} (hd : decode (mC k) pc = .ok (ins, len)) (hc : ch5 ins len a = true) (hx : R32 x) (hy : R32 y) (h0 : y ≠ 0) : Row l G k pc ls ((0, y) :: (0, x) :: r) μ (pc + len) ls ((0, if a = 0 then w32 (Int.tdiv x y) else Int.tmod x y) :: r) μ := by
  refine Row.same fun p e R s m args below meth c Q H locs cells slots lm C hf hw hR hS hL kk => ?_
  have hk := kk lm hL
  unfold ch5 at hc
  split at hc
  · simp only [Bool.and_eq_true, beq_iff_eq] at hc
    obtain ⟨rfl, rfl⟩ := hc
    refine lv_idiv C.1 C.2.1 hd (fun q => h0 ((i32_eq0 hy).mp q)) ?_
    rw [i32_div hx hy]; exact hk
  · simp only [Bool.and_eq_true, beq_iff_eq] at hc
    obtain ⟨rfl, rfl⟩ := hc
    refine lv_irem C.1 C.2.1 hd (fun q => h0 ((i32_eq0 hy).mp q)) ?_
    rw [i32_rem hx hy]; exact hk
  · cases hc
theorem row6 {a : Nat} {x y : Int} {r : List VV} (hd : decode (mC k) pc = .ok (ins, len)) (hc : ch6 ins len a = true) : Row l G k pc ls ((1, y) :: (1, x) :: r) μ (pc + len) ls ((1, if a = 0 then w64 (x + y) else w64 (x * y)) :: r) μ := by
  refine Row.same fun p e R s m args below meth c Q H locs cells slots lm C hf hw hR hS hL kk => ?_
  have hk := kk lm hL
  unfold ch6 at hc
  split at hc
  · simp only [Bool.and_eq_true, beq_iff_eq] at hc
    obtain ⟨rfl, rfl⟩ := hc
    refine lv_ladd C.1 C.2.1 hd ?_
    rw [← Int64.ofInt_add, ← i64_w]; exact hk
  · simp only [Bool.and_eq_true, beq_iff_eq] at hc
    obtain ⟨rfl, rfl⟩ := hc
    refine lv_lmul C.1 C.2.1 hd ?_
    rw [← Int64.ofInt_mul, ← i64_w]; exact hk
  · cases hc
theorem row7 {a : Nat} {x y : Int} {r : List VV} (hd : decode (mC k) pc = .ok (ins, len)) (hc : ch7 ins len a = true) (hx : R64 x) (hy : R64 y) (h0 : y ≠ 0) : Row l G k pc ls ((1, y) :: (1, x) :: r) μ (pc + len) ls ((1, if a = 0 then w64 (Int.tdiv x y) else Int.tmod x y) :: r) μ := by
  refine Row.same fun p e R s m args below meth c Q H locs cells slots lm C hf hw hR hS hL kk => ?_
  have hk := kk lm hL
  have hz : ¬ Int64.ofInt y = 0 := fun q => h0 ((i64_eq hy ⟨by omega, by omega⟩).mp (show Int64.ofInt y = Int64.ofInt 0 from q))
  unfold ch7 at hc
  split at hc
  · simp only [Bool.and_eq_true, beq_iff_eq] at hc
    obtain ⟨rfl, rfl⟩ := hc
    refine lv_ldiv C.1 C.2.1 hd hz ?_
    rw [i64_div hx hy]; exact hk
  · simp only [Bool.and_eq_true, beq_iff_eq] at hc
    obtain ⟨rfl, rfl⟩ := hc
    refine lv_lrem C.1 C.2.1 hd hz ?_
    rw [i64_rem hx hy]; exact hk
  · cases hc
theorem row8 {x y : Int} {r : List VV} (hd : decode (mC k) pc = .ok (ins, len)) (hc : ch8 ins len = true) (hx : R64 x) (hy : R64 y) : Row l G k pc ls ((1, y) :: (1, x) :: r) μ (pc + len) ls ((0, if x < y then -1 else if x = y then 0 else 1) :: r) μ := by
  refine Row.same fun p e R s m args below meth c Q H locs cells slots lm C hf hw hR hS hL kk => ?_
  have hk := kk lm hL
  unfold ch8 at hc
  split at hc
  · simp only [beq_iff_eq] at hc
    subst hc
    refine W.lcmp C.1 C.2.1 hd ?_
    have e : lg_cmp (Int64.ofInt x) (Int64.ofInt y) = Int32.ofInt (if x < y then -1 else if x = y then 0 else 1) := by
      unfold lg_cmp
      by_cases h1 : x < y
      · have h2 : ¬ y < x := by omega
        have h3 : ¬ x = y := by omega
        simp [i64_lt hx hy, i64_lt hy hx, i64_eq hx hy, h1, h2, h3]
        try rfl
      · by_cases h3 : x = y
        · subst h3
          simp
          try rfl
        · have h2 : y < x := by omega
          simp [i64_lt hx hy, i64_lt hy hx, i64_eq hx hy, h1, h2, h3]
          try rfl
    rw [e]; exact hk
  · cases hc
theorem row9 {a : Nat} {x : Int} {r : List VV} (hd : decode (mC k) pc = .ok (ins, len)) (hc : ch9 ins len a = true) (hx : R32 x) : Row l G k pc ls ((0, x) :: r) μ (pc + len) ls ((if a = 0 then (0, w32 (- x)) else (1, x)) :: r) μ := by
  refine Row.same fun p e R s m args below meth c Q H locs cells slots lm C hf hw hR hS hL kk => ?_
  have hk := kk lm hL
  unfold ch9 at hc
  split at hc
  · simp only [Bool.and_eq_true, beq_iff_eq] at hc
    obtain ⟨rfl, rfl⟩ := hc
    refine lv_ineg C.1 C.2.1 hd ?_
    rw [← Int32.ofInt_neg, ← i32_w]; exact hk
  · simp only [Bool.and_eq_true, beq_iff_eq] at hc
    obtain ⟨rfl, rfl⟩ := hc
    refine lv_i2l (v := Int64.ofInt x) C.1 C.2.1 hd ?_ hk
    apply Int64.toInt.inj
    rw [Int32.toInt_toInt64, i32_toInt hx, i64_toInt ⟨by unfold R32 at hx; omega, by unfold R32 at hx; omega⟩]
  · cases hc
def cnd (a : Nat) (x y : Int) : Prop := match a with
  | 0 => x = y
  | 1 => ¬ x = y
  | 2 => x < y
  | 3 => ¬ x < y
  | 4 => y < x
  | 5 => ¬ y < x
  | _ => False
theorem cmp_sel {a : Nat} {x y : Int} {A B : RR} {q : Int × MM} (h : cmp a x y A B = some q) : (cnd a x y ∧ A = some q) ∨ (¬ cnd a x y ∧ B = some q) := by
  unfold cmp at h
  split at h
  · by_cases e : x = y
    · rw [if_pos e] at h; exact Or.inl ⟨e, h⟩
    · rw [if_neg e] at h; exact Or.inr ⟨e, h⟩
  · by_cases e : x = y
    · rw [if_pos e] at h; exact Or.inr ⟨fun q => q e, h⟩
    · rw [if_neg e] at h; exact Or.inl ⟨e, h⟩
  · by_cases e : x < y
    · rw [if_pos e] at h; exact Or.inl ⟨e, h⟩
    · rw [if_neg e] at h; exact Or.inr ⟨e, h⟩
  · by_cases e : x < y
    · rw [if_pos e] at h; exact Or.inr ⟨fun q => q e, h⟩
    · rw [if_neg e] at h; exact Or.inl ⟨e, h⟩
  · by_cases e : y < x
    · rw [if_pos e] at h; exact Or.inl ⟨e, h⟩
    · rw [if_neg e] at h; exact Or.inr ⟨e, h⟩
  · by_cases e : y < x
    · rw [if_pos e] at h; exact Or.inr ⟨fun q => q e, h⟩
    · rw [if_neg e] at h; exact Or.inl ⟨e, h⟩
  · cases h
theorem row10 {a b : Nat} {x : Int} {r : List VV} (hd : decode (mC k) pc = .ok (ins, len)) (hc : ch10 ins pc len a b = true) (hx : R32 x) : (cnd a x 0 → Row l G k pc ls ((0, x) :: r) μ b ls r μ) ∧ (¬ cnd a x 0 → Row l G k pc ls ((0, x) :: r) μ (pc + len) ls r μ) := by
  unfold ch10 at hc
  split at hc
  · rename_i cd off
    simp only [Bool.and_eq_true, beq_iff_eq, decide_eq_true_eq] at hc
    obtain ⟨⟨rfl, rfl⟩, ht⟩ := hc
    have hy := z32
    cases cd with
    | eq =>
      refine ⟨fun q => Row.same fun p e R s m args below meth c Q H locs cells slots lm C hf hw hR hS hL kk => ?_, fun q => Row.same fun p e R s m args below meth c Q H locs cells slots lm C hf hw hR hS hL kk => ?_⟩
      · exact lv_if_eq C.1 C.2.1 hd ht (fun _ => kk lm hL) (fun z => absurd ((i32_eq hx hy).mpr q) z)
      · exact lv_if_eq C.1 C.2.1 hd ht (fun z => absurd ((i32_eq hx hy).mp z) q) (fun _ => kk lm hL)
    | ne =>
      refine ⟨fun q => Row.same fun p e R s m args below meth c Q H locs cells slots lm C hf hw hR hS hL kk => ?_, fun q => Row.same fun p e R s m args below meth c Q H locs cells slots lm C hf hw hR hS hL kk => ?_⟩
      · exact lv_if_ne C.1 C.2.1 hd ht (fun _ => kk lm hL) (fun z => absurd ((i32_eq hx hy).mp z) q)
      · exact lv_if_ne C.1 C.2.1 hd ht (fun z => absurd (fun w => z ((i32_eq hx hy).mpr w)) q) (fun _ => kk lm hL)
    | lt =>
      refine ⟨fun q => Row.same fun p e R s m args below meth c Q H locs cells slots lm C hf hw hR hS hL kk => ?_, fun q => Row.same fun p e R s m args below meth c Q H locs cells slots lm C hf hw hR hS hL kk => ?_⟩
      · exact lv_if_lt C.1 C.2.1 hd ht (fun _ => kk lm hL) (fun z => absurd ((i32_lt hx hy).mpr q) z)
      · exact lv_if_lt C.1 C.2.1 hd ht (fun z => absurd ((i32_lt hx hy).mp z) q) (fun _ => kk lm hL)
    | ge =>
      refine ⟨fun q => Row.same fun p e R s m args below meth c Q H locs cells slots lm C hf hw hR hS hL kk => ?_, fun q => Row.same fun p e R s m args below meth c Q H locs cells slots lm C hf hw hR hS hL kk => ?_⟩
      · exact lv_if_ge C.1 C.2.1 hd ht (fun _ => kk lm hL) (fun z => absurd ((i32_le hy hx).mpr (Int.not_lt.mp q)) z)
      · exact lv_if_ge C.1 C.2.1 hd ht (fun z => absurd (Int.not_lt.mpr ((i32_le hy hx).mp z)) q) (fun _ => kk lm hL)
    | gt =>
      refine ⟨fun q => Row.same fun p e R s m args below meth c Q H locs cells slots lm C hf hw hR hS hL kk => ?_, fun q => Row.same fun p e R s m args below meth c Q H locs cells slots lm C hf hw hR hS hL kk => ?_⟩
      · exact lv_if_gt C.1 C.2.1 hd ht (fun _ => kk lm hL) (fun z => absurd ((i32_lt hy hx).mpr q) z)
      · exact lv_if_gt C.1 C.2.1 hd ht (fun z => absurd ((i32_lt hy hx).mp z) q) (fun _ => kk lm hL)
    | le =>
      refine ⟨fun q => Row.same fun p e R s m args below meth c Q H locs cells slots lm C hf hw hR hS hL kk => ?_, fun q => Row.same fun p e R s m args below meth c Q H locs cells slots lm C hf hw hR hS hL kk => ?_⟩
      · exact lv_if_le C.1 C.2.1 hd ht (fun _ => kk lm hL) (fun z => absurd ((i32_le hx hy).mpr (Int.not_lt.mp q)) z)
      · exact lv_if_le C.1 C.2.1 hd ht (fun z => absurd (Int.not_lt.mpr ((i32_le hx hy).mp z)) q) (fun _ => kk lm hL)
  · cases hc
theorem row11 {a b : Nat} {x y : Int} {r : List VV} (hd : decode (mC k) pc = .ok (ins, len)) (hc : ch11 ins pc len a b = true) (hx : R32 x) (hy : R32 y) : (cnd a x y → Row l G k pc ls ((0, y) :: (0, x) :: r) μ b ls r μ) ∧ (¬ cnd a x y → Row l G k pc ls ((0, y) :: (0, x) :: r) μ (pc + len) ls r μ) := by
  unfold ch11 at hc
  split at hc
  · rename_i cd off
    simp only [Bool.and_eq_true, beq_iff_eq, decide_eq_true_eq] at hc
    obtain ⟨⟨rfl, rfl⟩, ht⟩ := hc
    cases cd with
    | eq =>
      refine ⟨fun q => Row.same fun p e R s m args below meth c Q H locs cells slots lm C hf hw hR hS hL kk => ?_, fun q => Row.same fun p e R s m args below meth c Q H locs cells slots lm C hf hw hR hS hL kk => ?_⟩
      · exact lv_icmp_eq C.1 C.2.1 hd ht (fun _ => kk lm hL) (fun z => absurd ((i32_eq hx hy).mpr q) z)
      · exact lv_icmp_eq C.1 C.2.1 hd ht (fun z => absurd ((i32_eq hx hy).mp z) q) (fun _ => kk lm hL)
    | ne =>
      refine ⟨fun q => Row.same fun p e R s m args below meth c Q H locs cells slots lm C hf hw hR hS hL kk => ?_, fun q => Row.same fun p e R s m args below meth c Q H locs cells slots lm C hf hw hR hS hL kk => ?_⟩
      · exact lv_icmp_ne C.1 C.2.1 hd ht (fun _ => kk lm hL) (fun z => absurd ((i32_eq hx hy).mp z) q)
      · exact lv_icmp_ne C.1 C.2.1 hd ht (fun z => absurd (fun w => z ((i32_eq hx hy).mpr w)) q) (fun _ => kk lm hL)
    | lt =>
      refine ⟨fun q => Row.same fun p e R s m args below meth c Q H locs cells slots lm C hf hw hR hS hL kk => ?_, fun q => Row.same fun p e R s m args below meth c Q H locs cells slots lm C hf hw hR hS hL kk => ?_⟩
      · exact lv_icmp_lt C.1 C.2.1 hd ht (fun _ => kk lm hL) (fun z => absurd ((i32_lt hx hy).mpr q) z)
      · exact lv_icmp_lt C.1 C.2.1 hd ht (fun z => absurd ((i32_lt hx hy).mp z) q) (fun _ => kk lm hL)
    | ge =>
      refine ⟨fun q => Row.same fun p e R s m args below meth c Q H locs cells slots lm C hf hw hR hS hL kk => ?_, fun q => Row.same fun p e R s m args below meth c Q H locs cells slots lm C hf hw hR hS hL kk => ?_⟩
      · exact lv_icmp_ge C.1 C.2.1 hd ht (fun _ => kk lm hL) (fun z => absurd ((i32_le hy hx).mpr (Int.not_lt.mp q)) z)
      · exact lv_icmp_ge C.1 C.2.1 hd ht (fun z => absurd (Int.not_lt.mpr ((i32_le hy hx).mp z)) q) (fun _ => kk lm hL)
    | gt =>
      refine ⟨fun q => Row.same fun p e R s m args below meth c Q H locs cells slots lm C hf hw hR hS hL kk => ?_, fun q => Row.same fun p e R s m args below meth c Q H locs cells slots lm C hf hw hR hS hL kk => ?_⟩
      · exact lv_icmp_gt C.1 C.2.1 hd ht (fun _ => kk lm hL) (fun z => absurd ((i32_lt hy hx).mpr q) z)
      · exact lv_icmp_gt C.1 C.2.1 hd ht (fun z => absurd ((i32_lt hy hx).mp z) q) (fun _ => kk lm hL)
    | le =>
      refine ⟨fun q => Row.same fun p e R s m args below meth c Q H locs cells slots lm C hf hw hR hS hL kk => ?_, fun q => Row.same fun p e R s m args below meth c Q H locs cells slots lm C hf hw hR hS hL kk => ?_⟩
      · exact lv_icmp_le C.1 C.2.1 hd ht (fun _ => kk lm hL) (fun z => absurd ((i32_le hx hy).mpr (Int.not_lt.mp q)) z)
      · exact lv_icmp_le C.1 C.2.1 hd ht (fun z => absurd (Int.not_lt.mpr ((i32_le hx hy).mp z)) q) (fun _ => kk lm hL)
  · cases hc
theorem row12 {a b t : Nat} {x : Int} {r : List VV} (hd : decode (mC k) pc = .ok (ins, len)) (hc : ch12 ins pc len a b = true) (ht : t = 8 ∨ (10 ≤ t ∧ t < 70)) : (cnd a x 0 → Row l G k pc ls ((t, x) :: r) μ b ls r μ) ∧ (¬ cnd a x 0 → Row l G k pc ls ((t, x) :: r) μ (pc + len) ls r μ) := by
  have hn : x = 0 → toV G t x = .null := fun h => by rw [toV_r G (by omega) (by omega), if_pos h]
  have hr : ¬ x = 0 → toV G t x = .ref (adr G x) := fun h => by rw [toV_r G (by omega) (by omega), if_neg h]
  unfold ch12 at hc
  split at hc
  · simp only [Bool.and_eq_true, beq_iff_eq, decide_eq_true_eq] at hc
    obtain ⟨⟨rfl, rfl⟩, hg⟩ := hc
    refine ⟨fun q => Row.same fun p e R s m args below meth c Q H locs cells slots lm C hf hw hR hS hL kk => ?_, fun q => Row.same fun p e R s m args below meth c Q H locs cells slots lm C hf hw hR hS hL kk => ?_⟩
    · show W p l e R s m args below meth c H locs cells slots Q (F0 m pc lm (toV G t x :: tvs G r))
      rw [hn q]
      exact lv_ifnullN C.1 C.2.1 hd hg (kk lm hL)
    · show W p l e R s m args below meth c H locs cells slots Q (F0 m pc lm (toV G t x :: tvs G r))
      rw [hr q]
      exact lv_ifnull C.1 C.2.1 hd (kk lm hL)
  · simp only [Bool.and_eq_true, beq_iff_eq, decide_eq_true_eq] at hc
    obtain ⟨⟨rfl, rfl⟩, hg⟩ := hc
    refine ⟨fun q => Row.same fun p e R s m args below meth c Q H locs cells slots lm C hf hw hR hS hL kk => ?_, fun q => Row.same fun p e R s m args below meth c Q H locs cells slots lm C hf hw hR hS hL kk => ?_⟩
    · show W p l e R s m args below meth c H locs cells slots Q (F0 m pc lm (toV G t x :: tvs G r))
      rw [hr q]
      exact lv_ifnonnull C.1 C.2.1 hd hg (kk lm hL)
    · show W p l e R s m args below meth c H locs cells slots Q (F0 m pc lm (toV G t x :: tvs G r))
      rw [hn (Classical.not_not.mp q)]
      exact lv_ifnonnullN C.1 C.2.1 hd (kk lm hL)
  · cases hc
theorem row13 {b : Nat} (hd : decode (mC k) pc = .ok (ins, len)) (hc : ch13 ins pc len b = true) : Row l G k pc ls st μ b ls st μ := by
  refine Row.same fun p e R s m args below meth c Q H locs cells slots lm C hf hw hR hS hL kk => ?_
  unfold ch13 at hc
  split at hc
  · simp only [Bool.and_eq_true, beq_iff_eq, decide_eq_true_eq] at hc
    obtain ⟨rfl, ht⟩ := hc
    exact lv_goto C.1 C.2.1 hd ht (kk lm hL)
  · cases hc
def sel (sw : List (Int × Nat)) (d : Nat) (x : Int) : Nat := match sw with
  | [] => d
  | q :: r => if x = q.1 then q.2 else sel r d x
theorem swi_sel {d : Nat} {x : Int} {J : Nat → RR} : ∀ (sw : List (Int × Nat)), swi sw d x J = J (sel sw d x)
  | [] => rfl
  | q :: r => by
    unfold swi sel
    by_cases e : x = q.1
    · rw [if_pos e, if_pos e]
    · rw [if_neg e, if_neg e]; exact swi_sel r
theorem swT_out {pc d : Nat} {x : Int} : ∀ (os : List Int) (sw : List (Int × Nat)) (lo : Int), swT pc lo os sw = true → x < lo ∨ lo + (os.length : Int) ≤ x → sel sw d x = d
  | [], [], _, _, _ => rfl
  | o :: os, q :: qs, lo, h, hx => by
    unfold swT at h
    simp only [Bool.and_eq_true, decide_eq_true_eq] at h
    unfold sel
    simp only [List.length_cons] at hx
    rw [if_neg (by rw [h.1.1]; omega)]
    exact swT_out os qs (lo + 1) h.2 (by omega)
  | [], _ :: _, _, h, _ => by cases h
  | _ :: _, [], _, h, _ => by cases h
theorem swT_in {pc d : Nat} {x : Int} : ∀ (os : List Int) (sw : List (Int × Nat)) (lo : Int), swT pc lo os sw = true → lo ≤ x → x < lo + (os.length : Int) → ∃ off, os[(x - lo).toNat]? = some off ∧ (pc : Int) + off = (sel sw d x : Nat)
  | [], _, lo, _, h1, h2 => by
    simp at h2
    omega
  | o :: os, q :: qs, lo, h, h1, h2 => by
    unfold swT at h
    simp only [Bool.and_eq_true, decide_eq_true_eq] at h
    unfold sel
    simp only [List.length_cons] at h2
    by_cases e : x = lo
    · refine ⟨o, by rw [show (x - lo).toNat = 0 by omega]; rfl, ?_⟩
      rw [if_pos (by rw [h.1.1]; exact e)]
      exact h.1.2
    · obtain ⟨off, a1, a2⟩ := swT_in (d := d) (x := x) os qs (lo + 1) h.2 (by omega) (by omega)
      refine ⟨off, by rw [show (x - lo).toNat = (x - (lo + 1)).toNat + 1 by omega]; exact a1, ?_⟩
      rw [if_neg (by rw [h.1.1]; exact e)]
      exact a2
  | _ :: _, [], _, h, _, _ => by cases h
theorem swL_ok {pc b : Nat} {x d : Int} (hb : (pc : Int) + d = (b : Int)) : ∀ (ps : List (Int × Int)) (sw : List (Int × Nat)), swL pc ps sw = true → (pc : Int) + Op.lookupswitch.offset ps d x = (sel sw b x : Nat)
  | [], [], _ => hb
  | o :: os, q :: qs, h => by
    unfold swL at h
    simp only [Bool.and_eq_true, decide_eq_true_eq] at h
    unfold sel
    obtain ⟨o1, o2⟩ := o
    by_cases e : x = o1
    · rw [if_pos (by rw [h.1.1]; exact e)]
      have : Op.lookupswitch.offset ((o1, o2) :: os) d x = o2 := by simp [Op.lookupswitch.offset, e]
      rw [this]
      exact h.1.2
    · rw [if_neg (by rw [h.1.1]; exact e)]
      have : Op.lookupswitch.offset ((o1, o2) :: os) d x = Op.lookupswitch.offset os d x := by
        simp [Op.lookupswitch.offset]
        intro q
        exact absurd q.symm e
      rw [this]
      exact swL_ok hb os qs h.2
  | [], _ :: _, h => by cases h
  | _ :: _, [], h => by cases h
theorem row14 {b : Nat} {sw : List (Int × Nat)} {x : Int} {r : List VV} (hd : decode (mC k) pc = .ok (ins, len)) (hc : ch14 ins pc b sw = true) (hx : R32 x) : Row l G k pc ls ((0, x) :: r) μ (sel sw b x) ls r μ := by
  refine Row.same fun p e R s m args below meth c Q H locs cells slots lm C hf hw hR hS hL kk => ?_
  have hk := kk lm hL
  unfold ch14 at hc
  split at hc
  · rename_i d lo hi os
    simp only [Bool.and_eq_true, decide_eq_true_eq] at hc
    obtain ⟨⟨hb, hh⟩, hs⟩ := hc
    by_cases h1 : x < lo
    · rw [swT_out os.toList sw lo hs (Or.inl h1)] at hk
      exact lv_tableOut C.1 C.2.1 hd (by rw [i32_toInt hx]; exact Or.inl h1) hb hk
    · by_cases h2 : hi < x
      · rw [swT_out os.toList sw lo hs (Or.inr (by omega))] at hk
        exact lv_tableOut C.1 C.2.1 hd (by rw [i32_toInt hx]; exact Or.inr h2) hb hk
      · obtain ⟨off, a1, a2⟩ := swT_in (d := b) (x := x) os.toList sw lo hs (Int.not_lt.mp h1) (by omega)
        exact lv_tableIn C.1 C.2.1 hd (by rw [i32_toInt hx]; exact h1) (by rw [i32_toInt hx]; exact h2) (by rw [i32_toInt hx, ← Array.getElem?_toList]; exact a1) a2 hk
  · rename_i d ps
    simp only [Bool.and_eq_true, decide_eq_true_eq] at hc
    obtain ⟨⟨hb, hp⟩, hs⟩ := hc
    exact lv_lookup C.1 C.2.1 hd hp (by rw [i32_toInt hx]) (swL_ok hb ps.toList sw hs) hk
  · cases hc
theorem row22 {v : VV} {r : List VV} (hd : decode (mC k) pc = .ok (ins, len)) (hc : ch22 ins len = true) (hv : ¬ v.1 = 1) : Row l G k pc ls (v :: r) μ (pc + len) ls (v :: v :: r) μ := by
  refine Row.same fun p e R s m args below meth c Q H locs cells slots lm C hf hw hR hS hL kk => ?_
  unfold ch22 at hc
  split at hc
  · simp only [beq_iff_eq] at hc
    subst hc
    exact lv_dup C.1 C.2.1 hd (by rw [toV_cat, if_neg hv]) (kk lm hL)
  · cases hc
theorem row23 {v u : VV} {r : List VV} (hd : decode (mC k) pc = .ok (ins, len)) (hc : ch23 ins len = true) (hv : ¬ v.1 = 1) (hu : ¬ u.1 = 1) : Row l G k pc ls (v :: u :: r) μ (pc + len) ls (v :: u :: v :: u :: r) μ := by
  refine Row.same fun p e R s m args below meth c Q H locs cells slots lm C hf hw hR hS hL kk => ?_
  unfold ch23 at hc
  split at hc
  · simp only [beq_iff_eq] at hc
    subst hc
    exact lv_dup2_11 C.1 C.2.1 hd (by rw [toV_cat, if_neg hv]) (by rw [toV_cat, if_neg hu]) (kk lm hL)
  · cases hc
theorem row24 {v : VV} {r : List VV} (hd : decode (mC k) pc = .ok (ins, len)) (hc : ch24 ins len = true) (hv : ¬ v.1 = 1) : Row l G k pc ls (v :: r) μ (pc + len) ls r μ := by
  refine Row.same fun p e R s m args below meth c Q H locs cells slots lm C hf hw hR hS hL kk => ?_
  unfold ch24 at hc
  split at hc
  · simp only [beq_iff_eq] at hc
    subst hc
    exact lv_pop C.1 C.2.1 hd (by rw [toV_cat, if_neg hv]) (kk lm hL)
  · cases hc
end Rows
