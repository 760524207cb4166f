/-! ===== calls and answers ===== -/
noncomputable def rst (G : GG) (k : Nat) (r : Int) : List Value := if mT k = 9 then [] else [toV G (mT k) r]
noncomputable def rvl (G : GG) (k : Nat) (r : Int) : Option Value := if mT k = 9 then none else some (toV G (mT k) r)
def rin (t : Nat) : Instr := if t = 9 then .return_ else if t = 1 then .lreturn else if t < 8 then .ireturn else .areturn
def okr (nc : Int) (t : Nat) (r : Int) : Prop := t = 9 ∨ okv nc t r
/-- from here the method ends with r, the store is μ' then; and the machine does so -/
def Pkg (l : Launch) (G : GG) (k pc : Nat) (ls st : List VV) (μ : MM) (r : Int) (μ' : MM) : Prop :=
  μ 0 0 ≤ μ' 0 0 ∧ Mok G μ' ∧ okr (μ' 0 0) (mT k) r ∧
  ∀ (p : Program) (e : Env) (R : Room) (s : State) (m : MethodId) (args : Array Value) (below : List Frame) (meth : Method) (c : Code) (Q : State → Prop) (H : Heap) (locs : List Loc) (cells slots : Nat) (lm : Array Slot),
    Cx G k p s m args meth c → mD k ≤ R.frames → mW k ≤ R.locals → Rl G μ H → va_S (AA G) s.heap H locs → LR G (mL k) ls lm → cells + dc μ μ' ≤ R.cells → slots + ds μ μ' ≤ R.slots →
    (∀ (pcR : Nat) (lmR : Array Slot) (H' : Heap) (locs' : List Loc), decode (mC k) pcR = .ok (rin (mT k), 1) → Rl G μ' H' → va_S (AA G) s.heap H' locs' → W p l e R s m args below meth c H' locs' (cells + dc μ μ') (slots + ds μ μ') Q (F0 m pcR lmR (rst G k r))) →
    W p l e R s m args below meth c H locs cells slots Q (F0 m pc lm (tvs G st))
theorem dc_add {μ μ1 μ' : MM} (h1 : μ 0 0 ≤ μ1 0 0) (h2 : μ1 0 0 ≤ μ' 0 0) : dc μ μ1 + dc μ1 μ' = dc μ μ' := by unfold dc; omega
theorem ds_add {μ μ1 μ' : MM} (h1 : μ 0 0 ≤ μ1 0 0) (h2 : μ1 0 0 ≤ μ' 0 0) : ds μ μ1 + ds μ1 μ' = ds μ μ' := by
  have a1 := slt_mono h1
  have a2 := slt_mono h2
  unfold ds
  omega
theorem Pkg.tail {l : Launch} {G : GG} {k pc nx : Nat} {ls st ls' st' : List VV} {μ μ1 μ' : MM} {r : Int} (hrow : Row l G k pc ls st μ nx ls' st' μ1) (hle : μ 0 0 ≤ μ1 0 0) (hP : Pkg l G k nx ls' st' μ1 r μ') : Pkg l G k pc ls st μ r μ' := by
  obtain ⟨h1, h2, h3, h4⟩ := hP
  have ea := dc_add hle h1
  have eb := ds_add hle h1
  refine ⟨Int.le_trans hle h1, h2, h3, ?_⟩
  intro p e R s m args below meth c Q H locs cells slots lm C hf hw hR hS hL hce hsl kk
  refine hrow p e R s m args below meth c Q H locs cells slots lm C hf hw hR hS hL (by omega) (by omega) (fun H' locs' lm' hR' hS' hL' => ?_)
  refine h4 p e R s m args below meth c Q H' locs' _ _ lm' C hf hw hR' hS' hL' (by omega) (by omega) (fun pcR lmR H'' locs'' hd hR'' hS'' => ?_)
  rw [Nat.add_assoc, ea, Nat.add_assoc, eb]
  exact kk pcR lmR H'' locs'' hd hR'' hS''
noncomputable def wsK (k : Nat) : List Jvm.Cond := .code (mY k) (mC k) (mL k) (mR k) :: gws
noncomputable def rmK (k : Nat) (μ μ' : MM) : Room := { frames := mD k, cells := dc μ μ', slots := ds μ μ', locals := mW k }
def PcK (G : GG) (vals : List Value) (μ : MM) : Array Value → State → Prop := fun a U => a = vals.toArray ∧ Rl G μ U.heap ∧ va_K (gD G) vwCl (tyl G) U ∧ NW U
def QcK (G : GG) (v : Option Value) (μ' : MM) : Array Value → State → Outcome → State → Prop := fun _ st o t => o = .returned v ∧ Rl G μ' t.heap ∧ va_F (AA G) st t
def argv (G : GG) : List VV → List Nat → List Value
  | v :: vs, p :: ps => toV G p v.2 :: argv G vs ps
  | _, _ => []
theorem AOI_moved {u U : State} (hvm : u.vm.Alike U.vm) (h : (Jvm.Cond.arrayOver (.array .int)).before #[] u = true) : (Jvm.Cond.arrayOver (.array .int)).before #[] U = true := by
  obtain ⟨comp, c, k, h1, h2, h3, h4, h5⟩ := arrayOverA_spec h
  obtain ⟨k', hk', he⟩ := hvm.2.2 _ _ h3
  have hi : (U.vm.classes.findIdx? fun (x : Class) => match x.kind with | .array component _ => component == comp | _ => false) = some c := by
    have e1 := va_idx_bare U.vm comp
    have e2 := va_idx_bare u.vm comp
    have e3 : U.vm.bare = u.vm.bare := by first | exact hvm.bare_eq | exact hvm.bare_eq.symm
    rw [e3] at e1
    exact (e1.symm.trans e2).trans h2
  have hkind : k'.kind = .array comp (.array .int) := by rw [he]; exact h4
  have f1 : U.vm.findClass (FieldType.array .int).toString = some comp := by rw [hvm.findClass]; exact h1
  have f2 : U.vm.findClass ("[" ++ (FieldType.array .int).toString) = some c := by rw [hvm.findClass]; exact h5
  unfold Jvm.Cond.before Jvm.Cond.holds
  simp only [Jvm.Cond.value]
  rw [f1, Option.bind_some]
  refine (congrArg (fun o : Option Nat => (o.bind (fun c => (U.vm.classes[c]?).map fun (k : Class) => match k.kind with | .array _ ty => decide (ty = FieldType.array .int) && decide (U.vm.findClass ("[" ++ (FieldType.array .int).toString) = some c) | _ => false) == some true)) hi).trans ?_
  simp [hk', hkind, f2]
theorem NW.same {s U : State} (h : s.vm = U.vm) (hN : NW s) : NW U := by
  obtain ⟨h1, h2, h3, h4⟩ := hN
  refine ⟨fun w hw hn => ?_, va_AO.moved (by rw [h]; exact Vm.Alike.refl _) h2, va_AO.moved (by rw [h]; exact Vm.Alike.refl _) h3, ?_⟩
  · have hz := h1 w hw hn
    unfold nst at hn
    split at hn
    · exact va_Nw.same rfl h hz
    · cases hn
  · exact AOI_moved (by rw [h]; exact Vm.Alike.refl _) h4
theorem NW.warm {s U : State} (h : s.WarmedH U.vm) (hN : NW s) : NW U := by
  obtain ⟨h1, h2, h3, h4⟩ := hN
  refine ⟨fun w hw hn => ?_, va_AO.moved h.alike h2, va_AO.moved h.alike h3, ?_⟩
  · have hz := h1 w hw hn
    unfold nst at hn
    split at hn
    · exact va_Nw.warmM h hz
    · cases hn
  · exact AOI_moved h.alike h4
theorem PcK_blind {G : GG} {vals : List Value} {μ : MM} : FrameBlind (PcK G vals μ) := fun a U g mk h => ⟨h.1, h.2.1, va_K.moved (u := U) (U := U.calling g mk a) (Vm.Alike.refl U.vm) h.2.2.1, NW.same (s := U) (U := U.calling g mk a) rfl h.2.2.2⟩
/-- the locals at a method's entry -/
theorem ent_args {G : GG} : ∀ (vs : List VV) (ps : List Nat) (o i : Nat) (v : VV), vs.length = ps.length → (ent vs ps)[i]? = some v → v.1 ≠ 9 → (o + i, toV G v.1 v.2) ∈ lv_args o (argv G vs ps)
  | [], [], _, _, _, _, h, _ => by cases h
  | u :: vs, p :: ps, o, i, v, hl, h, h9 => by
    unfold ent at h
    unfold argv
    have hl' : vs.length = ps.length := by simpa using hl
    have hcat := toV_cat G p u.2
    by_cases e : p = 1
    · rw [if_pos e] at h
      subst e
      rw [if_pos rfl] at hcat
      show _ ∈ lv_args o (toV G 1 u.2 :: argv G vs ps)
      unfold lv_args
      match i with
      | 0 => cases h; exact List.mem_cons_self
      | 1 => cases h; exact absurd rfl h9
      | i + 2 =>
        have := ent_args (G := G) vs ps (o + 2) i v hl' h h9
        rw [hcat, if_pos rfl]
        refine List.mem_cons_of_mem _ ?_
        rw [show o + (i + 2) = o + 2 + i by omega]
        exact this
    · rw [if_neg e] at h
      rw [if_neg e] at hcat
      show _ ∈ lv_args o (toV G p u.2 :: argv G vs ps)
      unfold lv_args
      match i with
      | 0 => cases h; exact List.mem_cons_self
      | i + 1 =>
        have := ent_args (G := G) vs ps (o + 1) i v hl' h h9
        rw [hcat, if_neg (by decide)]
        refine List.mem_cons_of_mem _ ?_
        rw [show o + (i + 1) = o + 1 + i by omega]
        exact this
  | [], _ :: _, _, _, _, hl, _, _ => by cases hl
  | _ :: _, [], _, _, _, hl, _, _ => by cases hl
theorem ent_len : ∀ (vs : List VV) (ps : List Nat), vs.length = ps.length → (ent vs ps).length = tcat ps
  | [], [], _ => rfl
  | u :: vs, p :: ps, hl => by
    have := ent_len vs ps (by simpa using hl)
    unfold ent tcat
    by_cases e : p = 1
    · rw [if_pos e, if_pos e]; simp [this]; omega
    · rw [if_neg e, if_neg e]; simp [this]; omega
  | [], _ :: _, hl => by cases hl
  | _ :: _, [], hl => by cases hl
theorem argv_sl {G : GG} : ∀ (vs : List VV) (ps : List Nat), vs.length = ps.length → (lg_sl (argv G vs ps)).length = tcat ps
  | [], [], _ => rfl
  | u :: vs, p :: ps, hl => by
    have := argv_sl (G := G) vs ps (by simpa using hl)
    have hcat := toV_cat G p u.2
    unfold argv tcat
    have e : lg_sl (toV G p u.2 :: argv G vs ps) = (if (toV G p u.2).category = 2 then [Slot.val (toV G p u.2), Slot.second] else [Slot.val (toV G p u.2)]) ++ lg_sl (argv G vs ps) := by
      simp [lg_sl]
    rw [e, List.length_append, this, hcat]
    by_cases e : p = 1
    · simp [e]
    · simp [e]
  | [], _ :: _, hl => by cases hl
  | _ :: _, [], hl => by cases hl
theorem LR_entry {G : GG} {n : Nat} {vs : List VV} {ps : List Nat} {lm : Array Slot} (hl : vs.length = ps.length) (hn : tcat ps ≤ n) (h : lv_has lm n (lv_args 0 (argv G vs ps))) : LR G n (pad n (ent vs ps)) lm := by
  have he := ent_len vs ps hl
  refine ⟨?_, h.1, h.2.1, fun i v hi h9 => ?_⟩
  · unfold pad
    rw [List.length_append, List.length_replicate, he]
    omega
  · unfold pad at hi
    by_cases hlt : i < (ent vs ps).length
    · rw [List.getElem?_append_left hlt] at hi
      have := h.2.2 _ (ent_args vs ps 0 i v hl hi h9)
      rw [Nat.zero_add] at this
      exact this
    · rw [List.getElem?_append_right (by omega)] at hi
      have := List.mem_replicate.mp (List.mem_of_getElem? hi)
      rw [this.2] at h9
      exact absurd rfl h9
theorem chM_use {k : Nat} (h0 : k ≠ 0) (h : k < 273) : plainName (mY k).cls = true ∧ (mY k).cls ≠ "java/lang/invoke/MethodHandle" ∧ (mY k).cls ≠ "java/lang/invoke/VarHandle" ∧ (parseMethodDescriptor (mY k).desc).map (fun d => d.parameters.length) = some ((mP k).length - (if mK k = 0 then 0 else 1)) ∧ wd (mwi k) = some (.initialized (mY k).cls) ∧
    (match mK k with
    | 0 => decide (wd (mws k) = some (.static (mY k)))
    | 1 => decide (wd (mws k) = some (.instanceMethod (mY k))) && decide (wd (mwl k) = some (.selects (mY k).cls (mY k) (mY k)))
    | 2 => decide (wd (mws k) = some (.instanceMethod (mY k))) && decide ((mY k).name = "<init>") && mT k == 9
    | _ => false) = true ∧ rtk (mR k) (mT k) = true ∧ (mP k).all tagk = true ∧ tcat (mP k) ≤ mL k ∧
    (mK k == 0 || (match vwCl[(mP k).headD 0 - 40]? with
    | some r => decide (r.1 = (mY k).cls) && decide (40 ≤ (mP k).headD 0) && decide ((mP k).headD 0 < 50) && decide ((mP k) ≠ [])
    | none => false)) = true := by
  have hc := chM_ok h0 h
  unfold chM at hc
  simp only [Bool.and_eq_true, decide_eq_true_eq] at hc
  obtain ⟨a1, a2, a3, a4, a5, a6, a7, a8, a9, a10⟩ := hc
  exact ⟨a1, a2, a3, a4, a5, a6, a7, a8, a9, a10⟩
theorem met_of {l : Launch} {G : GG} {a : Nat} {vs : List VV} {μ μ1 : MM} {v : Int} (h0 : a ≠ 0) (ha : a < 273) (hl : vs.length = (mP a).length) (hP : Pkg l G a 0 (pad (mL a) (ent vs (mP a))) [] μ v μ1) :
    Met l (mY a) (wsK a) (rmK a μ μ1) (PcK G (argv G vs (mP a)) μ) (QcK G (rvl G a v) μ1) (dc μ μ1) (ds μ μ1) (AA G) := by
  obtain ⟨b1, b2, b3, b4, b5, b6, b7, b8, b9, b10⟩ := chM_use h0 ha
  obtain ⟨p1, p2, p3, p4⟩ := hP
  refine Met.ofW (cc := mC a) (maxL := mL a) (ret := mR a) b1 rfl ?_
  intro p e s m args below meth c s₁ B hml hv
  obtain ⟨rfl, hR, hK, hN⟩ := hv
  have hts0 := atoms_spec (ws := wsK a) B.pre
  have hlocks := B.notSynchronized
  have hr := B.returns
  have C : Cx G a p s m (argv G vs (mP a)).toArray meth c := ⟨B.exec, B.bytes, hml, hr, hlocks, findClass_of_methodNamed B.named, fun w hw => hts0 w (List.mem_cons_of_mem _ hw), hK, fun q => (name_of_methodNamed B.named B.method).1.trans q, by rw [hR.1]; exact Nat.le_add_right _ _, hN, fun q => absurd q h0⟩
  have hle := lv_entry (argv G vs (mP a)) (n := mL a) (by rw [argv_sl vs (mP a) hl]; exact b9)
  rw [lg_entry_eq]
  have hLR := LR_entry hl b9 hle
  refine p4 p e _ s m _ below meth c _ s.heap [] 0 0 _ C (Nat.le_refl _) (Nat.le_refl _) hR va_S.rf hLR (by show 0 + dc μ μ1 ≤ dc μ μ1; omega) (by show 0 + ds μ μ1 ≤ ds μ μ1; omega) (fun pcR lmR H' locs' hd hR' hS' => ?_)
  rw [Nat.zero_add, Nat.zero_add]
  have hQ : ∀ t : State, t.heap = H' → s.WarmedH t.vm → QcK G (rvl G a v) μ1 (argv G vs (mP a)).toArray s (.returned (rvl G a v)) t := fun t ht _ => ⟨rfl, by rw [ht]; exact hR', hS'.F ht⟩
  unfold rtk at b7
  unfold rst
  unfold rvl at hQ ⊢
  split at b7
  · rename_i t9 hr9
    simp only [beq_iff_eq] at b7
    rw [b7] at hd hQ ⊢
    rw [if_pos rfl] at hQ ⊢
    exact W.vret B.exec B.bytes (hr.trans hr9) hQ hS'.2.2 hd hlocks
  · rename_i hr9
    simp only [beq_iff_eq] at b7
    rw [b7] at hd hQ ⊢
    rw [if_neg (by decide)] at hQ ⊢
    exact W.iret B.exec B.bytes (hr.trans hr9) hQ hS'.2.2 hd hlocks
  · rename_i hr9
    simp only [beq_iff_eq] at b7
    have hv3 : v = 0 ∨ v = 1 := by
      rcases p3 with q | q
      · rw [b7] at q; cases q
      · rw [b7] at q; exact q
    rw [b7] at hd hQ ⊢
    rw [if_neg (by decide)] at hQ ⊢
    exact W.zret B.exec B.bytes (hr.trans hr9) (by rcases hv3 with q | q <;> subst q <;> rfl) hQ hS'.2.2 hd hlocks
  · rename_i hr9
    simp only [beq_iff_eq] at b7
    rw [b7] at hd hQ ⊢
    rw [if_neg (by decide)] at hQ ⊢
    exact W.lret B.exec B.bytes (hr.trans hr9) hQ hS'.2.2 hd hlocks
  · rename_i n9 hr9
    simp only [Bool.and_eq_true, decide_eq_true_eq] at b7
    rw [if_neg (by omega)] at hQ ⊢
    rw [if_neg (by omega)]
    have hd : decode (mC a) pcR = .ok (.areturn, 1) := by
      unfold rin at hd
      rw [if_neg (by omega), if_neg (by omega), if_neg (by omega)] at hd
      exact hd
    exact W.aret B.exec B.bytes (hr.trans hr9) (Or.inl ⟨_, rfl⟩) (ref_cases (by omega)) hQ hS'.2.2 hd hlocks
  · rename_i n9 hr9
    simp only [Bool.and_eq_true, decide_eq_true_eq] at b7
    rw [if_neg (by omega)] at hQ ⊢
    rw [if_neg (by omega)]
    have hd : decode (mC a) pcR = .ok (.areturn, 1) := by
      unfold rin at hd
      rw [if_neg (by omega), if_neg (by omega), if_neg (by omega)] at hd
      exact hd
    exact W.aret B.exec B.bytes (hr.trans hr9) (Or.inr ⟨_, rfl⟩) (ref_cases (by omega)) hQ hS'.2.2 hd hlocks
  · cases b7
theorem go_call {p : Program} {l : Launch} {e : Env} {R : Room} {s : State} {m : MethodId} {args : Array Value} {below : List Frame} {meth : Method} {c : Code} {H : Heap} {locs : List Loc} {cells slots mc ms : Nat} {Q : State → Prop} {pc : Nat} {lm : Array Slot} {st0 rest : List Value} {G : GG} {v0 : Option Value} {μ1 : MM} {a : Array Value}
    (hr : va_Run p l e R s m args below meth c H locs cells slots mc ms (F0 m pc lm st0) rest (QcK G v0 μ1 a) (AA G)) (hS : va_S (AA G) s.heap H locs)
    (kk : ∀ (H' : Heap) (locs' : List Loc), Rl G μ1 H' → va_S (AA G) s.heap H' locs' → W p l e R s m args below meth c H' locs' (cells + mc) (slots + ms) Q (F0 m (pc + 3) lm (v0.toList ++ rest))) : W p l e R s m args below meth c H locs cells slots Q (F0 m pc lm st0) := by
  intro T hT X
  obtain ⟨v, st₀, t, T', L, h0, X', hL, e1, e2, ⟨hv, hR', hz, hk⟩, st⟩ := hr T hT X
  cases hv
  rw [h0] at hz hk
  obtain ⟨t2, a1, b1⟩ := kk T'.heap (locs ++ L) (by rw [e1]; exact hR')
    ⟨Nat.le_trans hS.1 (by rw [e1]; exact hz), fun q h1 h2 => by rw [e1, hk q (Nat.lt_of_lt_of_le h1 hS.1) h2]; exact hS.2.1 q h1 h2, fun q hq => by
      rcases List.mem_append.mp hq with h | h
      · exact hS.2.2 q h
      · exact hL q h⟩ T' rfl X'
  exact ⟨t2, st t2 a1, b1⟩
