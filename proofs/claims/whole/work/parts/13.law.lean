/-! THE CLAIM OUT OF ONE WALK OF THE LAW'S BODY. Your part is whole_start (and what it stands on); all else here is the same for every law, but numbers. -/
def R_law : String := "ScaffoldYardLaw"
def lw_P (b : Addr) (xs : List Int32) (args : Array Value) (s : State) : Prop := args = #[.ref b] ∧ s.IntsAt b xs ∧ xs.length ≤ 2560 ∧ (Jvm.Cond.and given_1 narrow_1).before args s = true
def lw_Q (_ : Array Value) (s : State) (o : Outcome) (t : State) : Prop := o = .returned (some (.int 1)) ∧ Framed s o t [] 600000 7302250
def lw_Z (below : List Frame) (a : Array Value) (s : State) : State → Prop := fun t => ∃ o, t.status = .running ∧ Ended t below o ∧ lw_Q a s o t
/-- the law's own end, with 1 on the stack, nothing written that was there before, its room as the claim has it -/
theorem lw_ret {p : Program} {l : Launch} {e : Env} {s : State} {m : MethodId} {below : List Frame} {meth : Method} {c : Code} {b : Nat} (hx : p.tables.exec = Jvm.exec) (hb : c.code = code) (hr : meth.sig.returnType = ret) (hlocks : meth.locks = false) {pc : Nat} {H : Heap} {ls : Array Slot} (hdg : decode code pc = .ok (.ireturn, 1)) : W p l e room_1 s m #[Value.ref b] below meth c H [] 600000 7302250 (lw_Z below #[Value.ref b] s) (F0 m pc ls [.int 1]) := by
  intro T hT X
  obtain ⟨fs, hret, hrun, hended, hW, hframe⟩ := X.leave (v := some (.int 1)) (hlocks := hlocks) (fun h => by rw [hr] at h; cases h)
  have hmeth' : T.vm.method? m = some meth := X.method'
  refine ⟨T.setFrames fs, ?_, .returned (some (.int 1)), hrun, hended, rfl, ⟨_, rfl⟩, hW, hframe⟩
  jvm_step X.here [X.here.top, hx, hb, hdg, hmeth', hr, ret, narrow_b1]
  (try refine ⟨rfl, ?_⟩); (try refine ⟨rfl, ?_⟩)
  first | (intro acts; rw [hret _ acts rfl rfl rfl]) | rw [hret _ _ rfl rfl rfl]
  exact Steps.refl _
/-- what holds at the law's entry: the machine, the code, the tables' words (any of lw_tbl by 'hts w (by decide +kernel)'), the script of L ints xs at the cell b, what the Statement gives of the start (any of its parts by flat_of_before) -/
def lw_At (p : Program) (s : State) (m : MethodId) (meth : Method) (c : Code) (b L : Nat) (xs : Nat → Int32) : Prop :=
  p.tables.exec = Jvm.exec ∧ c.code = code ∧ meth.sig.returnType = ret ∧ c.maxLocals = 4 ∧ s.vm.findClass R_law = some m.cls ∧ (∀ w ∈ lw_tbl, w.before #[Value.ref b] s = true) ∧ va_X b L xs s s.heap ∧ b < s.heap.size ∧ meth.locks = false ∧ (Jvm.Cond.and given_1 narrow_1).before #[Value.ref b] s = true
theorem aoF : Jvm.Cond.arrayOver (.object RX1) ∈ lw_tbl := by decide +kernel
theorem aoC : Jvm.Cond.arrayOver (.object RX0) ∈ lw_tbl := by decide +kernel
theorem aoM : Jvm.Cond.arrayOver (.array .int) ∈ lw_tbl := by decide +kernel
/-! ===== the law's start: from the answer over whole numbers to the machine's ===== -/
def mu0 (L : Nat) (xs : Nat → Int32) : MM := fun y j => if y = 0 then (if j = 0 then 1 else if j = 1 then (L : Int) else 0) else if y = -1 then (xs j.toNat).toInt else 0
theorem slt_90 : slt 90 ≤ 7302250 := by decide +kernel
set_option maxHeartbeats 4000000 in
/-- if the program answers 1 at every script, so does the machine -/
theorem start_of {p : Program} {e : Env} {s : State} {m : MethodId} {below : List Frame} {meth : Method} {c : Code} (l : Launch) {b L : Nat} {xs : Nat → Int32} (hL : L ≤ 2560) (C0 : lw_At p s m meth c b L xs) {μ' : MM}
    (hE : EE 0 0 [(99, 0), (9, 0), (9, 0), (9, 0)] [] (mu0 L xs) = some (1, μ')) : W p l e room_1 s m #[Value.ref b] below meth c s.heap [] 0 0 (lw_Z below #[Value.ref b] s) (entryFrame m ([Value.ref b] : List Value).toArray 4) := by
  obtain ⟨hx, hb, hr, hml, hown, hts, hX, hbl, hlocks, hgv⟩ := id C0
  have hkn : ∀ (c0 : Nat) (r : vw_C), vwCl[c0]? = some r → ∃ (cC : ClassId) (iS : Nat → Nat), u_Kn s r.1 r.2.1 r.2.2 cC iS := fun c0 r hr0 => by
    obtain ⟨w1, w2, -⟩ := cls_ok c0 r hr0
    exact u_known (fun w hw => hts w (List.mem_filter.mp hw).1) w1 (hts _ (List.mem_filter.mp w2).1)
  have hkn2 : ∀ (c0 : Nat), ∃ (cC : ClassId) (iS : Nat → Nat), ∀ r, vwCl[c0]? = some r → u_Kn s r.1 r.2.1 r.2.2 cC iS := fun c0 => by
    cases hq : vwCl[c0]? with
    | none => exact ⟨0, fun _ => 0, fun r h => by cases h⟩
    | some r =>
      obtain ⟨cC, iS, h⟩ := hkn c0 r hq
      exact ⟨cC, iS, fun r' h' => by cases h'; exact h⟩
  obtain ⟨dC, hdC⟩ := Classical.axiomOfChoice hkn2
  obtain ⟨dI, hdI⟩ := Classical.axiomOfChoice hdC
  obtain ⟨cI, kI, pI, i1, i2, i3⟩ := Cond.arrayClass_spec (hts _ (List.mem_filter.mp arrI).1)
  obtain ⟨cZ, kZ, pZ, z1, z2, z3⟩ := Cond.arrayClass_spec (hts _ (List.mem_filter.mp arrZ).1)
  obtain ⟨pF, cF, kF, f1, f0, f2, f3, f4⟩ := Cond.arrayOver_spec (hts _ aoF)
  obtain ⟨pC, cC, kC, g1, g0, g2, g3, g4⟩ := Cond.arrayOver_spec (hts _ aoC)
  obtain ⟨pM, cM, kM, m1, m0, m2, m3, m4⟩ := arrayOverA_spec (hts _ aoM)
  generalize hG : (((dC, dI), (fun y => if y = 20 then cI else if y = 21 then cZ else if y = 22 then cF else if y = 23 then cC else cM), s.heap.size, b, L, xs) : GG) = G
  have hGD : gD G = (dC, dI) := by rw [← hG]
  have hG20 : gA G 20 = cI := by rw [← hG]; rfl
  have hG21 : gA G 21 = cZ := by rw [← hG]; rfl
  have hG22 : gA G 22 = cF := by rw [← hG]; rfl
  have hG23 : gA G 23 = cC := by rw [← hG]; rfl
  have hG24 : gA G 24 = cM := by rw [← hG]; rfl
  have hGB : gB G = s.heap.size := by rw [← hG]
  have hGS : gS G = b := by rw [← hG]
  have hGL : gL G = L := by rw [← hG]
  have hGX : gX G = xs := by rw [← hG]
  have harr : ∀ {cA : ClassId} {kA : Class} {comp : ClassId} {ty : FieldType}, s.vm.classes[cA]? = some kA → kA.kind = .array comp ty → ArrOfT s cA ty := fun h2 h3 n z => ⟨fun k h => (by cases h), _, h2, _, h3⟩
  have hK : va_K (gD G) vwCl (tyl G) s := by
    refine ⟨fun c0 q hq => by rw [hGD]; exact hdI c0 q hq, fun k q hq => ?_⟩
    unfold tyl at hq
    rw [hG20, hG21, hG22, hG23, hG24] at hq
    match k, hq with
    | 0, hq => cases hq; exact ⟨harr i2 i3, i1⟩
    | 1, hq => cases hq; exact ⟨harr z2 z3, z1⟩
    | 2, hq => cases hq; exact ⟨harr f2 f3, ⟨kF, pF, f2, f3, f1, f4⟩⟩
    | 3, hq => cases hq; exact ⟨harr g2 g3, ⟨kC, pC, g2, g3, g1, g4⟩⟩
    | 4, hq => cases hq; exact ⟨harr m2 m3, m4⟩
    | k + 5, hq => simp at hq
  have hN1 : ∀ w ∈ lw_tbl, nst w = true → va_Nw w s := fun w hw hn => by
    have := hts w hw
    unfold nst at hn
    split at hn
    · exact va_Nw.of rfl this
    · cases hn
  have hN : NW s := ⟨hN1, va_AO.of (hts _ aoF), va_AO.of (hts _ aoC), hts _ aoM⟩
  have C : Cx G 0 p s m #[Value.ref b] meth c := ⟨hx, hb, hml, hr, hlocks, hown, fun w hw => hts w (List.mem_filter.mp hw).1, hK, fun q => absurd q (by decide +kernel), by rw [hGB]; exact Nat.le_refl _, hN, fun _ => ⟨by rw [hGS, hGB]; exact hbl, by rw [hGS, hGL, hGX]; exact hX⟩⟩
  have hM : Mok G (mu0 L xs) := by
    refine ⟨by show (1 : Int) ≤ 1; omega, by show (1 : Int) ≤ 90; omega, fun x j h1 h2 => ?_, by rw [hGL]; rfl, by rw [hGL]; omega, fun j hj => ?_⟩
    · have h2 : x < 1 := h2
      omega
    · rw [hGX]; rfl
  have hP := EE_run (l := l) (G := G) 0 0 _ _ _ _ _ hE (by omega) hM (fun v hv => by
    simp at hv
    rcases hv with h | h
    · subst h; exact Or.inr trivial
    · subst h; exact Or.inl rfl) (fun v hv => by cases hv) rfl
  obtain ⟨p1, p2, p3, p4⟩ := hP
  have h90 : μ' 0 0 ≤ 90 := p2.2.1
  have hdc : dc (mu0 L xs) μ' ≤ 600000 := by unfold dc; omega
  have hds : ds (mu0 L xs) μ' ≤ 7302250 := by
    have := slt_mono h90
    have := slt_90
    unfold ds
    omega
  have hle := lv_entry ([.ref b] : List Value) (n := 4) (Nat.le_of_ble_eq_true rfl)
  rw [lg_entry_eq]
  refine p4 p e room_1 s m _ below meth c _ s.heap [] 0 0 _ C (Nat.le_of_ble_eq_true (by decide +kernel)) (Nat.le_of_ble_eq_true (by decide +kernel)) ⟨by rw [hGB]; rfl, fun x h1 h2 => ?_⟩ va_S.rf ?_ (by show 0 + _ ≤ 600000; omega) (by show 0 + _ ≤ 7302250; omega) (fun pcR lmR H' locs' hd hR' hS' => ?_)
  · have h2 : x < 1 := h2
    omega
  · refine ⟨rfl, hle.1, hle.2.1, fun i v hi h9 => ?_⟩
    match i, hi with
    | 0, hi =>
      cases hi
      rw [show toV G 99 0 = .ref b by rw [toV_99, hGS]]
      exact hle.2.2 (0, .ref b) List.mem_cons_self
    | 1, hi => cases hi; exact absurd rfl h9
    | 2, hi => cases hi; exact absurd rfl h9
    | 3, hi => cases hi; exact absurd rfl h9
    | i + 4, hi => simp at hi
  · refine va_forget (fun q hq => by have := hS'.2.2 q hq; unfold AA at this; rw [hGB] at this; exact this) ?_
    refine W.widen (k := 600000) (n := 7302250) (by omega) (by omega) ?_
    exact lw_ret hx hb hr hlocks hd
