/-! ===== new int[n][k], over the machine: my own row (no kit row serves) ===== -/
def gO (cA : ClassId) (N h0 i : Nat) : Cell := arrV cA N (fun j => if j < i then .ref (h0 + 1 + j) else .null)
def gI (cI : ClassId) (M : Nat) : Cell := arrV cI M (fun _ => .int 0)
def gz (T : State) (cA cI : ClassId) (N M : Nat) : Nat → State
  | 0 => T.pushCell (gO cA N T.heap.size 0)
  | i + 1 => ((gz T cA cI N M i).pushCell (gI cI M)).setCell T.heap.size (gO cA N T.heap.size (i + 1))
theorem gO_set (cA : ClassId) (N h0 i : Nat) : (gO cA N h0 i).setSlot i (.ref (h0 + 1 + i)) = gO cA N h0 (i + 1) := by
  unfold gO
  rw [arrV_store]
  refine congrArg (arrV cA N) (funext fun j => ?_)
  unfold updV
  by_cases e : j = i
  · subst e
    rw [if_pos rfl, if_pos (by omega)]
  · rw [if_neg e]
    dsimp only
    by_cases h : j < i
    · rw [if_pos h, if_pos (by omega)]
    · rw [if_neg h, if_neg (by omega)]
theorem gO_size (cA : ClassId) (N h0 i : Nat) : (gO cA N h0 i).slots.size = N := arrV_size _ _ _
theorem gI_size (cI : ClassId) (M : Nat) : (gI cI M).slots.size = M := arrV_size _ _ _
theorem gz_ok (T : State) (cA cI : ClassId) (N M : Nat) : ∀ i, (gz T cA cI N M i).heap.size = T.heap.size + 1 + i ∧ (gz T cA cI N M i).heap[T.heap.size]? = some (gO cA N T.heap.size i) ∧ (gz T cA cI N M i).vm = T.vm ∧ (gz T cA cI N M i).slotsUsed = T.slotsUsed + N + i * M ∧
    (∀ a, a < T.heap.size → (gz T cA cI N M i).heap[a]? = T.heap[a]?) ∧ ∀ j, j < i → (gz T cA cI N M i).heap[T.heap.size + 1 + j]? = some (gI cI M)
  | 0 => ⟨by simp [gz], by simp [gz], rfl, by simp [gz, gO_size], fun a ha => State.heap_pushCell_of_lt _ _ ha, fun j h => absurd h (Nat.not_lt_zero j)⟩
  | i + 1 => by
    obtain ⟨a1, a2, a3, a4, a5, a6⟩ := gz_ok T cA cI N M i
    have hlt : T.heap.size < (gz T cA cI N M i).heap.size := by omega
    have hc : ((gz T cA cI N M i).pushCell (gI cI M)).heap[T.heap.size]? = some (gO cA N T.heap.size i) := by rw [State.heap_pushCell_of_lt (h := hlt)]; exact a2
    refine ⟨?_, State.heap_setCell_self hc, by simp [gz, a3], ?_, fun a ha => ?_, fun j hj => ?_⟩
    · simp [gz, State.setCell, a1]; omega
    · simp [gz, a4, gI_size, Nat.succ_mul]; omega
    · show (((gz T cA cI N M i).pushCell (gI cI M)).setCell T.heap.size _).heap[a]? = _
      have hla : a < (gz T cA cI N M i).heap.size := by rw [a1]; omega
      rw [State.heap_setCell_other (Nat.ne_of_gt ha), State.heap_pushCell_of_lt (h := hla)]
      exact a5 a ha
    · show (((gz T cA cI N M i).pushCell (gI cI M)).setCell T.heap.size _).heap[T.heap.size + 1 + j]? = _
      rw [State.heap_setCell_other (show T.heap.size ≠ T.heap.size + 1 + j by omega)]
      by_cases e : j = i
      · subst e
        rw [← a1]
        exact State.heap_pushCell_size _ _
      · have hla : T.heap.size + 1 + j < (gz T cA cI N M i).heap.size := by rw [a1]; omega
        rw [State.heap_pushCell_of_lt (h := hla)]
        exact a6 j (by omega)
theorem gz_top (T : State) (f : JFrame) (cA cI : ClassId) (N M : Nat) : ∀ i, gz (T.setTop f) cA cI N M i = (gz T cA cI N M i).setTop f
  | 0 => rfl
  | i + 1 => by simp only [gz, gz_top T f cA cI N M i, State.heap_setTop, State.pushCell_setTop, State.setCell_setTop]
section GridWp
variable {E : CtlPost} {e : Env} {d : Bool} {acts : List Action} {s : State}
theorem grid_row {cI cc : ClassId} {kI : Class} {m : Int32} (hk : s.vm.classes[cI]? = some kI) (hkind : kI.kind = .array cc .int) (hm : ¬ m < 0) (hl : ¬ m.toNatClampNeg > e.platform.arrayLengthLimit) (hh : ¬ m.toNatClampNeg * componentBytes .int > e.platform.maxHeapBytes)
    (h1 : s.heap.size < e.platform.maxCells) (h2 : s.slotsUsed + m.toNatClampNeg ≤ e.platform.maxSlots) {Q : Addr → Pre} (hq : ∀ acts', Q s.heap.size d acts' (s.pushCell (gI cI m.toNatClampNeg))) : wp (multianewarray.make cI [m]) Q E e d acts s := by
  rw [multianewarray.make]
  simp only [wp_bind', W.ite, hm, if_false, wp_pure', W.theClass, hk, hkind, Option.some.injEq, exists_eq_left']
  refine W.newArray_of hk hkind hl hh h1 h2 rfl (fun acts' => ?_)
  have := hq acts'
  unfold gI at this
  rw [← arrV_new] at this
  exact this
theorem grid_make {cA cI cc : ClassId} {kA kI : Class} {n m : Int32} (hkA : s.vm.classes[cA]? = some kA) (hkindA : kA.kind = .array cI (.array .int)) (hk : s.vm.classes[cI]? = some kI) (hkind : kI.kind = .array cc .int) (hn : ¬ n < 0) (hm : ¬ m < 0)
    (hl1 : ¬ n.toNatClampNeg > e.platform.arrayLengthLimit) (hh1 : ¬ n.toNatClampNeg * componentBytes (.array .int) > e.platform.maxHeapBytes) (hl : ¬ m.toNatClampNeg > e.platform.arrayLengthLimit) (hh : ¬ m.toNatClampNeg * componentBytes .int > e.platform.maxHeapBytes)
    (hc : s.heap.size + 1 + n.toNatClampNeg ≤ e.platform.maxCells) (hs : s.slotsUsed + n.toNatClampNeg + n.toNatClampNeg * m.toNatClampNeg ≤ e.platform.maxSlots) {Q : Addr → Pre}
    (hq : ∀ d' acts', Q s.heap.size d' acts' (gz s cA cI n.toNatClampNeg m.toNatClampNeg n.toNatClampNeg)) : wp (multianewarray.make cA [n, m]) Q E e d acts s := by
  have hfind : ([m].find? (· < 0)) = none := by simp [hm]
  have h0 : s.pushCell { cls := cA, slots := Array.replicate n.toNatClampNeg .null } = gz s cA cI n.toNatClampNeg m.toNatClampNeg 0 := by
    show s.pushCell _ = s.pushCell _
    refine congrArg _ ?_
    unfold gO
    rw [show (fun j => if j < 0 then Value.ref (s.heap.size + 1 + j) else .null) = (fun _ => Value.null) from funext fun j => if_neg (Nat.not_lt_zero j), ← arrV_new]
  rw [multianewarray.make]
  simp only [wp_bind', W.ite, hn, if_false, wp_pure', W.theClass, hkA, hkindA, Option.some.injEq, exists_eq_left']
  refine W.newArray_of hkA hkindA hl1 hh1 (by omega) (by have := Nat.zero_le (n.toNatClampNeg * m.toNatClampNeg); omega) rfl (fun acts' => ?_)
  rw [h0]
  simp only [hfind]
  rw [ite_self, wp_bind', Std.Legacy.Range.forIn_eq_forIn_range']
  have hsz : ([:n.toNatClampNeg] : Std.Legacy.Range).size = n.toNatClampNeg := by simp [Std.Legacy.Range.size]
  rw [hsz]
  show wp (forIn (List.range' 0 n.toNatClampNeg 1) PUnit.unit _) _ E e d acts' _
  refine wp_forIn_inv (fun rest s' => ∃ i, i ≤ n.toNatClampNeg ∧ rest = List.range' i (n.toNatClampNeg - i) ∧ s' = gz s cA cI n.toNatClampNeg m.toNatClampNeg i) _ _ ⟨0, Nat.zero_le _, rfl, rfl⟩ ?_ ?_
  · rintro x rest s' d' acts' Q' ⟨i, hi, hl9, rfl⟩ hnext
    have hlt : i < n.toNatClampNeg := by
      refine Nat.not_le.mp fun h => ?_
      rw [show n.toNatClampNeg - i = 0 by omega] at hl9
      cases hl9
    rw [show n.toNatClampNeg - i = (n.toNatClampNeg - (i + 1)) + 1 by omega, List.range'_succ] at hl9
    obtain ⟨rfl, hrest⟩ := List.cons.inj hl9
    obtain ⟨a1, a2, a3, a4, a5, a6⟩ := gz_ok s cA cI n.toNatClampNeg m.toNatClampNeg x
    have hmul : x * m.toNatClampNeg + m.toNatClampNeg ≤ n.toNatClampNeg * m.toNatClampNeg := by
      have := Nat.mul_le_mul_right m.toNatClampNeg (show x + 1 ≤ n.toNatClampNeg from hlt)
      rw [Nat.succ_mul] at this
      exact this
    simp only [wp_bind']
    refine grid_row (by rw [a3]; exact hk) hkind hm hl hh (by rw [a1]; omega) (by rw [a4]; omega) (fun acts'' => ?_)
    simp only [wp_bind', W.writeLoc, wp_pure']
    have hla : s.heap.size < (gz s cA cI n.toNatClampNeg m.toNatClampNeg x).heap.size := by rw [a1]; omega
    refine ⟨gO cA n.toNatClampNeg s.heap.size x, (by rw [State.heap_pushCell_of_lt (h := hla)]; exact a2), (fun h => by cases h), (by rw [gO_size]; exact hlt), ?_, hnext _ _ _ ⟨x + 1, hlt, hrest, ?_⟩⟩
    · simp [gO, arrV, State.fitsSlot, State.slotType?, a3, hkA, hkindA, fits]
    · rw [a1, gO_set]
      rfl
  · rintro s' d' acts' ⟨i, hi, hl9, rfl⟩
    have hiN : i = n.toNatClampNeg := by
      rcases Nat.lt_or_ge i n.toNatClampNeg with h | h
      · rw [show n.toNatClampNeg - i = (n.toNatClampNeg - (i + 1)) + 1 by omega, List.range'_succ] at hl9
        cases hl9
      · omega
    subst hiN
    simp only [wp_pure']
    exact hq _ _
end GridWp
section GridW
variable {p : Program} {l : Launch} {e : Env} {R : Room} {s : State} {m : MethodId} {args : Array Value} {below : List Frame} {meth : Method} {c : Code} {T : State} {locs : List Loc} {cells slots : Nat}
theorem gz_stand (X : Stand p l e R s m args below meth c T locs cells slots) (cA cI : ClassId) (N M : Nat) : ∀ i, Stand p l e R s m args below meth c (gz T cA cI N M i) (locs ++ (List.range i).map fun j => ⟨T.heap.size, j⟩) (cells + 1 + i) (slots + N + i * M)
  | 0 => by
    have h := X.pushed (gO cA N T.heap.size 0)
    rw [gO_size] at h
    simpa [gz] using h
  | i + 1 => by
    have Xi := gz_stand X cA cI N M i
    obtain ⟨a1, a2, a3, a4, a5, a6⟩ := gz_ok T cA cI N M i
    have hlt : T.heap.size < (gz T cA cI N M i).heap.size := by rw [a1]; omega
    have hc : ((gz T cA cI N M i).pushCell (gI cI M)).heap[T.heap.size]? = some (gO cA N T.heap.size i) := by rw [State.heap_pushCell_of_lt (h := hlt)]; exact a2
    have h := (Xi.pushed (gI cI M)).stored hc i (.ref (T.heap.size + 1 + i))
    rw [gI_size, gO_set] at h
    have e1 : (locs ++ (List.range (i + 1)).map fun j => (⟨T.heap.size, j⟩ : Loc)) = (locs ++ (List.range i).map fun j => (⟨T.heap.size, j⟩ : Loc)) ++ [⟨T.heap.size, i⟩] := by simp [List.range_succ, List.append_assoc]
    rw [e1, show slots + N + (i + 1) * M = slots + N + i * M + M by rw [Nat.succ_mul]; omega]
    exact h
theorem W.grid {H : Heap} {Q : State → Prop} {cc : ByteArray} (hexec : p.tables.exec = Jvm.exec) (hb : c.code = cc) {own : String} {index : Nat} (hown : s.vm.findClass own = some m.cls) (hclink : (Cond.classLink own index "[[I").before args s = true)
    {cA cI cc9 : ClassId} {kA kI : Class} (hnA : s.vm.findClass "[[I" = some cA) (hkA : s.vm.classes[cA]? = some kA) (hkindA : kA.kind = .array cI (.array .int)) (hkI : s.vm.classes[cI]? = some kI) (hkindI : kI.kind = .array cc9 .int)
    {pc : Nat} {ls : Array Slot} {rest : List Value} (hdg : decode cc pc = .ok (.multianewarray index 2, 4)) (hcells : cells + 12 ≤ R.cells) (hslots : slots + 132 ≤ R.slots)
    (kk : ∀ H' : Heap, H'.size = H.size + 12 → (∀ a, a < H.size → H'[a]? = H[a]?) → H'[H.size]? = some (arrV cA 11 (fun j => if j < 11 then .ref (H.size + 1 + j) else .null)) → (∀ j, j < 11 → H'[H.size + 1 + j]? = some (arrV cI 11 (fun _ => .int 0))) →
      W p l e R s m args below meth c H' locs (cells + 12) (slots + 132) Q (F0 m (pc + 4) ls (.ref H.size :: rest))) : W p l e R s m args below meth c H locs cells slots Q (F0 m pc ls (.int 11 :: .int 11 :: rest)) := by
  intro T hT X
  subst hT
  subst hb
  have hpl : e.platform.magicAccessors = ({} : Platform).magicAccessors := by rw [X.admits.platform]
  obtain ⟨c0, hfc0, hcl⟩ := Cond.classLink_spec hown hclink e.platform hpl
  cases hnA.symm.trans hfc0
  obtain ⟨hg₁, hwarm₁, hready₁⟩ := State.classEntry (e := e) X.warmed hcl
  generalize T.vm.noted m.cls index (.cls cA) = vm₁ at hg₁ hwarm₁ hready₁
  have hal : s.vm.Alike vm₁ := hwarm₁.alike
  obtain ⟨kA₁, hkA₁, heA⟩ := hal.2.2 _ _ hkA
  obtain ⟨kI₁, hkI₁, heI⟩ := hal.2.2 _ _ hkI
  have X₁ := X.noted hwarm₁
  obtain ⟨hr1, hr2⟩ := X.roomAbove hcells hslots
  have XF := gz_stand X₁ cA cI 11 11 11
  have XG := XF.dropFresh (fun x hx => by
    obtain ⟨j, -, rfl⟩ := List.mem_map.mp hx
    exact X.heapGrown)
  obtain ⟨a1, a2, a3, a4, a5, a6⟩ := gz_ok (T.setVm vm₁) cA cI 11 11 11
  obtain ⟨t, b1, b2⟩ := kk (gz (T.setVm vm₁) cA cI 11 11 11).heap (by rw [a1]; rfl) a5 a2 a6 _ rfl XG
  refine ⟨t, ?_, b2⟩
  have hl1 : ¬ (11 : Int32).toNatClampNeg > e.platform.arrayLengthLimit := by rw [Launch.admits_arrayLengthLimit X.admits]; decide
  have hh1 : ¬ (11 : Int32).toNatClampNeg * componentBytes (.array .int) > e.platform.maxHeapBytes := by rw [Launch.admits_maxHeapBytes X.admits]; decide
  have hh2 : ¬ (11 : Int32).toNatClampNeg * componentBytes .int > e.platform.maxHeapBytes := by rw [Launch.admits_maxHeapBytes X.admits]; decide
  jvm_step X.here [hexec, hdg]
  simp only [multianewarray.sem, wp_bind', W.resolveClassAt_links (State.method?_setTop (F0 m pc ls (.int 11 :: .int 11 :: rest)) X.here.top) hg₁]
  rw [W.popN, if_neg (by decide)]
  refine ⟨F0 m pc ls (.int 11 :: .int 11 :: rest), State.topJava?_setTop' (s := T.setVm vm₁) _ X.here.top, [.int 11, .int 11], rest, rfl, rfl, ?_⟩
  simp only [List.mapM_cons, List.mapM_nil, wp_bind', wp_pure']
  refine grid_make (kA := kA₁) (kI := kI₁) (cI := cI) (cc := cc9) hkA₁ (by rw [heA]; exact hkindA) hkI₁ (by rw [heI]; exact hkindI) (by decide) (by decide) hl1 hh1 hl1 hh2 (by show T.heap.size + 1 + 11 ≤ _; omega) (by show T.slotsUsed + 11 + 121 ≤ _; omega) (fun d' acts' => ?_)
  have eS : ((T.setTop (F0 m pc ls (.int 11 :: .int 11 :: rest))).setVm vm₁).setTop { F0 m pc ls (.int 11 :: .int 11 :: rest) with stack := rest } = (T.setVm vm₁).setTop { F0 m pc ls (.int 11 :: .int 11 :: rest) with stack := rest } := by
    show ((T.setVm vm₁).setTop _).setTop _ = _
    rw [State.setTop_setTop]
  rw [eS, gz_top, show (11 : Int32).toNatClampNeg = 11 by decide]
  simp only [wp_bind', W.mark, W.pushRef, State.topJava?_setTop' _ XF.here.top, Option.some.injEq, exists_eq_left', State.setTop_setTop, State.heap_setTop]
  intro acts
  simp [jvm, XF.here.top]
  exact b1
end GridW
