/-! ===== reading and writing the store ===== -/
theorem Cel.congr {G : GG} {μ μ' : MM} {x : Int} {H : Heap} (h : Cel G μ x H) (e : ∀ j : Nat, μ' x j = μ x j) : Cel G μ' x H := by
  unfold Cel at h ⊢
  simp only [e]
  exact h
theorem Cel.kept {G : GG} {μ : MM} {x : Int} {H H' : Heap} (h : Cel G μ x H) (e : H'[adr G x]? = H[adr G x]?) : Cel G μ x H' := by
  unfold Cel at h ⊢
  by_cases hc : cty x < 10
  · rw [if_pos hc] at h ⊢
    obtain ⟨r, h1, h2⟩ := h
    exact ⟨r, h1, h2.kept e⟩
  · rw [if_neg hc] at h ⊢
    exact e.trans h
theorem adr_inj {G : GG} {x y : Int} (hx : 1 ≤ x) (hy : 1 ≤ y) (h : adr G x = adr G y) : x = y := by unfold adr at h; omega
theorem up_0 {μ : MM} {x i v : Int} (h : 1 ≤ x) : (up μ x i v) 0 = μ 0 := by
  funext j
  unfold up
  rw [if_neg (by omega)]
theorem up_m {μ : MM} {x i v : Int} (h : 1 ≤ x) : (up μ x i v) (-1) = μ (-1) := by
  funext j
  unfold up
  rw [if_neg (by omega)]
theorem up_ne {μ : MM} {x y i v : Int} (h : y ≠ x) (j : Int) : (up μ x i v) y j = μ y j := by
  unfold up
  rw [if_neg (fun q => h q.1)]
theorem up_at {μ : MM} {x i v : Int} (j : Int) : (up μ x i v) x j = if j = i then v else μ x j := by
  unfold up
  by_cases e : j = i
  · rw [if_pos ⟨rfl, e⟩, if_pos e]
  · rw [if_neg (fun q => e q.2), if_neg e]
theorem Rl_up {G : GG} {μ : MM} {H H' : Heap} {x i v : Int} (hR : Rl G μ H) (h1 : 1 ≤ x) (hz : H'.size = H.size) (ho : ∀ q, q ≠ adr G x → H'[q]? = H[q]?) (hc : Cel G (up μ x i v) x H') : Rl G (up μ x i v) H' := by
  refine ⟨by rw [up_0 h1, hz]; exact hR.1, fun y hy1 hy2 => ?_⟩
  rw [up_0 h1] at hy2
  by_cases e : y = x
  · subst e; exact hc
  · exact ((hR.2 y hy1 hy2).congr (fun j => up_ne e j)).kept (ho _ (fun q => e (adr_inj hy1 h1 q)))
theorem CT_ok : ∀ q ∈ CT, q.1 < 10 → q.2 = fnum q.1 := by decide +kernel
theorem cln_obj {x : Int} (h : cty x < 10) : cln x = (fnum (cty x) : Nat) := by
  unfold cln
  unfold cty at h ⊢
  rw [List.getD_eq_getElem?_getD] at h ⊢
  cases hq : CT[x.toNat]? with
  | none => rw [hq] at h; exact absurd h (by decide)
  | some q =>
    rw [hq] at h
    exact congrArg _ (CT_ok q (List.mem_of_getElem? hq) h)
theorem cty_in {x : Int} (h : cty x ≠ 99) : x.toNat < 90 := by
  refine Nat.not_le.mp fun q => h ?_
  unfold cty
  rw [List.getD_eq_getElem?_getD, List.getElem?_eq_none (show CT.length ≤ x.toNat from q)]
  rfl
theorem fit_ok {G : GG} {nc : Int} {ty : FieldType} {t : Nat} {x : Int} (h : tagTy ty t = true) (hv : okv nc t x) : narrow ty (toV G t x) = toV G t x ∧ fits ty (toV G t x) = true := by
  unfold tagTy at h
  split at h
  · simp only [beq_iff_eq] at h; subst h; exact ⟨rfl, rfl⟩
  · simp only [beq_iff_eq] at h; subst h
    rcases hv with hv | hv <;> subst hv <;> exact ⟨rfl, rfl⟩
  · simp only [beq_iff_eq] at h; subst h; exact ⟨rfl, rfl⟩
  · simp only [Bool.and_eq_true, decide_eq_true_eq] at h
    rcases ref_cases (G := G) (t := t) (x := x) (by omega) with e | ⟨q, e⟩ <;> rw [e] <;> exact ⟨rfl, rfl⟩
  · simp only [Bool.and_eq_true, decide_eq_true_eq] at h
    rcases ref_cases (G := G) (t := t) (x := x) (by omega) with e | ⟨q, e⟩ <;> rw [e] <;> exact ⟨rfl, rfl⟩
  · cases h
theorem def_ok {G : GG} {ty : FieldType} {t : Nat} (h : tagTy ty t = true) : defaultValue ty = toV G t 0 := by
  unfold tagTy at h
  split at h
  · simp only [beq_iff_eq] at h; subst h; rfl
  · simp only [beq_iff_eq] at h; subst h; rfl
  · simp only [beq_iff_eq] at h; subst h; rfl
  · simp only [Bool.and_eq_true, decide_eq_true_eq] at h
    rw [toV_r G (by omega) (by omega), if_pos rfl]; rfl
  · simp only [Bool.and_eq_true, decide_eq_true_eq] at h
    rw [toV_r G (by omega) (by omega), if_pos rfl]; rfl
  · cases h
section Mem
variable {l : Launch} {G : GG} {k pc : Nat} {ls st : List VV} {μ : MM} {ins : Instr} {len : Nat}
theorem row15 {a b c w t : Nat} {x : Int} {r : List VV} (hd : decode (mC k) pc = .ok (ins, len)) (hc : ch15 k ins len a b c w = true) (h1 : 1 ≤ x) (h2 : x < μ 0 0) (hty : cty x = b) (ht : 8 ≤ t) (h9 : t ≠ 99) :
    Row l G k pc ls ((t, x) :: r) μ (pc + len) ls ((if c = 3 then 0 else c, μ x a) :: r) μ ∧ c = ftg b a ∧ b < 10 ∧ a < fnum b := by
  subst hty
  unfold ch15 at hc
  split at hc
  · rename_i i
    simp only [Bool.and_eq_true, beq_iff_eq] at hc
    obtain ⟨rfl, hF⟩ := hc
    unfold chF at hF
    split at hF
    · rename_i r9 hr9
      simp only [Bool.and_eq_true, decide_eq_true_eq] at hF
      obtain ⟨⟨ha, hcc⟩, hlk⟩ := hF
      obtain ⟨hw1, -, -, -, -, -, hfn⟩ := cls_ok _ _ hr9
      have hb : cty x < 10 := Nat.lt_of_lt_of_le (List.getElem?_eq_some_iff.mp hr9).1 (show vwCl.length ≤ 10 by decide)
      refine ⟨Row.same fun p e R s m args below meth c0 Q H locs cells slots lm C hf hw hR hS hL kk => ?_, hcc, hb, by rw [hfn]; exact ha⟩
      obtain ⟨hx, hbb, hml, hrt, hlk2, hown, hts, hK, hn, hB, hN, hX⟩ := C
      have hcel := hR.2 x h1 h2
      unfold Cel at hcel
      rw [if_pos hb] at hcel
      obtain ⟨r8, hr8, cell, q1, q2, q3, q4⟩ := hcel
      have e8 : r8 = r9 := Option.some.inj (hr8.symm.trans hr9)
      subst e8
      obtain ⟨hSl, hfc, kC, hkC, hkind⟩ := hK.1 _ _ hr9
      obtain ⟨cf, kf, fi, f, hi, hsl⟩ := hSl a ha
      show W p l e R s m args below meth c0 H locs cells slots Q (F0 m pc lm (toV G t x :: tvs G r))
      rw [toV_ref G ht h9 (by omega)]
      refine W.getf hx hbb hown (wd_ok hts hlk) hi (u_facts hfc hkC (u_lays hts hw1 ha) hi).1 q1 (by rw [q3]; exact fun h => by cases h) (v := toV G (ftg (cty x) a) (μ x a)) (by rw [hsl, q4 a ha]) rfl rfl hd ?_
      have hk := kk lm hL
      have e3 : toV G (if c = 3 then 0 else c) (μ x a) = toV G (ftg (cty x) a) (μ x a) := by
        rw [← hcc]
        by_cases e : c = 3
        · rw [if_pos e, e]; rfl
        · rw [if_neg e]
      rw [← e3]
      exact hk
    · cases hF
  · cases hc
theorem row16 {a b c w t tv : Nat} {x v : Int} {r : List VV} (hd : decode (mC k) pc = .ok (ins, len)) (hc : ch16 k ins len a b c w = true) (h1 : 1 ≤ x) (h2 : x < μ 0 0) (hty : cty x = b) (ht : 8 ≤ t) (h9 : t ≠ 99) (hv : okv (μ 0 0) c v) (hvv : toV G tv v = toV G c v) :
    Row l G k pc ls ((tv, v) :: (t, x) :: r) μ (pc + len) ls r (up μ x a v) ∧ c = ftg b a ∧ b < 10 ∧ a < fnum b := by
  subst hty
  unfold ch16 at hc
  split at hc
  · rename_i i
    simp only [Bool.and_eq_true, beq_iff_eq] at hc
    obtain ⟨⟨rfl, hF⟩, hfin⟩ := hc
    unfold chF at hF
    split at hF
    · rename_i r9 hr9
      simp only [Bool.and_eq_true, decide_eq_true_eq] at hF
      obtain ⟨⟨ha, hcc⟩, hlk⟩ := hF
      obtain ⟨hw1, -, -, hty0, hnm, htg, hfn⟩ := cls_ok _ _ hr9
      have hb : cty x < 10 := Nat.lt_of_lt_of_le (List.getElem?_eq_some_iff.mp hr9).1 (show vwCl.length ≤ 10 by decide)
      refine ⟨?_, hcc, hb, by rw [hfn]; exact ha⟩
      intro p e R s m args below meth c0 Q H locs cells slots lm C hf hw hR hS hL hce hsl0 kk
      rw [dc_same (by rw [up_0 h1]), ds_same (by rw [up_0 h1])] at kk
      obtain ⟨hx, hbb, hml, hrt, hlk2, hown, hts, hK, hn, hB, hN, hX⟩ := C
      have hcel := hR.2 x h1 h2
      unfold Cel at hcel
      rw [if_pos hb] at hcel
      obtain ⟨r8, hr8, cell, q1, q2, q3, q4⟩ := hcel
      have e8 : r8 = r9 := Option.some.inj (hr8.symm.trans hr9)
      subst e8
      have hap := va_apart (own := (mY k).cls) hts hw1 (tyOf (cty x)) hty0 hnm hK hr9
      obtain ⟨hSl, hfc, kC, hkC, hkind⟩ := hK.1 _ _ hr9
      obtain ⟨cf, kf, fi, f, hi, hsl⟩ := hSl a ha
      have hst := (u_facts hfc hkC (u_lays hts hw1 ha) hi).1
      have hfo := fit_ok (G := G) (htg a ha) (by rw [← hcc]; exact hv)
      rw [← hcc] at hfo
      show W p l e R s m args below meth c0 H locs cells slots Q (F0 m pc lm (toV G tv v :: toV G t x :: tvs G r))
      rw [toV_ref G ht h9 (by omega), hvv]
      have hend : ∀ (H' : Heap), H'[adr G x]? = some (cell.setSlot f.slot (toV G c v)) → H'.size = H.size → (∀ q, q ≠ adr G x → H'[q]? = H[q]?) → W p l e R s m args below meth c0 H' (locs ++ [⟨adr G x, f.slot⟩]) cells slots Q (F0 m (pc + 3) lm (tvs G r)) := by
        intro H' g1 g2 g3
        refine kk H' _ lm (Rl_up hR h1 g2 g3 ?_) (hS.put g2 g3 (show gB G ≤ adr G x from Nat.le_add_right _ _)) hL
        unfold Cel
        rw [if_pos hb]
        rw [hsl] at g1
        refine ⟨_, hr9, t_OB.to (V := updV (fun j => toV G (ftg (cty x) j) (μ x j)) a (toV G c v)) ⟨_, g1, q2, q3, t_set q4 hap ha _⟩ (fun j _ => ?_)⟩
        unfold updV
        rw [up_at]
        by_cases e : j = a
        · subst e
          rw [if_pos rfl, if_pos rfl, hcc]
        · rw [if_neg e, if_neg (by omega)]
      by_cases hF2 : (r8.2.1 a).2.2.2 = true
      · have hlay := hts _ (hw1 _ (u_in_lay ha))
        unfold u_lay at hlay
        rw [if_pos hF2] at hlay
        rw [hr9] at hfin
        simp only [hF2, Bool.not_true, Bool.false_or, Bool.and_eq_true, decide_eq_true_eq] at hfin
        have hcf : m.cls = cf := by
          obtain ⟨_, _, c', _, _, _, -, -, hf', -, -, -, hown2, -⟩ := Cond.laysFinal_spec hlay
          have e1 : c' = cf := by have := hi.symm.trans hf'; simp at this; exact this.1.symm
          rw [hfin.2] at hown2
          rw [← e1]; exact Option.some.inj (hown.symm.trans hown2)
        have h6 := u_fits hfc hkC hkind (Or.inr hlay) hi (hty0 a ha) hfo.1 hfo.2
        exact W.putFinK hx hbb hown (wd_ok hts hlk) hi hst hcf (hn hfin.1) (by rw [q2]; exact h6) q1 q3 (by rw [hsl]; exact k2_hasslot (q4 a ha)) rfl rfl hd hend
      · have hF3 : (r8.2.1 a).2.2.2 = false := by simpa using hF2
        have hlay := hts _ (hw1 _ (u_in_lay ha))
        unfold u_lay at hlay
        rw [if_neg hF2] at hlay
        have h6 := u_store hfc hkC hkind hlay hi (hty0 a ha) hfo.1 hfo.2
        exact W.putK hx hbb (f := f) ⟨hown, wd_ok hts hlk, ⟨_, _, _, hi⟩, hst⟩ (by rw [q2]; exact h6) q1 q3 (by rw [hsl]; exact k2_hasslot (q4 a ha)) rfl rfl hd hend
    · cases hF
  · cases hc
theorem arr_at {H : Heap} {x : Int} (hR : Rl G μ H) (h1 : 1 ≤ x) (h2 : x < μ 0 0) (hy : ¬ cty x < 10) : H[adr G x]? = some (arrV (gA G (cty x)) (cln x).toNat (fun j => toV G (stg (cty x)) (μ x j))) := by
  have h := hR.2 x h1 h2
  unfold Cel at h
  rw [if_neg hy] at h
  exact h
theorem ix_nat {i : Int} (hr : R32 i) (h : 0 ≤ i) : (Int32.ofInt i).toNatClampNeg = i.toNat := by
  show ((Int32.ofInt i).toInt).toNat = i.toNat
  rw [i32_toInt hr]
theorem ix_in {i : Int} {N : Nat} (hr : R32 i) (h : 0 ≤ i) (h2 : i.toNat < N) : ¬ (Int32.ofInt i < 0 ∨ N ≤ (Int32.ofInt i).toNatClampNeg) := by
  rw [ix_nat hr h]
  rintro (q | q)
  · have := (i32_lt hr z32).mp q
    omega
  · omega
theorem tyl_at {G : GG} {s : State} (hK : va_K (gD G) vwCl (tyl G) s) (n : Nat) {q : ClassId × FieldType} (h : (tyl G)[n]? = some q) : ArrOfT s q.1 q.2 ∧ va_RA s q.1 q.2 := hK.2 n q h
theorem row17 {a t y : Nat} {x i : Int} {r : List VV} (hd : decode (mC k) pc = .ok (ins, len)) (hc : ch17 ins len a = true) (h1 : 1 ≤ x) (h2 : x < μ 0 0) (hty : cty x = y) (ht : 8 ≤ t) (h9 : t ≠ 99) (hak : akd a y = true) (hr : R32 i) (hi : 0 ≤ i) (hl : i < cln x) :
    Row l G k pc ls ((0, i) :: (t, x) :: r) μ (pc + len) ls ((etg y, μ x i) :: r) μ := by
  subst hty
  have hy : ¬ cty x < 10 := by
    simp [akd] at hak
    omega
  refine Row.same fun p e R s m args below meth c Q H locs cells slots lm C hf hw hR hS hL kk => ?_
  obtain ⟨hx, hbb, hml, hrt, hlk2, hown, hts, hK, hn, hB, hN, hX⟩ := C
  have hcell := arr_at hR h1 h2 hy
  have hk := kk lm hL
  have hnn : i.toNat < (cln x).toNat := by omega
  have hii : ((i.toNat : Nat) : Int) = i := by omega
  show W p l e R s m args below meth c H locs cells slots Q (F0 m pc lm (.int (Int32.ofInt i) :: toV G t x :: tvs G r))
  rw [toV_ref G ht h9 (by omega)]
  have hsz : ∀ (cA : ClassId) (f : Nat → Value), ¬ (Int32.ofInt i < 0 ∨ (arrV cA (cln x).toNat f).slots.size ≤ (Int32.ofInt i).toNatClampNeg) := fun cA f => by
    rw [arrV_size]; exact ix_in hr hi hnn
  have hrd : ∀ (cA : ClassId) (f : Nat → Value), (arrV cA (cln x).toNat f).slots[(Int32.ofInt i).toNatClampNeg]? = some (f i.toNat) := fun cA f => by
    rw [ix_nat hr hi, arrV_read _ _ hnn]
  have hkn : ∀ (cA : ClassId) (f : Nat → Value), (arrV cA (cln x).toNat f).vm ≠ .unknown := fun _ _ q => by cases q
  unfold ch17 at hc
  split at hc
  · simp only [Bool.and_eq_true, beq_iff_eq] at hc
    obtain ⟨rfl, rfl⟩ := hc
    have e : cty x = 20 := by simpa [akd] using hak
    rw [e] at hcell hk
    refine W.iald hx hbb hcell ((tyl_at hK 0 rfl).1 _ _) (hkn _ _) (hsz _ _) (hrd _ _) rfl rfl hd ?_
    rw [hii]
    exact hk
  · simp only [Bool.and_eq_true, beq_iff_eq] at hc
    obtain ⟨rfl, rfl⟩ := hc
    have e : cty x = 21 := by simpa [akd] using hak
    rw [e] at hcell hk
    refine W.zald hx hbb hcell ((tyl_at hK 1 rfl).1 _ _) (hkn _ _) (hsz _ _) (hrd _ _) rfl rfl hd ?_
    rw [hii]
    exact hk
  · simp only [Bool.and_eq_true, beq_iff_eq] at hc
    obtain ⟨rfl, rfl⟩ := hc
    have e : cty x = 22 ∨ cty x = 23 ∨ cty x = 24 := by
      simp [akd] at hak
      omega
    rcases e with e | e | e
    · rw [e] at hcell hk
      refine W.aald (ty := .object RX1) hx hbb hcell ((tyl_at hK 2 rfl).1 _ _) rfl (hkn _ _) (hsz _ _) (hrd _ _) rfl rfl hd ?_
      rw [hii]
      exact hk
    · rw [e] at hcell hk
      refine W.aald (ty := .object RX0) hx hbb hcell ((tyl_at hK 3 rfl).1 _ _) rfl (hkn _ _) (hsz _ _) (hrd _ _) rfl rfl hd ?_
      rw [hii]
      exact hk
    · rw [e] at hcell hk
      refine W.aald (ty := .array .int) hx hbb hcell ((tyl_at hK 4 rfl).1 _ _) rfl (hkn _ _) (hsz _ _) (hrd _ _) rfl rfl hd ?_
      rw [hii]
      exact hk
  · cases hc
theorem Cel_arr {H H' : Heap} {x i v : Int} {w : Value} (hy : ¬ cty x < 10) (hi : 0 ≤ i) (hcell : H[adr G x]? = some (arrV (gA G (cty x)) (cln x).toNat (fun j => toV G (stg (cty x)) (μ x j)))) (hw : w = toV G (stg (cty x)) v)
    (h' : H'[adr G x]? = some ((arrV (gA G (cty x)) (cln x).toNat (fun j => toV G (stg (cty x)) (μ x j))).setSlot i.toNat w)) : Cel G (up μ x i v) x H' := by
  unfold Cel
  rw [if_neg hy, h', arrV_store]
  refine congrArg (fun f => some (arrV _ _ f)) (funext fun j => ?_)
  unfold updV
  rw [up_at]
  by_cases e : j = i.toNat
  · rw [if_pos e, if_pos (by omega), hw]
  · rw [if_neg e, if_neg (by omega)]
theorem row18 {a t y tv : Nat} {x i v : Int} {r : List VV} (hd : decode (mC k) pc = .ok (ins, len)) (hc : ch18 ins len a = true) (h1 : 1 ≤ x) (h2 : x < μ 0 0) (hty : cty x = y) (ht : 8 ≤ t) (h9 : t ≠ 99) (hak : ast a y tv = true) (hr : R32 i) (hi : 0 ≤ i) (hl : i < cln x)
    (hv0 : okv (μ 0 0) tv v) (hv : okv (μ 0 0) (stg y) v) (hvv : toV G tv v = toV G (stg y) v) :
    Row l G k pc ls ((tv, v) :: (0, i) :: (t, x) :: r) μ (pc + len) ls r (up μ x i v) := by
  subst hty
  have hy : ¬ cty x < 10 := by
    simp [ast] at hak
    omega
  intro p e R s m args below meth c0 Q H locs cells slots lm C hf hw hR hS hL hce hsl0 kk
  rw [dc_same (by rw [up_0 h1]), ds_same (by rw [up_0 h1])] at kk
  obtain ⟨hx, hbb, hml, hrt, hlk2, hown, hts, hK, hn, hB, hN, hX⟩ := C
  have hcell := arr_at hR h1 h2 hy
  have hnn : i.toNat < (cln x).toNat := by omega
  show W p l e R s m args below meth c0 H locs cells slots Q (F0 m pc lm (toV G tv v :: .int (Int32.ofInt i) :: toV G t x :: tvs G r))
  rw [toV_ref G ht h9 (by omega)]
  have hsz : ∀ (cA : ClassId) (f : Nat → Value), ¬ (Int32.ofInt i < 0 ∨ (arrV cA (cln x).toNat f).slots.size ≤ (Int32.ofInt i).toNatClampNeg) := fun cA f => by
    rw [arrV_size]; exact ix_in hr hi hnn
  have hkn : ∀ (cA : ClassId) (f : Nat → Value), (arrV cA (cln x).toNat f).vm ≠ .unknown := fun _ _ q => by cases q
  have hAx : AA G (adr G x) := Nat.le_add_right _ _
  have hend : ∀ (w : Value), w = toV G (stg (cty x)) v → ∀ (H' : Heap), H'[adr G x]? = some ((arrV (gA G (cty x)) (cln x).toNat (fun j => toV G (stg (cty x)) (μ x j))).setSlot (Int32.ofInt i).toNatClampNeg w) → H'.size = H.size → (∀ q, q ≠ adr G x → H'[q]? = H[q]?) → ∀ kq, W p l e R s m args below meth c0 H' (locs ++ [⟨adr G x, kq⟩]) cells slots Q (F0 m (pc + len) lm (tvs G r)) := by
    intro w hw H' g1 g2 g3 kq
    rw [ix_nat hr hi] at g1
    exact kk H' _ lm (Rl_up hR h1 g2 g3 (Cel_arr hy hi hcell hw g1)) (hS.put g2 g3 hAx) hL
  unfold ch18 at hc
  split at hc
  · simp only [Bool.and_eq_true, beq_iff_eq] at hc
    obtain ⟨rfl, rfl⟩ := hc
    have e : cty x = 20 := by simpa [ast] using hak
    have hA : ArrOfT s (gA G (cty x)) .int := by rw [e]; exact (tyl_at hK 0 rfl).1
    have es : stg (cty x) = 0 := by rw [e]; rfl
    rw [hvv, es]
    exact W.iast hx hbb hcell (hA _ _) (hkn _ _) (hsz _ _) rfl rfl hd (fun H' g1 g2 g3 => hend _ (by rw [es]; rfl) H' g1 g2 g3 _)
  · simp only [Bool.and_eq_true, beq_iff_eq] at hc
    obtain ⟨rfl, rfl⟩ := hc
    have e : cty x = 21 := by simpa [ast] using hak
    have hA : ArrOfT s (gA G (cty x)) .boolean := by rw [e]; exact (tyl_at hK 1 rfl).1
    have es : stg (cty x) = 3 := by rw [e]; rfl
    rw [es] at hv
    have hfo := fit_ok (G := G) (ty := .boolean) (t := 3) rfl hv
    rw [hvv, es]
    exact W.zast hx hbb hcell (hA _ _) (hkn _ _) (hsz _ _) rfl rfl hd (fun H' g1 g2 g3 => hend _ (by rw [es]; exact hfo.1) H' g1 g2 g3 _)
  · simp only [Bool.and_eq_true, beq_iff_eq] at hc
    obtain ⟨rfl, rfl⟩ := hc
    have ee : (cty x = 22 ∧ tv = 41) ∨ (cty x = 23 ∧ tv = 40) := by
      simp [ast] at hak
      omega
    have hgo : ∀ (ci : Nat) (C : String) (r9 : vw_C), vwCl[ci]? = some r9 → r9.1 = C → tv = 40 + ci → ci < 10 → va_RA s (gA G (cty x)) (.object C) → W p l e R s m args below meth c0 H locs cells slots Q (F0 m pc lm (toV G tv v :: .int (Int32.ofInt i) :: .ref (adr G x) :: tvs G r)) := by
      intro ci C r9 hr9 hC htv hci hRA
      have hv1 := (okv_ref (by omega) (by omega)).mp hv0
      have hcv : cty v = ci := by omega
      have hcel := hR.2 v hv1.1 hv1.2.1
      unfold Cel at hcel
      rw [if_pos (by omega), hcv] at hcel
      obtain ⟨r8, hr8, cellV, g1, g2, g3, -⟩ := hcel
      have hcls := (hK.1 ci r9 hr9).2
      rw [hC] at hcls
      obtain ⟨kA, comp, k1, k2, k3, -⟩ := hRA
      have hcomp : comp = (gD G).1 ci := Option.some.inj (k3.symm.trans hcls.1)
      subst hcomp
      obtain ⟨kC, hkC, -⟩ := hcls.2
      have hrefv : toV G tv v = .ref (adr G v) := toV_ref G (by omega) (by omega) (by omega)
      have hrefs : Value.ref (adr G v) = toV G (stg (cty x)) v := by rw [← hrefv]; exact hvv
      rw [hrefv]
      exact W.aast hx hbb hcell (fun q h => by cases h) (fun h => by cases h) k1 k2 rfl hkC ⟨fun q => (ix_in hr hi hnn) (Or.inl q), by show _ < (arrV _ _ _).slots.size; rw [arrV_size, ix_nat hr hi]; exact hnn⟩ g1 (fun q h => by rw [g3] at h; cases h) (by rw [g2]; exact hkC) (by rw [g2]; exact va_assign hcls) rfl rfl hd (fun H' g1 g2 g3 => hend _ hrefs H' g1 g2 g3 _)
    rcases ee with ⟨e, e2⟩ | ⟨e, e2⟩
    · exact hgo 1 RX1 _ rfl rfl e2 (by omega) (by rw [e]; exact (tyl_at hK 2 rfl).2)
    · exact hgo 0 RX0 _ rfl rfl e2 (by omega) (by rw [e]; exact (tyl_at hK 3 rfl).2)
  · cases hc
theorem CT_small : ∀ q ∈ CT, q.2 ≤ 100000 := by decide +kernel
theorem cln_R (x : Int) : R32 (cln x) ∧ 0 ≤ cln x := by
  unfold cln R32
  rw [List.getD_eq_getElem?_getD]
  cases hq : CT[x.toNat]? with
  | none => exact ⟨⟨by decide, by decide⟩, by decide⟩
  | some q =>
    have := CT_small q (List.mem_of_getElem? hq)
    show (-2147483648 ≤ ((q.2 : Nat) : Int) ∧ ((q.2 : Nat) : Int) < 2147483648) ∧ 0 ≤ ((q.2 : Nat) : Int)
    omega
theorem row19 {t : Nat} {x : Int} {r : List VV} (hd : decode (mC k) pc = .ok (ins, len)) (hc : ch19 ins len = true) (h1 : 1 ≤ x) (h2 : x < μ 0 0) (hy : 20 ≤ cty x ∧ cty x ≤ 24) (ht : 8 ≤ t) (h9 : t ≠ 99) :
    Row l G k pc ls ((t, x) :: r) μ (pc + len) ls ((0, cln x) :: r) μ := by
  refine Row.same fun p e R s m args below meth c Q H locs cells slots lm C hf hw hR hS hL kk => ?_
  obtain ⟨hx, hbb, hml, hrt, hlk2, hown, hts, hK, hn, hB, hN, hX⟩ := C
  have hcell := arr_at hR h1 h2 (by omega)
  show W p l e R s m args below meth c H locs cells slots Q (F0 m pc lm (toV G t x :: tvs G r))
  rw [toV_ref G ht h9 (by omega)]
  have hA : ∃ ty, ArrOfT s (gA G (cty x)) ty := by
    have : cty x = 20 ∨ cty x = 21 ∨ cty x = 22 ∨ cty x = 23 ∨ cty x = 24 := by omega
    rcases this with e | e | e | e | e <;> rw [e]
    · exact ⟨_, (tyl_at hK 0 rfl).1⟩
    · exact ⟨_, (tyl_at hK 1 rfl).1⟩
    · exact ⟨_, (tyl_at hK 2 rfl).1⟩
    · exact ⟨_, (tyl_at hK 3 rfl).1⟩
    · exact ⟨_, (tyl_at hK 4 rfl).1⟩
  obtain ⟨ty, hA⟩ := hA
  unfold ch19 at hc
  split at hc
  · simp only [beq_iff_eq] at hc
    subst hc
    refine W.alen (n := Int32.ofInt (cln x)) hx hbb hcell (hA _ _) ?_ rfl rfl hd (kk lm hL)
    rw [arrV_size]
    have h0 := (cln_R x).2
    rw [show Int32.ofInt (cln x) = Int32.ofInt (((cln x).toNat : Nat) : Int) by rw [Int.toNat_of_nonneg h0], Int32.ofInt_eq_ofNat]
  · cases hc
end Mem
