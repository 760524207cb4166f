/-! ===== making cells; the law's script; Math ===== -/
theorem mak_00 {μ : MM} {n : Int} (h : 1 ≤ n) : mak μ n 0 0 = n + 1 := by
  unfold mak
  rw [if_neg (by omega), if_pos ⟨rfl, rfl⟩]
theorem mak_ne {μ : MM} {n y : Int} (h : y ≠ n) (h0 : y ≠ 0) (j : Int) : mak μ n y j = μ y j := by
  unfold mak
  rw [if_neg h, if_neg (fun q => h0 q.1)]
theorem mak_new {μ : MM} {n : Int} (j : Int) : mak μ n n j = 0 := by
  unfold mak
  rw [if_pos rfl]
theorem mak_01 {μ : MM} {n : Int} (h : 1 ≤ n) : mak μ n 0 1 = μ 0 1 := by
  unfold mak
  rw [if_neg (by omega), if_neg (by omega)]
theorem CT_len : CT.length = 90 := by decide
theorem slt_succ {n : Int} (h : 0 ≤ n) (hn : n.toNat < 90) : slt (n + 1) = slt n + (cln n).toNat := by
  unfold slt cln
  have e : (n + 1).toNat = n.toNat + 1 := by omega
  have hq : CT[n.toNat]? = some CT[n.toNat] := List.getElem?_eq_getElem (by rw [CT_len]; exact hn)
  rw [e, List.take_add_one, List.map_append, List.sum_append_nat, List.getD_eq_getElem?_getD, hq]
  simp
theorem slt_mono {a b : Int} (h : a ≤ b) : slt a ≤ slt b := by
  have key : ∀ (l : List (Nat × Nat)) (i j : Nat), i ≤ j → ((l.take i).map Prod.snd).sum ≤ ((l.take j).map Prod.snd).sum := by
    intro l
    induction l with
    | nil => intro i j _; simp
    | cons q r ih =>
      intro i j hij
      cases i with
      | zero => simp
      | succ i =>
        cases j with
        | zero => omega
        | succ j =>
          simp only [List.take_succ_cons, List.map_cons, List.sum_cons]
          have := ih i j (by omega)
          omega
  exact key CT _ _ (by omega)
theorem S_grow {A : Nat → Prop} {H0 H H' : Heap} {locs : List Loc} (hS : va_S A H0 H locs) (hz : H.size ≤ H'.size) (ho : ∀ q, q < H.size → H'[q]? = H[q]?) : va_S A H0 H' locs :=
  ⟨Nat.le_trans hS.1 hz, fun x h1 h2 => (ho x (Nat.lt_of_lt_of_le h1 hS.1)).trans (hS.2.1 x h1 h2), hS.2.2⟩
theorem Rl_mak {G : GG} {μ : MM} {H H' : Heap} (hR : Rl G μ H) (h1 : 1 ≤ μ 0 0) (hz : H'.size = H.size + 1) (ho : ∀ q, q < H.size → H'[q]? = H[q]?) (hc : Cel G (mak μ (μ 0 0)) (μ 0 0) H') : Rl G (mak μ (μ 0 0)) H' := by
  refine ⟨by rw [mak_00 h1, hz, hR.1]; omega, fun y hy1 hy2 => ?_⟩
  rw [mak_00 h1] at hy2
  by_cases e : y = μ 0 0
  · rw [e]; exact hc
  · refine ((hR.2 y hy1 (by omega)).congr (fun j => mak_ne e (by omega) j)).kept (ho _ ?_)
    rw [hR.1]
    unfold adr
    omega
theorem Rl_size {G : GG} {μ : MM} {H : Heap} (hR : Rl G μ H) : H.size = adr G (μ 0 0) := hR.1
theorem cnt_mak {μ : MM} (h1 : 1 ≤ μ 0 0) (hn : (μ 0 0).toNat < 90) : dc μ (mak μ (μ 0 0)) = 1 ∧ ds μ (mak μ (μ 0 0)) = (cln (μ 0 0)).toNat := by
  unfold dc ds
  rw [mak_00 h1, slt_succ (by omega) hn]
  omega
theorem arrI : Jvm.Cond.arrayClass .int ∈ gws := gws_in (by decide +kernel)
theorem arrZ : Jvm.Cond.arrayClass .boolean ∈ gws := gws_in (by decide +kernel)
theorem objI : Jvm.Cond.instanceMethod objectInit ∈ gws := gws_in (by decide +kernel)
set_option maxRecDepth 100000 in
theorem objC : Jvm.Cond.code objectInit ⟨#[0xb1]⟩ 1 none ∈ gws := gws_in (lwt1 (List.mem_of_getElem? (i := 19) rfl))
theorem mtI : Jvm.Cond.initialized "java/lang/Math" ∈ gws := gws_in (by decide +kernel)
theorem mxS : Jvm.Cond.static Lib.Math.max.name ∈ gws := gws_in (by decide +kernel)
theorem mnS : Jvm.Cond.static Lib.Math.min.name ∈ gws := gws_in (by decide +kernel)
theorem mbS : Jvm.Cond.static Lib.Math.abs.name ∈ gws := gws_in (by decide +kernel)
set_option maxRecDepth 100000 in
theorem mxC : Jvm.Cond.code Lib.Math.max.name Lib.Math.max.code 2 (some .int) ∈ gws := gws_in (lwt3 (List.mem_of_getElem? (i := 35) rfl))
set_option maxRecDepth 100000 in
theorem mnC : Jvm.Cond.code Lib.Math.min.name Lib.Math.min.code 2 (some .int) ∈ gws := gws_in (lwt2 (List.mem_of_getElem? (i := 44) rfl))
set_option maxRecDepth 100000 in
theorem mbC : Jvm.Cond.code Lib.Math.abs.name Lib.Math.abs.code 1 (some .int) ∈ gws := gws_in (lwt3 (List.mem_of_getElem? (i := 139) rfl))
section New
variable {l : Launch} {G : GG} {k pc : Nat} {ls st : List VV} {μ : MM} {ins : Instr} {len : Nat}
theorem row25 {a w : Nat} (hd : decode (mC k) pc = .ok (ins, len)) (hc : ch25 k ins len a w = true) (h1 : 1 ≤ μ 0 0) (hty : cty (μ 0 0) = a) :
    Row l G k pc ls st μ (pc + len) ls ((40 + a, μ 0 0) :: st) (mak μ (μ 0 0)) ∧ a < 10 := by
  subst hty
  unfold ch25 at hc
  split at hc
  · rename_i i
    simp only [Bool.and_eq_true, beq_iff_eq] at hc
    obtain ⟨rfl, hF⟩ := hc
    split at hF
    · rename_i r9 hr9
      simp only [decide_eq_true_eq] at hF
      obtain ⟨hw1, hw2, hw3, hty0, hnm, htg, hfn⟩ := cls_ok _ _ hr9
      have hb : cty (μ 0 0) < 10 := Nat.lt_of_lt_of_le (List.getElem?_eq_some_iff.mp hr9).1 (show vwCl.length ≤ 10 by decide)
      have hn90 : (μ 0 0).toNat < 90 := cty_in (by omega)
      refine ⟨?_, hb⟩
      intro p e R s m args below meth c0 Q H locs cells slots lm C hf hw hR hS hL hce hsl0 kk
      obtain ⟨e1, e2⟩ := cnt_mak h1 hn90
      rw [e1, e2] at kk
      rw [e1] at hce
      rw [e2] at hsl0
      rw [cln_obj hb, hfn] at kk hsl0
      simp only [Int.toNat_natCast] at kk hsl0
      obtain ⟨hx, hbb, hml, hrt, hlk2, hown, hts, hK, hn, hB, hN, hX⟩ := C
      have hKn := hK.1 _ _ hr9
      refine W.newcK hx hbb hown (wd_ok hts hF) (hts _ hw2) (hts _ hw3) rfl hd hce hsl0 hKn.2.1 (Rl_size hR) fun H1 kC hkC g1 z1 o1 => ?_
      have o1 : ∀ q, q < H.size → H1[q]? = H[q]? := fun q hq => o1 q (by rw [← Rl_size hR]; exact hq)
      have z1 : H1.size = H.size + 1 := by rw [z1, Rl_size hR]
      have hk := kk H1 locs lm (Rl_mak hR h1 z1 o1 ?_) (S_grow hS (by omega) o1) hL
      · show W p l e R s m args below meth c0 H1 locs (cells + 1) (slots + r9.2.2) Q (F0 m (pc + 3) lm (.ref (adr G (μ 0 0)) :: tvs G st))
        rw [← toV_ref G (t := 40 + cty (μ 0 0)) (x := μ 0 0) (by omega) (by omega) (by omega)]
        exact hk
      · unfold Cel
        rw [if_pos hb]
        refine ⟨r9, hr9, (u_born (tyOf (cty (μ 0 0))) hts hw1 hKn hkC g1 hty0).to (fun j hj => ?_)⟩
        rw [mak_new]
        exact def_ok (htg j hj)
    · cases hF
  · cases hc
theorem row26 {a : Nat} {v : Int} {r : List VV} (hd : decode (mC k) pc = .ok (ins, len)) (hc : ch26 ins len a = true) (h1 : 1 ≤ μ 0 0) (hty : cty (μ 0 0) = a) (hln : cln (μ 0 0) = v) (h0 : 0 ≤ v) (hv : v ≤ 100000) :
    Row l G k pc ls ((0, v) :: r) μ (pc + len) ls ((40 + a, μ 0 0) :: r) (mak μ (μ 0 0)) := by
  subst hty
  have hrv : R32 v := ⟨by omega, by omega⟩
  unfold ch26 at hc
  split at hc
  · rename_i at9
    simp only [Bool.and_eq_true, beq_iff_eq] at hc
    obtain ⟨rfl, hA⟩ := hc
    have hcase : (at9 = .int ∧ cty (μ 0 0) = 20) ∨ (at9 = .boolean ∧ cty (μ 0 0) = 21) := by
      cases at9 <;> simp at hA <;> simp [hA]
    have hn90 : (μ 0 0).toNat < 90 := cty_in (by omega)
    intro p e R s m args below meth c0 Q H locs cells slots lm C hf hw hR hS hL hce hsl0 kk
    obtain ⟨e1, e2⟩ := cnt_mak h1 hn90
    rw [e1, e2, hln] at kk
    rw [e1] at hce
    rw [e2, hln] at hsl0
    obtain ⟨hx, hbb, hml, hrt, hlk2, hown, hts, hK, hn, hB, hN, hX⟩ := C
    have hgo : ∀ (ty : FieldType) (n : Nat), newarray.typeOf at9 = ty → (Jvm.Cond.arrayClass ty) ∈ gws → v.toNat * componentBytes ty ≤ 536870912 → s.vm.findClass ("[" ++ ty.toString) = some (gA G (cty (μ 0 0))) → defaultValue ty = toV G (stg (cty (μ 0 0))) 0 → ¬ cty (μ 0 0) < 10 →
        W p l e R s m args below meth c0 H locs cells slots Q (F0 m pc lm (tvs G ((0, v) :: r))) := by
      intro ty n hty hwd hby hfc hdf hb
      refine va_newaK (N := v.toNat) hx hbb (by rw [hty]; exact hts _ hwd) rfl hd rfl (fun q => ?_) (ix_nat hrv h0) (by rw [hty]; exact hby) hce hsl0 (Rl_size hR) fun H1 cA g1 z1 o1 hAr hfc2 => ?_
      · have := (i32_lt hrv z32).mp q
        omega
      · have o1 : ∀ q, q < H.size → H1[q]? = H[q]? := fun q hq => o1 q (by rw [← Rl_size hR]; exact hq)
        have z1 : H1.size = H.size + 1 := by rw [z1, Rl_size hR]
        rw [hty] at hfc2 g1
        have hcA : cA = gA G (cty (μ 0 0)) := Option.some.inj (hfc2.symm.trans hfc)
        subst hcA
        have hk := kk H1 locs lm (Rl_mak hR h1 z1 o1 ?_) (S_grow hS (by omega) o1) hL
        · show W p l e R s m args below meth c0 H1 locs (cells + 1) (slots + v.toNat) Q (F0 m (pc + 2) lm (.ref (adr G (μ 0 0)) :: tvs G r))
          rw [← toV_ref G (t := 40 + cty (μ 0 0)) (x := μ 0 0) (by omega) (by omega) (by omega)]
          exact hk
        · unfold Cel
          rw [if_neg hb, hln, g1]
          refine congrArg (fun f => some (arrV _ _ f)) (funext fun j => ?_)
          rw [mak_new]
          exact hdf
    rcases hcase with ⟨ea, e9⟩ | ⟨ea, e9⟩
    · subst ea
      exact hgo .int 0 rfl arrI (by show v.toNat * 4 ≤ _; omega) (by rw [e9]; exact (tyl_at hK 0 rfl).2) (by rw [e9]; rfl) (by omega)
    · subst ea
      exact hgo .boolean 1 rfl arrZ (by show v.toNat * 1 ≤ _; omega) (by rw [e9]; exact (tyl_at hK 1 rfl).2) (by rw [e9]; rfl) (by omega)
  · cases hc
theorem row27 {a w : Nat} {v : Int} {r : List VV} (hd : decode (mC k) pc = .ok (ins, len)) (hc : ch27 k ins len a w = true) (h1 : 1 ≤ μ 0 0) (hty : cty (μ 0 0) = a) (hln : cln (μ 0 0) = v) (h0 : 0 ≤ v) (hv : v ≤ 100000) :
    Row l G k pc ls ((0, v) :: r) μ (pc + len) ls ((40 + a, μ 0 0) :: r) (mak μ (μ 0 0)) := by
  subst hty
  have hrv : R32 v := ⟨by omega, by omega⟩
  unfold ch27 at hc
  split at hc
  · rename_i i
    simp only [Bool.and_eq_true, Bool.or_eq_true, beq_iff_eq, decide_eq_true_eq] at hc
    obtain ⟨rfl, hA⟩ := hc
    have hn90 : (μ 0 0).toNat < 90 := cty_in (by omega)
    intro p e R s m args below meth c0 Q H locs cells slots lm C hf hw hR hS hL hce hsl0 kk
    obtain ⟨e1, e2⟩ := cnt_mak h1 hn90
    rw [e1, e2, hln] at kk
    rw [e1] at hce
    rw [e2, hln] at hsl0
    obtain ⟨hx, hbb, hml, hrt, hlk2, hown, hts, hK, hn, hB, hN, hX⟩ := C
    have hgo : ∀ (C : String), wd w = some (.classLink (mY k).cls i C) → va_AO C s → va_RA s (gA G (cty (μ 0 0))) (.object C) → 10 ≤ stg (cty (μ 0 0)) ∧ stg (cty (μ 0 0)) < 40 → ¬ cty (μ 0 0) < 10 → cty (μ 0 0) < 30 →
        W p l e R s m args below meth c0 H locs cells slots Q (F0 m pc lm (tvs G ((0, v) :: r))) := by
      intro C hlk hAO hRA hsg hb hb2
      refine W.anew hx hbb hown (wd_ok hts hlk) (va_AO.use hAO) rfl hd rfl (fun q => ?_) (by rw [ix_nat hrv h0]; omega) hce (by rw [ix_nat hrv h0]; exact hsl0) fun cA kA comp f1 f2 f3 f4 => ?_
      · have := (i32_lt hrv z32).mp q
        omega
      · generalize hH1 : H.push ({ cls := cA, slots := Array.replicate (Int32.ofInt v).toNatClampNeg .null, vm := .none } : Cell) = H1
        have z1 : H1.size = H.size + 1 := by rw [← hH1, Array.size_push]
        have o1 : ∀ q, q < H.size → H1[q]? = H[q]? := fun q hq => by rw [← hH1, Array.getElem?_push, if_neg (Nat.ne_of_lt hq)]
        have g1 : H1[adr G (μ 0 0)]? = some (arrV cA v.toNat (fun _ => .null)) := by rw [← Rl_size hR, ← hH1, Array.getElem?_push_size, ix_nat hrv h0, ← arrV_new]
        have hcA : cA = gA G (cty (μ 0 0)) := by
          obtain ⟨_, _, _, _, _, k4⟩ := hRA
          exact Option.some.inj (f1.symm.trans k4)
        subst hcA
        have hk := kk H1 locs lm (Rl_mak hR h1 z1 o1 ?_) (S_grow hS (by omega) o1) hL
        · rw [ix_nat hrv h0]
          show W p l e R s m args below meth c0 H1 locs (cells + 1) (slots + v.toNat) Q (F0 m (pc + 3) lm (.ref H.size :: tvs G r))
          rw [Rl_size hR, ← toV_ref G (t := 40 + cty (μ 0 0)) (x := μ 0 0) (by omega) (by omega) (by omega)]
          exact hk
        · unfold Cel
          rw [if_neg hb, hln, g1]
          refine congrArg (fun f => some (arrV _ _ f)) (funext fun j => ?_)
          rw [mak_new, toV_r G (by omega) (by omega), if_pos rfl]
    rcases hA with ⟨e9, hlk⟩ | ⟨e9, hlk⟩
    · exact hgo RX1 hlk hN.2.1 (by rw [e9]; exact (tyl_at hK 2 rfl).2) (by rw [e9]; decide) (by omega) (by omega)
    · exact hgo RX0 hlk hN.2.2.1 (by rw [e9]; exact (tyl_at hK 3 rfl).2) (by rw [e9]; decide) (by omega) (by omega)
  · cases hc
theorem row29 {w t : Nat} {x : Int} {r : List VV} (hd : decode (mC k) pc = .ok (ins, len)) (hc : ch29 k ins len w = true) (ht : 40 ≤ t ∧ t < 50) (hx1 : 1 ≤ x) (hct : cats r ≤ 8) : Row l G k pc ls ((t, x) :: r) μ (pc + len) ls r μ := by
  refine Row.same fun p e R s m args below meth c Q H locs cells slots lm C hf hw hR hS hL kk => ?_
  obtain ⟨hx, hbb, hml, hrt, hlk2, hown, hts, hK, hn, hB, hN, hX⟩ := C
  unfold ch29 at hc
  split at hc
  · rename_i i
    simp only [Bool.and_eq_true, beq_iff_eq, decide_eq_true_eq] at hc
    obtain ⟨⟨⟨rfl, h1⟩, h2⟩, hlk⟩ := hc
    show W p l e R s m args below meth c H locs cells slots Q (F0 m pc lm (toV G t x :: tvs G r))
    rw [toV_ref G (by omega) (by omega) (by omega)]
    refine W.objInit hx hbb hown (wd_ok hts hlk) (hts _ objI) (hts _ objC) rfl (by rw [hml]; exact hL.2.1) rfl hd (Nat.le_trans h1 hf) ?_ (kk lm hL)
    have := tvs_cats G r
    show 2 * 0 + ((tvs G r).map fun v => v.category).sum + 12 ≤ R.locals
    omega
  · cases hc
theorem row30 {x i : Int} {r : List VV} (hd : decode (mC k) pc = .ok (ins, len)) (hc : ch30 k ins len = true) (hM : Mok G μ) (hr : R32 i) (hi : 0 ≤ i) (hl : i < μ 0 1) : Row l G k pc ls ((0, i) :: (99, x) :: r) μ (pc + len) ls ((0, μ (-1) i) :: r) μ := by
  refine Row.same fun p e R s m args below meth c Q H locs cells slots lm C hf hw hR hS hL kk => ?_
  obtain ⟨hx, hbb, hml, hrt, hlk2, hown, hts, hK, hn, hB, hN, hX⟩ := C
  unfold ch30 at hc
  split at hc
  · simp only [Bool.and_eq_true, beq_iff_eq] at hc
    obtain ⟨rfl, hk0⟩ := hc
    obtain ⟨h1, h2⟩ := hX hk0
    rw [hM.2.2.2.1] at hl
    refine va_sld hx hbb h2 (Nat.lt_of_lt_of_le h1 hB) (show ¬ AA G (gS G) from Nat.not_le.mpr h1) hS (ix_in hr hi (by omega)) hd ?_
    have hk := kk lm hL
    have e2 := hM.2.2.2.2.2 i.toNat (by omega)
    rw [show ((i.toNat : Nat) : Int) = i by omega] at e2
    rw [e2] at hk
    rw [ix_nat hr hi, ← Int32.ofInt_toInt (gX G i.toNat)]
    exact hk
  · cases hc
theorem row31 {x : Int} {r : List VV} (hd : decode (mC k) pc = .ok (ins, len)) (hc : ch31 k ins len = true) (hM : Mok G μ) : Row l G k pc ls ((99, x) :: r) μ (pc + len) ls ((0, μ 0 1) :: r) μ := by
  refine Row.same fun p e R s m args below meth c Q H locs cells slots lm C hf hw hR hS hL kk => ?_
  obtain ⟨hx, hbb, hml, hrt, hlk2, hown, hts, hK, hn, hB, hN, hX⟩ := C
  unfold ch31 at hc
  split at hc
  · simp only [Bool.and_eq_true, beq_iff_eq] at hc
    obtain ⟨rfl, hk0⟩ := hc
    obtain ⟨h1, h2⟩ := hX hk0
    refine va_slen hx hbb h2 (Nat.lt_of_lt_of_le h1 hB) (show ¬ AA G (gS G) from Nat.not_le.mpr h1) hS hd ?_
    have hk := kk lm hL
    rw [hM.2.2.2.1] at hk
    rw [← Int32.ofInt_eq_ofNat]
    exact hk
  · cases hc
theorem row32 {a w : Nat} {st' : List VV} {v : Int} {r : List VV} (hd : decode (mC k) pc = .ok (ins, len)) (hc : ch32 k ins len a w = true) (hct : cats r ≤ 8)
    (hst : (∃ x y : Int, R32 x ∧ R32 y ∧ st' = (0, y) :: (0, x) :: r ∧ ((a = 0 ∧ v = if x < y then y else x) ∨ (a = 1 ∧ v = if y < x then y else x))) ∨ (∃ x : Int, R32 x ∧ st' = (0, x) :: r ∧ a = 2 ∧ v = if 0 ≤ x then x else w32 (0 - x))) :
    Row l G k pc ls st' μ (pc + len) ls ((0, v) :: r) μ := by
  intro p e R s m args below meth c Q H locs cells slots lm C hf hw hR hS hL hce hsl0 kk
  rw [dc_same rfl, ds_same rfl] at kk
  rw [dc_same rfl] at hce
  rw [ds_same rfl] at hsl0
  have hk := kk H locs lm hR hS hL
  obtain ⟨hx, hbb, hml, hrt, hlk2, hown, hts, hK, hn, hB, hN, hX⟩ := C
  have hcs := tvs_cats G r
  unfold ch32 at hc
  split at hc
  · rename_i i
    simp only [Bool.and_eq_true, beq_iff_eq, decide_eq_true_eq] at hc
    obtain ⟨⟨⟨rfl, h1⟩, h2⟩, hlk⟩ := hc
    rcases hst with ⟨x, y, rx, ry, rfl, ⟨rfl, rfl⟩ | ⟨rfl, rfl⟩⟩ | ⟨x, rx, rfl, rfl, rfl⟩
    · simp only [decide_eq_true_eq] at hlk
      refine va_mmax hx hbb (by rw [hml]; exact hL.2.1.symm) hown (wd_ok hts hlk) (hts _ mxS) (hts _ mtI) (hts _ mxC) (Nat.le_trans h1 hf) (show ((tvs G r).map fun v => v.category).sum + 13 ≤ R.locals by omega) hce hsl0 hd ?_
      have e9 : (if Int32.ofInt x < Int32.ofInt y then Int32.ofInt y else Int32.ofInt x) = Int32.ofInt (if x < y then y else x) := by
        simp only [i32_lt rx ry]
        split <;> rfl
      rw [e9]; exact hk
    · simp only [decide_eq_true_eq] at hlk
      refine va_mmin hx hbb (by rw [hml]; exact hL.2.1.symm) hown (wd_ok hts hlk) (hts _ mnS) (hts _ mtI) (hts _ mnC) (Nat.le_trans h1 hf) (show ((tvs G r).map fun v => v.category).sum + 13 ≤ R.locals by omega) hce hsl0 hd ?_
      have e9 : (if Int32.ofInt y < Int32.ofInt x then Int32.ofInt y else Int32.ofInt x) = Int32.ofInt (if y < x then y else x) := by
        simp only [i32_lt ry rx]
        split <;> rfl
      rw [e9]; exact hk
    · simp only [decide_eq_true_eq] at hlk
      refine va_mabs hx hbb (by rw [hml]; exact hL.2.1.symm) hown (wd_ok hts hlk) (hts _ mbS) (hts _ mtI) (hts _ mbC) (Nat.le_trans h1 hf) (show ((tvs G r).map fun v => v.category).sum + 13 ≤ R.locals by omega) hce hsl0 hd ?_
      have e9 : (if 0 ≤ Int32.ofInt x then Int32.ofInt x else 0 - Int32.ofInt x) = Int32.ofInt (if 0 ≤ x then x else w32 (0 - x)) := by
        have hz : (0 ≤ Int32.ofInt x) ↔ 0 ≤ x := i32_le z32 rx
        by_cases q : 0 ≤ x
        · rw [if_pos (hz.mpr q), if_pos q]
        · rw [if_neg (fun z => q (hz.mp z)), if_neg q, i32_w, Int32.ofInt_sub]
          rfl
      rw [e9]; exact hk
  · cases hc
end New
