/-! ===== the step of the whole induction ===== -/
theorem mk2_00 {μ : MM} {o : Int} (h : 1 ≤ o) : mk2 μ 11 11 o 0 0 = o + 1 + 11 := by
  unfold mk2
  rw [if_neg (by omega), if_neg (by omega), if_pos ⟨rfl, rfl⟩]
theorem row28 {l : Launch} {G : GG} {k pc : Nat} {ls : List VV} {μ : MM} {ins : Instr} {len w : Nat} {r : List VV} (hd : decode (mC k) pc = .ok (ins, len)) (hc : ch28 k ins len w = true) (h27 : μ 0 0 = 27) :
    Row l G k pc ls ((0, 11) :: (0, 11) :: r) μ (pc + len) ls ((64, μ 0 0) :: r) (mk2 μ 11 11 (μ 0 0)) := by
  unfold ch28 at hc
  split at hc
  · rename_i i dd
    simp only [Bool.and_eq_true, beq_iff_eq, decide_eq_true_eq] at hc
    obtain ⟨⟨rfl, rfl⟩, hlk⟩ := hc
    intro p e R s m args below meth c0 Q H locs cells slots lm C hf hw hR hS hL hce hsl0 kk
    have e1 : dc μ (mk2 μ 11 11 (μ 0 0)) = 12 := by
      unfold dc
      rw [mk2_00 (by omega), h27]
      rfl
    have e2 : ds μ (mk2 μ 11 11 (μ 0 0)) = 132 := by
      unfold ds
      rw [mk2_00 (by omega), h27]
      decide +kernel
    rw [e1, e2] at kk
    rw [e1] at hce
    rw [e2] at hsl0
    obtain ⟨hx, hbb, hml, hrt, hlk2, hown, hts, hK, hn, hB, hN, hX⟩ := C
    obtain ⟨pM, cM, kM, m1, m0, m2, m3, m4⟩ := arrayOverA_spec hN.2.2.2
    obtain ⟨cI, kI, pI, i1, i2, i3⟩ := Cond.arrayClass_spec (hts _ arrI)
    have eI : pM = cI := Option.some.inj (m1.symm.trans i1)
    subst eI
    have eG24 : cM = gA G 24 := Option.some.inj (m4.symm.trans (tyl_at hK 4 rfl).2)
    have eG20 : pM = gA G 20 := Option.some.inj (i1.symm.trans (tyl_at hK 0 rfl).2)
    show W p l e R s m args below meth c0 H locs cells slots Q (F0 m pc lm (.int 11 :: .int 11 :: tvs G r))
    have hsz := Rl_size hR
    rw [h27] at hsz
    refine W.grid hx hbb hown (wd_ok hts hlk) m4 m2 m3 i2 i3 hd hce hsl0 (fun H' z1 o1 g1 g2 => ?_)
    have hadr : adr G 27 = H.size := hsz.symm
    have hadj : ∀ j : Nat, adr G (28 + (j : Int)) = H.size + 1 + j := fun j => by
      rw [← hadr]
      unfold adr
      omega
    have hk := kk H' locs lm ⟨?_, fun x hx1 hx2 => ?_⟩ (S_grow hS (by omega) o1) hL
    · rw [← hadr, ← toV_ref G (t := 64) (x := 27) (by omega) (by omega) (by omega)]
      rw [h27] at hk
      exact hk
    · rw [mk2_00 (by omega), z1, hR.1, h27]
      rfl
    · rw [mk2_00 (by omega), h27] at hx2
      rw [h27]
      by_cases e27 : x = 27
      · subst e27
        unfold Cel
        rw [if_neg (by decide), hadr, g1]
        have e24 : cty 27 = 24 := by decide
        have e11 : (cln 27).toNat = 11 := by decide
        rw [e24, e11, eG24]
        refine congrArg (fun f => some (arrV _ _ f)) (funext fun j => ?_)
        unfold mk2
        rw [if_pos rfl]
        by_cases hj : j < 11
        · rw [if_pos hj, if_pos ⟨by omega, by omega⟩, toV_ref G (by decide) (by decide) (by omega)]
          refine congrArg Value.ref ?_
          rw [show (27 : Int) + 1 + (j : Int) = 28 + (j : Int) by omega, hadj]
        · rw [if_neg hj, if_neg (by omega), toV_r G (by decide) (by decide), if_pos rfl]
      · by_cases e28 : 27 < x
        · obtain ⟨j, hj, hxj⟩ : ∃ j : Nat, j < 11 ∧ x = 28 + (j : Int) := ⟨(x - 28).toNat, by omega, by omega⟩
          have hty : cty x = 20 ∧ (cln x).toNat = 11 := by
            have : x = 28 ∨ x = 29 ∨ x = 30 ∨ x = 31 ∨ x = 32 ∨ x = 33 ∨ x = 34 ∨ x = 35 ∨ x = 36 ∨ x = 37 ∨ x = 38 := by omega
            rcases this with h | h | h | h | h | h | h | h | h | h | h <;> subst h <;> decide
          unfold Cel
          rw [if_neg (by rw [hty.1]; decide), hty.1, hty.2, hxj, hadj, g2 j hj, eG20]
          refine congrArg (fun f => some (arrV _ _ f)) (funext fun i => ?_)
          unfold mk2
          rw [if_neg (by omega), if_pos ⟨by omega, by omega⟩]
          rfl
        · refine ((hR.2 x hx1 (by omega)).congr (fun j => ?_)).kept (o1 _ ?_)
          · unfold mk2
            rw [if_neg e27, if_neg (by omega), if_neg (by omega)]
          · rw [hR.1]
            unfold adr
            omega
  · cases hc
theorem Mok_mk2 {G : GG} {μ : MM} (hM : Mok G μ) (h27 : μ 0 0 = 27) : Mok G (mk2 μ 11 11 (μ 0 0)) := by
  obtain ⟨a1, a2, a3, a4, a5, a6⟩ := hM
  rw [h27]
  have e0 : mk2 μ 11 11 27 0 0 = 39 := mk2_00 (by omega)
  refine ⟨by rw [e0]; omega, by rw [e0]; omega, ?_, ?_, a5, fun j hj => ?_⟩
  · intro y j hy1 hy2 hj
    rw [e0] at hy2 ⊢
    unfold mk2
    by_cases e : y = 27
    · subst e
      rw [if_pos rfl]
      have hj : (j : Int) < 11 := hj
      rw [if_pos ⟨by omega, by omega⟩]
      refine (okv_nul (show 10 ≤ 30 by omega) (by omega)).mpr (Or.inr ⟨by omega, by omega, ?_⟩)
      have hjj : j < 11 := by omega
      match j, hjj with
      | 0, _ => rfl
      | 1, _ => rfl
      | 2, _ => rfl
      | 3, _ => rfl
      | 4, _ => rfl
      | 5, _ => rfl
      | 6, _ => rfl
      | 7, _ => rfl
      | 8, _ => rfl
      | 9, _ => rfl
      | 10, _ => rfl
    · rw [if_neg e]
      by_cases e2 : 27 < y ∧ y ≤ 27 + 11
      · rw [if_pos e2]
        refine okv_zero (stag_ok ?_ hj)
        have : y = 28 ∨ y = 29 ∨ y = 30 ∨ y = 31 ∨ y = 32 ∨ y = 33 ∨ y = 34 ∨ y = 35 ∨ y = 36 ∨ y = 37 ∨ y = 38 := by omega
        rcases this with h | h | h | h | h | h | h | h | h | h | h <;> subst h <;> exact Or.inr ⟨by decide, by decide⟩
      · rw [if_neg e2, if_neg (by omega)]
        have := a3 y j hy1 (by omega) hj
        exact this.mono (by omega)
  · unfold mk2
    rw [if_neg (by omega), if_neg (by omega), if_neg (by omega)]
    exact a4
  · unfold mk2
    rw [if_neg (by omega), if_neg (by omega), if_neg (by omega)]
    exact a6 j hj
theorem ch20_use {k len a b c w : Nat} {z : Int} {sw : List (Int × Nat)} {ins : Instr} (hc : ch20 k ins len a b c w z sw = true) : sw = ((mL a : Int), (mP a).length) :: (mP a).map (fun t => ((0 : Int), t)) ∧ a ≠ 0 ∧ a < 273 ∧ c = if mT a = 3 then 0 else mT a := by
  have hC : ∃ i, chC k i a c w z sw = true := by
    unfold ch20 at hc
    split at hc
    · simp only [Bool.and_eq_true] at hc; exact ⟨_, hc.2⟩
    · simp only [Bool.and_eq_true] at hc; exact ⟨_, hc.2⟩
    · simp only [Bool.and_eq_true] at hc; exact ⟨_, hc.2⟩
    · cases hc
  obtain ⟨i, hC⟩ := hC
  unfold chC at hC
  simp only [Bool.and_eq_true, decide_eq_true_eq] at hC
  obtain ⟨⟨⟨⟨⟨⟨ha, h0⟩, hsw⟩, hcc⟩, hfr⟩, hlo⟩, hlk⟩ := hC
  exact ⟨hsw, h0, ha, hcc⟩
theorem snd_map (l : List Nat) : (l.map (fun t => ((0 : Int), t))).map Prod.snd = l := by
  rw [List.map_map]
  exact List.map_id l
theorem kil_len : ∀ (ks : List Nat) (ls : List VV), (kil ks ls).length = ls.length
  | [], _ => rfl
  | a :: r, ls => (kil_len r (ls.set a (9, 0))).trans List.length_set
theorem kil_okl {nc : Int} : ∀ (ks : List Nat) {ls : List VV}, (∀ v ∈ ls, okl nc v) → ∀ v ∈ kil ks ls, okl nc v
  | [], _, h => h
  | a :: r, _, h => kil_okl r (ok_set h (Or.inl rfl))
theorem kil_LR {G : GG} {n : Nat} {lm : Array Slot} : ∀ (ks : List Nat) {ls : List VV}, LR G n ls lm → LR G n (kil ks ls) lm
  | [], _, h => h
  | a :: r, ls, h => kil_LR r ⟨by rw [List.length_set]; exact h.1, h.2.1, h.2.2.1, fun i v hi h9 => by
      rw [List.getElem?_set] at hi
      by_cases e : a = i
      · rw [if_pos e] at hi
        split at hi
        · cases hi; exact absurd rfl h9
        · cases hi
      · rw [if_neg e] at hi
        exact h.2.2.2 i v hi h9⟩
theorem Pkg.kil {l : Launch} {G : GG} {k pc : Nat} {ls st : List VV} {μ μ' : MM} {r : Int} (ks : List Nat) (h : Pkg l G k pc (kil ks ls) st μ r μ') : Pkg l G k pc ls st μ r μ' :=
  ⟨h.1, h.2.1, h.2.2.1, fun p e R s m args below meth c Q H locs cells slots lm C hf hw hR hS hL hce hsl kk => h.2.2.2 p e R s m args below meth c Q H locs cells slots lm C hf hw hR hS (kil_LR ks hL) hce hsl kk⟩
theorem run_step {l : Launch} {G : GG} {X : XX} (hX : RunX l G X) : RunX l G (fun k pc ls st μ => match cod k pc with | none => none | some i => stp X k i (kil (kls k pc) ls) st μ) := by
  intro k pc ls0 st μ r μ' h hk hM hls hst hlen
  dsimp only at h
  refine Pkg.kil (kls k pc) ?_
  have hls := kil_okl (kls k pc) hls
  have hlen := (kil_len (kls k pc) ls0).trans hlen
  generalize kil (kls k pc) ls0 = ls at h hls hlen ⊢
  cases hcod : cod k pc with
  | none => rw [hcod] at h; cases h
  | some i =>
  rw [hcod] at h
  dsimp only at h
  obtain ⟨ins, len, hd, hc⟩ := cod_chk (ctall hk) hcod
  obtain ⟨op, nx, a, b, c, w, z, sw⟩ := i
  unfold chO at hc
  simp only [Bool.and_eq_true, decide_eq_true_eq] at hc
  obtain ⟨rfl, hc⟩ := hc
  have hgo : ∀ {nx : Nat} {ls' st' : List VV} {μ1 : MM}, X k nx ls' st' μ1 = some (r, μ') → Row l G k pc ls st μ nx ls' st' μ1 → μ 0 0 ≤ μ1 0 0 → Mok G μ1 → (∀ v ∈ ls', okl (μ1 0 0) v) → (∀ v ∈ st', okv (μ1 0 0) v.1 v.2) → ls'.length = mL k → Pkg l G k pc ls st μ r μ' :=
    fun h hr hle hM' hl' hs' hn' => Pkg.tail hr hle (hX _ _ _ _ _ _ _ h hk hM' hl' hs' hn')
  unfold stp at h
  dsimp only at h
  split at h
  -- 0
  · obtain ⟨hrow, hok⟩ := row0 (l := l) (G := G) (ls := ls) (st := st) (μ := μ) hd hc (μ 0 0)
    exact hgo h hrow (Int.le_refl _) hM hls (List.forall_mem_cons.mpr ⟨hok, hst⟩) hlen
  -- 1
  · unfold o1 at h
    split at h
    · rename_i v hv
      by_cases e : lod b v.1 = true
      · rw [if_pos e] at h
        refine hgo h (row1 hd hc hv e) (Int.le_refl _) hM hls (List.forall_mem_cons.mpr ⟨?_, hst⟩) hlen
        rcases hls v (List.mem_of_getElem? hv) with q | q
        · rw [q] at e
          simp [lod] at e
        · exact q
      · rw [if_neg e] at h; cases h
    · cases h
  -- 2
  · unfold o2 at h
    split at h
    · rename_i v r0
      have hv := hst v List.mem_cons_self
      have hr0 : ∀ u ∈ r0, okv (μ 0 0) u.1 u.2 := fun u hu => hst u (List.mem_cons_of_mem _ hu)
      by_cases e : lod b v.1 = true ∧ v.1 ≠ 99 ∧ a + (if b = 1 then 1 else 0) < ls.length ∧ (a = 0 ∨ (ls.getD (a - 1) (9, 0)).1 ≠ 1)
      · rw [if_pos e] at h
        refine hgo h (row2 hd hc e.1 e.2.2.1 e.2.2.2) (Int.le_refl _) hM ?_ hr0 ?_
        · split
          · exact ok_set (ok_set hls (Or.inr hv)) (Or.inl rfl)
          · exact ok_set hls (Or.inr hv)
        · split
          · rw [List.length_set, List.length_set]; exact hlen
          · rw [List.length_set]; exact hlen
      · rw [if_neg e] at h; cases h
    · cases h
  -- 3
  · unfold o3 at h
    split at h
    · rename_i v hv
      obtain ⟨t, x⟩ := v
      by_cases e : t = 0 ∧ (a = 0 ∨ (ls.getD (a - 1) (9, 0)).1 ≠ 1)
      · rw [if_pos e] at h
        obtain ⟨rfl, e2⟩ := e
        exact hgo h (row3 hd hc hv e2) (Int.le_refl _) hM (ok_set hls (Or.inr (w32_R _))) hst (by rw [List.length_set]; exact hlen)
      · rw [if_neg e] at h; cases h
    · cases h
  -- 4
  · unfold o4 at h
    split at h
    · rename_i y x r0
      obtain ⟨ty, y⟩ := y
      obtain ⟨tx, x⟩ := x
      have hr0 : ∀ u ∈ r0, okv (μ 0 0) u.1 u.2 := fun u hu => hst u (List.mem_cons_of_mem _ (List.mem_cons_of_mem _ hu))
      by_cases e : tx = 0 ∧ ty = 0
      · rw [if_pos e] at h
        obtain ⟨rfl, rfl⟩ := e
        exact hgo h (row4 hd hc) (Int.le_refl _) hM hls (List.forall_mem_cons.mpr ⟨bin_R _ _ _, hr0⟩) hlen
      · rw [if_neg e] at h; cases h
    · cases h
  -- 5
  · unfold o5 at h
    split at h
    · rename_i y x r0
      obtain ⟨ty, y⟩ := y
      obtain ⟨tx, x⟩ := x
      have hr0 : ∀ u ∈ r0, okv (μ 0 0) u.1 u.2 := fun u hu => hst u (List.mem_cons_of_mem _ (List.mem_cons_of_mem _ hu))
      have hy := hst _ List.mem_cons_self
      have hx := hst _ (List.mem_cons_of_mem _ List.mem_cons_self)
      by_cases e : tx = 0 ∧ ty = 0
      · rw [if_pos e] at h
        obtain ⟨rfl, rfl⟩ := e
        by_cases e2 : y = 0
        · rw [if_pos e2] at h; cases h
        · rw [if_neg e2] at h
          refine hgo h (row5 hd hc hx hy e2) (Int.le_refl _) hM hls (List.forall_mem_cons.mpr ⟨?_, hr0⟩) hlen
          show R32 (if a = 0 then w32 (Int.tdiv x y) else Int.tmod x y)
          split
          · exact w32_R _
          · exact tmod_R hx
      · rw [if_neg e] at h; cases h
    · cases h
  -- 6
  · unfold o6 at h
    split at h
    · rename_i y x r0
      obtain ⟨ty, y⟩ := y
      obtain ⟨tx, x⟩ := x
      have hr0 : ∀ u ∈ r0, okv (μ 0 0) u.1 u.2 := fun u hu => hst u (List.mem_cons_of_mem _ (List.mem_cons_of_mem _ hu))
      by_cases e : tx = 1 ∧ ty = 1
      · rw [if_pos e] at h
        obtain ⟨rfl, rfl⟩ := e
        refine hgo h (row6 hd hc) (Int.le_refl _) hM hls (List.forall_mem_cons.mpr ⟨?_, hr0⟩) hlen
        show R64 (if a = 0 then w64 (x + y) else w64 (x * y))
        split <;> exact w64_R _
      · rw [if_neg e] at h; cases h
    · cases h
  -- 7
  · unfold o7 at h
    split at h
    · rename_i y x r0
      obtain ⟨ty, y⟩ := y
      obtain ⟨tx, x⟩ := x
      have hr0 : ∀ u ∈ r0, okv (μ 0 0) u.1 u.2 := fun u hu => hst u (List.mem_cons_of_mem _ (List.mem_cons_of_mem _ hu))
      have hy := hst _ List.mem_cons_self
      have hx := hst _ (List.mem_cons_of_mem _ List.mem_cons_self)
      by_cases e : tx = 1 ∧ ty = 1
      · rw [if_pos e] at h
        obtain ⟨rfl, rfl⟩ := e
        by_cases e2 : y = 0
        · rw [if_pos e2] at h; cases h
        · rw [if_neg e2] at h
          refine hgo h (row7 hd hc hx hy e2) (Int.le_refl _) hM hls (List.forall_mem_cons.mpr ⟨?_, hr0⟩) hlen
          show R64 (if a = 0 then w64 (Int.tdiv x y) else Int.tmod x y)
          split
          · exact w64_R _
          · exact tmod_R64 hx
      · rw [if_neg e] at h; cases h
    · cases h
  -- 8
  · unfold o8 at h
    split at h
    · rename_i y x r0
      obtain ⟨ty, y⟩ := y
      obtain ⟨tx, x⟩ := x
      have hr0 : ∀ u ∈ r0, okv (μ 0 0) u.1 u.2 := fun u hu => hst u (List.mem_cons_of_mem _ (List.mem_cons_of_mem _ hu))
      have hy := hst _ List.mem_cons_self
      have hx := hst _ (List.mem_cons_of_mem _ List.mem_cons_self)
      by_cases e : tx = 1 ∧ ty = 1
      · rw [if_pos e] at h
        obtain ⟨rfl, rfl⟩ := e
        refine hgo h (row8 hd hc hx hy) (Int.le_refl _) hM hls (List.forall_mem_cons.mpr ⟨?_, hr0⟩) hlen
        show R32 (if x < y then -1 else if x = y then 0 else 1)
        unfold R32
        split
        · omega
        · split <;> omega
      · rw [if_neg e] at h; cases h
    · cases h
  -- 9
  · unfold o9 at h
    split at h
    · rename_i x r0
      obtain ⟨tx, x⟩ := x
      have hr0 : ∀ u ∈ r0, okv (μ 0 0) u.1 u.2 := fun u hu => hst u (List.mem_cons_of_mem _ hu)
      have hx := hst _ List.mem_cons_self
      by_cases e : tx = 0
      · rw [if_pos e] at h
        subst e
        have hx : R32 x := hx
        refine hgo h (row9 hd hc hx) (Int.le_refl _) hM hls (List.forall_mem_cons.mpr ⟨?_, hr0⟩) hlen
        split
        · exact w32_R _
        · show R64 x
          unfold R32 at hx
          exact ⟨by omega, by omega⟩
      · rw [if_neg e] at h; cases h
    · cases h
  -- 10
  · unfold o10 at h
    split at h
    · rename_i x r0
      obtain ⟨tx, x⟩ := x
      have hr0 : ∀ u ∈ r0, okv (μ 0 0) u.1 u.2 := fun u hu => hst u (List.mem_cons_of_mem _ hu)
      have hx := hst _ List.mem_cons_self
      by_cases e : tx = 0
      · rw [if_pos e] at h
        subst e
        obtain ⟨r1, r2⟩ := row10 (l := l) (G := G) (ls := ls) (r := r0) (μ := μ) hd hc hx
        rcases cmp_sel h with ⟨q, h⟩ | ⟨q, h⟩
        · exact hgo h (r1 q) (Int.le_refl _) hM hls hr0 hlen
        · exact hgo h (r2 q) (Int.le_refl _) hM hls hr0 hlen
      · rw [if_neg e] at h; cases h
    · cases h
  -- 11
  · unfold o11 at h
    split at h
    · rename_i y x r0
      obtain ⟨ty, y⟩ := y
      obtain ⟨tx, x⟩ := x
      have hr0 : ∀ u ∈ r0, okv (μ 0 0) u.1 u.2 := fun u hu => hst u (List.mem_cons_of_mem _ (List.mem_cons_of_mem _ hu))
      have hy := hst _ List.mem_cons_self
      have hx := hst _ (List.mem_cons_of_mem _ List.mem_cons_self)
      by_cases e : tx = 0 ∧ ty = 0
      · rw [if_pos e] at h
        obtain ⟨rfl, rfl⟩ := e
        obtain ⟨r1, r2⟩ := row11 (l := l) (G := G) (ls := ls) (r := r0) (μ := μ) hd hc hx hy
        rcases cmp_sel h with ⟨q, h⟩ | ⟨q, h⟩
        · exact hgo h (r1 q) (Int.le_refl _) hM hls hr0 hlen
        · exact hgo h (r2 q) (Int.le_refl _) hM hls hr0 hlen
      · rw [if_neg e] at h; cases h
    · cases h
  -- 12
  · unfold o12 at h
    split at h
    · rename_i x r0
      obtain ⟨tx, x⟩ := x
      have hr0 : ∀ u ∈ r0, okv (μ 0 0) u.1 u.2 := fun u hu => hst u (List.mem_cons_of_mem _ hu)
      by_cases e : tx = 8 ∨ (10 ≤ tx ∧ tx < 70)
      · rw [if_pos e] at h
        obtain ⟨r1, r2⟩ := row12 (l := l) (G := G) (ls := ls) (r := r0) (μ := μ) (x := x) hd hc e
        rcases cmp_sel h with ⟨q, h⟩ | ⟨q, h⟩
        · exact hgo h (r1 q) (Int.le_refl _) hM hls hr0 hlen
        · exact hgo h (r2 q) (Int.le_refl _) hM hls hr0 hlen
      · rw [if_neg e] at h; cases h
    · cases h
  -- 13
  · exact hgo h (row13 hd hc) (Int.le_refl _) hM hls hst hlen
  -- 14
  · unfold o14 at h
    split at h
    · rename_i x r0
      obtain ⟨tx, x⟩ := x
      have hr0 : ∀ u ∈ r0, okv (μ 0 0) u.1 u.2 := fun u hu => hst u (List.mem_cons_of_mem _ hu)
      have hx := hst _ List.mem_cons_self
      by_cases e : tx = 0
      · rw [if_pos e, swi_sel] at h
        subst e
        exact hgo h (row14 hd hc hx) (Int.le_refl _) hM hls hr0 hlen
      · rw [if_neg e] at h; cases h
    · cases h
  -- 15
  · unfold o15 at h
    split at h
    · rename_i x r0
      obtain ⟨tx, x⟩ := x
      have hr0 : ∀ u ∈ r0, okv (μ 0 0) u.1 u.2 := fun u hu => hst u (List.mem_cons_of_mem _ hu)
      have hx := hst _ List.mem_cons_self
      have hb : b < 10 := by
        have hc : ch15 k ins len a b c w = true := hc
        unfold ch15 at hc
        split at hc
        · simp only [Bool.and_eq_true] at hc
          have h2 := hc.2
          unfold chF at h2
          split at h2
          · rename_i r9 hr9
            exact Nat.lt_of_lt_of_le (List.getElem?_eq_some_iff.mp hr9).1 (show vwCl.length ≤ 10 by decide)
          · cases h2
        · cases hc
      obtain ⟨h, g1, g2, g3, g4, g5⟩ := rcv_ok h hb hx
      obtain ⟨hrow, e1, e2, e3⟩ := row15 (l := l) (G := G) (ls := ls) (r := r0) (μ := μ) hd hc g1 g2 g3 g4 g5
      refine hgo h hrow (Int.le_refl _) hM hls (List.forall_mem_cons.mpr ⟨?_, hr0⟩) hlen
      dsimp only at g1 g2 g3 g4 g5
      have hcx : cty x < 10 := by omega
      have hv := hM.2.2.1 x a g1 g2 (by rw [cln_obj hcx, g3]; omega)
      unfold stag at hv
      rw [if_pos hcx, g3, ← e1] at hv
      by_cases e4 : c = 3
      · rw [e4] at hv
        show okv (μ 0 0) (if c = 3 then 0 else c) (μ x a)
        rw [if_pos e4]
        rcases hv with q | q <;> rw [q] <;> exact ⟨by decide, by decide⟩
      · show okv (μ 0 0) (if c = 3 then 0 else c) (μ x a)
        rw [if_neg e4]; exact hv
    · cases h
  -- 16
  · unfold o16 at h
    split at h
    · rename_i v x r0
      obtain ⟨tv, v⟩ := v
      obtain ⟨tx, x⟩ := x
      have hr0 : ∀ u ∈ r0, okv (μ 0 0) u.1 u.2 := fun u hu => hst u (List.mem_cons_of_mem _ (List.mem_cons_of_mem _ hu))
      have hv := hst _ List.mem_cons_self
      have hx := hst _ (List.mem_cons_of_mem _ List.mem_cons_self)
      have hb : b < 10 := by
        have hc : ch16 k ins len a b c w = true := hc
        unfold ch16 at hc
        split at hc
        · simp only [Bool.and_eq_true] at hc
          have h2 := hc.1.2
          unfold chF at h2
          split at h2
          · rename_i r9 hr9
            exact Nat.lt_of_lt_of_le (List.getElem?_eq_some_iff.mp hr9).1 (show vwCl.length ≤ 10 by decide)
          · cases h2
        · cases hc
      obtain ⟨h, g1, g2, g3, g4, g5⟩ := rcv_ok h hb hx
      obtain ⟨h, c1, c2⟩ := cpt_ok (G := G) h hv
      obtain ⟨hrow, e1, e2, e3⟩ := row16 (l := l) (G := G) (ls := ls) (r := r0) (μ := μ) hd hc g1 g2 g3 g4 g5 c1 c2
      dsimp only at g1 g2 g3 g4 g5
      have hcx : cty x < 10 := by omega
      have e0 : (up μ x a v) 0 0 = μ 0 0 := by rw [up_0 g1]
      refine hgo h hrow (by rw [e0]; exact Int.le_refl _) (Mok_up hM g1 g2 (by omega) (by rw [cln_obj hcx, g3]; omega) ?_) (by rw [e0]; exact hls) (by rw [e0]; exact hr0) hlen
      unfold stag
      rw [if_pos hcx, g3, Int.toNat_natCast, ← e1]
      exact c1
    · cases h
  -- 17
  · unfold o17 at h
    split at h
    · rename_i ii x r0
      obtain ⟨ti, ii⟩ := ii
      obtain ⟨tx, x⟩ := x
      have hr0 : ∀ u ∈ r0, okv (μ 0 0) u.1 u.2 := fun u hu => hst u (List.mem_cons_of_mem _ (List.mem_cons_of_mem _ hu))
      have hi := hst _ List.mem_cons_self
      have hx := hst _ (List.mem_cons_of_mem _ List.mem_cons_self)
      by_cases e : ti = 0
      · rw [if_pos e] at h
        subst e
        obtain ⟨h, g1, g2, g3, g4, g5⟩ := rca_ok h hx
        dsimp only at g1 g2 g3 g4 g5
        by_cases e1 : akd a (cty x) = true
        · rw [if_pos e1] at h
          by_cases e2 : 0 ≤ ii ∧ ii < cln x
          · rw [if_pos e2] at h
            refine hgo h (row17 hd hc g1 g2 rfl g4 g5 e1 hi e2.1 e2.2) (Int.le_refl _) hM hls (List.forall_mem_cons.mpr ⟨?_, hr0⟩) hlen
            have hv := hM.2.2.1 x ii.toNat g1 g2 (by omega)
            rw [show ((ii.toNat : Nat) : Int) = ii by omega] at hv
            unfold stag at hv
            rw [if_neg (by omega)] at hv
            unfold stg at hv
            show okv (μ 0 0) (etg (cty x)) (μ x ii)
            by_cases e3 : cty x = 21
            · rw [if_pos e3] at hv
              rw [e3]
              rcases hv with q | q <;> rw [q] <;> exact ⟨by decide, by decide⟩
            · rw [if_neg e3] at hv; exact hv
          · rw [if_neg e2] at h; cases h
        · rw [if_neg e1] at h; cases h
      · rw [if_neg e] at h; cases h
    · cases h
  -- 18
  · unfold o18 at h
    split at h
    · rename_i v ii x r0
      obtain ⟨tv, v⟩ := v
      obtain ⟨ti, ii⟩ := ii
      obtain ⟨tx, x⟩ := x
      have hr0 : ∀ u ∈ r0, okv (μ 0 0) u.1 u.2 := fun u hu => hst u (List.mem_cons_of_mem _ (List.mem_cons_of_mem _ (List.mem_cons_of_mem _ hu)))
      have hv := hst _ List.mem_cons_self
      have hi := hst _ (List.mem_cons_of_mem _ List.mem_cons_self)
      have hx := hst _ (List.mem_cons_of_mem _ (List.mem_cons_of_mem _ List.mem_cons_self))
      by_cases e : ti = 0
      · rw [if_pos e] at h
        subst e
        obtain ⟨h, g1, g2, g3, g4, g5⟩ := rca_ok h hx
        dsimp only at g1 g2 g3 g4 g5
        by_cases e1 : ast a (cty x) tv = true
        · rw [if_pos e1] at h
          by_cases e2 : 0 ≤ ii ∧ ii < cln x
          · rw [if_pos e2] at h
            obtain ⟨h, c1, c2⟩ := cpt_ok (G := G) h hv
            have e0 : (up μ x ii v) 0 0 = μ 0 0 := by rw [up_0 g1]
            refine hgo h (row18 hd hc g1 g2 rfl g4 g5 e1 hi e2.1 e2.2 hv c1 c2) (by rw [e0]; exact Int.le_refl _) (Mok_up hM g1 g2 e2.1 e2.2 ?_) (by rw [e0]; exact hls) (by rw [e0]; exact hr0) hlen
            show okv (μ 0 0) (stag x ii.toNat) v
            unfold stag
            rw [if_neg (by omega)]
            exact c1
          · rw [if_neg e2] at h; cases h
        · rw [if_neg e1] at h; cases h
      · rw [if_neg e] at h; cases h
    · cases h
  -- 19
  · unfold o19 at h
    split at h
    · rename_i x r0
      obtain ⟨tx, x⟩ := x
      have hr0 : ∀ u ∈ r0, okv (μ 0 0) u.1 u.2 := fun u hu => hst u (List.mem_cons_of_mem _ hu)
      have hx := hst _ List.mem_cons_self
      obtain ⟨h, g1, g2, g3, g4, g5⟩ := rca_ok h hx
      exact hgo h (row19 hd hc g1 g2 g3 g4 g5) (Int.le_refl _) hM hls (List.forall_mem_cons.mpr ⟨(cln_R x).1, hr0⟩) hlen
    · cases h
  -- 20
  · obtain ⟨hsw, h0, ha, hcc⟩ := ch20_use hc
    have hc2 := hc
    rw [hsw] at h
    unfold o20 at h
    dsimp only at h
    by_cases e1 : (mP a).length ≤ st.length
    · rw [if_pos e1, snd_map, Int.toNat_natCast] at h
      unfold cal at h
      generalize hvs : (st.take (mP a).length).reverse = vs at h
      generalize hrs : st.drop (mP a).length = rest at h
      have hst' : st = vs.reverse ++ rest := by rw [← hvs, ← hrs, List.reverse_reverse, List.take_append_drop]
      have hvs' : ∀ v ∈ vs, okv (μ 0 0) v.1 v.2 := fun v hv => hst v (by rw [hst']; exact List.mem_append_left _ (List.mem_reverse.mpr hv))
      have hrs' : ∀ v ∈ rest, okv (μ 0 0) v.1 v.2 := fun v hv => hst v (by rw [hst']; exact List.mem_append_right _ hv)
      obtain ⟨h, c1, c2, c3, c4⟩ := cpa_ok (G := G) vs (mP a) h hvs'
      by_cases e2 : cats rest ≤ 8
      · rw [if_pos e2] at h
        cases ho : X a 0 (pad (mL a) (ent vs (mP a))) [] μ with
        | none => rw [ho] at h; cases h
        | some q =>
          obtain ⟨v, μ1⟩ := q
          rw [ho] at h
          have h : X k (pc + len) ls (if c = 9 then rest else (c, v) :: rest) μ1 = some (r, μ') := h
          obtain ⟨b1, b2, b3, b4, b5, b6, b7, b8, b9, b10⟩ := chM_use h0 ha
          have hPa := hX a 0 _ [] μ v μ1 ho ha hM (fun u hu => by
            unfold pad at hu
            rcases List.mem_append.mp hu with q | q
            · exact c2 u q
            · rw [(List.mem_replicate.mp q).2]; exact Or.inl rfl) (fun u hu => by cases hu) (by
            unfold pad
            rw [List.length_append, List.length_replicate, ent_len vs (mP a) c1]
            omega)
          obtain ⟨hrow, -⟩ := row20 (l := l) (G := G) (ls := ls) (rest := rest) hd hc2 c1 c3 c4 e2 hPa
          rw [← hst'] at hrow
          refine hgo h hrow hPa.1 hPa.2.1 (fun u hu => (hls u hu).imp id (fun q => q.mono hPa.1)) ?_ hlen
          by_cases e9 : c = 9
          · rw [if_pos e9]
            exact fun u hu => (hrs' u hu).mono hPa.1
          · rw [if_neg e9]
            refine List.forall_mem_cons.mpr ⟨?_, fun u hu => (hrs' u hu).mono hPa.1⟩
            show okv (μ1 0 0) c v
            rcases hPa.2.2.1 with q | q
            · exfalso
              rw [q] at hcc
              exact e9 hcc
            · by_cases e3 : mT a = 3
              · rw [if_pos e3] at hcc
                rw [e3] at q
                rw [hcc]
                rcases q with q | q <;> rw [q] <;> exact ⟨by decide, by decide⟩
              · rw [if_neg e3] at hcc
                rw [hcc]
                exact q
      · rw [if_neg e2] at h; cases h
    · rw [if_neg e1] at h; cases h
  -- 21
  · have hc : ch21 k ins len a c = true := hc
    unfold ch21 at hc
    simp only [Bool.and_eq_true, beq_iff_eq] at hc
    obtain ⟨hck, hc⟩ := hc
    have hend : ∀ (r0 : Int), len = 1 → ins = rin (mT k) → okr (μ 0 0) (mT k) r0 → tvs G st = rst G k r0 → Pkg l G k pc ls st μ r0 μ := by
      intro r0 h1 h2 h3 h4
      subst h1
      subst h2
      refine ⟨Int.le_refl _, hM, h3, ?_⟩
      intro p e R s m args below meth c0 Q H locs cells slots lm C hf hw hR hS hL hce hsl kk
      rw [h4]
      have := kk pc lm H locs hd hR hS
      rw [dc_same rfl, ds_same rfl] at this
      exact this
    unfold o21 at h
    split at h
    · cases h
      split at hc
      · simp only [Bool.and_eq_true, beq_iff_eq] at hc
        have h9 : mT k = 9 := by rw [← hck]; exact hc.2
        refine hend 0 hc.1.1 (by rw [h9]; rfl) (Or.inl h9) ?_
        unfold rst
        rw [if_pos h9]
        rfl
      · simp at hc
      · simp at hc
      · simp at hc
      · cases hc
    · cases h
    · rename_i v _
      obtain ⟨tv, v⟩ := v
      have hv := hst _ List.mem_cons_self
      obtain ⟨h, c1, c2⟩ := cpt_ok (G := G) h hv
      cases h
      have h9 : ¬ mT k = 9 := by rw [← hck]; exact c1.no9
      have hin : len = 1 ∧ ins = rin (mT k) := by
        unfold rin
        rw [← hck]
        split at hc
        · simp only [Bool.and_eq_true, beq_iff_eq] at hc
          exact absurd (hck.symm.trans hc.2) h9
        · simp only [Bool.and_eq_true, Bool.or_eq_true, beq_iff_eq] at hc
          refine ⟨hc.1, ?_⟩
          rw [if_neg (by omega), if_neg (by omega), if_pos (by omega)]
        · simp only [Bool.and_eq_true, beq_iff_eq] at hc
          refine ⟨hc.1.1, ?_⟩
          rw [if_neg (by omega), if_pos (by omega)]
        · simp only [Bool.and_eq_true, beq_iff_eq, decide_eq_true_eq] at hc
          refine ⟨hc.1.1.1, ?_⟩
          rw [if_neg (by omega), if_neg (by omega), if_neg (by omega)]
        · cases hc
      refine hend v hin.1 hin.2 (Or.inr (by rw [← hck]; exact c1)) ?_
      unfold rst
      rw [if_neg h9, ← hck, ← c2]
      rfl
    · cases h
  -- 22
  · unfold o22 at h
    split at h
    · rename_i v r0
      have hv := hst _ List.mem_cons_self
      by_cases e : v.1 = 1
      · rw [if_pos e] at h; cases h
      · rw [if_neg e] at h
        exact hgo h (row22 hd hc e) (Int.le_refl _) hM hls (List.forall_mem_cons.mpr ⟨hv, hst⟩) hlen
    · cases h
  -- 23
  · unfold o23 at h
    split at h
    · rename_i v u r0
      have hv := hst _ List.mem_cons_self
      have hu := hst _ (List.mem_cons_of_mem _ List.mem_cons_self)
      by_cases e : v.1 = 1 ∨ u.1 = 1
      · rw [if_pos e] at h; cases h
      · rw [if_neg e] at h
        exact hgo h (row23 hd hc (fun q => e (Or.inl q)) (fun q => e (Or.inr q))) (Int.le_refl _) hM hls (List.forall_mem_cons.mpr ⟨hv, List.forall_mem_cons.mpr ⟨hu, hst⟩⟩) hlen
    · cases h
  -- 24
  · unfold o24 at h
    split at h
    · rename_i v r0
      by_cases e : v.1 = 1
      · rw [if_pos e] at h; cases h
      · rw [if_neg e] at h
        exact hgo h (row24 hd hc e) (Int.le_refl _) hM hls (fun u hu => hst u (List.mem_cons_of_mem _ hu)) hlen
    · cases h
  -- 25
  · unfold o25 at h
    by_cases e : cty (μ 0 0) = a ∧ cln (μ 0 0) = (fnum a : Nat)
    · rw [if_pos e] at h
      obtain ⟨hrow, ha⟩ := row25 (l := l) (G := G) (ls := ls) (st := st) hd hc hM.1 e.1
      have hn : (μ 0 0).toNat < 90 := cty_in (by omega)
      have e0 : mak μ (μ 0 0) 0 0 = μ 0 0 + 1 := mak_00 hM.1
      refine hgo h hrow (by rw [e0]; omega) (Mok_mak hM hn (Or.inl (by omega))) ?_ ?_ hlen
      · rw [e0]; exact fun v hv => (hls v hv).imp id (fun q => q.mono (by omega))
      · rw [e0]
        refine List.forall_mem_cons.mpr ⟨(okv_ref (by omega) (by omega)).mpr ⟨hM.1, (show μ 0 0 < μ 0 0 + 1 by omega), (show cty (μ 0 0) + 40 = 40 + a by omega)⟩, fun v hv => (hst v hv).mono (by omega)⟩
    · rw [if_neg e] at h; cases h
  -- 26
  · unfold o26 at h
    split at h
    · rename_i v r0
      obtain ⟨tv, v⟩ := v
      by_cases e : tv = 0 ∧ 0 ≤ v ∧ v ≤ 100000 ∧ cty (μ 0 0) = a ∧ cln (μ 0 0) = v
      · rw [if_pos e] at h
        obtain ⟨rfl, f1, f2, f3, f4⟩ := e
        have hty : 20 ≤ a ∧ a ≤ 21 := by
          have hc : ch26 ins len a = true := hc
          unfold ch26 at hc
          split at hc
          · simp only [Bool.and_eq_true, beq_iff_eq] at hc
            have h2 := hc.2
            split at h2 <;> simp at h2 <;> omega
          · cases hc
        have hn : (μ 0 0).toNat < 90 := cty_in (by omega)
        have e0 : mak μ (μ 0 0) 0 0 = μ 0 0 + 1 := mak_00 hM.1
        refine hgo h (row26 hd hc hM.1 f3 f4 f1 f2) (by rw [e0]; omega) (Mok_mak hM hn (Or.inr (by omega))) ?_ ?_ hlen
        · rw [e0]; exact fun v hv => (hls v hv).imp id (fun q => q.mono (by omega))
        · rw [e0]
          refine List.forall_mem_cons.mpr ⟨(okv_ref (by omega) (by omega)).mpr ⟨hM.1, (show μ 0 0 < μ 0 0 + 1 by omega), (show cty (μ 0 0) + 40 = 40 + a by omega)⟩, fun v hv => (hst v (List.mem_cons_of_mem _ hv)).mono (by omega)⟩
      · rw [if_neg e] at h; cases h
    · cases h
  -- 27
  · unfold o26 at h
    split at h
    · rename_i v r0
      obtain ⟨tv, v⟩ := v
      by_cases e : tv = 0 ∧ 0 ≤ v ∧ v ≤ 100000 ∧ cty (μ 0 0) = a ∧ cln (μ 0 0) = v
      · rw [if_pos e] at h
        obtain ⟨rfl, f1, f2, f3, f4⟩ := e
        have hty : 22 ≤ a ∧ a ≤ 23 := by
          have hc : ch27 k ins len a w = true := hc
          unfold ch27 at hc
          split at hc
          · simp only [Bool.and_eq_true, Bool.or_eq_true, beq_iff_eq] at hc
            omega
          · cases hc
        have hn : (μ 0 0).toNat < 90 := cty_in (by omega)
        have e0 : mak μ (μ 0 0) 0 0 = μ 0 0 + 1 := mak_00 hM.1
        refine hgo h (row27 hd hc hM.1 f3 f4 f1 f2) (by rw [e0]; omega) (Mok_mak hM hn (Or.inr (by omega))) ?_ ?_ hlen
        · rw [e0]; exact fun v hv => (hls v hv).imp id (fun q => q.mono (by omega))
        · rw [e0]
          refine List.forall_mem_cons.mpr ⟨(okv_ref (by omega) (by omega)).mpr ⟨hM.1, (show μ 0 0 < μ 0 0 + 1 by omega), (show cty (μ 0 0) + 40 = 40 + a by omega)⟩, fun v hv => (hst v (List.mem_cons_of_mem _ hv)).mono (by omega)⟩
      · rw [if_neg e] at h; cases h
    · cases h
  -- 28
  · unfold o28 at h
    split at h
    · rename_i v u r0
      obtain ⟨tv, v⟩ := v
      obtain ⟨tu, u⟩ := u
      by_cases e : tv = 0 ∧ tu = 0 ∧ v = 11 ∧ u = 11 ∧ μ 0 0 = 27
      · rw [if_pos e] at h
        obtain ⟨rfl, rfl, rfl, rfl, h27⟩ := e
        have e0 : mk2 μ 11 11 (μ 0 0) 0 0 = μ 0 0 + 1 + 11 := mk2_00 hM.1
        refine hgo h (row28 hd hc h27) (by rw [e0]; omega) (Mok_mk2 hM h27) ?_ ?_ hlen
        · rw [e0]; exact fun v hv => (hls v hv).imp id (fun q => q.mono (by omega))
        · rw [e0]
          refine List.forall_mem_cons.mpr ⟨(okv_ref (by omega) (by omega)).mpr ⟨hM.1, by omega, by rw [h27]; rfl⟩, fun v hv => (hst v (List.mem_cons_of_mem _ (List.mem_cons_of_mem _ hv))).mono (by omega)⟩
      · rw [if_neg e] at h; cases h
    · cases h
  -- 29
  · unfold o29 at h
    split at h
    · rename_i v r0
      obtain ⟨tv, v⟩ := v
      have hv := hst _ List.mem_cons_self
      by_cases e : 40 ≤ tv ∧ tv < 50 ∧ cats r0 ≤ 8
      · rw [if_pos e] at h
        have hr := (okv_ref (by omega) (by omega)).mp hv
        exact hgo h (row29 hd hc ⟨e.1, e.2.1⟩ hr.1 e.2.2) (Int.le_refl _) hM hls (fun u hu => hst u (List.mem_cons_of_mem _ hu)) hlen
      · rw [if_neg e] at h; cases h
    · cases h
  -- 30
  · unfold o30 at h
    split at h
    · rename_i ii x r0
      obtain ⟨ti, ii⟩ := ii
      obtain ⟨tx, x⟩ := x
      have hi := hst _ List.mem_cons_self
      have hr0 : ∀ u ∈ r0, okv (μ 0 0) u.1 u.2 := fun u hu => hst u (List.mem_cons_of_mem _ (List.mem_cons_of_mem _ hu))
      by_cases e : ti = 0 ∧ tx = 99 ∧ 0 ≤ ii ∧ ii < μ 0 1
      · rw [if_pos e] at h
        obtain ⟨rfl, rfl, f1, f2⟩ := e
        refine hgo h (row30 hd hc hM hi f1 f2) (Int.le_refl _) hM hls (List.forall_mem_cons.mpr ⟨?_, hr0⟩) hlen
        have f3 := hM.2.2.2.1
        have e2 := hM.2.2.2.2.2 ii.toNat (by omega)
        rw [show ((ii.toNat : Nat) : Int) = ii by omega] at e2
        show R32 (μ (-1) ii)
        rw [e2]
        exact i32_R _
      · rw [if_neg e] at h; cases h
    · cases h
  -- 31
  · unfold o31 at h
    split at h
    · rename_i x r0
      obtain ⟨tx, x⟩ := x
      have hr0 : ∀ u ∈ r0, okv (μ 0 0) u.1 u.2 := fun u hu => hst u (List.mem_cons_of_mem _ hu)
      by_cases e : tx = 99
      · rw [if_pos e] at h
        subst e
        refine hgo h (row31 hd hc hM) (Int.le_refl _) hM hls (List.forall_mem_cons.mpr ⟨?_, hr0⟩) hlen
        show R32 (μ 0 1)
        have f3 := hM.2.2.2.1
        have f4 := hM.2.2.2.2.1
        exact ⟨by omega, by omega⟩
      · rw [if_neg e] at h; cases h
    · cases h
  -- 32
  · unfold o32 at h
    split at h
    · rename_i y x r0
      obtain ⟨ty, y⟩ := y
      obtain ⟨tx, x⟩ := x
      have hr0 : ∀ u ∈ r0, okv (μ 0 0) u.1 u.2 := fun u hu => hst u (List.mem_cons_of_mem _ (List.mem_cons_of_mem _ hu))
      have hy := hst _ List.mem_cons_self
      have hx := hst _ (List.mem_cons_of_mem _ List.mem_cons_self)
      by_cases e : tx = 0 ∧ ty = 0 ∧ cats r0 ≤ 8
      · rw [if_pos e] at h
        obtain ⟨rfl, rfl, e3⟩ := e
        refine hgo h (row32 hd hc e3 (Or.inl ⟨x, y, hx, hy, rfl, Or.inl ⟨rfl, rfl⟩⟩)) (Int.le_refl _) hM hls (List.forall_mem_cons.mpr ⟨?_, hr0⟩) hlen
        show R32 (if x < y then y else x)
        split
        · exact hy
        · exact hx
      · rw [if_neg e] at h; cases h
    · rename_i y x r0
      obtain ⟨ty, y⟩ := y
      obtain ⟨tx, x⟩ := x
      have hr0 : ∀ u ∈ r0, okv (μ 0 0) u.1 u.2 := fun u hu => hst u (List.mem_cons_of_mem _ (List.mem_cons_of_mem _ hu))
      have hy := hst _ List.mem_cons_self
      have hx := hst _ (List.mem_cons_of_mem _ List.mem_cons_self)
      by_cases e : tx = 0 ∧ ty = 0 ∧ cats r0 ≤ 8
      · rw [if_pos e] at h
        obtain ⟨rfl, rfl, e3⟩ := e
        refine hgo h (row32 hd hc e3 (Or.inl ⟨x, y, hx, hy, rfl, Or.inr ⟨rfl, rfl⟩⟩)) (Int.le_refl _) hM hls (List.forall_mem_cons.mpr ⟨?_, hr0⟩) hlen
        show R32 (if y < x then y else x)
        split
        · exact hy
        · exact hx
      · rw [if_neg e] at h; cases h
    · rename_i x r0
      obtain ⟨tx, x⟩ := x
      have hr0 : ∀ u ∈ r0, okv (μ 0 0) u.1 u.2 := fun u hu => hst u (List.mem_cons_of_mem _ hu)
      have hx := hst _ List.mem_cons_self
      by_cases e : tx = 0 ∧ cats r0 ≤ 8
      · rw [if_pos e] at h
        obtain ⟨rfl, e3⟩ := e
        refine hgo h (row32 hd hc e3 (Or.inr ⟨x, hx, rfl, rfl, rfl⟩)) (Int.le_refl _) hM hls (List.forall_mem_cons.mpr ⟨?_, hr0⟩) hlen
        show R32 (if 0 ≤ x then x else w32 (0 - x))
        split
        · exact hx
        · exact w32_R _
      · rw [if_neg e] at h; cases h
    · cases h
  · cases h
theorem ev_run {l : Launch} {G : GG} : ∀ n, RunX l G (ev n)
  | 0 => fun _ _ _ _ _ _ _ h => by cases h
  | n + 1 => run_step (ev_run n)
theorem EE_run {l : Launch} {G : GG} : RunX l G EE := fun k pc ls st μ r μ' h => by
  obtain ⟨n, hn⟩ := EE_to h
  exact ev_run n k pc ls st μ r μ' hn
