/-! ===== every instruction, and so the whole program ===== -/
theorem cpt_ok {G : GG} {nc : Int} {t : Nat} {x : Int} {p : Nat} {K : RR} {q : Int × MM} (h : cpt t x p K = some q) (hv : okv nc t x) : K = some q ∧ okv nc p x ∧ toV G t x = toV G p x := by
  unfold cpt at h
  by_cases e1 : t = p
  · rw [if_pos e1] at h; subst e1; exact ⟨h, hv, rfl⟩
  rw [if_neg e1] at h
  by_cases e2 : p = 3
  · rw [if_pos e2] at h
    subst e2
    by_cases e3 : t = 0
    · rw [if_pos e3] at h
      subst e3
      by_cases e4 : x = 0 ∨ x = 1
      · rw [if_pos e4] at h; exact ⟨h, e4, rfl⟩
      · rw [if_neg e4] at h; cases h
    · rw [if_neg e3] at h; cases h
  rw [if_neg e2] at h
  by_cases e5 : 10 ≤ p ∧ p < 40
  · rw [if_pos e5] at h
    by_cases e6 : t = p + 30 ∨ t = 8
    · rw [if_pos e6] at h
      rcases e6 with e6 | e6
      · have hr := (okv_ref (by omega) (by omega)).mp hv
        exact ⟨h, (okv_nul e5.1 e5.2).mpr (Or.inr ⟨hr.1, hr.2.1, by omega⟩), by rw [toV_ref G (by omega) (by omega) (by omega), toV_ref G (by omega) (by omega) (by omega)]⟩
      · subst e6
        have hx : x = 0 := hv
        exact ⟨h, (okv_nul e5.1 e5.2).mpr (Or.inl hx), by rw [toV_r G (by omega) (by omega), toV_r G (by omega) (by omega)]⟩
    · rw [if_neg e6] at h; cases h
  rw [if_neg e5] at h
  by_cases e7 : 40 ≤ p ∧ p < 70
  · rw [if_pos e7] at h
    by_cases e8 : t + 30 = p
    · rw [if_pos e8] at h
      by_cases e9 : x = 0
      · rw [if_pos e9] at h; cases h
      · rw [if_neg e9] at h
        have hr := (okv_nul (by omega) (by omega)).mp hv
        rcases hr with hr | hr
        · exact absurd hr e9
        · exact ⟨h, (okv_ref e7.1 e7.2).mpr ⟨hr.1, hr.2.1, by omega⟩, by rw [toV_ref G (by omega) (by omega) e9, toV_ref G (by omega) (by omega) e9]⟩
    · rw [if_neg e8] at h; cases h
  rw [if_neg e7] at h
  cases h
theorem cpa_ok {G : GG} {nc : Int} {K : RR} {q : Int × MM} : ∀ (vs : List VV) (ps : List Nat), cpa vs ps K = some q → (∀ v ∈ vs, okv nc v.1 v.2) → K = some q ∧ vs.length = ps.length ∧ (∀ v ∈ ent vs ps, okl nc v) ∧ tvs G vs = argv G vs ps ∧ (∀ v p, vs.head? = some v → ps.head? = some p → okv nc p v.2)
  | [], [], h, _ => ⟨h, rfl, (fun _ h => by cases h), rfl, (fun _ _ h => by cases h)⟩
  | v :: vs, p :: ps, h, hv => by
    obtain ⟨h1, h2, h3⟩ := cpt_ok (G := G) (K := cpa vs ps K) h (hv v List.mem_cons_self)
    obtain ⟨a1, a2, a3, a4, -⟩ := cpa_ok (G := G) vs ps h1 (fun u hu => hv u (List.mem_cons_of_mem _ hu))
    refine ⟨a1, by simp [a2], ?_, ?_, ?_⟩
    · unfold ent
      by_cases e : p = 1
      · rw [if_pos e]
        subst e
        intro u hu
        rcases List.mem_cons.mp hu with e | hu
        · subst e; exact Or.inr h2
        · rcases List.mem_cons.mp hu with e | hu
          · subst e; exact Or.inl rfl
          · exact a3 u hu
      · rw [if_neg e]
        intro u hu
        rcases List.mem_cons.mp hu with e | hu
        · subst e; exact Or.inr h2
        · exact a3 u hu
    · show toV G v.1 v.2 :: tvs G vs = toV G p v.2 :: argv G vs ps
      rw [h3, a4]
    · intro u p' hu hp
      cases hu
      cases hp
      exact h2
  | [], _ :: _, h, _ => by cases h
  | _ :: _, [], h, _ => by cases h
theorem rcv_ok {nc : Int} {t : Nat} {x : Int} {b : Nat} {K : RR} {q : Int × MM} (h : rcv t x b K = some q) (hb : b < 10) (hv : okv nc t x) : K = some q ∧ 1 ≤ x ∧ x < nc ∧ cty x = b ∧ 8 ≤ t ∧ t ≠ 99 := by
  unfold rcv at h
  by_cases e1 : t = 40 + b
  · rw [if_pos e1] at h
    have hr := (okv_ref (by omega) (by omega)).mp hv
    exact ⟨h, hr.1, hr.2.1, by omega, by omega, by omega⟩
  rw [if_neg e1] at h
  by_cases e2 : t = 10 + b
  · rw [if_pos e2] at h
    by_cases e3 : x = 0
    · rw [if_pos e3] at h; cases h
    · rw [if_neg e3] at h
      rcases (okv_nul (by omega) (by omega)).mp hv with hr | hr
      · exact absurd hr e3
      · exact ⟨h, hr.1, hr.2.1, by omega, by omega, by omega⟩
  rw [if_neg e2] at h
  cases h
theorem rca_ok {nc : Int} {t : Nat} {x : Int} {K : Nat → RR} {q : Int × MM} (h : rca t x K = some q) (hv : okv nc t x) : K (cty x) = some q ∧ 1 ≤ x ∧ x < nc ∧ (20 ≤ cty x ∧ cty x ≤ 24) ∧ 8 ≤ t ∧ t ≠ 99 := by
  unfold rca at h
  by_cases e1 : 60 ≤ t ∧ t ≤ 64
  · rw [if_pos e1] at h
    have hr := (okv_ref (by omega) (by omega)).mp hv
    have e : t - 40 = cty x := by omega
    rw [e] at h
    exact ⟨h, hr.1, hr.2.1, by omega, by omega, by omega⟩
  rw [if_neg e1] at h
  by_cases e2 : 30 ≤ t ∧ t ≤ 34
  · rw [if_pos e2] at h
    by_cases e3 : x = 0
    · rw [if_pos e3] at h; cases h
    · rw [if_neg e3] at h
      rcases (okv_nul (by omega) (by omega)).mp hv with hr | hr
      · exact absurd hr e3
      · have e : t - 10 = cty x := by omega
        rw [e] at h
        exact ⟨h, hr.1, hr.2.1, by omega, by omega, by omega⟩
  rw [if_neg e2] at h
  cases h
theorem ok_set {nc : Int} {ls : List VV} {a : Nat} {v : VV} (h : ∀ w ∈ ls, okl nc w) (hv : okl nc v) : ∀ w ∈ ls.set a v, okl nc w := fun w hw => by
  rcases List.mem_or_eq_of_mem_set hw with q | q
  · exact h w q
  · rw [q]; exact hv
theorem Mok_up {G : GG} {μ : MM} {x v : Int} {i : Int} (hM : Mok G μ) (h1 : 1 ≤ x) (h2 : x < μ 0 0) (hi : 0 ≤ i) (hl : i < cln x) (hv : okv (μ 0 0) (stag x i.toNat) v) : Mok G (up μ x i v) := by
  obtain ⟨a1, a2, a3, a4, a5, a6⟩ := hM
  refine ⟨by rw [up_0 h1]; exact a1, by rw [up_0 h1]; exact a2, ?_, by rw [up_0 h1]; exact a4, a5, fun j hj => by rw [up_m h1]; exact a6 j hj⟩
  intro y j hy1 hy2 hj
  rw [up_0 h1] at hy2 ⊢
  by_cases e : y = x
  · subst e
    rw [up_at]
    by_cases e2 : (j : Int) = i
    · rw [if_pos e2]
      have e3 : i.toNat = j := by omega
      rw [e3] at hv
      exact hv
    · rw [if_neg e2]; exact a3 y j hy1 hy2 hj
  · rw [up_ne e]; exact a3 y j hy1 hy2 hj
theorem FT_ok : ∀ f ∈ FT, ∀ t ∈ f, t = 0 ∨ t = 1 ∨ t = 3 ∨ (10 ≤ t ∧ t < 40) := by decide +kernel
theorem stag_ok {x : Int} {j : Nat} (hc : cty x < 10 ∨ (20 ≤ cty x ∧ cty x ≤ 24)) (hj : (j : Int) < cln x) : stag x j = 0 ∨ stag x j = 1 ∨ stag x j = 3 ∨ (10 ≤ stag x j ∧ stag x j < 40) := by
  unfold stag
  by_cases e : cty x < 10
  · rw [if_pos e]
    rw [cln_obj e] at hj
    have hj : j < fnum (cty x) := by omega
    unfold fnum at hj
    unfold ftg
    cases hq : FT[cty x]? with
    | none =>
      rw [List.getD_eq_getElem?_getD, hq] at hj
      exact absurd hj (Nat.not_lt_zero _)
    | some f =>
      have hfd : FT.getD (cty x) [] = f := by rw [List.getD_eq_getElem?_getD, hq]; rfl
      rw [hfd] at hj ⊢
      have hf := List.mem_of_getElem? hq
      rw [List.getD_eq_getElem?_getD, List.getElem?_eq_getElem hj]
      exact FT_ok f hf f[j] (List.getElem_mem hj)
  · rw [if_neg e]
    have : cty x = 20 ∨ cty x = 21 ∨ cty x = 22 ∨ cty x = 23 ∨ cty x = 24 := by omega
    rcases this with e | e | e | e | e <;> rw [e] <;> decide
theorem okv_zero {nc : Int} {t : Nat} (h : t = 0 ∨ t = 1 ∨ t = 3 ∨ (10 ≤ t ∧ t < 40)) : okv nc t 0 := by
  rcases h with h | h | h | h
  · subst h; exact z32
  · subst h; exact ⟨by decide, by decide⟩
  · subst h; exact Or.inl rfl
  · exact (okv_nul h.1 h.2).mpr (Or.inl rfl)
theorem Mok_mak {G : GG} {μ : MM} (hM : Mok G μ) (hn : (μ 0 0).toNat < 90) (hc : cty (μ 0 0) < 10 ∨ (20 ≤ cty (μ 0 0) ∧ cty (μ 0 0) ≤ 24)) : Mok G (mak μ (μ 0 0)) := by
  obtain ⟨a1, a2, a3, a4, a5, a6⟩ := hM
  refine ⟨by rw [mak_00 a1]; omega, by rw [mak_00 a1]; omega, ?_, by rw [mak_01 a1]; exact a4, a5, fun j hj => by rw [mak_ne (by omega) (by omega)]; exact a6 j hj⟩
  intro y j hy1 hy2 hj
  rw [mak_00 a1] at hy2 ⊢
  by_cases e : y = μ 0 0
  · subst e
    rw [mak_new]
    exact okv_zero (stag_ok hc hj)
  · rw [mak_ne e (by omega)]
    exact (a3 y j hy1 (by omega) hj).mono (by omega)
def RunX (l : Launch) (G : GG) (X : XX) : Prop := ∀ (k pc : Nat) (ls st : List VV) (μ : MM) (r : Int) (μ' : MM), X k pc ls st μ = some (r, μ') → k < 273 → Mok G μ → (∀ v ∈ ls, okl (μ 0 0) v) → (∀ v ∈ st, okv (μ 0 0) v.1 v.2) → ls.length = mL k → Pkg l G k pc ls st μ r μ'
theorem tvs_app (G : GG) (a b : List VV) : tvs G (a ++ b) = tvs G a ++ tvs G b := List.map_append
theorem tvs_rev (G : GG) (a : List VV) : tvs G a.reverse = (tvs G a).reverse := List.map_reverse
theorem GoodK {a : Nat} (h0 : a ≠ 0) (ha : a < 273) : GoodIn gws (wsK a) := fun w hw => by
  rcases List.mem_cons.mp hw with e | h
  · subst e
    exact ⟨gws_in (cd_ok h0 ha), good_of_word rfl⟩
  · exact ⟨h, good_of_word (List.mem_filter.mp h).2⟩
theorem row20 {l : Launch} {G : GG} {k pc len a b c w : Nat} {z : Int} {sw : List (Int × Nat)} {ls vs rest : List VV} {μ μ1 : MM} {v : Int} {ins : Instr} (hd : decode (mC k) pc = .ok (ins, len)) (hc : ch20 k ins len a b c w z sw = true)
    (hlen : vs.length = (mP a).length) (hargs : tvs G vs = argv G vs (mP a)) (hhd : ∀ u p, vs.head? = some u → (mP a).head? = some p → okv (μ 0 0) p u.2) (hct : cats rest ≤ 8) (hP : Pkg l G a 0 (pad (mL a) (ent vs (mP a))) [] μ v μ1) :
    Row l G k pc ls (vs.reverse ++ rest) μ (pc + len) ls (if c = 9 then rest else (c, v) :: rest) μ1 ∧ (c = if mT a = 3 then 0 else mT a) ∧ a ≠ 0 ∧ a < 273 ∧ sw = ((mL a : Int), (mP a).length) :: (mP a).map (fun t => ((0 : Int), t)) := by
  have hC : ∃ i, chC k i a c w z sw = true ∧ len = 3 ∧ ((ins = .invokestatic i ∧ mK a = 0) ∨ (ins = .invokevirtual i ∧ mK a = 1) ∨ (ins = .invokespecial i ∧ mK a = 2)) := by
    unfold ch20 at hc
    split at hc
    · simp only [Bool.and_eq_true, beq_iff_eq] at hc
      exact ⟨_, hc.2, hc.1.1.1, Or.inl ⟨rfl, hc.1.2⟩⟩
    · simp only [Bool.and_eq_true, beq_iff_eq] at hc
      exact ⟨_, hc.2, hc.1.1.1, Or.inr (Or.inl ⟨rfl, hc.1.2⟩)⟩
    · simp only [Bool.and_eq_true, beq_iff_eq] at hc
      exact ⟨_, hc.2, hc.1.1.1, Or.inr (Or.inr ⟨rfl, hc.1.2⟩)⟩
    · cases hc
  clear hc
  obtain ⟨i, hC, rfl, hk⟩ := hC
  unfold chC at hC
  simp only [Bool.and_eq_true, decide_eq_true_eq] at hC
  obtain ⟨⟨⟨⟨⟨⟨ha, h0⟩, hsw⟩, hcc⟩, hfr⟩, hlo⟩, hlk⟩ := hC
  refine ⟨?_, hcc, h0, ha, hsw⟩
  obtain ⟨b1, b2, b3, b4, b5, b6, b7, b8, b9, b10⟩ := chM_use h0 ha
  have hM := met_of h0 ha hlen hP
  intro p e R s m args below meth c0 Q H locs cells slots lm C hf hw hR hS hL hce hsl kk
  obtain ⟨hx, hbb, hml, hrt, hlk2, hown, hts, hK, hn, hB, hN, hX⟩ := C
  have hgood := GoodK h0 ha
  have hini : (Cond.initialized (mY a).cls).before args s = true := wd_ok hts b5
  have hroom : (rmK a μ μ1).frames + 1 ≤ R.frames ∧ 8 + (mL a + 11) + (rmK a μ μ1).locals ≤ R.locals := ⟨Nat.le_trans hfr hf, Nat.le_trans hlo hw⟩
  have hpush : (rvl G a v).toList ++ tvs G rest = tvs G (if c = 9 then rest else (c, v) :: rest) := by
    unfold rvl
    by_cases e9 : mT a = 9
    · rw [if_pos e9, if_pos (by rw [hcc, e9]; rfl)]; rfl
    · rw [if_neg e9]
      have hc9 : ¬ c = 9 := by
        rw [hcc]
        by_cases e3 : mT a = 3
        · rw [if_pos e3]; decide
        · rw [if_neg e3]; exact e9
      rw [if_neg hc9]
      have : toV G c v = toV G (mT a) v := by
        rw [hcc]
        by_cases e3 : mT a = 3
        · rw [if_pos e3, e3]; rfl
        · rw [if_neg e3]
      show toV G (mT a) v :: tvs G rest = toV G c v :: tvs G rest
      rw [this]
  have hkk : ∀ (H' : Heap) (locs' : List Loc), Rl G μ1 H' → va_S (AA G) s.heap H' locs' → W p l e R s m args below meth c0 H' locs' (cells + dc μ μ1) (slots + ds μ μ1) Q (F0 m (pc + 3) lm ((rvl G a v).toList ++ tvs G rest)) := fun H' locs' h1 h2 => by
    rw [hpush]
    exact kk H' locs' lm h1 h2 hL
  have hcat : 2 * (F0 m pc lm (tvs G (vs.reverse ++ rest))).monitorRoom + ((tvs G rest).map fun v => v.category).sum ≤ 8 := lv_room (by rw [tvs_cats]; exact hct)
  have hPc : ∀ U : State, U.heap = H → s.WarmedH U.vm → PcK G (argv G vs (mP a)) μ (argv G vs (mP a)).toArray U := fun U hU hW => ⟨rfl, by rw [hU]; exact hR, va_K.moved hW.alike hK, NW.warm hW hN⟩
  have hfix : CallFix p m c0 (mC k) (mL k) s args gws (mY k).cls := ⟨hx, hbb, hml, hown, hts⟩
  have hnl : ∀ (q : Nat), (mP a).length = q + 1 → vs = vs.head?.toList ++ vs.tail := fun q hq => by
    cases vs with
    | nil => simp at hlen; omega
    | cons u us => rfl
  have hnest : z ≠ 0 → va_Nw (.methodLinkNest (mY k).cls i (mY a) "ScaffoldYard") s := fun hz => by
    rw [if_neg hz] at hlk
    simp only [decide_eq_true_eq] at hlk
    exact hN.1 _ (List.mem_of_getElem? hlk) rfl
  have hplain : z = 0 → (Cond.methodLink (mY k).cls i (mY a)).before args s = true := fun hz => by
    rw [if_pos hz] at hlk
    simp only [decide_eq_true_eq] at hlk
    exact wd_ok hts hlk
  rcases hk with ⟨rfl, hk⟩ | ⟨rfl, hk⟩ | ⟨rfl, hk⟩
  · rw [hk] at b4 b6
    simp only [decide_eq_true_eq] at b6
    have hst := wd_ok hts b6
    have hdd : (mY a).cls ≠ "java/lang/invoke/MethodHandle" ∧ (mY a).cls ≠ "java/lang/invoke/VarHandle" ∧ (parseMethodDescriptor (mY a).desc).map (fun d => d.parameters.length) = some (mP a).length := ⟨b2, b3, b4⟩
    have hstk : (F0 m pc lm (tvs G (vs.reverse ++ rest))).stack = (argv G vs (mP a)).reverse ++ tvs G rest := by
      show tvs G (vs.reverse ++ rest) = _
      rw [tvs_app, tvs_rev, hargs]
    have hal : (argv G vs (mP a)).length = (mP a).length := by rw [← hargs]; unfold tvs; rw [List.length_map]; exact hlen
    by_cases hz : z = 0
    · exact go_call (va_runS hfix hM ⟨callB_of (mP a).length hts hgood rfl rfl rfl hini (hplain hz) hdd hroom, hst⟩ ⟨PcK_blind, hPc⟩ rfl hal hL.2.1 hstk hcat hd ⟨hce, hsl⟩) hS hkk
    · exact go_call (va_runSN hfix hM ⟨va_cnB (mP a).length hts hgood rfl rfl rfl (hnest hz) hini hdd hroom, hst, trivial⟩ ⟨PcK_blind, hPc⟩ rfl hal hL.2.1 hstk hcat hd ⟨hce, hsl⟩) hS hkk
  · rw [hk] at b4 b6 b10
    simp only [Bool.and_eq_true, decide_eq_true_eq] at b6
    obtain ⟨t, ps, hp⟩ : ∃ t ps, mP a = t :: ps := by
      cases hq : mP a with
      | nil => rw [hq] at b10; simp at b10
      | cons t ps => exact ⟨t, ps, rfl⟩
    obtain ⟨r9, hr9, hr1, ht1, ht2⟩ : ∃ r9 : vw_C, vwCl[t - 40]? = some r9 ∧ r9.1 = (mY a).cls ∧ 40 ≤ t ∧ t < 50 := by
      rw [hp] at b10
      simp only [List.headD_cons, Bool.or_eq_true, beq_iff_eq] at b10
      rcases b10 with q | q
      · omega
      · split at q
        · rename_i r8 hr8
          simp only [Bool.and_eq_true, decide_eq_true_eq] at q
          exact ⟨r8, hr8, q.1.1.1, of_decide_eq_true q.1.1.2, of_decide_eq_true q.1.2⟩
        · cases q
    rw [hp] at hM hPc hargs hlen hhd b4
    obtain ⟨u, us, hvs⟩ : ∃ u us, vs = u :: us := by
      cases hq : vs with
      | nil => rw [hq] at hlen; simp at hlen
      | cons u us => exact ⟨u, us, rfl⟩
    subst hvs
    have hu := (okv_ref (by omega) (by omega)).mp (hhd u t rfl rfl)
    have huc : cty u.2 = t - 40 := by omega
    have hur : toV G t u.2 = .ref (adr G u.2) := toV_ref G (by omega) (by omega) (by omega)
    have hav : argv G (u :: us) (t :: ps) = .ref (adr G u.2) :: argv G us ps := by
      show toV G t u.2 :: argv G us ps = _
      rw [hur]
    have hav2 : toV G u.1 u.2 = .ref (adr G u.2) ∧ tvs G us = argv G us ps := by
      have h9 : toV G u.1 u.2 :: tvs G us = .ref (adr G u.2) :: argv G us ps := hargs.trans hav
      exact ⟨(List.cons.inj h9).1, (List.cons.inj h9).2⟩
    rw [hav] at hM hPc
    have hl2 : us.length = ps.length := by simpa using hlen
    have hal : (argv G us ps).length = ps.length := by rw [← hav2.2]; unfold tvs; rw [List.length_map]; exact hl2
    have hdd : (mY a).cls ≠ "java/lang/invoke/MethodHandle" ∧ (mY a).cls ≠ "java/lang/invoke/VarHandle" ∧ (parseMethodDescriptor (mY a).desc).map (fun d => d.parameters.length) = some ps.length := ⟨b2, b3, by rw [b4]; rfl⟩
    have hstk : (F0 m pc lm (tvs G ((u :: us).reverse ++ rest))).stack = (argv G us ps).reverse ++ .ref (adr G u.2) :: tvs G rest := by
      show tvs G ((u :: us).reverse ++ rest) = _
      rw [tvs_app, tvs_rev]
      show (toV G u.1 u.2 :: tvs G us).reverse ++ tvs G rest = _
      rw [hav2.1, hav2.2, List.reverse_cons, List.append_assoc]
      rfl
    have hcel := hR.2 u.2 hu.1 hu.2.1
    unfold Cel at hcel
    rw [if_pos (by omega), huc] at hcel
    obtain ⟨r8, hr8, cell, q1, q2, q3, -⟩ := hcel
    have hpv : PreV s H (mY a).cls (adr G u.2) (PcK G (.ref (adr G u.2) :: argv G us ps) μ) (argv G us ps) := ⟨PcK_blind, ⟨cell, q1, by rw [q3]; rfl, by rw [q2, ← hr1]; exact (hK.1 _ _ hr9).2.1⟩, hPc⟩
    have hin := wd_ok hts b6.1
    have hse := wd_ok hts b6.2
    by_cases hz : z = 0
    · exact go_call (va_runV hfix hM ⟨callB_of ps.length hts hgood rfl rfl rfl hini (hplain hz) hdd hroom, hin, hse⟩ hpv rfl hal hL.2.1 hstk hcat hd ⟨hce, hsl⟩) hS hkk
    · exact go_call (va_runVN hfix hM ⟨va_cnB ps.length hts hgood rfl rfl rfl (hnest hz) hini hdd hroom, hin, hse⟩ hpv rfl hal hL.2.1 hstk hcat hd ⟨hce, hsl⟩) hS hkk
  · rw [hk] at b4 b6 b10
    simp only [Bool.and_eq_true, decide_eq_true_eq, beq_iff_eq] at b6
    obtain ⟨t, ps, hp⟩ : ∃ t ps, mP a = t :: ps := by
      cases hq : mP a with
      | nil => rw [hq] at b10; simp at b10
      | cons t ps => exact ⟨t, ps, rfl⟩
    obtain ⟨r9, hr9, hr1, ht1, ht2⟩ : ∃ r9 : vw_C, vwCl[t - 40]? = some r9 ∧ r9.1 = (mY a).cls ∧ 40 ≤ t ∧ t < 50 := by
      rw [hp] at b10
      simp only [List.headD_cons, Bool.or_eq_true, beq_iff_eq] at b10
      rcases b10 with q | q
      · omega
      · split at q
        · rename_i r8 hr8
          simp only [Bool.and_eq_true, decide_eq_true_eq] at q
          exact ⟨r8, hr8, q.1.1.1, of_decide_eq_true q.1.1.2, of_decide_eq_true q.1.2⟩
        · cases q
    rw [hp] at hM hPc hargs hlen hhd b4
    obtain ⟨u, us, hvs⟩ : ∃ u us, vs = u :: us := by
      cases hq : vs with
      | nil => rw [hq] at hlen; simp at hlen
      | cons u us => exact ⟨u, us, rfl⟩
    subst hvs
    have hu := (okv_ref (by omega) (by omega)).mp (hhd u t rfl rfl)
    have huc : cty u.2 = t - 40 := by omega
    have hur : toV G t u.2 = .ref (adr G u.2) := toV_ref G (by omega) (by omega) (by omega)
    have hav : argv G (u :: us) (t :: ps) = .ref (adr G u.2) :: argv G us ps := by
      show toV G t u.2 :: argv G us ps = _
      rw [hur]
    have hav2 : toV G u.1 u.2 = .ref (adr G u.2) ∧ tvs G us = argv G us ps := by
      have h9 : toV G u.1 u.2 :: tvs G us = .ref (adr G u.2) :: argv G us ps := hargs.trans hav
      exact ⟨(List.cons.inj h9).1, (List.cons.inj h9).2⟩
    rw [hav] at hM hPc
    have hl2 : us.length = ps.length := by simpa using hlen
    have hal : (argv G us ps).length = ps.length := by rw [← hav2.2]; unfold tvs; rw [List.length_map]; exact hl2
    have hdd : (mY a).cls ≠ "java/lang/invoke/MethodHandle" ∧ (mY a).cls ≠ "java/lang/invoke/VarHandle" ∧ (parseMethodDescriptor (mY a).desc).map (fun d => d.parameters.length) = some ps.length := ⟨b2, b3, by rw [b4]; rfl⟩
    have hstk : (F0 m pc lm (tvs G ((u :: us).reverse ++ rest))).stack = (argv G us ps).reverse ++ .ref (adr G u.2) :: tvs G rest := by
      show tvs G ((u :: us).reverse ++ rest) = _
      rw [tvs_app, tvs_rev]
      show (toV G u.1 u.2 :: tvs G us).reverse ++ tvs G rest = _
      rw [hav2.1, hav2.2, List.reverse_cons, List.append_assoc]
      rfl
    have hin := wd_ok hts b6.1.1
    have hrn : mR a = none := by
      rw [b6.2] at b7
      unfold rtk at b7
      split at b7
      · rename_i e9; exact e9
      all_goals first | (cases b7; done) | (simp at b7)
    have hgood2 : GoodIn gws (wsK a) := hgood
    have hws : wsK a = .code (mY a) (mC a) (mL a) none :: gws := by unfold wsK; rw [hrn]
    by_cases hz : z = 0
    · exact go_call (va_runI hfix hM ⟨callB_of ps.length hts hgood2 hws rfl rfl hini (hplain hz) hdd hroom, b6.1.2, hin⟩ ⟨PcK_blind, hPc⟩ rfl hal hL.2.1 hstk hcat hd ⟨hce, hsl⟩) hS hkk
    · exact go_call (va_runIN hfix hM ⟨va_cnB ps.length hts hgood2 hws rfl rfl (hnest hz) hini hdd hroom, b6.1.2, hin⟩ ⟨PcK_blind, hPc⟩ rfl hal hL.2.1 hstk hcat hd ⟨hce, hsl⟩) hS hkk
