/-! the law's loop, and the claim -/
section LL7
variable {M : MM} {G : GG}
theorem law_loop (l : Launch) (h0 : M 0 0 = 90) (hL : (gL G : Int) ≤ 2560) : ∀ i j, i ≤ j → 0 ≤ j → ∀ μ, Inv M μ → Mok G μ → ∃ μ', EE 0 18 [(99, 0), (47, 1), (48, 71), (0, j)] [] μ = some (1, μ') := by
  refine up_ind ((gL G : Int) - 4) (fun i hi j ij j0 μ hI hM => ?_) (fun i hi ih j ij j0 μ hI hM => ?_)
  · have e := hM.len
    rw [q0_18, w32_l (by omega) (by omega), if_pos (by omega)]
    exact ⟨μ, rfl⟩
  · have e := hM.len
    by_cases z : i + 1 ≤ j
    · exact ih j z j0 μ hI hM
    · have ej : j = i := by omega
      subst ej
      have go0 : ∀ μ2, Inv M μ2 → Mok G μ2 → ∃ μ', EE 0 1790 [(99, 0), (47, 1), (48, 71), (0, j)] [] μ2 = some (1, μ') := by
        intro μ2 a b
        rw [q0_1790, w32_l (by omega) (by omega)]
        exact ih (j + 5) (by omega) (by omega) μ2 a b
      have go : ∀ pc, NXT M G μ j pc → ∃ μ', EE 0 pc [(99, 0), (47, 1), (48, 71), (0, j)] [] μ = some (1, μ') := by
        intro pc ⟨μ2, a, b, c⟩
        rw [a]
        exact go0 μ2 b c
      rw [q0_18, w32_l (by omega) (by omega), if_neg (by omega), sci_k _ j0 (by omega)]
      generalize bin 3 (μ (-1) j) 63 = t
      by_cases e0 : t = 0
      · rw [if_pos e0]
        exact go 220 (lc_0 l hI hM h0 j0 (by omega) (by omega))
      rw [if_neg e0]
      by_cases e1 : t = 1
      · rw [if_pos e1]
        exact go 263 (lc_1 l hI hM h0 j0 (by omega) (by omega))
      rw [if_neg e1]
      by_cases e2 : t = 2
      · rw [if_pos e2]
        exact go 316 (lc_2 l hI hM h0 j0 (by omega) (by omega))
      rw [if_neg e2]
      by_cases e3 : t = 3
      · rw [if_pos e3]
        exact go 369 (lc_3 l hI hM h0 j0 (by omega) (by omega))
      rw [if_neg e3]
      by_cases e4 : t = 4
      · rw [if_pos e4]
        exact go 422 (lc_4 l hI hM h0 j0 (by omega) (by omega))
      rw [if_neg e4]
      by_cases e5 : t = 5
      · rw [if_pos e5]
        exact go 465 (lc_5 l hI hM h0 j0 (by omega) (by omega))
      rw [if_neg e5]
      by_cases e6 : t = 6
      · rw [if_pos e6]
        exact go 488 (lc_6 l hI hM h0 j0 (by omega) (by omega))
      rw [if_neg e6]
      by_cases e7 : t = 7
      · rw [if_pos e7]
        exact go 521 (lc_7 l hI hM h0 j0 (by omega) (by omega))
      rw [if_neg e7]
      by_cases e8 : t = 8
      · rw [if_pos e8]
        exact go 554 (lc_8 l hI hM h0 j0 (by omega) (by omega))
      rw [if_neg e8]
      by_cases e9 : t = 9
      · rw [if_pos e9]
        exact go 607 (lc_9 l hI hM h0 j0 (by omega) (by omega))
      rw [if_neg e9]
      by_cases e10 : t = 10
      · rw [if_pos e10]
        exact go 660 (lc_10 l hI hM h0 j0 (by omega) (by omega))
      rw [if_neg e10]
      by_cases e11 : t = 11
      · rw [if_pos e11]
        exact go 713 (lc_11 l hI hM h0 j0 (by omega) (by omega))
      rw [if_neg e11]
      by_cases e12 : t = 12
      · rw [if_pos e12]
        exact go 746 (lc_12 l hI hM h0 j0 (by omega) (by omega))
      rw [if_neg e12]
      by_cases e13 : t = 13
      · rw [if_pos e13]
        exact go 759 (lc_13 l hI hM h0 j0 (by omega) (by omega))
      rw [if_neg e13]
      by_cases e14 : t = 14
      · rw [if_pos e14]
        exact go 792 (lc_14 l hI hM h0 j0 (by omega) (by omega))
      rw [if_neg e14]
      by_cases e15 : t = 15
      · rw [if_pos e15]
        exact go 835 (lc_15 l hI hM h0 j0 (by omega) (by omega))
      rw [if_neg e15]
      by_cases e16 : t = 16
      · rw [if_pos e16]
        exact go 878 (lc_16 l hI hM h0 j0 (by omega) (by omega))
      rw [if_neg e16]
      by_cases e17 : t = 17
      · rw [if_pos e17]
        exact go 931 (lc_17 l hI hM h0 j0 (by omega) (by omega))
      rw [if_neg e17]
      by_cases e18 : t = 18
      · rw [if_pos e18]
        exact go 964 (lc_18 l hI hM h0 j0 (by omega) (by omega))
      rw [if_neg e18]
      by_cases e19 : t = 19
      · rw [if_pos e19]
        exact go 1008 (lc_19 l hI hM h0 j0 (by omega) (by omega))
      rw [if_neg e19]
      by_cases e20 : t = 20
      · rw [if_pos e20]
        exact go 1051 (lc_20 l hI hM h0 j0 (by omega) (by omega))
      rw [if_neg e20]
      by_cases e21 : t = 21
      · rw [if_pos e21]
        exact go 1074 (lc_21 l hI hM h0 j0 (by omega) (by omega))
      rw [if_neg e21]
      by_cases e22 : t = 22
      · rw [if_pos e22]
        exact go 1107 (lc_22 l hI hM h0 j0 (by omega) (by omega))
      rw [if_neg e22]
      by_cases e23 : t = 23
      · rw [if_pos e23]
        exact go 1140 (lc_23 l hI hM h0 j0 (by omega) (by omega))
      rw [if_neg e23]
      by_cases e24 : t = 24
      · rw [if_pos e24]
        exact go 1173 (lc_24 l hI hM h0 j0 (by omega) (by omega))
      rw [if_neg e24]
      by_cases e25 : t = 25
      · rw [if_pos e25]
        exact go 1196 (lc_25 l hI hM h0 j0 (by omega) (by omega))
      rw [if_neg e25]
      by_cases e26 : t = 26
      · rw [if_pos e26]
        exact go 1239 (lc_26 l hI hM h0 j0 (by omega) (by omega))
      rw [if_neg e26]
      by_cases e27 : t = 27
      · rw [if_pos e27]
        exact go 1272 (lc_27 l hI hM h0 j0 (by omega) (by omega))
      rw [if_neg e27]
      by_cases e28 : t = 28
      · rw [if_pos e28]
        exact go 1305 (lc_28 l hI hM h0 j0 (by omega) (by omega))
      rw [if_neg e28]
      by_cases e29 : t = 29
      · rw [if_pos e29]
        exact go 1338 (lc_29 l hI hM h0 j0 (by omega) (by omega))
      rw [if_neg e29]
      by_cases e30 : t = 30
      · rw [if_pos e30]
        exact go 1381 (lc_30 l hI hM h0 j0 (by omega) (by omega))
      rw [if_neg e30]
      by_cases e31 : t = 31
      · rw [if_pos e31]
        exact go 1414 (lc_31 l hI hM h0 j0 (by omega) (by omega))
      rw [if_neg e31]
      by_cases e32 : t = 32
      · rw [if_pos e32]
        exact go 1437 (lc_32 l hI hM h0 j0 (by omega) (by omega))
      rw [if_neg e32]
      by_cases e33 : t = 33
      · rw [if_pos e33]
        exact go 1450 (lc_33 l hI hM h0 j0 (by omega) (by omega))
      rw [if_neg e33]
      by_cases e34 : t = 34
      · rw [if_pos e34]
        exact go 1493 (lc_34 l hI hM h0 j0 (by omega) (by omega))
      rw [if_neg e34]
      by_cases e35 : t = 35
      · rw [if_pos e35]
        exact go 1526 (lc_35 l hI hM h0 j0 (by omega) (by omega))
      rw [if_neg e35]
      by_cases e36 : t = 36
      · rw [if_pos e36]
        exact go 1569 (lc_36 l hI hM h0 j0 (by omega) (by omega))
      rw [if_neg e36]
      by_cases e37 : t = 37
      · rw [if_pos e37]
        exact go 1592 (lc_37 l hI hM h0 j0 (by omega) (by omega))
      rw [if_neg e37]
      by_cases e38 : t = 38
      · rw [if_pos e38]
        exact go 1605 (lc_38 l hI hM h0 j0 (by omega) (by omega))
      rw [if_neg e38]
      by_cases e39 : t = 39
      · rw [if_pos e39]
        exact go 1648 (lc_39 l hI hM h0 j0 (by omega) (by omega))
      rw [if_neg e39]
      by_cases e40 : t = 40
      · rw [if_pos e40]
        exact go 1691 (lc_40 l hI hM h0 j0 (by omega) (by omega))
      rw [if_neg e40]
      by_cases e41 : t = 41
      · rw [if_pos e41]
        exact go 1724 (lc_41 l hI hM h0 j0 (by omega) (by omega))
      rw [if_neg e41]
      by_cases e42 : t = 42
      · rw [if_pos e42]
        exact go 1767 (lc_42 l hI hM h0 j0 (by omega) (by omega))
      rw [if_neg e42]
      exact go0 μ hI hM
theorem law_ends (l : Launch) {L : Nat} {xs : Nat → Int32} (hL : L ≤ 2560) : ∃ μ', EE 0 0 [(99, 0), (9, 0), (9, 0), (9, 0)] [] (mu0 L xs) = some (1, μ') := by
  generalize hG : (((((fun _ => 0), (fun _ _ => 0)), (fun _ => 0), 0, 0, L, xs)) : GG) = G
  have hGL : gL G = L := by rw [← hG]
  have hGX : gX G = xs := by rw [← hG]
  have m0 : mu0 L xs 0 0 = 1 := rfl
  have hM : Mok G (mu0 L xs) := by
    refine ⟨by rw [m0]; decide, by rw [m0]; decide, fun x j h1 h2 => ?_, by rw [hGL]; rfl, by rw [hGL]; omega, fun j hj => ?_⟩
    · rw [m0] at h2
      omega
    · rw [hGX]
      rfl
  have hM1 : Mok G (mak (mu0 L xs) 1) := Mok_mak hM (by rw [m0]; decide) (by rw [m0]; decide)
  have n1 : mak (mu0 L xs) 1 0 0 = 2 := mak_0 _ (by decide)
  obtain ⟨a1, a2⟩ := e_102 n1
  have hM2 := (keepS l a1 (by decide) hM1 (fmc (okl_47 (by omega)) (fmc okl_9 fmn)) rfl).2
  have hM3 : Mok G (mak (yALL (mak (mu0 L xs) 1)) 71) := by
    have := Mok_mak hM2 (by rw [a2]; decide) (by rw [a2]; decide)
    rw [a2] at this
    exact this
  have n3 : mak (yALL (mak (mu0 L xs) 1)) 71 0 0 = 72 := mak_0 _ (by decide)
  have a4 := e_158 n3
  have hM4 : Mok G (zS (mu0 L xs)) := (keepS l a4 (by decide) hM3 (fmc (okl_48 (by omega)) (fmc okl_9 fmn)) rfl).2
  have h90 : zS (mu0 L xs) 0 0 = 90 := by
    unfold zS zA
    rw [FLL_nc _ (by decide), FLL_nc _ (by decide), FLL_nc _ (by decide), n_z2]
  rw [q0_0, m0, nwc_ok _ (by decide), a1, bnd_s, a2, nwc_ok _ (by decide), a4, bnd_s]
  exact law_loop l h90 (by rw [hGL]; omega) 0 0 (by decide) (by decide) (zS (mu0 L xs)) zS_Inv hM4
theorem whole_start {p : Program} {e : Env} {s : State} {m : MethodId} {below : List Frame} {meth : Method} {c : Code} (l : Launch) {b L : Nat} {xs : Nat → Int32} (hL : L ≤ 2560) (C0 : lw_At p s m meth c b L xs) : W p l e room_1 s m #[Value.ref b] below meth c s.heap [] 0 0 (lw_Z below #[Value.ref b] s) (entryFrame m ([Value.ref b] : List Value).toArray 4) := by
  obtain ⟨μ', h⟩ := law_ends l (xs := xs) hL
  exact start_of l hL C0 h
end LL7
