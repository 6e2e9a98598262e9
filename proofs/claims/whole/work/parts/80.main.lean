theorem am_lsN {L : Nat} {xs : Nat → Int32} {j : Nat} (hj : j < L) (hL : L ≤ 3072) : am_ls L xs (nI j) = some (xs j) := by
  unfold am_ls
  rw [nI_toInt (by omega), nI_clamp (by omega), if_pos ⟨by omega, by omega⟩]
theorem tl_lB (x : Int32) : ((if x = 0 then some false else some true) : Option Bool) = some (decide (x ≠ 0)) := by
  by_cases c : x = 0
  · rw [if_pos c]; exact tl_df (fun z => z c)
  · rw [if_neg c]; exact tl_dt c
set_option maxHeartbeats 4000000 in
theorem am_lo {L : Nat} (xs : Nat → Int32) (hL : L ≤ 3072) : ∀ m fu i h, m < fu → L ≤ i + 6 * m + 5 → i < 4000 → tl_I h → ∃ h2, lo_L_law_18 am_f L xs 0 118 fu (nI i) h = some (.inl h2) := by
  intro m
  induction m with
  | zero =>
    intro fu i h hf hi i4 I
    obtain ⟨fu, rfl⟩ : ∃ q, fu = q + 1 := ⟨fu - 1, by omega⟩
    have lt : Int32.ofNat L - 6 < nI i := by
      have e := pk_sub_toInt (a := L) (b := 6) (by omega) (by decide)
      rw [Int32.lt_iff_toInt_lt, nI_toInt (by omega)]
      show (nI L - nI 6).toInt < _
      rw [e]
      omega
    rw [lo_L_law_18.eq_2, if_pos lt]
    exact ⟨h, rfl⟩
  | succ m ih =>
    intro fu i h hf hi i4 I
    obtain ⟨fu, rfl⟩ : ∃ q, fu = q + 1 := ⟨fu - 1, by omega⟩
    by_cases lt : Int32.ofNat L - 6 < nI i
    · rw [lo_L_law_18.eq_2, if_pos lt]
      exact ⟨h, rfl⟩
    · have i6 : i + 6 ≤ L := by
        have e := pk_sub_toInt (a := L) (b := 6) (by omega) (by decide)
        rw [Int32.lt_iff_toInt_lt, nI_toInt (by omega)] at lt
        have lt : ¬ (nI L - nI 6).toInt < (i : Int) := lt
        rw [e] at lt
        omega
      have go : ∀ h, tl_I h → ∃ h2, lo_L_law_18 am_f L xs 0 118 fu (nI (i + 6)) h = some (.inl h2) := fun h I => ih fu (i + 6) h (by omega) (by omega) (by omega) I
      have s6 : nI i + 6 = nI (i + 6) := nI_add i 6
      have l0 : am_ls L xs (nI i) = some (xs i) := am_lsN (by omega) hL
      have l1 : am_ls L xs (nI i + 1) = some (xs (i + 1)) := (congrArg (am_ls L xs) (nI_add i 1)).trans (am_lsN (by omega) hL)
      have l2 : am_ls L xs (nI i + 2) = some (xs (i + 2)) := (congrArg (am_ls L xs) (nI_add i 2)).trans (am_lsN (by omega) hL)
      have l3 : am_ls L xs (nI i + 3) = some (xs (i + 3)) := (congrArg (am_ls L xs) (nI_add i 3)).trans (am_lsN (by omega) hL)
      have l4 : am_ls L xs (nI i + 4) = some (xs (i + 4)) := (congrArg (am_ls L xs) (nI_add i 4)).trans (am_lsN (by omega) hL)
      have l5 : am_ls L xs (nI i + 5) = some (xs (i + 5)) := (congrArg (am_ls L xs) (nI_add i 5)).trans (am_lsN (by omega) hL)
      rw [lo_L_law_18.eq_2, if_neg lt, l0, tl_bs, s6]
      by_cases c0 : (xs i &&& 31) = 0
      · obtain ⟨r, g1, g2, x1, x2, x3⟩ := e_write I (xs (i + 1))
        dsimp only at x2
        rw [if_pos c0]
        simp only [l1, tl_bs, x1, x2]
        simp only [if_true]
        exact go g2 x3
      rw [if_neg c0]
      by_cases c1 : (xs i &&& 31) = 1
      · obtain ⟨r, g1, g2, x1, x2, x3⟩ := e_wipe I 
        dsimp only at x2
        rw [if_pos c1]
        simp only [tl_bs, x1, x2]
        simp only [if_true]
        exact go g2 x3
      rw [if_neg c1]
      by_cases c2 : (xs i &&& 31) = 2
      · obtain ⟨r, g1, g2, x1, x2, x3⟩ := e_fault I 
        dsimp only at x2
        rw [if_pos c2]
        simp only [tl_bs, x1, x2]
        simp only [if_true]
        exact go g2 x3
      rw [if_neg c2]
      by_cases c3 : (xs i &&& 31) = 3
      · obtain ⟨r, g1, g2, x1, x2, x3⟩ := e_life I 
        dsimp only at x2
        rw [if_pos c3]
        simp only [tl_bs, x1, x2]
        simp only [if_true]
        exact go g2 x3
      rw [if_neg c3]
      by_cases c4 : (xs i &&& 31) = 4
      · obtain ⟨r, x1, x2⟩ := e_span I (xs (i + 1)) (xs (i + 2))
        rw [if_pos c4]
        simp only [l1, l2, tl_bs, x1, x2]
        simp only [if_true]
        exact go h I
      rw [if_neg c4]
      by_cases c5 : (xs i &&& 31) = 5
      · obtain ⟨r, x1, x2⟩ := e_node I (xs (i + 1))
        rw [if_pos c5]
        simp only [l1, tl_bs, x1, x2]
        simp only [if_true]
        exact go h I
      rw [if_neg c5]
      by_cases c6 : (xs i &&& 31) = 6
      · obtain ⟨r, g1, g2, x1, x2, x3⟩ := e_put I (xs (i + 1)) (xs (i + 2)) (xs (i + 3)) (xs (i + 4))
        dsimp only at x2
        rw [if_pos c6]
        simp only [l1, l2, l3, l4, tl_bs, x1, x2]
        simp only [if_true]
        exact go g2 x3
      rw [if_neg c6]
      by_cases c7 : (xs i &&& 31) = 7
      · obtain ⟨r, g1, g2, x1, x2, x3⟩ := e_cut I (xs (i + 1))
        dsimp only at x2
        rw [if_pos c7]
        simp only [l1, tl_bs, x1, x2]
        simp only [if_true]
        exact go g2 x3
      rw [if_neg c7]
      by_cases c8 : (xs i &&& 31) = 8
      · obtain ⟨r, g1, g2, x1, x2, x3⟩ := e_end I (xs (i + 1)) (xs (i + 2))
        dsimp only at x2
        rw [if_pos c8]
        simp only [l1, l2, tl_bs, x1, x2]
        simp only [if_true]
        exact go g2 x3
      rw [if_neg c8]
      by_cases c9 : (xs i &&& 31) = 9
      · obtain ⟨r, g1, g2, x1, x2, x3⟩ := e_undo I 
        dsimp only at x2
        rw [if_pos c9]
        simp only [tl_bs, x1, x2]
        simp only [if_true]
        exact go g2 x3
      rw [if_neg c9]
      by_cases c10 : (xs i &&& 31) = 10
      · obtain ⟨r, g1, g2, x1, x2, x3⟩ := e_at I (xs (i + 1)) (xs (i + 2))
        dsimp only at x2
        rw [if_pos c10]
        simp only [l1, l2, tl_bs, x1, x2]
        simp only [if_true]
        exact go g2 x3
      rw [if_neg c10]
      by_cases c11 : (xs i &&& 31) = 11
      · obtain ⟨r, g1, g2, x1, x2, x3⟩ := e_knot I (xs (i + 1)) (xs (i + 2)) (xs (i + 3))
        dsimp only at x2
        rw [if_pos c11]
        simp only [l1, l2, l3, tl_bs, x1, x2]
        simp only [if_true]
        exact go g2 x3
      rw [if_neg c11]
      by_cases c12 : (xs i &&& 31) = 12
      · obtain ⟨r, g1, g2, x1, x2, x3⟩ := e_joined I (xs (i + 1)) (xs (i + 2)) (xs (i + 3))
        dsimp only at x2
        rw [if_pos c12]
        simp only [l1, l2, l3, tl_bs, x1, x2]
        simp only [if_true]
        exact go g2 x3
      rw [if_neg c12]
      by_cases c13 : (xs i &&& 31) = 13
      · obtain ⟨r, g1, g2, x1, x2, x3⟩ := e_side I (xs (i + 1)) (xs (i + 2)) (xs (i + 3))
        dsimp only at x2
        rw [if_pos c13]
        simp only [l1, l2, l3, tl_bs, x1, x2]
        simp only [if_true]
        exact go g2 x3
      rw [if_neg c13]
      by_cases c14 : (xs i &&& 31) = 14
      · obtain ⟨r, g1, g2, x1, x2, x3⟩ := e_work I (xs (i + 1))
        dsimp only at x2
        rw [if_pos c14]
        simp only [l1, tl_bs, x1, x2]
        simp only [if_true]
        exact go g2 x3
      rw [if_neg c14]
      by_cases c15 : (xs i &&& 31) = 15
      · obtain ⟨r, g1, g2, x1, x2, x3⟩ := e_when I (xs (i + 1)) (xs (i + 2))
        dsimp only at x2
        rw [if_pos c15]
        simp only [l1, l2, tl_bs, x1, x2]
        simp only [if_true]
        exact go g2 x3
      rw [if_neg c15]
      by_cases c16 : (xs i &&& 31) = 16
      · obtain ⟨r, g1, g2, x1, x2, x3⟩ := e_bridges I (xs (i + 1))
        dsimp only at x2
        rw [if_pos c16]
        simp only [l1, tl_bs, x1, x2]
        simp only [if_true]
        exact go g2 x3
      rw [if_neg c16]
      by_cases c17 : (xs i &&& 31) = 17
      · obtain ⟨r, g1, g2, x1, x2, x3⟩ := e_least I (xs (i + 1)) (xs (i + 2)) (xs (i + 3)) (xs (i + 4))
        dsimp only at x2
        rw [if_pos c17]
        simp only [l1, l2, l3, l4, tl_bs, x1, x2]
        simp only [if_true]
        exact go g2 x3
      rw [if_neg c17]
      by_cases c18 : (xs i &&& 31) = 18
      · obtain ⟨r, g1, g2, x1, x2, x3⟩ := e_judge I (xs (i + 1)) ((((xs (i + 2)).toInt64) <<< ((32 : Int32).toInt64 &&& 63)) ||| (((xs (i + 3)).toInt64) &&& 4294967295))
        dsimp only at x2
        rw [if_pos c18]
        simp only [l1, l2, l3, tl_bs, x1, x2]
        simp only [if_true]
        exact go g2 x3
      rw [if_neg c18]
      by_cases c19 : (xs i &&& 31) = 19
      · obtain ⟨r, g1, g2, x1, x2, x3⟩ := e_see I (xs (i + 1)) (xs (i + 2)) (xs (i + 3)) (xs (i + 4))
        dsimp only at x2
        rw [if_pos c19]
        simp only [l1, l2, l3, l4, tl_bs, x1, x2]
        simp only [if_true]
        exact go g2 x3
      rw [if_neg c19]
      by_cases c20 : (xs i &&& 31) = 20
      · obtain ⟨r, g1, g2, x1, x2, x3⟩ := e_unsee I 
        dsimp only at x2
        rw [if_pos c20]
        simp only [tl_bs, x1, x2]
        simp only [if_true]
        exact go g2 x3
      rw [if_neg c20]
      by_cases c21 : (xs i &&& 31) = 21
      · obtain ⟨r, g1, g2, x1, x2, x3⟩ := e_missing I (xs (i + 1))
        dsimp only at x2
        rw [if_pos c21]
        simp only [l1, tl_bs, x1, x2]
        simp only [if_true]
        exact go g2 x3
      rw [if_neg c21]
      by_cases c22 : (xs i &&& 31) = 22
      · obtain ⟨r, g1, g2, x1, x2, x3⟩ := e_share I (xs (i + 1)) (xs (i + 2)) (decide (xs (i + 3) ≠ 0))
        dsimp only at x2
        rw [if_pos c22]
        simp only [l1, l2, l3, tl_bs, tl_lB, x1, x2]
        simp only [if_true]
        exact go g2 x3
      rw [if_neg c22]
      by_cases c23 : (xs i &&& 31) = 23
      · obtain ⟨r, g1, g2, x1, x2, x3⟩ := e_fails I (xs (i + 1)) (xs (i + 2)) (xs (i + 3)) (xs (i + 4)) (decide (xs (i + 5) ≠ 0))
        dsimp only at x2
        rw [if_pos c23]
        simp only [l1, l2, l3, l4, l5, tl_bs, tl_lB, x1, x2]
        simp only [if_true]
        exact go g2 x3
      rw [if_neg c23]
      by_cases c24 : (xs i &&& 31) = 24
      · obtain ⟨r, g1, g2, x1, x2, x3⟩ := e_seed I ((((xs (i + 1)).toInt64) <<< ((32 : Int32).toInt64 &&& 63)) ||| (((xs (i + 2)).toInt64) &&& 4294967295))
        rw [if_pos c24]
        simp only [l1, l2, tl_bs, x1, x2]
        rw [if_pos ((lg_cmp_eq r r).mpr rfl)]
        exact go g2 x3
      rw [if_neg c24]
      by_cases c25 : (xs i &&& 31) = 25
      · obtain ⟨r, g1, g2, x1, x2, x3⟩ := e_drawn I (xs (i + 1))
        dsimp only at x2
        rw [if_pos c25]
        simp only [l1, tl_bs, x1, x2]
        simp only [if_true]
        exact go g2 x3
      rw [if_neg c25]
      by_cases c26 : (xs i &&& 31) = 26
      · obtain ⟨r, g1, g2, x1, x2, x3⟩ := e_keep I (xs (i + 1))
        dsimp only at x2
        rw [if_pos c26]
        simp only [l1, tl_bs, x1, x2]
        simp only [if_true]
        exact go g2 x3
      rw [if_neg c26]
      by_cases c27 : (xs i &&& 31) = 27
      · obtain ⟨r, g1, g2, x1, x2, x3⟩ := e_again I (xs (i + 1))
        dsimp only at x2
        rw [if_pos c27]
        simp only [l1, tl_bs, x1, x2]
        simp only [if_true]
        exact go g2 x3
      rw [if_neg c27]
      by_cases c28 : (xs i &&& 31) = 28
      · obtain ⟨r, x1, x2⟩ := e_count I (xs (i + 1))
        rw [if_pos c28]
        simp only [l1, tl_bs, x1, x2]
        simp only [if_true]
        exact go h I
      rw [if_neg c28]
      exact go h I
theorem am_i6 : (mi_X6_init am_f (am_nw am_h0 (6, 10)) 0).map (fun h => h.1.length) = some 118 := by decide +kernel
theorem am_i7 : Option.bind (mi_X6_init am_f (am_nw am_h0 (6, 10)) 0) (fun h4 => mi_X7_init am_f (am_nw h4 (7, 20)) 118) = am_hs := rfl
theorem am_law {L : Nat} (xs : Nat → Int32) (hL : L ≤ 3072) : ∃ (f : Nat) (h2 : am_H), mi_L_law f L xs am_h0 = some (true, h2) := by
  have e7 := am_i7
  have es : am_hs = some am_hS := (Option.some_get am_hs_some).symm
  have e6 := am_i6
  cases e4 : mi_X6_init am_f (am_nw am_h0 (6, 10)) 0 with
  | none => rw [e4] at e6; cases e6
  | some h4 =>
    rw [e4] at e6 e7
    have len : h4.1.length = 118 := Option.some.inj e6
    have e9 : mi_X7_init am_f (am_nw h4 (7, 20)) 118 = some am_hS := e7.trans es
    have z4 := tl_z_X6_init e4
    have z9 := tl_z_X7_init e9
    have n1 : tl_z am_h0 (am_nw am_h0 (6, 10)) := tl_z_nw rfl
    have n2 : tl_z h4 (am_nw h4 (7, 20)) := tl_z_nw rfl
    have zz := tl_z_tr (tl_z_tr (tl_z_tr n1 z4) n2) z9
    have I : tl_I am_hS := tl_I_0 am_hS_1 zz.1 zz.2 rfl
    obtain ⟨h2, lo⟩ := am_lo xs hL 600 am_f 0 am_hS (by decide) (by omega) (by decide) I
    refine ⟨am_f, h2, ?_⟩
    have r1 : am_rk [am_sc] am_h0.1.length (am_h0.1.length + 1) = some () := by decide +kernel
    have r2 : am_rk [am_sc, am_h0.1.length] (am_nw am_h0 (6, 10)).1.length h4.1.length = some () := by rw [len]; decide +kernel
    have r3 : am_rk [am_h0.1.length, am_sc] h4.1.length (h4.1.length + 1) = some () := by rw [len]; decide +kernel
    have l7 : (am_nw h4 (7, 20)).1.length = 119 := by
      show (h4.1 ++ [(7, 20)]).length = 119
      rw [List.length_append, len]
      rfl
    have r4 : am_rk [am_h0.1.length, am_sc, h4.1.length] (am_nw h4 (7, 20)).1.length am_hS.1.length = some () := by rw [l7, len, am_hS_1]; decide +kernel
    unfold mi_L_law
    rw [r1, tl_bs, tl_bs, show mi_X6_init am_f (am_nw am_h0 (6, 10)) am_h0.1.length = some h4 from e4, tl_bs, r2, tl_bs, r3, tl_bs, tl_bs]
    rw [show mi_X7_init am_f (am_nw h4 (7, 20)) h4.1.length = some am_hS from (by rw [len]; exact e9), tl_bs, r4, tl_bs, len]
    rw [show lo_L_law_18 am_f L xs am_h0.1.length 118 am_f 0 am_hS = some (.inl h2) from lo, tl_bs]
