section AT
theorem uf_no_le {ov sz ov2 sz2 : Nat → Nat} (H2 : uf_I ov2 sz2) {O : Nat → Bool} (hO : ∀ x, x < 8 → O x = true → O (uf_rt ov2 x) = true) (hx : ∀ x y, x < 8 → y < 8 → uf_rt ov2 x = uf_rt ov2 y → uf_rt ov x = uf_rt ov y) : tl_N (fun k => decide (ov k = k) && O k) 8 ≤ tl_N (fun k => decide (ov2 k = k) && O k) 8 := by
  rw [tl_N_len, tl_N_len]
  have hA : ((List.range 8).filter (fun k => decide (ov k = k) && O k)).Nodup := tl_nodf _ _ List.nodup_range
  rw [← List.length_map (f := uf_rt ov2)]
  refine tl_pig _ _ (tl_inj hA (fun x hx1 y hy1 e => ?_)) (fun x hx1 => ?_)
  · have a1 := List.mem_filter.mp hx1
    have a2 := List.mem_filter.mp hy1
    rw [Bool.and_eq_true] at a1 a2
    have b1 := List.mem_range.mp a1.1
    have b2 := List.mem_range.mp a2.1
    have := hx x y b1 b2 e
    rwa [uf_rt_root (of_decide_eq_true a1.2.1), uf_rt_root (of_decide_eq_true a2.2.1)] at this
  · obtain ⟨z, hz, rfl⟩ := List.mem_map.mp hx1
    have a1 := List.mem_filter.mp hz
    rw [Bool.and_eq_true] at a1
    have b1 := List.mem_range.mp a1.1
    refine List.mem_filter.mpr ⟨List.mem_range.mpr (uf_rt_lt H2 b1), ?_⟩
    rw [Bool.and_eq_true]
    exact ⟨decide_eq_true (uf_rt_fix H2 b1), hO z b1 a1.2.2⟩
variable {h : am_H} {l : List Nat} {t : Nat}
def foO (F : fo_S) : Nat → Bool := fun k => decide (F.1.1 k = k) && decide (F.2.2 (uf_rt F.1.1 k) = 1)
theorem t2_odL (H : tl_Sh h) {F : fo_S} (U : tl_Fo h F) (I : uf_I F.1.1 F.1.2) (Z : fo_01 F) : ∀ n j, j ≤ 8 → 8 - j < n → lo_X2_oddParts_4 am_f h 89 n (nI (tl_N (foO F) j)) (nI j) = some (nI (tl_N (foO F) 8)) := by
  intro n
  induction n with
  | zero => intro j _ q; omega
  | succ n ih =>
    intro j hj hjn
    rw [lo_X2_oddParts_4.eq_2]
    simp only [il_8, nI_leI (show 8 < 2 ^ 31 by decide) (show j < 2 ^ 31 by omega)]
    by_cases h1 : 8 ≤ j
    · rw [if_pos h1, show j = 8 by omega]
    · have hj8 : j < 8 := by omega
      have ol := (I.1 j hj8).1
      have zz := (Z j hj8).2
      rw [if_neg h1]
      simp only [or_89_0 H, or_89_3 H, tl_bs, al_90 H hj8, al_93 H hj8, (U j hj8).1, (U j hj8).2.2.2, nI_eq (show F.1.1 j < 2 ^ 31 by omega) (show j < 2 ^ 31 by omega), tl_e0 (show F.2.2 j < 2 ^ 31 by omega), nI_1]
      have key : ((if F.1.1 j = j then (if F.2.2 j = 0 then some (nI (tl_N (foO F) j)) else some (nI (tl_N (foO F) j + 1))) else some (nI (tl_N (foO F) j))) : Option Int32) = some (nI (tl_N (foO F) (j + 1))) := by
        show _ = some (nI (tl_N (foO F) j + (if foO F j = true then 1 else 0)))
        unfold foO
        by_cases q : F.1.1 j = j
        · rw [if_pos q, uf_rt_root q, decide_eq_true q, Bool.true_and]
          by_cases q2 : F.2.2 j = 0
          · rw [if_pos q2, if_neg (by rw [decide_eq_true_eq]; omega), Nat.add_zero]
          · rw [if_neg q2, if_pos (decide_eq_true (by omega))]
        · rw [if_neg q, decide_eq_false q, Bool.false_and, if_neg (by decide), Nat.add_zero]
      rw [key, tl_bs]
      exact ih (j + 1) (by omega) (by omega)
theorem t7_odL (H : tl_Sh h) {O : Nat → Nat} (P : ∀ k, k < 8 → h.2.1 126 k = nI (O k)) : ∀ n j, j ≤ 8 → 8 - j < n → lo_X7_oddParts_9 am_f h 118 n (nI (uf_sm O j)) (nI j) = some (nI (uf_sm O 8)) := by
  intro n
  induction n with
  | zero => intro j _ q; omega
  | succ n ih =>
    intro j hj hjn
    rw [lo_X7_oddParts_9.eq_2]
    simp only [il_8, nI_leI (show 8 < 2 ^ 31 by decide) (show j < 2 ^ 31 by omega)]
    by_cases h1 : 8 ≤ j
    · rw [if_pos h1, show j = 8 by omega]
    · rw [if_neg h1, or_118_10 H, tl_bs, al_126 H (by omega), tl_bs, P j (by omega), nI_add, nI_1]
      exact ih (j + 1) (by omega) (by omega)
theorem tl_sm_N {O : Nat → Nat} {P : Nat → Bool} : ∀ n, (∀ k, k < n → O k = if P k = true then 1 else 0) → uf_sm O n = tl_N P n
  | 0, _ => rfl
  | n + 1, h => by
    have ih := tl_sm_N n (fun k hk => h k (by omega))
    unfold uf_sm tl_N
    rw [ih, h n (by omega)]
theorem odd_eq (hw : tl_wf l) (ht : t < 16) : tl_N (foO (qF l (16 + t)).2) 8 = uf_sm (sd_mk l t (sd_so l t 8) (qA l 65535 t).1 l.length) 8 := by
  have V := qF_V hw ht
  have IF := qF_I hw ht
  have IA := (qA_ok hw 65535 t).1
  have RA := qA_R hw t
  obtain ⟨o1, -, o3⟩ := so_ok (t := t) hw 8 (Nat.le_refl 8)
  have mo : ∀ k, k < 8 → (decide ((qF l (16 + t)).2.2.2 (uf_rt (qF l (16 + t)).2.1.1 k) = 1) = decide (sd_mk l t (sd_so l t 8) (qA l 65535 t).1 l.length (uf_rt (qA l 65535 t).1 k) = 1)) := fun k hk => decide_eq_decide.mpr ((fo_odd V hk).trans (mk_odd hw IA RA o1 o3 hk).symm)
  have e2 : uf_sm (sd_mk l t (sd_so l t 8) (qA l 65535 t).1 l.length) 8 = tl_N (fun k => decide ((qA l 65535 t).1 k = k) && decide ((qF l (16 + t)).2.2.2 (uf_rt (qF l (16 + t)).2.1.1 k) = 1)) 8 := tl_sm_N 8 (fun k hk => by
    have le := mk_le (l := l) (t := t) (σ := sd_so l t 8) (ov := (qA l 65535 t).1) l.length k
    rw [mo k hk]
    by_cases c : sd_mk l t (sd_so l t 8) (qA l 65535 t).1 l.length k = 1
    · obtain ⟨i, i1, i2, i3, i4⟩ := (mk_iff l.length k).mp c
      have hv := (tl_wf_at hw (tl_gd (l := l) (i := i) i1)).2.1
      have fx := uf_rt_fix IA (sL_lt hv)
      rw [i4] at fx
      rw [uf_rt_root fx, decide_eq_true fx, decide_eq_true c, c]
      rfl
    · by_cases r : (qA l 65535 t).1 k = k
      · rw [uf_rt_root r, decide_eq_false c, Bool.and_false, if_neg (by decide)]; omega
      · rw [decide_eq_false r, Bool.false_and, if_neg (by decide)]; omega)
  rw [e2]
  have jj : ∀ x y, x < 8 → y < 8 → (uf_rt (qF l (16 + t)).2.1.1 x = uf_rt (qF l (16 + t)).2.1.1 y ↔ uf_rt (qA l 65535 t).1 x = uf_rt (qA l 65535 t).1 y) := fun x y hx hy => qJ_eq hw ht hx hy
  apply Nat.le_antisymm
  · exact uf_no_le (ov := (qF l (16 + t)).2.1.1) (sz := fun _ => 0) IA (fun x hx q => by
      rw [mo x hx] at q
      rw [mo _ (uf_rt_lt IA hx), uf_rt_root (uf_rt_fix IA hx)]
      exact q) (fun x y hx hy e => (jj x y hx hy).mpr e)
  · exact uf_no_le (ov := (qA l 65535 t).1) (sz := fun _ => 0) IF (fun x hx q => by
      rw [uf_rt_root (uf_rt_fix IF hx)]
      exact q) (fun x y hx hy e => (jj x y hx hy).mp e)
theorem e_at (I : tl_I h) (a b : Int32) : tl_st (mi_X6_at am_f h 0 a b) (fun h1 => mi_X7_at am_f h1 118 a b) := by
  obtain ⟨H, ⟨l, S⟩, -⟩ := id I
  unfold mi_X6_at mi_X7_at tl_st
  simp only [oc_0 H, tl_bs, t6_tm, t7_tm]
  by_cases ha : tl_tm a = true
  · obtain ⟨t, t16, rfl⟩ := tl_tm_of ha
    obtain ⟨h1, x1, x2, x3, x4⟩ := t2_walkT tl_sps7 S.1 H S.2.1 t16
    have H1 := tl_on_Sh H x4
    have k1 := tl_on_fr tl_s_fo x4
    have S1 := tl_fr_PS k1 S
    have IF := qF_I S.1 t16
    have pre : ∀ (K : am_H → Option (Int32 × am_H)), (Option.bind (am_gr h 6 0 4) fun xq2 => Option.bind (am_gr h 6 0 1) fun xq3 => Option.bind (mi_X2_walkToTime am_f h xq2 xq3 (nI t)) fun hq5 => K hq5) = K h1 := fun K => by
      rw [or_0_4 H, tl_bs, or_0_1 H, tl_bs, x1, tl_bs]
    simp only [tl_if1 ha]
    rw [pre]
    by_cases b0 : b = 0
    · subst b0
      obtain ⟨h2, y1, y2, y3⟩ := t7_parts H1 S.1 (show 0 < 2 by decide) S1.2.2 t16 (show 65535 < 65536 by decide)
      refine ⟨nI (uf_n (qF l (16 + t)).2.1.1), h1, h2, ?_, ?_, tl_fr_Iv (tl_fr_tr k1 (tl_on_fr tl_s_mu y3)) I⟩
      · rw [if_pos rfl, or_0_4 H1, tl_bs, t2_pa H1 x2 IF, tl_bs]
      · rw [oc_118 H1, tl_bs, if_pos rfl, show mi_X7_partsBy am_f h1 118 0 (nI t) 65535 = _ from y1, tl_bs, qP_eq S.1 t16]
    · by_cases b1 : b = 1
      · subst b1
        refine ⟨nI (tl_B (fun i => sV (l.getD i 0) t) l.length), h1, h1, ?_, ?_, tl_fr_Iv k1 I⟩
        · rw [if_neg b0, if_pos rfl, or_0_1 H1, tl_bs, t5_lv H1 tl_sps7 S1.2.1 S.1 t16, tl_bs]
        · rw [oc_118 H1, tl_bs, if_neg b0, if_pos rfl, t7_lv H1 S1.2.2 S.1 t16, tl_bs]
      · by_cases b2 : b = 2
        · subst b2
          obtain ⟨h2, y1, y2, y3, y4, y5⟩ := t7_fs H1 S1.2.2 S.1 t16
          have H2 := tl_on_Sh H1 y5
          have o6 := t2_odL H1 x2 IF x3 am_f 0 (by omega) (by decide)
          have o7 := t7_odL H2 y4 am_f 0 (by omega) (by decide)
          refine ⟨nI (tl_N (foO (qF l (16 + t)).2) 8), h1, h2, ?_, ?_, tl_fr_Iv (tl_fr_tr k1 (tl_on_fr tl_s_sd y5)) I⟩
          · rw [if_neg b0, if_neg b1, if_pos rfl, or_0_4 H1, tl_bs]
            unfold mi_X2_oddParts
            rw [oc_89 H1, tl_bs, show lo_X2_oddParts_4 am_f h1 89 am_f 0 0 = _ from o6, tl_bs, tl_bs]
          · rw [oc_118 H1, tl_bs, if_neg b0, if_neg b1, if_pos rfl]
            unfold mi_X7_oddParts
            rw [oc_118 H1, tl_bs, y1, tl_bs, show lo_X7_oddParts_9 am_f h2 118 am_f 0 0 = _ from o7, tl_bs, tl_bs, odd_eq S.1 t16]
        · have W : ∃ h2, mi_X7_walkTo am_f h1 118 (nI (16 + t)) = some (nI (qW l (16 + t)).1, h2) ∧ tl_Uo h2 (qF l (16 + t)).2.1 ∧ tl_on [123, 124] h1 h2 := by
            obtain ⟨h2, y1, y2, y3, -⟩ := t7_walk H1 S.1 S1.2.2 (show 16 + t < 32 by omega) (by omega)
            rw [← (qF_W (l := l) (show 16 + t < 32 by omega)).2] at y2
            exact ⟨h2, y1, y2, y3⟩
          by_cases b3 : b = 3
          · subst b3
            obtain ⟨h2, y1, y2, y3⟩ := W
            have H2 := tl_on_Sh H1 y3
            have o7 := t7_gdL H2 y2 IF am_f 0 (by omega) (by decide)
            refine ⟨nI (tl_mx (uf_dp (qF l (16 + t)).2.1.1 8) 8), h1, h2, ?_, ?_, tl_fr_Iv (tl_fr_tr k1 (tl_on_fr tl_s_mu y3)) I⟩
            · rw [if_neg b0, if_neg b1, if_neg b2, if_pos rfl, or_0_4 H1, tl_bs, t2_gd H1 x2 IF, tl_bs]
            · rw [oc_118 H1, tl_bs, if_neg b0, if_neg b1, if_neg b2, if_pos rfl]
              unfold mi_X7_greatestDepth
              rw [oc_118 H1, tl_bs, il_16, nI_add, y1, tl_bs]
              dsimp only
              rw [show lo_X7_greatestDepth_13 am_f h2 118 am_f 0 0 = _ from o7, tl_bs, tl_bs]
          · by_cases b4 : b = 4
            · subst b4
              obtain ⟨h2, y1, y2, y3⟩ := W
              have H2 := tl_on_Sh H1 y3
              have o7 := t7_gpL H2 y2 IF am_f 0 (by omega) (by decide)
              refine ⟨nI (tl_mx (qF l (16 + t)).2.1.2 8), h1, h2, ?_, ?_, tl_fr_Iv (tl_fr_tr k1 (tl_on_fr tl_s_mu y3)) I⟩
              · rw [if_neg b0, if_neg b1, if_neg b2, if_neg b3, if_pos rfl, or_0_4 H1, tl_bs, t2_gs H1 x2 IF, tl_bs]
              · rw [oc_118 H1, tl_bs, if_neg b0, if_neg b1, if_neg b2, if_neg b3, if_pos rfl]
                unfold mi_X7_greatestPart
                rw [oc_118 H1, tl_bs, il_16, nI_add, y1, tl_bs]
                dsimp only
                rw [show lo_X7_greatestPart_13 am_f h2 118 am_f 0 0 = _ from o7, tl_bs, tl_bs, uf_mx IF]
            · refine ⟨-2, h1, h1, ?_, ?_, tl_fr_Iv k1 I⟩
              · rw [if_neg b0, if_neg b1, if_neg b2, if_neg b3, if_neg b4]
              · rw [oc_118 H1, tl_bs, if_neg b0, if_neg b1, if_neg b2, if_neg b3, if_neg b4]
  · have ha : tl_tm a = false := by simpa using ha
    refine ⟨-1, h, h, ?_, ?_, I⟩
    · simp only [tl_if0 ha]
    · simp only [oc_118 H, tl_bs, tl_if0 ha]
end AT
