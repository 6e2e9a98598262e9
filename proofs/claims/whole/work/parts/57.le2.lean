section LF
variable {h : am_H} {l : List Nat} {t a b : Nat}
theorem tl_kyd {j best : Nat} (hj : j < 65536) (hb : best < 65536) : ((if tl_pc j < tl_pc best then some true else (if tl_pc j = tl_pc best then (if best ≤ j then some false else some true) else some false)) : Option Bool) = some (decide (tl_ky j < tl_ky best)) := by
  unfold tl_ky
  by_cases c1 : tl_pc j < tl_pc best
  · rw [if_pos c1]; exact tl_dt (by omega)
  · rw [if_neg c1]
    by_cases c2 : tl_pc j = tl_pc best
    · rw [if_pos c2]
      by_cases c3 : best ≤ j
      · rw [if_pos c3]; exact tl_df (by omega)
      · rw [if_neg c3]; exact tl_dt (by omega)
    · rw [if_neg c2]; exact tl_df (by omega)
theorem t7_leL (hw : tl_wf l) (ht : t < 16) (a8 : a < 8) (b8 : b < 8) (d : Int32) : ∀ n j best h, tl_Sh h → tl_Mo h 0 l → j ≤ 2 ^ l.length → 2 ^ l.length - j < n → best < 65536 → (∀ k, best.testBit k = true → (qLv l t).testBit k = true) → cN l t a b best = true → (∀ y, y < j → (∀ k, y.testBit k = true → (qLv l t).testBit k = true) → cN l t a b y = true → tl_ky best ≤ tl_ky y) →
    ∃ h2 r, lo_X7_least_69 am_f 118 (nI a) (nI b) (nI t) d (nI (qLv l t)) n (nI best) (nI j) h = some (nI r, h2) ∧ tl_on [123, 124] h h2 ∧ r < 65536 ∧ (∀ k, r.testBit k = true → (qLv l t).testBit k = true) ∧ cN l t a b r = true ∧ ∀ y, y < 2 ^ l.length → (∀ k, y.testBit k = true → (qLv l t).testBit k = true) → cN l t a b y = true → tl_ky r ≤ tl_ky y := by
  have h16 := hw.1
  have p2 : 2 ^ l.length ≤ 65536 := tl_p16 h16
  have lvl : qLv l t < 65536 := tl_B_16 _ h16
  intro n
  induction n with
  | zero => intro j best h _ _ _ q; omega
  | succ n ih =>
    intro j best h H M hj hjn bl bs bc bm
    have m0 : mi_X7_many am_f h 118 0 = some (nI l.length) := t7_many H (show 0 < 2 by decide) M am_f
    rw [lo_X7_least_69.eq_2, m0, tl_bs, tl_sh1 _ (by omega)]
    simp only [nI_leI (show 2 ^ l.length < 2 ^ 31 by omega) (show j < 2 ^ 31 by omega)]
    by_cases h1 : 2 ^ l.length ≤ j
    · rw [if_pos h1]
      exact ⟨h, best, rfl, tl_on_rf, bl, bs, bc, fun y y1 => bm y (by omega)⟩
    · have jl : j < 65536 := by omega
      have pj := tl_pc_16 j
      have pb := tl_pc_16 best
      rw [if_neg h1, nI_1]
      by_cases c : ∀ k, j.testBit k = true → (qLv l t).testBit k = true
      · rw [if_pos ((tl_subI jl lvl).mpr c)]
        simp only [t7_on am_f h jl (show 17 ≤ am_f by decide), t7_on am_f h bl (show 17 ≤ am_f by decide), tl_bs, nI_ltI (show tl_pc j < 2 ^ 31 by omega) (show tl_pc best < 2 ^ 31 by omega), nI_eq (show tl_pc j < 2 ^ 31 by omega) (show tl_pc best < 2 ^ 31 by omega), nI_leI (show best < 2 ^ 31 by omega) (show j < 2 ^ 31 by omega)]
        rw [tl_kyd jl bl, tl_bs]
        by_cases c2 : tl_ky j < tl_ky best
        · obtain ⟨h2, y1, y2⟩ := t7_joined H hw (show 0 < 2 by decide) M ht (tl_xor_lt jl) a8 b8
          rw [if_pos (decide_eq_true c2), tl_notN jl, show mi_X7_areJoined am_f h 118 0 (nI a) (nI b) (nI t) (nI (65535 ^^^ j)) = _ from y1, tl_bs]
          dsimp only
          by_cases c3 : cN l t a b j = true
          · have c4 := c3
            unfold cN at c4
            rw [decide_eq_true_eq] at c4
            rw [if_neg (by rw [decide_eq_true_eq]; exact c4), tl_bs, tl_bs]
            dsimp only
            obtain ⟨h3, r, z1, z2, z3⟩ := ih (j + 1) j h2 (tl_on_Sh H y2) (tl_on_Mo (by decide) y2 M) (by omega) (by omega) jl c c3 (fun y q1 q2 q3 => by
              by_cases e : y = j
              · subst e; exact Nat.le_refl _
              · have := bm y (by omega) q2 q3
                omega)
            exact ⟨h3, r, z1, tl_on_tr y2 z2, z3⟩
          · have c4 := c3
            unfold cN at c4
            rw [decide_eq_true_eq] at c4
            rw [if_pos (by rw [decide_eq_true_eq]; exact Classical.not_not.mp c4), tl_bs, tl_bs]
            dsimp only
            obtain ⟨h3, r, z1, z2, z3⟩ := ih (j + 1) best h2 (tl_on_Sh H y2) (tl_on_Mo (by decide) y2 M) (by omega) (by omega) bl bs bc (fun y q1 q2 q3 => by
              by_cases e : y = j
              · subst e; exact absurd q3 c3
              · exact bm y (by omega) q2 q3)
            exact ⟨h3, r, z1, tl_on_tr y2 z2, z3⟩
        · rw [if_neg (by rw [decide_eq_true_eq]; exact c2), tl_bs]
          dsimp only
          exact ih (j + 1) best h H M (by omega) (by omega) bl bs bc (fun y q1 q2 q3 => by
            by_cases e : y = j
            · subst e; omega
            · exact bm y (by omega) q2 q3)
      · rw [if_neg (fun z => c ((tl_subI jl lvl).mp z)), tl_bs]
        dsimp only
        exact ih (j + 1) best h H M (by omega) (by omega) bl bs bc (fun y q1 q2 q3 => by
          by_cases e : y = j
          · subst e; exact absurd q2 c
          · exact bm y (by omega) q2 q3)
theorem tl_ky_inj {x y : Nat} (hx : x < 65536) (hy : y < 65536) (h : tl_ky x = tl_ky y) : x = y := by
  unfold tl_ky at h
  omega
theorem qLeast_eq (hw : tl_wf l) {x r : Nat} (x1 : x < 2 ^ (qL l t l.length).length) (x2 : cN l t a b (qM l t x l.length) = true) (x3 : ∀ y, y < 2 ^ (qL l t l.length).length → cN l t a b (qM l t y l.length) = true → tl_ky x ≤ tl_ky y)
    (r1 : r < 65536) (r2 : ∀ k, r.testBit k = true → (qLv l t).testBit k = true) (r3 : cN l t a b r = true) (r4 : ∀ y, y < 2 ^ l.length → (∀ k, y.testBit k = true → (qLv l t).testBit k = true) → cN l t a b y = true → tl_ky r ≤ tl_ky y) : qM l t x l.length = r := by
  have h16 := hw.1
  have hq : ∀ k, r.testBit k = true → k < l.length ∧ sV (l.getD k 0) t = true := fun k hk => qLv_tb.mp (r2 k hk)
  have su := qM_su hq
  generalize hy : tl_B (fun j => r.testBit ((qL l t l.length).getD j 0)) (qL l t l.length).length = y at su
  have yl : y < 2 ^ (qL l t l.length).length := by rw [← hy]; exact tl_B_lt _ _
  have a1 := r4 (qM l t x l.length) (qM_lo x _) (fun k hk => by
    rw [qM_tb] at hk
    simp only [Bool.and_eq_true, decide_eq_true_eq] at hk
    exact qLv_tb.mpr ⟨hk.1, hk.2.1⟩) x2
  have a2 := x3 y yl (by rw [su]; exact r3)
  refine tl_ky_inj (qM_lt l t x h16) r1 (Nat.le_antisymm ?_ a1)
  rw [← su]
  unfold tl_ky at a2 ⊢
  rw [qM_pc h16 x1, qM_pc h16 yl]
  have p2 : 2 ^ (qL l t l.length).length ≤ 65536 := tl_p16 (Nat.le_trans (qL_le l t _) h16)
  by_cases e : tl_pc x = tl_pc y
  · have := qM_le x1 yl (by omega)
    omega
  · have := qM_lt l t x (n := l.length) h16
    omega
theorem e_least (I : tl_I h) (a b c d : Int32) : tl_st (mi_X6_least am_f h 0 a b c d) (fun h1 => mi_X7_least am_f h1 118 a b c d) := by
  obtain ⟨H, ⟨l, S⟩, -⟩ := id I
  have h16 := S.1.1
  unfold mi_X6_least mi_X7_least tl_st
  simp only [oc_0 H, tl_bs, t6_kn, t6_tm, t7_kn, t7_tm, tl_in01]
  by_cases ha : tl_kn a = true
  · by_cases hb : tl_kn b = true
    · by_cases hc : tl_tm c = true
      · by_cases hab : a = b
        · refine ⟨-2, h, h, ?_, ?_, I⟩
          · simp only [tl_if1 ha, tl_if1 hb, tl_if1 hc, if_pos hab]
          · simp only [oc_118 H, tl_bs, tl_if1 ha, tl_if1 hb, tl_if1 hc, if_pos hab]
        · rcases tl_01 d with hd | ⟨s, s2, rfl⟩
          · refine ⟨-2, h, h, ?_, ?_, I⟩
            · simp only [tl_if1 ha, tl_if1 hb, tl_if1 hc, if_neg hab]
              by_cases q : d < 0
              · rw [if_pos q]
              · rw [if_neg q, if_neg]
                rw [Int32.le_iff_toInt_le]
                rw [Int32.lt_iff_toInt_lt] at q
                have q : ¬ d.toInt < 0 := q
                show ¬ d.toInt ≤ 1
                omega
            · simp only [oc_118 H, tl_bs, tl_if1 ha, tl_if1 hb, tl_if1 hc, if_neg hab]
              rw [if_neg (by rw [decide_eq_true_eq]; omega)]
          · obtain ⟨a, a8, rfl⟩ := tl_kn_of ha
            obtain ⟨b, b8, rfl⟩ := tl_kn_of hb
            obtain ⟨t, t16, rfl⟩ := tl_tm_of hc
            have hn : a ≠ b := fun z => hab (by rw [z])
            obtain ⟨h1, x1, x2, x3⟩ := t1_ga tl_sps7 H S.2.1 S.1 t16
            have H1 := tl_on_Sh H x3
            have k1 := tl_on_fr tl_s_al x3
            have S1 := tl_fr_PS k1 S
            have hA : (qL l t l.length).length ≤ 16 := Nat.le_trans (qL_le l t _) h16
            have lvl : qLv l t < 65536 := tl_B_16 _ h16
            have lv := t7_lv H1 S1.2.2 S.1 t16
            have pcl := qLv_pc (l := l) (t := t) h16
            have s0 : ¬ nI s < 0 := nI_pos (by omega)
            have s1 : nI s ≤ 1 := by rw [il_1, nI_leI (by omega) (by decide)]; omega
            have sd : decide (0 ≤ (nI s).toInt ∧ (nI s).toInt ≤ 1) = true := by
              rw [nI_toInt (by omega)]
              exact decide_eq_true (by omega)
            by_cases c10 : (qL l t l.length).length ≤ 10
            · obtain ⟨x, w1, w2, w3, w4⟩ := t6_la H1 x2 S.1 a8 b8 hn
              have p2 : 2 ^ (qL l t l.length).length ≤ 65536 := tl_p16 hA
              have p3 : 2 ^ l.length ≤ 65536 := tl_p16 h16
              obtain ⟨h2, r, y1, y2, y3, y4, y5, y6⟩ := t7_leL S.1 t16 a8 b8 (nI s) am_f 0 (qLv l t) h1 H1 S1.2.2 (Nat.zero_le _) (by unfold am_f; omega) lvl (fun k hk => hk) (cN_all h16 hn (fun k k1 k2 => qLv_tb.mpr ⟨k1, k2⟩)) (fun y hy => by omega)
              have eq := qLeast_eq S.1 w2 w3 w4 y3 y4 y5 y6
              have H2 := tl_on_Sh H1 y2
              have fin : tl_I h2 := tl_fr_Iv (tl_fr_tr k1 (tl_on_fr tl_s_mu y2)) I
              have e6 : ∀ d, (Option.bind (am_gr h1 6 0 5) fun xq8 => Option.bind (am_gi h1 1 xq8 4) fun xq9 => (if xq9 ≤ 10 then (d : Option (Int32 × am_H)) else (some ((-4), h1)))) = d := fun d => by
                rw [or_0_5 H1, tl_bs, oi_94 H1, tl_bs, x2.1, il_10]
                simp only [nI_leI (show (qL l t l.length).length < 2 ^ 31 by omega) (show 10 < 2 ^ 31 by decide)]
                rw [if_pos c10]
              rcases (show s = 0 ∨ s = 1 by omega) with rfl | rfl
              · refine ⟨nI (tl_pc x), h1, h2, ?_, ?_, fin⟩
                · simp only [tl_if1 ha, tl_if1 hb, tl_if1 hc, if_neg hab, if_neg s0, if_pos s1, or_0_5 H, or_0_1 H, tl_bs, x1]
                  rw [e6, w1, tl_bs, if_pos (show nI 0 = 0 from rfl), tj_bc am_f h1 (show x < 65536 by omega), tl_bs, tl_bs]
                · simp only [oc_118 H1, tl_bs, tl_if1 ha, tl_if1 hb, tl_if1 hc, if_neg hab, sd, if_true]
                  rw [show mi_X7_livingAt am_f h1 118 (nI t) = some (nI (qLv l t)) from lv, tl_bs, t7_on am_f h1 lvl (by decide), tl_bs, pcl, il_10]
                  simp only [nI_leI (show (qL l t l.length).length < 2 ^ 31 by omega) (show 10 < 2 ^ 31 by decide)]
                  rw [if_pos c10, show lo_X7_least_69 am_f 118 (nI a) (nI b) (nI t) (nI 0) (nI (qLv l t)) am_f (nI (qLv l t)) 0 h1 = _ from y1, tl_bs]
                  dsimp only
                  rw [if_pos (show nI 0 = 0 from rfl), t7_on am_f h2 y3 (by decide), tl_bs, tl_bs, ← eq, qM_pc h16 w2]
              · refine ⟨nI r, h1, h2, ?_, ?_, fin⟩
                · simp only [tl_if1 ha, tl_if1 hb, tl_if1 hc, if_neg hab, if_neg s0, if_pos s1, or_0_5 H, or_0_1 H, tl_bs, x1]
                  rw [e6, w1, tl_bs, if_neg (show ¬ nI 1 = 0 by decide), or_0_5 H1, tl_bs, t1_nu H1 x2 S.1 (show x < 65536 by omega), tl_bs, tl_bs, eq]
                · simp only [oc_118 H1, tl_bs, tl_if1 ha, tl_if1 hb, tl_if1 hc, if_neg hab, sd, if_true]
                  rw [show mi_X7_livingAt am_f h1 118 (nI t) = some (nI (qLv l t)) from lv, tl_bs, t7_on am_f h1 lvl (by decide), tl_bs, pcl, il_10]
                  simp only [nI_leI (show (qL l t l.length).length < 2 ^ 31 by omega) (show 10 < 2 ^ 31 by decide)]
                  rw [if_pos c10, show lo_X7_least_69 am_f 118 (nI a) (nI b) (nI t) (nI 1) (nI (qLv l t)) am_f (nI (qLv l t)) 0 h1 = _ from y1, tl_bs]
                  dsimp only
                  rw [if_neg (show ¬ nI 1 = 0 by decide), tl_bs]
            · refine ⟨-4, h1, h1, ?_, ?_, tl_fr_Iv k1 I⟩
              · simp only [tl_if1 ha, tl_if1 hb, tl_if1 hc, if_neg hab, if_neg s0, if_pos s1, or_0_5 H, or_0_1 H, tl_bs, x1]
                rw [or_0_5 H1, tl_bs, oi_94 H1, tl_bs, x2.1, il_10]
                simp only [nI_leI (show (qL l t l.length).length < 2 ^ 31 by omega) (show 10 < 2 ^ 31 by decide)]
                rw [if_neg c10]
              · simp only [oc_118 H1, tl_bs, tl_if1 ha, tl_if1 hb, tl_if1 hc, if_neg hab, sd, if_true]
                rw [show mi_X7_livingAt am_f h1 118 (nI t) = some (nI (qLv l t)) from lv, tl_bs, t7_on am_f h1 lvl (by decide), tl_bs, pcl, il_10]
                simp only [nI_leI (show (qL l t l.length).length < 2 ^ 31 by omega) (show 10 < 2 ^ 31 by decide)]
                rw [if_neg c10]
      · have hc : tl_tm c = false := by simpa using hc
        refine ⟨-1, h, h, ?_, ?_, I⟩
        · simp only [tl_if1 ha, tl_if1 hb, tl_if0 hc]
        · simp only [oc_118 H, tl_bs, tl_if1 ha, tl_if1 hb, tl_if0 hc]
    · have hb : tl_kn b = false := by simpa using hb
      refine ⟨-1, h, h, ?_, ?_, I⟩
      · simp only [tl_if1 ha, tl_if0 hb]
      · simp only [oc_118 H, tl_bs, tl_if1 ha, tl_if0 hb]
  · have ha : tl_kn a = false := by simpa using ha
    refine ⟨-1, h, h, ?_, ?_, I⟩
    · simp only [tl_if0 ha]
    · simp only [oc_118 H, tl_bs, tl_if0 ha]
end LF
