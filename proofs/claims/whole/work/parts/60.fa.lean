section FA
variable {h : am_H} {l : List Nat} {t a b : Nat}
def gF (l : List Nat) (t a b x s : Nat) : Nat := if uf_rt (qA l (qM l t s l.length) t).1 a = uf_rt (qA l (qM l t s l.length) t).1 b then wS x (qL l t l.length).length s else 0
theorem tl_pc_m {s m : Nat} (hs : s < 2 ^ m) (hm : m ≤ 16) : tl_pc s ≤ m := by
  rw [tl_pc_cut hs hm]
  exact tl_N_le _ m
theorem t6_chL (H : tl_Sh h) (G : tl_Al h l (qL l t l.length)) (hw : tl_wf l) (h8 : (qL l t l.length).length ≤ 8) (a8 : a < 8) (b8 : b < 8) {x : Nat} (hx : x ≤ 10) : ∀ n j, j ≤ 2 ^ (qL l t l.length).length → 2 ^ (qL l t l.length).length - j < n → lo_X6_chancesOfJoined_6 am_f h 0 (nI a) (nI b) (nI x) n (lN (uf_sm (gF l t a b x) j)) (nI j) = some (lN (uf_sm (gF l t a b x) (2 ^ (qL l t l.length).length))) := by
  have h16 := hw.1
  have hA : (qL l t l.length).length ≤ 16 := by omega
  have p1 := Nat.two_pow_pos (qL l t l.length).length
  have p2 : 2 ^ (qL l t l.length).length ≤ 256 := tl_p8 h8
  intro n
  induction n with
  | zero => intro j _ q; omega
  | succ n ih =>
    intro j hj hjn
    rw [lo_X6_chancesOfJoined_6.eq_2, or_0_5 H, tl_bs, t1_all H G hA, tl_bs]
    simp only [nI_ltI (show 2 ^ (qL l t l.length).length - 1 < 2 ^ 31 by omega) (show j < 2 ^ 31 by omega)]
    by_cases h1 : 2 ^ (qL l t l.length).length - 1 < j
    · rw [if_pos h1, show j = 2 ^ (qL l t l.length).length by omega]
    · have jl : j < 2 ^ (qL l t l.length).length := by omega
      have pc := tl_pc_m jl hA
      have aj := t1_aj H G hw (s2 := qM l t j l.length) (show j < 65536 by omega) (fun i w hi => qM_pl hi) a8 b8
      rw [if_neg h1, tl_bs, aj, tl_bs, tj_bc am_f h (show j < 65536 by omega), tl_bs, il_10, pk_sub (by omega), nI_l (by omega), nI_l (by omega), t6_pw h (10 - x) (show tl_pc j < 1000 by omega), tl_bs, tl_bs, oi_94 H, tl_bs, G.1, pk_sub pc, t6_pw h x (show (qL l t l.length).length - tl_pc j < 1000 by omega), tl_bs, lN_mul, lN_add, nI_1]
      have key : ((if decide (uf_rt (qA l (qM l t j l.length) t).1 a = uf_rt (qA l (qM l t j l.length) t).1 b) = true then some (lN (uf_sm (gF l t a b x) j + (10 - x) ^ tl_pc j * x ^ ((qL l t l.length).length - tl_pc j))) else some (lN (uf_sm (gF l t a b x) j))) : Option Int64) = some (lN (uf_sm (gF l t a b x) (j + 1))) := by
        show _ = some (lN (uf_sm (gF l t a b x) j + gF l t a b x j))
        unfold gF wS
        by_cases c : uf_rt (qA l (qM l t j l.length) t).1 a = uf_rt (qA l (qM l t j l.length) t).1 b
        · rw [if_pos (decide_eq_true c), if_pos c]
        · rw [if_neg (by rw [decide_eq_true_eq]; exact c), if_neg c, Nat.add_zero]
      rw [key, tl_bs]
      exact ih (j + 1) (by omega) (by omega)
theorem t7_f80 (h : am_H) {m s x : Nat} (hs : s < 65536) (hm : m ≤ 16) (hx : x ≤ 10) (a0 : Nat) (a1 a2 a3 : Int32) (a5 : Bool) (a7 a8 : Int32) : ∀ n j, j ≤ m → m - j < n → lo_X7_fails_80 am_f h a0 a1 a2 a3 (nI x) a5 (nI m) a7 a8 (nI s) n (nI (wP x s j)) (nI j) = some (nI (wP x s m)) := by
  intro n
  induction n with
  | zero => intro j _ q; omega
  | succ n ih =>
    intro j hj hjn
    rw [lo_X7_fails_80.eq_2]
    simp only [nI_leI (show m < 2 ^ 31 by omega) (show j < 2 ^ 31 by omega)]
    by_cases h1 : m ≤ j
    · rw [if_pos h1, show j = m by omega]
    · rw [if_neg h1, t7_has am_f h (by omega) (by omega), tl_bs, il_10, pk_sub (by omega), nI_1]
      have key : ((if s.testBit j = true then some (nI (10 - x)) else some (nI x)) : Option Int32) = some (nI (if s.testBit j = true then 10 - x else x)) := by
        by_cases c : s.testBit j = true
        · rw [if_pos c, if_pos c]
        · rw [if_neg c, if_neg c]
      rw [key, tl_bs, pk_mul]
      exact ih (j + 1) (by omega) (by omega)
theorem t7_f65 (hw : tl_wf l) (ht : t < 16) (h8 : (qL l t l.length).length ≤ 8) (a8 : a < 8) (b8 : b < 8) {x : Nat} (hx : x ≤ 10) (u : Bool) : ∀ n j h, tl_Sh h → tl_Mo h 0 l → tl_Lv h (qL l t l.length) → j ≤ 2 ^ (qL l t l.length).length → 2 ^ (qL l t l.length).length - j < n → ∃ h2, lo_X7_fails_65 am_f 118 (nI a) (nI b) (nI t) (nI x) u (nI (qL l t l.length).length) n (nI (uf_sm (gF l t a b x) j)) (nI (uf_sm (wS x (qL l t l.length).length) j)) (nI j) h = some (nI (uf_sm (gF l t a b x) (2 ^ (qL l t l.length).length)), nI (uf_sm (wS x (qL l t l.length).length) (2 ^ (qL l t l.length).length)), h2) ∧ tl_on [123, 124] h h2 := by
  have h16 := hw.1
  have hA : (qL l t l.length).length ≤ 16 := by omega
  have p2 : 2 ^ (qL l t l.length).length ≤ 256 := tl_p8 h8
  intro n
  induction n with
  | zero => intro j h _ _ _ _ q; omega
  | succ n ih =>
    intro j h H M V hj hjn
    rw [lo_X7_fails_65.eq_2, tl_sh1 _ (by omega)]
    simp only [nI_leI (show 2 ^ (qL l t l.length).length < 2 ^ 31 by omega) (show j < 2 ^ 31 by omega)]
    by_cases h1 : 2 ^ (qL l t l.length).length ≤ j
    · rw [if_pos h1, show j = 2 ^ (qL l t l.length).length by omega]
      exact ⟨h, rfl, tl_on_rf⟩
    · have jl : j < 2 ^ (qL l t l.length).length := by omega
      have ml := qM_lt l t j h16
      have w := t7_f80 h (m := (qL l t l.length).length) (show j < 65536 by omega) hA hx 118 (nI a) (nI b) (nI t) u (nI (uf_sm (gF l t a b x) j)) (nI (uf_sm (wS x (qL l t l.length).length) j)) am_f 0 (Nat.zero_le _) (by unfold am_f; omega)
      obtain ⟨h2, y1, y2⟩ := t7_joined H hw (show 0 < 2 by decide) M ht ml a8 b8
      rw [if_neg h1, show lo_X7_fails_80 am_f h 118 (nI a) (nI b) (nI t) (nI x) u (nI (qL l t l.length).length) (nI (uf_sm (gF l t a b x) j)) (nI (uf_sm (wS x (qL l t l.length).length) j)) (nI j) am_f 1 0 = _ from w, tl_bs, t7_so H V hw (show j < 65536 by omega), tl_bs, show mi_X7_areJoined am_f h 118 0 (nI a) (nI b) (nI t) (nI (qM l t j l.length)) = _ from y1, tl_bs]
      dsimp only
      rw [wP_S jl hA]
      have key : ((if decide (uf_rt (qA l (qM l t j l.length) t).1 a = uf_rt (qA l (qM l t j l.length) t).1 b) = true then some (nI (wS x (qL l t l.length).length j)) else some 0) : Option Int32) = some (nI (gF l t a b x j)) := by
        unfold gF
        by_cases c : uf_rt (qA l (qM l t j l.length) t).1 a = uf_rt (qA l (qM l t j l.length) t).1 b
        · rw [if_pos (decide_eq_true c), if_pos c]
        · rw [if_neg (by rw [decide_eq_true_eq]; exact c), if_neg c]; rfl
      rw [key, tl_bs, nI_add, nI_add, nI_1]
      obtain ⟨h3, z1, z2⟩ := ih (j + 1) h2 (tl_on_Sh H y2) (tl_on_Mo (by decide) y2 M) (tl_on_Lv (by decide) y2 V) (by omega) (by omega)
      exact ⟨h3, z1, tl_on_tr y2 z2⟩
theorem tl_0_10 (a : Int32) : (a.toInt < 0 ∨ ¬ a.toInt ≤ 10) ∨ ∃ s, s ≤ 10 ∧ a = nI s := by
  by_cases c : a.toInt < 0 ∨ ¬ a.toInt ≤ 10
  · exact Or.inl c
  · refine Or.inr ⟨a.toInt.toNat, by omega, ?_⟩
    apply Int32.toInt_inj.mp
    rw [nI_toInt (by omega)]
    omega
theorem tl_in10 (h1 : am_H) (a : Int32) : mi_X7_in am_f h1 a.toInt64 0 10 = some (decide (0 ≤ a.toInt ∧ a.toInt ≤ 10)) := by rw [t7_in, Int32.toInt_toInt64]; rfl
theorem e_fails (I : tl_I h) (a b c d : Int32) (u : Bool) : tl_st (mi_X6_fails am_f h 0 a b c d u) (fun h1 => mi_X7_fails am_f h1 118 a b c d u) := by
  obtain ⟨H, ⟨l, S⟩, -⟩ := id I
  have h16 := S.1.1
  unfold mi_X6_fails mi_X7_fails tl_st
  simp only [oc_0 H, tl_bs, t6_kn, t6_tm, t7_kn, t7_tm, tl_in10]
  by_cases ha : tl_kn a = true
  · by_cases hb : tl_kn b = true
    · by_cases hc : tl_tm c = true
      · rcases tl_0_10 d with hd | ⟨x, x10, rfl⟩
        · refine ⟨-2, h, h, ?_, ?_, I⟩
          · simp only [tl_if1 ha, tl_if1 hb, tl_if1 hc]
            by_cases q : d < 0
            · rw [if_pos q]
            · rw [if_neg q, if_neg]
              rw [Int32.le_iff_toInt_le]
              rw [Int32.lt_iff_toInt_lt] at q
              have q : ¬ d.toInt < 0 := q
              show ¬ d.toInt ≤ 10
              omega
          · simp only [oc_118 H, tl_bs, tl_if1 ha, tl_if1 hb, tl_if1 hc]
            rw [if_neg (by rw [decide_eq_true_eq]; omega)]
        · obtain ⟨a, a8, rfl⟩ := tl_kn_of ha
          obtain ⟨b, b8, rfl⟩ := tl_kn_of hb
          obtain ⟨t, t16, rfl⟩ := tl_tm_of hc
          obtain ⟨h1, x1, x2, x3⟩ := t1_ga tl_sps7 H S.2.1 S.1 t16
          have H1 := tl_on_Sh H x3
          have k1 := tl_on_fr tl_s_al x3
          have S1 := tl_fr_PS k1 S
          have hA : (qL l t l.length).length ≤ 16 := Nat.le_trans (qL_le l t _) h16
          obtain ⟨h2, y1, y2, y3⟩ := t7_fl' H1 S1.2.2 S.1 t16
          have H2 := tl_on_Sh H1 y3
          have k2 := tl_on_fr tl_s_131 y3
          have s0 : ¬ nI x < 0 := nI_pos (by omega)
          have s1 : nI x ≤ 10 := by rw [il_10, nI_leI (by omega) (by decide)]; omega
          have sd : decide (0 ≤ (nI x).toInt ∧ (nI x).toInt ≤ 10) = true := by
            rw [nI_toInt (by omega)]
            exact decide_eq_true (by omega)
          by_cases h8 : (qL l t l.length).length ≤ 8
          · have p2 : 2 ^ (qL l t l.length).length ≤ 256 := tl_p8 h8
            obtain ⟨h3, z1, z2⟩ := t7_f65 S.1 t16 h8 a8 b8 x10 u am_f 0 h2 H2 (tl_on_Mo (by decide) y3 S1.2.2) y2 (Nat.zero_le _) (by unfold am_f; omega)
            have ch := t6_chL H1 x2 S.1 h8 a8 b8 x10 am_f 0 (Nat.zero_le _) (by unfold am_f; omega)
            have al := wS_all (qL l t l.length).length (by omega) x (by omega)
            have sle : uf_sm (gF l t a b x) (2 ^ (qL l t l.length).length) ≤ uf_sm (wS x (qL l t l.length).length) (2 ^ (qL l t l.length).length) := uf_sm_mo _ (fun k _ => by
              unfold gF
              split
              · exact Nat.le_refl _
              · exact Nat.zero_le _)
            have t8 : 10 ^ (qL l t l.length).length ≤ 10 ^ 8 := Nat.pow_le_pow_right (by decide) h8
            have t0 : 0 < 10 ^ (qL l t l.length).length := Nat.pow_pos (by decide)
            have pw := t6_pw h1 10 (show (qL l t l.length).length < 1000 by omega)
            rw [al] at z1 sle
            generalize uf_sm (gF l t a b x) (2 ^ (qL l t l.length).length) = N at *
            generalize 10 ^ (qL l t l.length).length = D at *
            have sl : N < 2 ^ 31 := by omega
            have dl : D < 2 ^ 31 := by omega
            have g0 : 0 < Nat.gcd N D := Nat.gcd_pos_of_pos_right _ t0
            have gb : Nat.gcd N D ≤ D := Nat.gcd_le_right _ t0
            have td := t6_told h1 sl dl t0 u
            have chc : mi_X6_chancesOfJoined am_f h1 0 (nI a) (nI b) (nI x) = some (lN N) := by
              unfold mi_X6_chancesOfJoined
              rw [oc_0 H1, tl_bs, show lo_X6_chancesOfJoined_6 am_f h1 0 (nI a) (nI b) (nI x) am_f 0 0 = _ from ch, tl_bs]
            refine ⟨nI ((if u = true then N else D) / Nat.gcd N D), h1, h3, ?_, ?_, tl_fr_Iv (tl_fr_tr k1 (tl_fr_tr k2 (tl_on_fr tl_s_mu z2))) I⟩
            · simp only [tl_if1 ha, tl_if1 hb, tl_if1 hc, if_neg s0, if_pos s1, or_0_5 H, or_0_1 H, tl_bs, x1]
              rw [or_0_5 H1, tl_bs, oi_94 H1, tl_bs, x2.1, if_pos (show nI (qL l t l.length).length ≤ 8 by rw [il_8, nI_leI (by omega) (by decide)]; exact h8), chc, tl_bs, tl_bs, oi_94 H1, tl_bs, x2.1, show mi_X6_power am_f h1 10 (nI (qL l t l.length).length) = _ from pw, tl_bs, td, tl_bs]
            · simp only [oc_118 H1, tl_bs, tl_if1 ha, tl_if1 hb, tl_if1 hc, sd, if_true, y1]
              rw [if_pos (show nI (qL l t l.length).length ≤ 8 by rw [il_8, nI_leI (by omega) (by decide)]; exact h8), show lo_X7_fails_65 am_f 118 (nI a) (nI b) (nI t) (nI x) u (nI (qL l t l.length).length) am_f 0 0 0 h2 = _ from z1, tl_bs]
              dsimp only
              rw [t7_com h3 sl dl, tl_bs]
              have d1 := t7_dvd (a := N) (b := Nat.gcd N D) sl (by omega)
              have d2 := t7_dvd (a := D) (b := Nat.gcd N D) dl (by omega)
              rw [if_neg (by omega)] at d1 d2
              rw [d1, d2]
              cases u
              · rfl
              · rfl
          · refine ⟨-4, h1, h2, ?_, ?_, tl_fr_Iv (tl_fr_tr k1 k2) I⟩
            · simp only [tl_if1 ha, tl_if1 hb, tl_if1 hc, if_neg s0, if_pos s1, or_0_5 H, or_0_1 H, tl_bs, x1]
              rw [or_0_5 H1, tl_bs, oi_94 H1, tl_bs, x2.1, if_neg (show ¬ nI (qL l t l.length).length ≤ 8 by rw [il_8, nI_leI (by omega) (by decide)]; exact h8)]
            · simp only [oc_118 H1, tl_bs, tl_if1 ha, tl_if1 hb, tl_if1 hc, sd, if_true, y1]
              rw [if_neg (show ¬ nI (qL l t l.length).length ≤ 8 by rw [il_8, nI_leI (by omega) (by decide)]; exact h8)]
      · have hc : tl_tm c = false := by simpa using hc
        refine ⟨-1, h, h, ?_, ?_, I⟩
        · simp only [tl_if1 ha, tl_if1 hb, tl_if0 hc]
        · simp only [oc_118 H, tl_bs, tl_if1 ha, tl_if1 hb, tl_if0 hc]
    · have hb : tl_kn b = false := by simpa using hb
      refine ⟨-1, h, h, ?_, ?_, I⟩
      · simp only [tl_if1 ha, tl_if0 hb]
      · simp only [oc_118 H, tl_bs, tl_if1 ha, tl_if0 hb]
  · have ha : tl_kn a = false := by simpa using ha
    refine ⟨-1, h, h, ?_, ?_, I⟩
    · simp only [tl_if0 ha]
    · simp only [oc_118 H, tl_bs, tl_if0 ha]
end FA
