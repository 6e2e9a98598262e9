section MM
variable {h : am_H} {l : List Nat} {sn : List tl_N4}
def mAj (l : List Nat) (sn : List tl_N4) (v j : Nat) : Bool := decide (∀ i, i < j → ∀ x, sn[i]? = some x → mJ l v x = decide (x.2.2.2 = 1))
theorem am_b_inj {a b : Bool} : (am_b a = am_b b) ↔ a = b := by cases a <;> cases b <;> decide
theorem t7_mbL (hw : tl_wf l) {v : Nat} (hv : tl_wf (l ++ [v])) : ∀ n j h, tl_Sh h → tl_Mo h 1 (l ++ [v]) → tl_PN h sn → j ≤ sn.length → sn.length - j < n → ∃ h2, lo_X7_mayBe_14 am_f 118 n (mAj l sn v j) (nI j) h = some (mA l sn v, h2) ∧ tl_fr h h2 := by
  intro n
  induction n with
  | zero => intro j h _ _ _ _ q; omega
  | succ n ih =>
    intro j h H M N hj hjn
    have n6 := N.1
    rw [lo_X7_mayBe_14.eq_2, oi_118 H, tl_bs, N.2.2.1]
    simp only [nI_leI (show sn.length < 2 ^ 31 by omega) (show j < 2 ^ 31 by omega)]
    by_cases h1 : sn.length ≤ j
    · rw [if_pos h1, show j = sn.length by omega]
      exact ⟨h, rfl, tl_fr_rf⟩
    · rw [if_neg h1]
      obtain ⟨x, hx⟩ := tl_sn_gd (show j < sn.length by omega)
      have j6 : j < 6 := by omega
      obtain ⟨⟨x1, x2, x3, x4⟩, -, ⟨y1, y2, y3, y4⟩⟩ := N.2.2.2 j x hx
      by_cases c : mAj l sn v j = true
      · obtain ⟨h2, z1, z2⟩ := t7_joined H hv (show 1 < 2 by decide) M x1 (show 65535 < 65536 by decide) x2 x3
        have H2 := tl_on_Sh H z2
        have w4 : h2.2.1 130 j = nI x.2.2.2 := by rw [z2.2.2.2 130 (by decide)]; exact y4
        rw [if_pos c, or_118_13 H, tl_bs, al_128 H j6, tl_bs, y2, or_118_14 H, tl_bs, al_129 H j6, tl_bs, y3, or_118_12 H, tl_bs, al_127 H j6, tl_bs, y1, show mi_X7_areJoined am_f h 118 1 (nI x.2.1) (nI x.2.2.1) (nI x.1) 65535 = _ from z1, tl_bs]
        dsimp only
        rw [or_118_15 H2, tl_bs, al_130 H2 j6, tl_bs, w4]
        have e1 : ((if nI x.2.2.2 = 1 then some true else some false) : Option Bool) = some (decide (x.2.2.2 = 1)) := by
          rw [il_1]
          simp only [nI_eq (show x.2.2.2 < 2 ^ 31 by omega) (show 1 < 2 ^ 31 by decide)]
          by_cases q : x.2.2.2 = 1
          · rw [if_pos q, decide_eq_true q]
          · rw [if_neg q, decide_eq_false q]
        rw [e1, tl_bs]
        simp only [am_b_inj]
        have e2 : ((if decide (uf_rt (qA (l ++ [v]) 65535 x.1).1 x.2.1 = uf_rt (qA (l ++ [v]) 65535 x.1).1 x.2.2.1) = decide (x.2.2.2 = 1) then some true else some false) : Option Bool) = some (mAj l sn v (j + 1)) := by
          have cc := of_decide_eq_true c
          by_cases q : mJ l v x = decide (x.2.2.2 = 1)
          · rw [if_pos (show decide (uf_rt (qA (l ++ [v]) 65535 x.1).1 x.2.1 = uf_rt (qA (l ++ [v]) 65535 x.1).1 x.2.2.1) = decide (x.2.2.2 = 1) from q)]
            refine tl_dt (fun i hi y hy => ?_)
            by_cases e : i = j
            · subst e
              rw [hx] at hy
              cases hy
              exact q
            · exact cc i (by omega) y hy
          · rw [if_neg (show ¬ decide (uf_rt (qA (l ++ [v]) 65535 x.1).1 x.2.1 = uf_rt (qA (l ++ [v]) 65535 x.1).1 x.2.2.1) = decide (x.2.2.2 = 1) from q)]
            exact tl_df (fun z => q (z j (by omega) x hx))
        rw [e2, tl_bs, nI_1]
        have k2 := tl_on_fr tl_s_mu z2
        obtain ⟨h3, r1, r2⟩ := ih (j + 1) h2 H2 (tl_on_Mo (by decide) z2 M) (tl_fr_PN k2 N) (by omega) (by omega)
        exact ⟨h3, r1, tl_fr_tr k2 r2⟩
      · rw [if_neg c]
        have cc := Bool.eq_false_iff.mpr c
        have e : mA l sn v = false := by
          unfold mA
          rw [decide_eq_false_iff_not]
          intro z
          exact c (decide_eq_true (fun i hi y hy => z i (by omega) y hy))
        rw [cc, e]
        exact ⟨h, rfl, tl_fr_rf⟩
theorem t7_mb (H : tl_Sh h) (M : tl_Mo h 0 l) (hw : tl_wf l) (hl : l.length < 16) (N : tl_PN h sn) {v : Nat} (hv : v < 16384 ∧ sL v < sH v ∧ sF v ≤ sT v) : ∃ h2, mi_X7_mayBe am_f h 118 (nI v) = some (mA l sn v, h2) ∧ tl_fr h h2 := by
  have n6 := N.1
  obtain ⟨h1, a1, a2, a3⟩ := t7_lt H M hw.1
  have H1 := tl_fr_Sh a3 H
  obtain ⟨h2, b1, b2, b3⟩ := t7_po H1 (show 1 < 2 by decide) a2 hl v
  have k2 := tl_oB_fr b3
  have H2 := tl_fr_Sh k2 H1
  obtain ⟨h3, c1, c2⟩ := t7_mbL (sn := sn) hw (tl_wf_app hw hl hv) am_f 0 h2 H2 b2 (tl_fr_PN (tl_fr_tr a3 k2) N) (Nat.zero_le _) (by unfold am_f; omega)
  refine ⟨h3, ?_, tl_fr_tr a3 (tl_fr_tr k2 c2)⟩
  have e0 : mAj l sn v 0 = true := decide_eq_true (fun i hi => by omega)
  rw [e0] at c1
  unfold mi_X7_mayBe
  rw [oc_118 H, tl_bs, a1, tl_bs, show mi_X7_putOn am_f h1 118 1 (nI v) = _ from b1, tl_bs, show lo_X7_mayBe_14 am_f 118 am_f true 0 h2 = _ from c1, tl_bs]
theorem tl_cp {a b s t : Nat} (hab : a < b) (hb : b < 8) (hs : s < 16) (ht : t < 16) (hl : l.length < 16) : decide (¬ (tl_put l (nI a) (nI b) (nI s) (nI t)).1 < 0) = (decide (s ≤ t) && tl_fe l (-9) a b s t l.length) := by
  unfold tl_put
  rw [if_pos ⟨tl_kn_n (by omega), tl_kn_n hb, tl_tm_n hs, tl_tm_n ht⟩, nI_tt (by omega), nI_tt (by omega), nI_tt (by omega), nI_tt (by omega), Nat.min_eq_left (by omega), Nat.max_eq_right (by omega)]
  have ne : ¬ nI a = nI b := by rw [nI_eq (by omega) (by omega)]; omega
  by_cases c1 : s ≤ t
  · rw [if_neg (by rintro (q | q); exact ne q; omega), decide_eq_true c1, Bool.true_and]
    by_cases c2 : tl_fe l (-9) a b s t l.length = true
    · rw [if_pos c2, if_pos hl, c2]
      exact decide_eq_true (nI_pos (by omega))
    · rw [if_neg c2, Bool.eq_false_iff.mpr c2]
      exact decide_eq_false (fun z => z (show (-3 : Int32) < 0 by decide))
  · rw [if_pos (Or.inr (by omega)), decide_eq_false c1, Bool.false_and]
    exact decide_eq_false (fun z => z (show (-2 : Int32) < 0 by decide))
def fm (g : Nat → Bool) (v : Nat) (r : Int32) : Prop := (tl_N g v = 0 ∧ r = -9) ∨ ∃ u, u < v ∧ g u = true ∧ (∀ k, k < u → g k = false) ∧ r = nI (dcd u) ∧ tl_N g v ≠ 0
theorem t7_m34 (hw : tl_wf l) (hl : l.length < 16) (a : Int32) : ∀ n v h r, tl_Sh h → tl_PS h l → tl_PN h sn → v ≤ 16384 → 16384 - v < n → fm (gd l sn) v r → ∃ h2 r2, lo_X7_missing_34 am_f 118 a n (nI (tl_N (gd l sn) v)) r (nI v) h = some (nI (tl_N (gd l sn) 16384), r2, h2) ∧ fm (gd l sn) 16384 r2 ∧ tl_fr h h2 := by
  intro n
  induction n with
  | zero => intro v h r _ _ _ _ q; omega
  | succ n ih =>
    intro v h r H S N hv hvn F
    rw [lo_X7_missing_34.eq_2]
    simp only [il_16384, nI_leI (show 16384 < 2 ^ 31 by decide) (show v < 2 ^ 31 by omega)]
    by_cases h1 : 16384 ≤ v
    · have e : v = 16384 := by omega
      subst e
      rw [if_pos h1]
      exact ⟨h, r, rfl, F, tl_fr_rf⟩
    · have vl : v < 16384 := by omega
      have M := S.2.2
      have lL := sL_lt vl
      have lH := sH_lt v
      have lF := sF_lt v
      have lT := sT_lt v
      have nb := tl_N_le (gd l sn) v
      have cp : mi_X7_canPut am_f h 118 0 (nI (sL v)) (nI (sH v)) (nI (sF v)) (nI (sT v)) = _ := t7_cpt H (show 0 < 2 by decide) M hw _ _ _ _
      rw [if_neg h1, t7_L am_f h vl, tl_bs, t7_H am_f h vl, tl_bs, tl_bs, tl_bs, t7_F am_f h vl, tl_bs, t7_T am_f h vl, tl_bs, cp, tl_bs, tl_iteB, nI_1]
      simp only [nI_leI (show sH v < 2 ^ 31 by omega) (show sL v < 2 ^ 31 by omega)]
      have es : tl_N (gd l sn) (v + 1) = tl_N (gd l sn) v + (if gd l sn v = true then 1 else 0) := rfl
      by_cases p : sL v < sH v ∧ sF v ≤ sT v ∧ tl_fe l (-9) (sL v) (sH v) (sF v) (sT v) l.length = true
      · obtain ⟨p1, p2, p3⟩ := p
        have ge : gd l sn v = mA l sn v := by
          unfold gd
          rw [decide_eq_true p1, decide_eq_true p2, p3, Bool.true_and, Bool.true_and, Bool.true_and]
        rw [if_neg (by omega), tl_cp p1 lH lF lT hl, decide_eq_true p2, p3, Bool.true_and, tl_bs, if_pos rfl]
        obtain ⟨h2, b1, b2⟩ := t7_mb H M hw hl N ⟨vl, p1, p2⟩
        rw [b1, tl_bs]
        dsimp only
        have H2 := tl_fr_Sh b2 H
        have S2 := tl_fr_PS b2 S
        have N2 := tl_fr_PN b2 N
        by_cases c : mA l sn v = true
        · have gt : gd l sn v = true := ge.trans c
          rw [if_pos c, t7_L am_f h2 vl, tl_bs, t7_H am_f h2 vl, tl_bs, t7_F am_f h2 vl, tl_bs, t7_T am_f h2 vl, tl_bs, nI_1]
          simp only [tl_e0 (show tl_N (gd l sn) v < 2 ^ 31 by omega)]
          rw [gt, if_pos rfl] at es
          have ec : ((100000 : Int32) * nI (sL v) + 10000 * nI (sH v)) + 100 * nI (sF v) + nI (sT v) = nI (dcd v) := by
            rw [il_100000, il_10000, il_100, pk_mul, pk_mul, pk_mul, nI_add, nI_add, nI_add]
            rfl
          rw [ec]
          by_cases z : tl_N (gd l sn) v = 0
          · rw [if_pos z, tl_bs, tl_bs]
            dsimp only
            rw [← es]
            obtain ⟨h3, r2, d1, d2, d3⟩ := ih (v + 1) h2 (nI (dcd v)) H2 S2 N2 (by omega) (by omega) (Or.inr ⟨v, by omega, gt, tl_N_z v z, rfl, by omega⟩)
            exact ⟨h3, r2, d1, d2, tl_fr_tr b2 d3⟩
          · rw [if_neg z, tl_bs, tl_bs]
            dsimp only
            rw [← es]
            obtain ⟨h3, r2, d1, d2, d3⟩ := ih (v + 1) h2 r H2 S2 N2 (by omega) (by omega) (by
              rcases F with ⟨f1, -⟩ | ⟨u, f1, f2, f3, f4, f5⟩
              · exact absurd f1 z
              · exact Or.inr ⟨u, by omega, f2, f3, f4, by omega⟩)
            exact ⟨h3, r2, d1, d2, tl_fr_tr b2 d3⟩
        · have gf : gd l sn v = false := ge.trans (Bool.eq_false_iff.mpr c)
          rw [if_neg c, tl_bs]
          dsimp only
          rw [gf, if_neg (by decide)] at es
          have es2 : tl_N (gd l sn) v = tl_N (gd l sn) (v + 1) := by omega
          rw [es2, nI_1]
          obtain ⟨h3, r2, d1, d2, d3⟩ := ih (v + 1) h2 r H2 S2 N2 (by omega) (by omega) (by
            rcases F with ⟨f1, f2⟩ | ⟨u, f1, f2, f3, f4, f5⟩
            · exact Or.inl ⟨by omega, f2⟩
            · exact Or.inr ⟨u, by omega, f2, f3, f4, by omega⟩)
          exact ⟨h3, r2, d1, d2, tl_fr_tr b2 d3⟩
      · have gf : gd l sn v = false := by
          rw [Bool.eq_false_iff]
          intro z
          unfold gd at z
          simp only [Bool.and_eq_true, decide_eq_true_eq] at z
          exact p ⟨z.1, z.2.1, z.2.2.1⟩
        have ej : ((if sH v ≤ sL v then some false else some (decide (¬ (tl_put l (nI (sL v)) (nI (sH v)) (nI (sF v)) (nI (sT v))).1 < 0))) : Option Bool) = some false := by
          by_cases q : sH v ≤ sL v
          · rw [if_pos q]
          · rw [if_neg q, tl_cp (by omega) lH lF lT hl]
            by_cases q2 : sF v ≤ sT v
            · by_cases q3 : tl_fe l (-9) (sL v) (sH v) (sF v) (sT v) l.length = true
              · exact absurd ⟨by omega, q2, q3⟩ p
              · rw [Bool.eq_false_iff.mpr q3, Bool.and_false]
            · rw [decide_eq_false q2, Bool.false_and]
        rw [ej, tl_bs, if_neg (by decide), tl_bs]
        dsimp only
        rw [gf, if_neg (by decide)] at es
        have es2 : tl_N (gd l sn) v = tl_N (gd l sn) (v + 1) := by omega
        rw [es2, nI_1]
        exact ih (v + 1) h r H S N (by omega) (by omega) (by
          rcases F with ⟨f1, f2⟩ | ⟨u, f1, f2, f3, f4, f5⟩
          · exact Or.inl ⟨by omega, f2⟩
          · exact Or.inr ⟨u, by omega, f2, f3, f4, by omega⟩)
theorem e_missing (I : tl_I h) (a : Int32) : tl_st (mi_X6_missing am_f h 0 a) (fun h1 => mi_X7_missing am_f h1 118 a) := by
  obtain ⟨H, ⟨l, S⟩, -, -, -, ⟨sn, N⟩, -⟩ := id I
  have h16 := S.1.1
  unfold mi_X6_missing mi_X7_missing tl_st
  simp only [oc_0 H, tl_bs, tl_in01]
  rcases tl_01 a with hd | ⟨s, s2, rfl⟩
  · refine ⟨-2, h, h, ?_, ?_, I⟩
    · by_cases q : a < 0
      · rw [if_pos q]
      · rw [if_neg q, if_neg]
        rw [Int32.le_iff_toInt_le]
        rw [Int32.lt_iff_toInt_lt] at q
        have q : ¬ a.toInt < 0 := q
        show ¬ a.toInt ≤ 1
        omega
    · rw [oc_118 H, tl_bs, if_neg (by rw [decide_eq_true_eq]; omega)]
  · have s0 : ¬ nI s < 0 := nI_pos (by omega)
    have s1 : nI s ≤ 1 := by rw [il_1, nI_leI (by omega) (by decide)]; omega
    have sd : decide (0 ≤ (nI s).toInt ∧ (nI s).toInt ≤ 1) = true := by
      rw [nI_toInt (by omega)]
      exact decide_eq_true (by omega)
    rw [if_neg s0, if_pos s1, or_0_1 H, tl_bs, n5 H tl_sps7 S.2.1, tl_bs]
    by_cases hl : l.length < 16
    · rw [if_pos (show nI l.length < 16 by rw [il_16, nI_ltI (by omega) (by decide)]; exact hl), or_0_6 H, tl_bs, tl_bs, or_0_5 H, tl_bs]
      obtain ⟨h1, x1, x2, x3⟩ := t4_la H S.2.1 S.1 N
      have k1 := tl_on_fr tl_s_la x3
      have H1 := tl_fr_Sh k1 H
      have S1 := tl_fr_PS k1 S
      have N1 := tl_fr_PN k1 N
      rw [x1, tl_bs]
      obtain ⟨h2, r2, y1, y2, y3⟩ := t7_m34 S.1 hl (nI s) am_f 0 h1 (-9) H1 S1 N1 (by omega) (by decide) (Or.inl ⟨rfl, rfl⟩)
      have fin : tl_I h2 := tl_fr_Iv (tl_fr_tr k1 y3) I
      have m0 : mi_X7_many am_f h1 118 0 = some (nI l.length) := t7_many H1 (show 0 < 2 by decide) S1.2.2 am_f
      have n16 : ¬ nI l.length = 16 := by rw [il_16, nI_eq (by omega) (by decide)]; omega
      rcases (show s = 0 ∨ s = 1 by omega) with rfl | rfl
      · have e4 := t6_h4 H1 S1.2.1 S.1 hl N1 x2 am_f 0 (by omega) (by decide)
        refine ⟨nI (tl_N (gd l sn) 16384), h1, h2, ?_, ?_, fin⟩
        · rw [if_pos (show nI 0 = 0 from rfl)]
          unfold mi_X6_howManyMissing
          rw [oc_0 H1, tl_bs, show lo_X6_howManyMissing_4 am_f h1 0 am_f 0 0 = _ from e4, tl_bs, tl_bs, tl_bs]
        · rw [oc_118 H1, tl_bs, sd, if_pos rfl, m0, tl_bs, if_neg n16, show lo_X7_missing_34 am_f 118 (nI 0) am_f 0 (-9) 0 h1 = _ from y1, tl_bs]
          dsimp only
          rw [if_pos (show nI 0 = 0 from rfl), tl_bs]
      · obtain ⟨w, w1, w2⟩ := t6_f2 H1 S1.2.1 S.1 hl N1 x2 am_f 0 (by omega) (by decide)
        have er : mi_X6_firstMissing am_f h1 0 = some r2 := by
          unfold mi_X6_firstMissing
          rw [oc_0 H1, tl_bs, show lo_X6_firstMissing_2 am_f h1 0 am_f 0 = some w from w1, tl_bs]
          rcases w2 with ⟨rfl, q⟩ | ⟨v, rfl, v1, v2, v3, v4⟩
          · rcases y2 with ⟨f1, rfl⟩ | ⟨u, f1, f2, f3, f4, f5⟩
            · rfl
            · rw [q u (Nat.zero_le _) f1] at f2; cases f2
          · rcases y2 with ⟨f1, -⟩ | ⟨u, f1, f2, f3, rfl, f5⟩
            · rw [tl_N_z _ f1 v v2] at v3; cases v3
            · have : u = v := by
                rcases Nat.lt_trichotomy u v with c | c | c
                · rw [v4 u (Nat.zero_le _) c] at f2; cases f2
                · exact c
                · rw [f3 v c] at v3; cases v3
              rw [this]
        refine ⟨r2, h1, h2, ?_, ?_, fin⟩
        · rw [if_neg (show ¬ nI 1 = 0 by decide), er, tl_bs, tl_bs]
        · rw [oc_118 H1, tl_bs, sd, if_pos rfl, m0, tl_bs, if_neg n16, show lo_X7_missing_34 am_f 118 (nI 1) am_f 0 (-9) 0 h1 = _ from y1, tl_bs]
          dsimp only
          rw [if_neg (show ¬ nI 1 = 0 by decide), tl_bs]
    · have l16 : l.length = 16 := by omega
      have m0 : mi_X7_many am_f h 118 0 = some (nI l.length) := t7_many H (show 0 < 2 by decide) S.2.2 am_f
      refine ⟨-4, h, h, ?_, ?_, I⟩
      · rw [if_neg (show ¬ nI l.length < 16 by rw [il_16, nI_ltI (by omega) (by decide)]; exact hl)]
      · rw [oc_118 H, tl_bs, sd, if_pos rfl, m0, tl_bs, if_pos (show nI l.length = 16 by rw [l16]; rfl)]
end MM
