section LFE
variable {h : am_H} {l : List Nat} {es : List tl_Ev}
theorem t5_lsL (H : tl_Sh h) (S : tl_Sp h 7 l) (hw : tl_wf l) {a b : Nat} (ha : a < 8) (hb : b < 8) {k : Nat} (hk : k < l.length) (k1 : sL (l.getD k 0) = min a b ∧ sH (l.getD k 0) = max a b) (k2 : ∀ i, k < i → i < l.length → ¬ (sL (l.getD i 0) = min a b ∧ sH (l.getD i 0) = max a b)) : ∀ m n, k + m < l.length → m < n → lo_X5_lastOf_7 am_f h 7 (nI a) (nI b) n (nI (k + m)) = some (.inr (nI k)) := by
  have h16 := hw.1
  intro m
  induction m with
  | zero =>
    intro n hm hn
    obtain ⟨n, rfl⟩ : ∃ q, n = q + 1 := ⟨n - 1, by omega⟩
    rw [lo_X5_lastOf_7.eq_2, if_neg (nI_pos (by omega)), Nat.add_zero, t5_io H tl_sps7 S hw (tl_gd hk) ha hb, tl_bs, if_pos (decide_eq_true k1)]
  | succ m ih =>
    intro n hm hn
    obtain ⟨n, rfl⟩ : ∃ q, n = q + 1 := ⟨n - 1, by omega⟩
    rw [lo_X5_lastOf_7.eq_2, if_neg (nI_pos (by omega)), t5_io H tl_sps7 S hw (tl_gd hm) ha hb, tl_bs, if_neg (by rw [decide_eq_true_eq]; exact k2 _ (by omega) hm), show k + (m + 1) = (k + m) + 1 by omega, pk_m1]
    exact ih n (by omega) (by omega)
theorem t5_ls (H : tl_Sh h) (S : tl_Sp h 7 l) (hw : tl_wf l) {a b : Nat} (ha : a < 8) (hb : b < 8) {k : Nat} (hk : k < l.length) (k1 : sL (l.getD k 0) = min a b ∧ sH (l.getD k 0) = max a b) (k2 : ∀ i, k < i → i < l.length → ¬ (sL (l.getD i 0) = min a b ∧ sH (l.getD i 0) = max a b)) : mi_X5_lastOf am_f h 7 (nI a) (nI b) = some (nI k) := by
  have h16 := hw.1
  unfold mi_X5_lastOf
  have e := t5_lsL H S hw ha hb hk k1 k2 (l.length - 1 - k) am_f (by omega) (by unfold am_f; omega)
  rw [show k + (l.length - 1 - k) = l.length - 1 by omega] at e
  rw [sp_c H tl_sps7, tl_bs, n5 H tl_sps7 S, tl_bs, il_1, pk_sub (by omega), e, tl_bs]
def tl_Es (h : am_H) (es : List tl_Ev) : Prop := h.2.1 1 7 = nI es.length ∧ ∀ (i : Nat) (e : tl_Ev), es[i]? = some e → h.2.1 4 i = nI e.1 ∧ (e.1 ≠ 46 → h.2.1 5 i = nI e.2.1 ∧ h.2.1 6 i = nI e.2.2)
theorem tl_on_Es {h2 : am_H} (k : tl_on (tl_P5 7) h h2) (E : tl_Es h es) : tl_Es h2 es := by
  refine ⟨by rw [k.2.2.2 1 (by decide)]; exact E.1, fun i e hi => ?_⟩
  rw [k.2.2.2 4 (by decide), k.2.2.2 5 (by decide), k.2.2.2 6 (by decide)]
  exact E.2 i e hi
theorem t3_lyL (ok : okE es) : ∀ n j h, tl_Sh h → tl_Es h es → tl_Sp h 7 (rpn es j).1 → j ≤ es.length → es.length - j < n → ∃ h2, lo_X3_layOut_7 am_f 1 7 n (nI j) h = some h2 ∧ tl_Sp h2 7 (rpn es es.length).1 ∧ tl_on (tl_P5 7) h h2 := by
  have e16 := ok.1
  intro n
  induction n with
  | zero => intro j h _ _ _ _ q; omega
  | succ n ih =>
    intro j h H E S hj hjn
    rw [lo_X3_layOut_7.eq_2, oi_1 H, tl_bs, E.1]
    simp only [nI_leI (show es.length < 2 ^ 31 by omega) (show j < 2 ^ 31 by omega)]
    by_cases h1 : es.length ≤ j
    · rw [if_pos h1]
      rw [show j = es.length by omega] at S
      exact ⟨h, rfl, S, tl_on_rf⟩
    · have jl : j < es.length := by omega
      have P := rpn_I ok j (by omega)
      have hw := pI_wf P (by omega)
      have V := ok.2 j jl
      have hg : es[j]? = some (es.getD j (46, 0, 0)) := by
        rw [List.getD_eq_getElem?_getD, List.getElem?_eq_getElem jl]; rfl
      obtain ⟨r4, r56⟩ := E.2 j _ hg
      have rs : rpn es (j + 1) = evA (rpn es j) j (es.getD j (46, 0, 0)) := rfl
      generalize he : es.getD j (46, 0, 0) = e at *
      rw [if_neg h1, or_1_4 H, tl_bs, al_4 H (by omega), tl_bs, r4, nI_1]
      rcases V with v | ⟨a8, b8, hn, ⟨v1, v2⟩ | ⟨v1, v2⟩⟩
      · have er : rpn es (j + 1) = rpn es j := by
          rw [rs]; unfold evA; rw [if_neg (by omega), if_neg (by omega)]
        rw [if_neg (show ¬ nI e.1 = 43 by rw [v]; decide), tl_bs, or_1_4 H, tl_bs, al_4 H (by omega), tl_bs, r4, if_neg (show ¬ nI e.1 = 45 by rw [v]; decide), tl_bs]
        exact ih (j + 1) h H E (by rw [er]; exact S) (by omega) (by omega)
      · obtain ⟨r5, r6⟩ := r56 (by omega)
        have er : (rpn es (j + 1)).1 = (tl_put (rpn es j).1 (nI e.2.1) (nI e.2.2) (nI j) (nI 15)).2 := by
          rw [rs, pI_tput P (by omega) a8 b8 hn v2]; unfold evA; rw [if_pos v1]
        obtain ⟨h2, a1, a2, a3, a4⟩ := t5_add H tl_sps7 S hw (nI e.2.1) (nI e.2.2) (nI j) (nI 15)
        have H2 := tl_on_Sh H a4
        have E2 := tl_on_Es a4 E
        obtain ⟨q4, -⟩ := E2.2 j _ hg
        rw [if_pos (show nI e.1 = 43 by rw [v1]; rfl), or_1_5 H, tl_bs, al_5 H (by omega), tl_bs, r5, or_1_6 H, tl_bs, al_6 H (by omega), tl_bs, r6, show mi_X5_add am_f h 7 (nI e.2.1) (nI e.2.2) (nI j) 15 = _ from a1, tl_bs]
        dsimp only
        rw [tl_bs, or_1_4 H2, tl_bs, al_4 H2 (by omega), tl_bs, q4, if_neg (show ¬ nI e.1 = 45 by rw [v1]; decide), tl_bs]
        obtain ⟨h3, b1, b2, b3⟩ := ih (j + 1) h2 H2 E2 (by rw [er]; exact a2) (by omega) (by omega)
        exact ⟨h3, b1, b2, tl_on_tr a4 b3⟩
      · obtain ⟨r5, r6⟩ := r56 (by omega)
        obtain ⟨k1, k2, k3, k4, k5, -⟩ := pI_end P (by omega) a8 b8 hn v2
        have om : (rpn es j).2 (min e.2.1 e.2.2) (max e.2.1 e.2.2) = (rpn es j).2 e.2.1 e.2.2 := by
          by_cases c : e.2.1 ≤ e.2.2
          · rw [Nat.min_eq_left c, Nat.max_eq_right c]
          · rw [Nat.min_eq_right (by omega), Nat.max_eq_left (by omega), P.2.2.1]
        have ls := t5_ls H S hw a8 b8 k1 ⟨k2, k3⟩ (fun i i1 i2 i3 => by
          have := P.2.2.2.2.2.2.2 _ i k1 i2 (by rw [k2, i3.1]) (by rw [k3, i3.2]) (by rw [k2, k3, om]; omega) (by omega)
          omega)
        have er : (rpn es (j + 1)).1 = (tl_end (rpn es j).1 (nI ((rpn es j).2 e.2.1 e.2.2 - 1)) (nI (j - 1))).2 := by
          rw [rs, pI_tend P (by omega) a8 b8 hn v2]; unfold evA; rw [if_neg (by omega), if_pos v1]
        obtain ⟨h2, a1, a2, a3, a4⟩ := t5_stop H tl_sps7 S hw (nI ((rpn es j).2 e.2.1 e.2.2 - 1)) (nI (j - 1))
        have H2 := tl_on_Sh H a4
        have E2 := tl_on_Es a4 E
        rw [if_neg (show ¬ nI e.1 = 43 by rw [v1]; decide), tl_bs, or_1_4 H, tl_bs, al_4 H (by omega), tl_bs, r4, if_pos (show nI e.1 = 45 by rw [v1]; rfl), or_1_5 H, tl_bs, al_5 H (by omega), tl_bs, r5, or_1_6 H, tl_bs, al_6 H (by omega), tl_bs, r6, ls, tl_bs, show nI j - 1 = nI (j - 1) by rw [il_1, pk_sub (by omega)], a1, tl_bs]
        dsimp only
        rw [tl_bs]
        obtain ⟨h3, b1, b2, b3⟩ := ih (j + 1) h2 H2 E2 (by rw [er]; exact a2) (by omega) (by omega)
        exact ⟨h3, b1, b2, tl_on_tr a4 b3⟩
theorem t3_ly (H : tl_Sh h) (ok : okE es) (E : tl_Es h es) : ∃ h2, mi_X3_layOut am_f h 1 7 = some h2 ∧ tl_Sp h2 7 (rpn es es.length).1 ∧ tl_on (tl_P5 7) h h2 := by
  have e16 := ok.1
  have o1 : tl_on (tl_P5 7) h (am_I h 7 4 0) := tl_on_I tl_P5_0
  obtain ⟨h2, a1, a2, a3⟩ := t3_lyL ok am_f 0 _ (tl_on_Sh H o1) (tl_on_Es o1 E) ⟨by rw [tl_I_at, if_pos rfl]; rfl, fun i v hi => by simp [rpn] at hi⟩ (Nat.zero_le _) (by unfold am_f; omega)
  refine ⟨h2, ?_, a2, tl_on_tr o1 a3⟩
  unfold mi_X3_layOut
  rw [oc_1 H, tl_bs, sp_w H tl_sps7, tl_bs, show lo_X3_layOut_7 am_f 1 7 am_f 0 (am_I h 7 4 0) = _ from a1, tl_bs]
theorem t6_l36 : ∀ n j h, tl_Sh h → j ≤ 2 → 2 - j < n → (∀ s, s < j → h.2.1 107 s = nI 0) → ∃ h2, lo_X6_life_36 am_f 0 n (nI j) h = some h2 ∧ (∀ s, s < 2 → h2.2.1 107 s = nI 0) ∧ tl_on [107] h h2 := by
  intro n
  induction n with
  | zero => intro j h _ _ q; omega
  | succ n ih =>
    intro j h H hj hjn P
    rw [lo_X6_life_36.eq_2]
    simp only [il_2, nI_leI (show 2 < 2 ^ 31 by decide) (show j < 2 ^ 31 by omega)]
    by_cases h1 : 2 ≤ j
    · rw [if_pos h1]
      exact ⟨h, rfl, fun k hk => P k (by omega), tl_on_rf⟩
    · have o : tl_on [107] h (am_I h 107 j (nI 0)) := tl_on_I (by decide)
      rw [if_neg h1, or_0_8 H, tl_bs, show vp_nar .boolean 0 = nI 0 from fo_nar 0 (by decide), as_107 H (by omega), tl_bs, nI_1]
      obtain ⟨h2, a1, a2, a3⟩ := ih (j + 1) _ (tl_on_Sh H o) (by omega) (by omega) (fun k hk => by
        rw [tl_I_at]
        by_cases e : k = j
        · rw [if_pos e]
        · rw [if_neg e]; exact P k (by omega))
      exact ⟨h2, a1, a2, tl_on_tr o a3⟩
theorem t7_l14 : ∀ n j h, tl_Sh h → j ≤ 17 → 17 - j < n → ∃ h2, lo_X7_life_14 am_f 118 n (nI j) h = some h2 ∧ tl_oB 119 0 h h2 ∧ ∀ x, x < 17 → h2.2.1 119 (0 + x) = if x < j then h.2.1 119 (0 + x) else h.2.1 119 (17 + x) := by
  intro n
  induction n with
  | zero => intro j h _ _ q; omega
  | succ n ih =>
    intro j h H hj hjn
    rw [lo_X7_life_14.eq_2]
    simp only [il_17, nI_leI (show 17 < 2 ^ 31 by decide) (show j < 2 ^ 31 by omega)]
    by_cases h1 : 17 ≤ j
    · rw [if_pos h1]
      exact ⟨h, rfl, tl_oB_rf, fun x hx => by rw [if_pos (by omega)]⟩
    · rw [if_neg h1]
      simp only [or_118_0 H, tl_bs, nI_add, al_119 H (show 17 + j < 34 by omega), as_119 H (show j < 34 by omega), nI_1]
      have on1 : tl_oB 119 0 h (am_I h 119 j (h.2.1 119 (17 + j))) := tl_oB_I (by omega) (by omega)
      obtain ⟨h2, a1, a2, a3⟩ := ih (j + 1) _ (tl_oB_Sh H on1) (by omega) (by omega)
      refine ⟨h2, a1, tl_oB_tr on1 a2, fun x hx => ?_⟩
      rw [a3 x hx]
      by_cases e1 : x < j
      · rw [if_pos (by omega), if_pos e1, tl_I_nj (by omega)]
      · by_cases e2 : x = j
        · subst e2
          rw [if_pos (by omega), if_neg e1, tl_I_at, if_pos (by omega)]
        · rw [if_neg (by omega), if_neg e1, tl_I_nj (by omega)]
def tl_rL (p j : Nat) : Bool := tl_sc p j || (decide (7 ≤ p) && decide (p ≤ 11)) || (decide (p = 17) && decide (j = 1)) || decide (p = 107) || decide (p = 119) || (decide (p = 118) && decide (j = 4)) || decide (p = 132)
theorem rL_T : ∀ p j, rT p j = true → tl_rL p j = false := by intro p j; simp [rT, tl_rL, tl_sc, tl_scp]; omega
theorem rL_N : ∀ p j, rN p j = true → tl_rL p j = false := by intro p j; simp [rN, tl_rL, tl_sc, tl_scp]; omega
theorem tl_ch_fr {r : Nat → Nat → Bool} {h2 : am_H} (hr : ∀ p j, tl_sc p j = true → r p j = true) (k : tl_fr h h2) : tl_ch r h h2 := ⟨fun p j q => k.2.2.2 p j (Bool.eq_false_iff.mpr (fun z => by rw [hr p j z] at q; cases q)), k.2.1⟩
theorem rL_sc : ∀ p j, tl_sc p j = true → tl_rL p j = true := by intro p j q; simp [tl_rL, q]
theorem e_life (I : tl_I h) : tl_st (mi_X6_life am_f h 0) (fun h1 => mi_X7_life am_f h1 118) := by
  obtain ⟨H, ⟨l, S⟩, ⟨tx, X⟩, ⟨ac, A⟩, ⟨kp, K⟩, ⟨sn, N⟩, D⟩ := id I
  obtain ⟨w, ⟨q, AC⟩, nx, AM⟩ := tl_PA_to A
  obtain ⟨h1, a1, a2, a3⟩ := t3_ff H X
  have H1 := tl_fr_Sh a2 H
  have X1 := tl_fr_PT a2 X
  have ok := txF_ok (tx := tx)
  unfold mi_X6_life mi_X7_life tl_st
  rw [oc_0 H, tl_bs, or_0_0 H, tl_bs, a1, tl_bs]
  dsimp only
  by_cases c : (txF tx).1 = -9
  · obtain ⟨T1, T2, T3, T4⟩ := a3 c
    obtain ⟨h2, b1, b2, b3⟩ := t3_ly H1 ok ⟨T3, T4⟩
    have H2 := tl_on_Sh H1 b3
    have o3 : tl_on [17] h2 (am_I h2 17 1 0) := tl_on_I (by decide)
    have H3 := tl_on_Sh H2 o3
    obtain ⟨h4, c1, c2, c3⟩ := t6_l36 am_f 0 _ H3 (by omega) (by decide) (fun s hs => by omega)
    have H4 := tl_on_Sh H3 c3
    have S4 : tl_Sp h4 7 (rpn (txF tx).2 (txF tx).2.length).1 := tl_on_Sp (ps := [107]) (by decide) c3 (tl_on_Sp (ps := [17]) (by decide) o3 b2)
    have q1 : tl_ch tl_rL h1 h2 := tl_ch_on (fun p hp j => by
      obtain ⟨k, k5, rfl⟩ := tl_P5_m hp
      simp [tl_rL]
      omega) b3
    have q2 : tl_ch tl_rL h2 (am_I h2 17 1 0) := tl_ch_I (by decide)
    have q3 : tl_ch tl_rL (am_I h2 17 1 0) h4 := tl_ch_on (fun p hp j => by
      have : p = 107 := by simpa using hp
      subst this
      simp [tl_rL]) c3
    have kc : tl_ch tl_rL h h4 := tl_ch_tr (tl_ch_tr (tl_ch_tr (tl_ch_fr rL_sc a2) q1) q2) q3
    have rf : h4.2.2.2 = h.2.2.2 := (c3.2.2.1.trans (o3.2.2.1.trans (b3.2.2.1.trans a2.2.2.1)))
    have X4 := kT (tl_ch_kp kc rL_T) X
    obtain ⟨h5, d1, d2, d3⟩ := t7_rdt H4 X4
    have H5 := tl_fr_Sh d2 H4
    obtain ⟨h6, e1, e2, e3⟩ := t7_l14 am_f 0 h5 H5 (by omega) (by decide)
    have H6 := tl_oB_Sh H5 e2
    have H7 : tl_Sh (am_I h6 118 4 0) := tl_Sh_I H6
    have H8 : tl_Sh (am_I (am_I h6 118 4 0) 132 0 (nI 0)) := tl_Sh_I H7
    have H9 : tl_Sh (am_I (am_I (am_I h6 118 4 0) 132 0 (nI 0)) 132 1 (nI 0)) := tl_Sh_I H8
    have P := rpn_I ok (txF tx).2.length (Nat.le_refl _)
    have hw := pI_wf P ok.1
    have M5 := d3 c
    generalize (rpn (txF tx).2 (txF tx).2.length).1 = y at *
    have M6 : tl_Mo h6 0 y := tl_cp_Bk (P := 119) (o := 0) (Q := 119) (q := 17) (fun x hx => by rw [e3 x hx, if_neg (by omega)]) hw.1 M5
    have M9 : tl_Mo (am_I (am_I (am_I h6 118 4 0) 132 0 (nI 0)) 132 1 (nI 0)) 0 y := ⟨by rw [tl_I_ne (by decide), tl_I_ne (by decide), tl_I_ne (by decide)]; exact M6.1, fun i v hi => by rw [tl_I_ne (by decide), tl_I_ne (by decide), tl_I_ne (by decide)]; exact M6.2 i v hi⟩
    have S5 : tl_Sp h5 7 y := tl_fr_Sp d2 (by decide) S4
    have s6 : tl_on [119] h5 h6 := tl_oB_on (by decide) e2
    have s9 : tl_on [118, 132] h6 (am_I (am_I (am_I h6 118 4 0) 132 0 (nI 0)) 132 1 (nI 0)) := tl_on_tr (tl_on_tr (tl_on_I (by decide)) (tl_on_I (by decide))) (tl_on_I (by decide))
    have S9 : tl_Sp (am_I (am_I (am_I h6 118 4 0) 132 0 (nI 0)) 132 1 (nI 0)) 7 y := tl_on_Sp (by decide) s9 (tl_on_Sp (by decide) s6 S5)
    have q4 : tl_ch tl_rL h4 h5 := tl_ch_fr rL_sc d2
    have q5 : tl_ch tl_rL h5 h6 := tl_ch_oB (fun j _ _ => by simp [tl_rL]) e2
    have q6 : tl_ch tl_rL h6 (am_I (am_I (am_I h6 118 4 0) 132 0 (nI 0)) 132 1 (nI 0)) := tl_ch_tr (tl_ch_tr (tl_ch_I (by decide)) (tl_ch_I (by decide))) (tl_ch_I (by decide))
    have kk := tl_ch_tr (tl_ch_tr (tl_ch_tr kc q4) q5) q6
    have rf9 : (am_I (am_I (am_I h6 118 4 0) 132 0 (nI 0)) 132 1 (nI 0)).2.2.2 = h.2.2.2 := by
      show h6.2.2.2 = _
      rw [e2.2.2.1, d2.2.2.1, rf]
    have g17 : h4.2.1 17 1 = nI 0 := by rw [c3.2.2.2 17 (by decide), tl_I_at, if_pos rfl]; rfl
    have f17 : (am_I (am_I (am_I h6 118 4 0) 132 0 (nI 0)) 132 1 (nI 0)).2.1 17 1 = nI 0 := by
      rw [s9.2.2.2 17 (by decide), s6.2.2.2 17 (by decide), d2.2.2.2 17 1 (by decide)]; exact g17
    have f107 : ∀ s, s < 2 → (am_I (am_I (am_I h6 118 4 0) 132 0 (nI 0)) 132 1 (nI 0)).2.1 107 s = nI 0 := fun s hs => by
      rw [s9.2.2.2 107 (by decide), s6.2.2.2 107 (by decide), d2.2.2.2 107 s (tl_sc_p (by decide) (by decide) (by decide))]; exact c2 s hs
    have f132 : ∀ s, s < 2 → (am_I (am_I (am_I h6 118 4 0) 132 0 (nI 0)) 132 1 (nI 0)).2.1 132 s = nI 0 := fun s hs => by
      rw [tl_I_at, tl_I_at]
      by_cases z : s = 1
      · rw [if_pos z]
      · rw [if_neg z, if_pos (by omega)]
    refine ⟨nI y.length, h4, am_I (am_I (am_I h6 118 4 0) 132 0 (nI 0)) 132 1 (nI 0), ?_, ?_, H9, ⟨y, hw, S9, M9⟩, ⟨tx, kT (tl_ch_kp kk rL_T) X⟩, ⟨[], tl_PA_of ⟨Nat.zero_le _, fun i l hi => by simp at hi⟩ (q := q) ⟨f17, fun i hi => by rw [rf9]; exact AC.2.1 i hi, AC.2.2.1, fun i l hi => by simp at hi⟩ (nx := nx) ⟨?_, AM.2.1, ?_, fun i l hi => by simp at hi⟩⟩, ⟨fun _ => none, fun s hs => ⟨f107 s hs, f132 s hs, fun l hl => by cases hl⟩⟩, ⟨sn, kN (tl_ch_kp kk rL_N) N⟩, ?_⟩
    · rw [if_pos c, or_0_0 H1, tl_bs, or_0_1 H1, tl_bs, b1, tl_bs, or_0_3 H2, tl_bs, ow_17 H2, tl_bs, show lo_X6_life_36 am_f 0 am_f 0 (am_I h2 17 1 0) = _ from c1, tl_bs, or_0_1 H4, tl_bs, sp_i H4 tl_sps7, tl_bs, S4.1]
    · rw [oc_118 H4, tl_bs, d1, tl_bs]
      dsimp only
      rw [if_pos c, show lo_X7_life_14 am_f 118 am_f 0 h5 = _ from e1, tl_bs, ow_118 H6, tl_bs, or_118_18 H7, tl_bs, show vp_nar .boolean 0 = nI 0 from fo_nar 0 (by decide), show am_si (am_I h6 118 4 0) 10 132 0 (nI 0) = _ from as_132 H7 (j := 0) (by decide), tl_bs, or_118_18 H8, tl_bs, show am_si (am_I (am_I h6 118 4 0) 132 0 (nI 0)) 10 132 1 (nI 0) = _ from as_132 H8 (j := 1) (by decide), tl_bs, or_118_0 H9, tl_bs, show am_li (am_I (am_I (am_I h6 118 4 0) 132 0 (nI 0)) 132 1 (nI 0)) 9 119 0 = _ from al_119 H9 (j := 0) (by decide), tl_bs]
      have := M9.1
      rw [Nat.mul_zero] at this
      rw [this]
    · rw [tl_I_ne (by decide), tl_I_ne (by decide), tl_I_at, if_pos rfl]; rfl
    · rw [kk.1 118 5 (by decide)]; exact AM.2.2.1
    · unfold tl_PD
      rw [kk.2]
      exact D
  · obtain ⟨h2, b1, b2, -⟩ := t7_rdt H1 X1
    refine ⟨-3, h1, h2, ?_, ?_, tl_fr_Iv (tl_fr_tr a2 b2) I⟩
    · rw [if_neg c]
    · rw [oc_118 H1, tl_bs, b1, tl_bs]
      dsimp only
      rw [if_neg c]
end LFE
