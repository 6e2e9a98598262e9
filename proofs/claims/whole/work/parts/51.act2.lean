section A2
variable {h : am_H} {ac : List (List Nat)} {l : List Nat}
theorem t7_k (H : tl_Sh h) {nx : Nat} (A : tl_Am h ac nx) (w : tl_wfs ac) (M : tl_Mo h 0 l) (hw : tl_wf l) {l2 : List Nat} {mo : am_H → Option am_H}
    (hm : ∀ h, tl_Sh h → tl_Mo h 0 l → ∃ h2, mo h = some h2 ∧ tl_Mo h2 0 l2 ∧ tl_oB 119 (17 * 0) h h2) : ∃ g h2, mi_X7_keepAct am_f h 118 = some g ∧ mo g = some h2 ∧ tl_Sh g ∧ tl_Mo g 0 l ∧ tl_Sh h2 ∧ tl_Mo h2 0 l2 ∧ (∃ nx2, tl_Am h2 (tl_acn ac l) nx2) ∧ tl_ch tl_rY h h2 ∧ h2.2.2.2 = h.2.2.2 := by
  obtain ⟨g, nx2, a1, a2, a3, a4, a5, a6⟩ := t7_ka H A w M hw.1
  obtain ⟨h2, b1, b2, b3⟩ := hm g a2 a4
  have w2 := tl_acn_w w hw
  refine ⟨g, h2, a1, b1, a2, a4, tl_oB_Sh a2 b3, b2, ⟨nx2, ?_⟩, tl_ch_tr a5 (tl_ch_oB (fun j _ _ => by simp [tl_rY]) b3), b3.2.2.1.trans a6⟩
  exact ⟨by rw [b3.2.2.2 _ _ (by omega)]; exact a3.1, a3.2.1, by rw [b3.2.2.2 _ _ (by omega)]; exact a3.2.2.1, fun i x hi => tl_oB_Bk b3 (w2.2 i x hi).1 (Or.inl (by decide)) (a3.2.2.2 i x hi)⟩
theorem t7_put (H : tl_Sh h) {nx : Nat} (M : tl_Mo h 0 l) (hw : tl_wf l) (w : tl_wfs ac) (A : tl_Am h ac nx) (a b c d : Int32) : ∃ h2, mi_X7_put am_f h 118 a b c d = some ((tl_put l a b c d).1, h2) ∧ (((tl_put l a b c d).1 < 0 ∧ h2 = h) ∨ (¬ (tl_put l a b c d).1 < 0 ∧ tl_Sh h2 ∧ tl_Mo h2 0 (tl_put l a b c d).2 ∧ (∃ nx2, tl_Am h2 (tl_acn ac l) nx2) ∧ tl_ch tl_rY h h2 ∧ h2.2.2.2 = h.2.2.2)) := by
  have h16 := hw.1
  unfold mi_X7_put tl_put
  simp only [oc_118 H, tl_bs, t7_kn, t7_tm]
  by_cases qa : tl_kn a = true
  · by_cases qb : tl_kn b = true
    · by_cases qc : tl_tm c = true
      · by_cases qd : tl_tm d = true
        · obtain ⟨a, a8, rfl⟩ := tl_kn_of qa
          obtain ⟨b, b8, rfl⟩ := tl_kn_of qb
          obtain ⟨c, c16, rfl⟩ := tl_tm_of qc
          obtain ⟨d, d16, rfl⟩ := tl_tm_of qd
          simp only [if_pos qa, if_pos qb, if_pos qc, if_pos qd, nI_tt (show a < 2 ^ 31 by omega), nI_tt (show b < 2 ^ 31 by omega), nI_tt (show c < 2 ^ 31 by omega), nI_tt (show d < 2 ^ 31 by omega), nI_eq (show a < 2 ^ 31 by omega) (show b < 2 ^ 31 by omega), nI_leI (show c < 2 ^ 31 by omega) (show d < 2 ^ 31 by omega), and_self, qa, qb, qc, qd, if_true, t7_C _ _ a8 b8 c16 d16, tl_bs]
          by_cases e1 : a = b
          · rw [if_pos e1, if_pos (Or.inl e1)]
            exact ⟨h, rfl, Or.inl ⟨tl_ng _ (by decide), rfl⟩⟩
          · by_cases e2 : c ≤ d
            · have v := tl_put_v a8 b8 c16 d16 e1 e2
              have hf := t7_free H (show 0 < 2 by decide) M hw (-9) v.1
              rw [sC_L (by omega) c16 d16, sC_H (by omega) c16 d16, sC_F c16 d16, sC_T d16] at hf
              rw [if_neg e1, if_pos e2, if_neg (by omega), show mi_X7_isFree am_f h 118 0 (nI (sC (min a b) (max a b) c d)) (-9) = _ from hf, tl_bs, show mi_X7_many am_f h 118 0 = _ from t7_many H (show 0 < 2 by decide) M am_f, tl_bs, il_16]
              simp only [nI_eq (show l.length < 2 ^ 31 by omega) (show 16 < 2 ^ 31 by decide)]
              by_cases e3 : tl_fe l (-9) (min a b) (max a b) c d l.length = true
              · rw [if_pos e3, if_pos e3]
                by_cases e4 : l.length < 16
                · rw [if_neg (show ¬ l.length = 16 by omega), if_pos e4]
                  obtain ⟨g, h2, x1, x2, x3, x4, x5, x6, x7, x8, x9⟩ := t7_k H A w M hw (l2 := l ++ [sC (min a b) (max a b) c d]) (mo := fun h => mi_X7_putOn am_f h 118 0 (nI (sC (min a b) (max a b) c d))) (fun h H M => t7_po H (show 0 < 2 by decide) M e4 _)
                  rw [x1, tl_bs, x2, tl_bs, show mi_X7_many am_f h2 118 0 = _ from t7_many x5 (show 0 < 2 by decide) x6 am_f, tl_bs, List.length_append, show [sC (min a b) (max a b) c d].length = 1 from rfl, il_1, pk_sub (by omega), Nat.add_sub_cancel]
                  exact ⟨h2, rfl, Or.inr ⟨nI_pos (by omega), x5, x6, x7, x8, x9⟩⟩
                · rw [if_pos (show l.length = 16 by omega), if_neg e4]
                  exact ⟨h, rfl, Or.inl ⟨tl_ng _ (by decide), rfl⟩⟩
              · rw [if_neg e3, if_neg e3]
                exact ⟨h, rfl, Or.inl ⟨tl_ng _ (by decide), rfl⟩⟩
            · rw [if_neg e1, if_neg e2, if_pos (Or.inr (by omega))]
              exact ⟨h, rfl, Or.inl ⟨tl_ng _ (by decide), rfl⟩⟩
        · simp only [qa, qb, qc, qd, if_true, and_false, if_false]
          exact ⟨h, rfl, Or.inl ⟨tl_ng l (by decide), rfl⟩⟩
      · simp only [qa, qb, qc, if_true, and_false, false_and, if_false]
        exact ⟨h, rfl, Or.inl ⟨tl_ng l (by decide), rfl⟩⟩
    · simp only [qa, qb, if_true, and_false, false_and, if_false]
      exact ⟨h, rfl, Or.inl ⟨tl_ng l (by decide), rfl⟩⟩
  · simp only [qa, false_and, if_false]
    exact ⟨h, rfl, Or.inl ⟨tl_ng l (by decide), rfl⟩⟩
theorem e_put (I : tl_I h) (a b c d : Int32) : tl_st (mi_X6_put am_f h 0 a b c d) (fun h1 => mi_X7_put am_f h1 118 a b c d) := by
  unfold mi_X6_put
  exact e_act I (op := fun h p => mi_X5_add am_f h p a b c d) (fun l => tl_put l a b c d) (fun h l H S hw => t5_add H tl_sps7 S hw a b c d) (fun h l ac nx H M hw w A => t7_put H M hw w A a b c d) (fun l _ c => by
    rcases tl_put_or l a b _ d with z | ⟨a', b', s, t, -, -, -, -, -, -, -, -, -, -, z1, -, z2⟩
    · exact z.2
    · rw [z2] at c
      exact absurd c (nI_pos (by omega)))
theorem t7_cut (H : tl_Sh h) {nx : Nat} (M : tl_Mo h 0 l) (hw : tl_wf l) (w : tl_wfs ac) (A : tl_Am h ac nx) (a : Int32) : ∃ h2, mi_X7_cut am_f h 118 a = some ((tl_cut l a).1, h2) ∧ (((tl_cut l a).1 < 0 ∧ h2 = h) ∨ (¬ (tl_cut l a).1 < 0 ∧ tl_Sh h2 ∧ tl_Mo h2 0 (tl_cut l a).2 ∧ (∃ nx2, tl_Am h2 (tl_acn ac l) nx2) ∧ tl_ch tl_rY h h2 ∧ h2.2.2.2 = h.2.2.2)) := by
  have h16 := hw.1
  unfold mi_X7_cut tl_cut
  simp only [oc_118 H, tl_bs, t7_isS H M h16]
  by_cases c : tl_hs a l.length = true
  · obtain ⟨k, k1, rfl⟩ := tl_hs_of c h16
    rw [if_pos c, if_pos c, nI_tt (by omega)]
    obtain ⟨g, h2, x1, x2, x3, x4, x5, x6, x7, x8, x9⟩ := t7_k H A w M hw (l2 := l.eraseIdx k) (mo := fun h => mi_X7_cutOn am_f h 118 0 (nI k)) (fun h H M => t7_co H (show 0 < 2 by decide) M h16 k1)
    rw [x1, tl_bs, x2, tl_bs, show mi_X7_many am_f h2 118 0 = _ from t7_many x5 (show 0 < 2 by decide) x6 am_f, tl_bs, List.length_eraseIdx_of_lt k1]
    exact ⟨h2, rfl, Or.inr ⟨nI_pos (by omega), x5, x6, x7, x8, x9⟩⟩
  · rw [if_neg c, if_neg c]
    exact ⟨h, rfl, Or.inl ⟨tl_ng _ (by decide), rfl⟩⟩
theorem e_cut (I : tl_I h) (a : Int32) : tl_st (mi_X6_cut am_f h 0 a) (fun h1 => mi_X7_cut am_f h1 118 a) := by
  unfold mi_X6_cut
  exact e_act I (op := fun h p => mi_X5_drop am_f h p a) (fun l => tl_cut l a) (fun h l H S hw => t5_drop H tl_sps7 S hw a) (fun h l ac nx H M hw w A => t7_cut H M hw w A a) (fun l hw c => by
    have h16 := hw.1
    rcases tl_cut_or l hw a with z | ⟨k, -, z1, z2⟩
    · exact z.2.1
    · rw [z2] at c
      exact absurd c (nI_pos (by omega)))
theorem t7_end (H : tl_Sh h) {nx : Nat} (M : tl_Mo h 0 l) (hw : tl_wf l) (w : tl_wfs ac) (A : tl_Am h ac nx) (a b : Int32) : ∃ h2, mi_X7_end am_f h 118 a b = some ((tl_end l a b).1, h2) ∧ (((tl_end l a b).1 < 0 ∧ h2 = h) ∨ (¬ (tl_end l a b).1 < 0 ∧ tl_Sh h2 ∧ tl_Mo h2 0 (tl_end l a b).2 ∧ (∃ nx2, tl_Am h2 (tl_acn ac l) nx2) ∧ tl_ch tl_rY h h2 ∧ h2.2.2.2 = h.2.2.2)) := by
  have h16 := hw.1
  have hce := t7_ce H (show 0 < 2 by decide) M hw a b
  have hor := tl_end_or l hw a b
  unfold mi_X7_end
  simp only [oc_118 H, tl_bs, t7_isS H M h16, t7_tm]
  by_cases c : tl_hs a l.length = true
  · by_cases d : tl_tm b = true
    · rw [if_pos c, if_pos d, show mi_X7_canEnd am_f h 118 0 a b = _ from hce, tl_bs]
      rcases hor with z | ⟨k, t, rfl, rfl, k1, t16, -, -, -, z⟩
      · rw [decide_eq_false (fun y => y z.1), if_neg (by decide)]
        have e3 : (tl_end l a b).1 = -3 := by
          revert z
          unfold tl_end
          rw [if_pos ⟨c, d⟩]
          split
          · exact fun _ => rfl
          · split
            · intro z
              have := sT_lt (l.getD a.toInt.toNat 0)
              exact absurd z.1 (nI_pos (by omega))
            · exact fun _ => rfl
        rw [e3]
        exact ⟨h, rfl, Or.inl ⟨by decide, rfl⟩⟩
      · have hg := tl_gd (l := l) (i := k) k1
        obtain ⟨k16, hv, -, -⟩ := tl_wf_at hw hg
        have := sT_lt (l.getD k 0)
        rw [z]
        rw [decide_eq_true (nI_pos (by omega)), if_pos rfl]
        obtain ⟨g, h2, x1, x2, x3, x4, x5, x6, x7, x8, x9⟩ := t7_k H A w M hw (l2 := l.set k (sC (sL (l.getD k 0)) (sH (l.getD k 0)) (sF (l.getD k 0)) t)) (mo := fun h => mi_X7_endOn am_f h 118 0 (nI k) (nI t)) (fun h H M => t7_eo H (show 0 < 2 by decide) M hw hg t16)
        rw [x1, tl_bs, show mi_X7_spanOf am_f g 118 0 (nI k) = _ from t7_span x3 (show 0 < 2 by decide) x4 hg k16 am_f, tl_bs, t7_T _ _ hv, tl_bs, x2, tl_bs]
        exact ⟨h2, rfl, Or.inr ⟨nI_pos (by omega), x5, x6, x7, x8, x9⟩⟩
    · rw [if_pos c, if_neg d]
      have e1 : tl_end l a b = (-1, l) := by unfold tl_end; rw [if_neg (fun z => d z.2)]
      rw [e1]
      exact ⟨h, rfl, Or.inl ⟨tl_ng _ (by decide), rfl⟩⟩
  · rw [if_neg c]
    have e1 : tl_end l a b = (-1, l) := by unfold tl_end; rw [if_neg (fun z => c z.1)]
    rw [e1]
    exact ⟨h, rfl, Or.inl ⟨tl_ng _ (by decide), rfl⟩⟩
theorem e_end (I : tl_I h) (a b : Int32) : tl_st (mi_X6_end am_f h 0 a b) (fun h1 => mi_X7_end am_f h1 118 a b) := by
  unfold mi_X6_end
  exact e_act I (op := fun h p => mi_X5_stopAt am_f h p a b) (fun l => tl_end l a b) (fun h l H S hw => t5_stop H tl_sps7 S hw a b) (fun h l ac nx H M hw w A => t7_end H M hw w A a b) (fun l hw c => by
    have h16 := hw.1
    rcases tl_end_or l hw a b with z | ⟨k, t, -, -, -, -, -, -, -, z⟩
    · exact z.2
    · rw [z] at c
      have := sT_lt (l.getD k 0)
      exact absurd c (nI_pos (by omega)))
theorem e_undo (I : tl_I h) : tl_st (mi_X6_undo am_f h 0) (fun h1 => mi_X7_undo am_f h1 118) := by
  obtain ⟨H, ⟨l, S⟩, -, ⟨ac, A⟩, -⟩ := id I
  obtain ⟨w, ⟨q, AC⟩, nx, AM⟩ := tl_PA_to A
  have w1 := w.1
  have nx14 := AM.2.1
  unfold mi_X6_undo mi_X7_undo tl_st
  simp only [oc_0 H, or_0_3 H, oi_17 H, tl_bs, AC.1, il_0, nI_eq (show ac.length < 2 ^ 31 by omega) (show 0 < 2 ^ 31 by decide)]
  by_cases c : ac.length = 0
  · refine ⟨-3, h, h, by rw [if_pos c], ?_, I⟩
    simp only [oc_118 H, oi_118 H, tl_bs, AM.1, nI_eq (show ac.length < 2 ^ 31 by omega) (show 0 < 2 ^ 31 by decide)]
    rw [if_pos c]
  · have hn : ac.length - 1 < ac.length := by omega
    obtain ⟨x, hx⟩ : ∃ x, ac[ac.length - 1]? = some x := ⟨_, List.getElem?_eq_getElem hn⟩
    have wx := w.2 _ x hx
    obtain ⟨q1, q2⟩ := AC.2.1 (ac.length - 1) (by omega)
    have r := acp_sps _ q2
    have H1 : tl_Sh (am_I h 17 1 (nI (ac.length - 1))) := tl_Sh_I H
    have Sx : tl_Sp (am_I h 17 1 (nI (ac.length - 1))) (q (ac.length - 1)) x := tl_on_Sp (ps := [17]) (fun k hk => by simp; omega) (tl_on_I (by decide)) (AC.2.2.2 _ x hx)
    obtain ⟨g, a1, a2, a3⟩ := t5_cp H1 tl_sps7 r.1 (by omega) Sx wx.1
    have HG := tl_on_Sh H1 a3
    have k1 : tl_ch tl_rX h g := tl_ch_tr (tl_ch_I (by decide)) (tl_ch_on (P5_rX (by decide)) a3)
    have M1 := tl_ch_Mo k1 S.2.2
    have AM1 := tl_ch_Am k1 AM
    have g17 : g.2.1 17 1 = nI (ac.length - 1) := by rw [a3.2.2.2 _ (by decide), tl_I_at, if_pos rfl]
    have H2 : tl_Sh (am_I g 118 4 (nI (ac.length - 1))) := tl_Sh_I HG
    have H3 : tl_Sh (am_I (am_I g 118 4 (nI (ac.length - 1))) 118 5 (nI ((nx + 13) % 14))) := tl_Sh_I H2
    have f5 : (am_I g 118 4 (nI (ac.length - 1))).2.1 118 5 = nI nx := by rw [tl_I_nj (by omega)]; exact AM1.2.2.1
    obtain ⟨h2, b1, b2, b3⟩ := t7_unL (nx := (nx + 13) % 14) (by omega) am_f 0 _ H3 (by rw [tl_I_at, if_pos rfl]) (by omega) (by decide)
    have H4 := tl_oB_Sh H3 b2
    have ix : (nx + 14 - ac.length + (ac.length - 1)) % 14 = (nx + 13) % 14 := by omega
    have Rx : tl_Ro (am_I (am_I g 118 4 (nI (ac.length - 1))) 118 5 (nI ((nx + 13) % 14))) 122 ((nx + 13) % 14) x := by
      have z := AM1.2.2.2 _ x hx
      rw [ix] at z
      exact ⟨by rw [tl_I_ne (by decide), tl_I_ne (by decide)]; exact z.1, fun i v hi => by rw [tl_I_ne (by decide), tl_I_ne (by decide)]; exact z.2 i v hi⟩
    have Mx : tl_Mo h2 0 x := tl_cp_Bk (P := 119) (o := 0) (Q := 122) (q := 17 * ((nx + 13) % 14)) (fun y hy => by rw [b3 y hy, if_neg (by omega)]) wx.1 Rx
    have k2 : tl_ch tl_rY g h2 := tl_ch_tr (tl_ch_tr (tl_ch_I (by decide)) (tl_ch_I (by decide))) (tl_ch_oB (fun j _ _ => by simp [tl_rY]) b2)
    have rf : h2.2.2.2 = g.2.2.2 := b2.2.2.1
    have dl : ∀ i y, (ac.dropLast)[i]? = some y → i < ac.length - 1 ∧ ac[i]? = some y := fun i y hi => by
      rw [List.getElem?_dropLast] at hi
      by_cases z : i < ac.length - 1
      · rw [if_pos z] at hi; exact ⟨z, hi⟩
      · rw [if_neg z] at hi; cases hi
    have lenD : ac.dropLast.length = ac.length - 1 := List.length_dropLast
    have wD : tl_wfs ac.dropLast := ⟨by rw [lenD]; omega, fun i y hi => w.2 i y (dl i y hi).2⟩
    have ACg : tl_Ac g ac.dropLast q := by
      refine ⟨by rw [lenD]; exact g17, fun i hi => by rw [a3.2.2.1]; exact AC.2.1 i hi, AC.2.2.1, fun i y hi => ?_⟩
      have z := dl i y hi
      have r2 := acp_sps _ (AC.2.1 i (by omega)).2
      exact tl_on_Sp (tl_P5_off tl_sps7 r2.1 (by omega)) a3 (tl_on_Sp (ps := [17]) (fun k hk => by simp; omega) (tl_on_I (by decide)) (AC.2.2.2 _ y z.2))
    have AMh : tl_Am h2 ac.dropLast ((nx + 13) % 14) := by
      refine ⟨?_, by omega, ?_, fun i y hi => ?_⟩
      · rw [b2.2.2.2 _ _ (by omega), tl_I_nj (by omega), tl_I_at, if_pos rfl, lenD]
      · rw [b2.2.2.2 _ _ (by omega), tl_I_at, if_pos rfl]
      · have z := dl i y hi
        have e : ((nx + 13) % 14 + 14 - ac.dropLast.length + i) % 14 = (nx + 14 - ac.length + i) % 14 := by rw [lenD]; omega
        rw [e]
        have B := AM1.2.2.2 i y z.2
        refine tl_oB_Bk b2 (w.2 i y z.2).1 (Or.inl (by decide)) ?_
        exact ⟨by rw [tl_I_ne (by decide), tl_I_ne (by decide)]; exact B.1, fun i v hi => by rw [tl_I_ne (by decide), tl_I_ne (by decide)]; exact B.2 i v hi⟩
    refine ⟨nI (ac.length - 1), g, h2, ?_, ?_, tl_act I H4 (tl_ch_tr (tl_ch_w (fun p j z => by simp [tl_rZ, z]) k1) (tl_ch_w (fun p j z => by simp [tl_rZ, z]) k2)) (l2 := x) ⟨wx, tl_ch_Sp k2 (by omega) a2, Mx⟩ (tl_PA_of wD (tl_ch_Ac k2 rf wD.1 ACg) AMh)⟩
    · rw [if_neg c, or_0_1 H, tl_bs]
      unfold mi_X0_takeBackLast
      simp only [oc_17 H, oi_17 H, tl_bs, AC.1, il_0, nI_leI (show ac.length < 2 ^ 31 by omega) (show 0 < 2 ^ 31 by decide)]
      rw [if_neg (by omega), il_1, pk_sub (by omega), ow_17 H, tl_bs, or_17_0 H1, tl_bs, oi_17 H1, tl_bs, tl_I_at, if_pos rfl, tl_l18 H1 (by omega) q1, tl_bs, a1, tl_bs, tl_bs, tl_bs, or_0_3 HG, tl_bs, oi_17 HG, tl_bs, g17]
    · simp only [oc_118 HG, oi_118 HG, tl_bs, AM1.1, nI_eq (show ac.length < 2 ^ 31 by omega) (show 0 < 2 ^ 31 by decide)]
      rw [if_neg c, il_1, pk_sub (by omega), ow_118 HG, tl_bs, oi_118 H2, tl_bs, f5, il_13, il_14, nI_add, pk_rem (by omega) (by decide) (by decide), ow_118 H2, tl_bs, ← il_0, il_0, b1, tl_bs, oi_118 H4, tl_bs, AMh.1, lenD]
theorem or_106 (H : tl_Sh h) {s : Nat} (hs : s < 2) : am_lr h 106 (nI s) = some (108 + 5 * s) := by
  refine tl_lr H (n := 2) (by decide +kernel) hs (by decide) ?_
  rw [H.2 106 s (by decide)]
  rcases (show s = 0 ∨ s = 1 by omega) with rfl | rfl <;> decide +kernel
theorem tl_01 (a : Int32) : (a.toInt < 0 ∨ ¬ a.toInt < 2) ∨ ∃ s, s < 2 ∧ a = nI s := by
  by_cases c1 : a.toInt < 0
  · exact Or.inl (Or.inl c1)
  · by_cases c2 : a.toInt < 2
    · obtain ⟨k, k1, k2⟩ := tl_rg (a := a) (n := 1) (by decide) (decide_eq_true ⟨by omega, by show a.toInt ≤ 1; omega⟩)
      exact Or.inr ⟨k, by omega, k2⟩
    · exact Or.inl (Or.inr c2)
theorem tl_in01 (h1 : am_H) (a : Int32) : mi_X7_in am_f h1 a.toInt64 0 1 = some (decide (0 ≤ a.toInt ∧ a.toInt ≤ 1)) := by rw [t7_in, Int32.toInt_toInt64]; rfl
theorem sps_k {s : Nat} (hs : s < 2) : 108 + 5 * s ∈ am_sps := by rcases (show s = 0 ∨ s = 1 by omega) with rfl | rfl <;> decide
def tl_rW (p _j : Nat) : Bool := decide (107 ≤ p) && decide (p ≤ 117) || decide (p = 132) || decide (p = 133)
theorem rW_S : ∀ p j, rS p j = true → tl_rW p j = false := by intro p j; simp [rS, tl_rW]; omega
theorem rW_T : ∀ p j, rT p j = true → tl_rW p j = false := by intro p j; simp [rT, tl_rW]; omega
theorem rW_A : ∀ p j, rA p j = true → tl_rW p j = false := by intro p j; simp [rA, tl_rW]; omega
theorem rW_N : ∀ p j, rN p j = true → tl_rW p j = false := by intro p j; simp [rN, tl_rW]; omega
theorem e_keep (I : tl_I h) (a : Int32) : tl_st (mi_X6_keep am_f h 0 a) (fun h1 => mi_X7_keep am_f h1 118 a) := by
  obtain ⟨H, ⟨l, S⟩, ⟨tx, X⟩, ⟨ac, A⟩, ⟨kp, K⟩, ⟨sn, N⟩, D⟩ := id I
  have h16 := S.1.1
  unfold mi_X6_keep mi_X7_keep tl_st
  simp only [oc_0 H, tl_bs, tl_in01, show (a < 0) = (a.toInt < 0) from propext Int32.lt_iff_toInt_lt, show (a < 2) = (a.toInt < 2) from propext Int32.lt_iff_toInt_lt]
  rcases tl_01 a with c | ⟨s, s2, rfl⟩
  · refine ⟨-1, h, h, ?_, ?_, I⟩
    · by_cases c1 : a.toInt < 0
      · rw [if_pos c1]
      · rw [if_neg c1, if_neg (by omega)]
    · simp only [oc_118 H, tl_bs]
      rw [decide_eq_false (by omega), if_neg (by decide)]
  · have c1 : ¬ (nI s).toInt < 0 := by rw [nI_toInt (by omega)]; omega
    have c2 : (nI s).toInt < 2 := by rw [nI_toInt (by omega)]; omega
    have ks := sps_k s2
    obtain ⟨g, a1, a2, a3⟩ := t5_cp H ks tl_sps7 (by omega) S.2.1 h16
    have HG := tl_on_Sh H a3
    have o7 : tl_Sp g 7 l := tl_on_Sp (tl_P5_off ks tl_sps7 (by omega)) a3 S.2.1
    have H1 : tl_Sh (am_I g 107 s (vp_nar .boolean 1)) := tl_Sh_I HG
    have H2 : tl_Sh (am_I (am_I g 107 s (vp_nar .boolean 1)) 132 s (vp_nar .boolean 1)) := tl_Sh_I H1
    obtain ⟨h2, b1, b2, b3⟩ := t7_keL s2 am_f 0 _ H2 (by omega) (by decide)
    have H3 := tl_oB_Sh H2 b2
    have n1 : vp_nar .boolean 1 = nI 1 := fo_nar 1 (by decide)
    have P5W : ∀ x ∈ tl_P5 (108 + 5 * s), ∀ j, tl_rW x j = true := fun x hx j => by
      obtain ⟨k, hk, rfl⟩ := tl_P5_m hx
      simp [tl_rW]; omega
    have kc : tl_ch tl_rW h (am_I (am_I g 107 s (vp_nar .boolean 1)) 132 s (vp_nar .boolean 1)) := tl_ch_tr (tl_ch_tr (tl_ch_on P5W a3) (tl_ch_I (by simp [tl_rW]))) (tl_ch_I (by simp [tl_rW]))
    have k : tl_ch tl_rW h h2 := tl_ch_tr kc (tl_ch_oB (fun j _ _ => by simp [tl_rW]) b2)
    have M2 : tl_Mo (am_I (am_I g 107 s (vp_nar .boolean 1)) 132 s (vp_nar .boolean 1)) 0 l := (kS (tl_ch_kp kc rW_S) S).2.2
    have B2 : tl_Ro h2 133 s l := tl_cp_Bk (P := 133) (o := 17 * s) (Q := 119) (q := 0) (fun x hx => by rw [b3 x hx, if_neg (by omega)]) h16 M2
    refine ⟨nI l.length, am_I g 107 s (vp_nar .boolean 1), h2, ?_, ?_, H3, ⟨l, kS (tl_ch_kp k rW_S) S⟩, ⟨tx, kT (tl_ch_kp k rW_T) X⟩, ⟨ac, kA (tl_ch_kp k rW_A) (b2.2.2.1.trans a3.2.2.1) A⟩, ⟨fun r => if r = s then some l else kp r, fun r r2 => ?_⟩, ⟨sn, kN (tl_ch_kp k rW_N) N⟩, by unfold tl_PD; rw [k.2]; exact D⟩
    · rw [if_neg c1, if_pos c2, or_0_7 H, tl_bs, or_106 H s2, tl_bs, or_0_1 H, tl_bs, a1, tl_bs, or_0_8 HG, tl_bs, as_107 HG s2, tl_bs, or_0_1 H1, tl_bs, sp_i H1 tl_sps7, tl_bs, tl_I_ne (by decide), o7.1]
    · simp only [oc_118 H1, tl_bs]
      rw [decide_eq_true (by omega), if_pos rfl, or_118_18 H1, tl_bs, as_132 H1 s2, tl_bs, il_0, b1, tl_bs, t7_many H3 (by decide) (kS (tl_ch_kp k rW_S) S).2.2, tl_bs]
    · have e107 : h2.2.1 107 r = if r = s then nI 1 else h.2.1 107 r := by
        rw [b2.2.2.2 _ _ (by omega), tl_I_ne (by decide), tl_I_at, n1, a3.2.2.2 107 (fun z => by obtain ⟨k, k1, k2⟩ := tl_P5_m z; omega)]
      have e132 : h2.2.1 132 r = if r = s then nI 1 else h.2.1 132 r := by
        rw [b2.2.2.2 _ _ (by omega), tl_I_at, n1, tl_I_ne (by decide), a3.2.2.2 132 (fun z => by obtain ⟨k, k1, k2⟩ := tl_P5_m z; omega)]
      rw [e107, e132]
      dsimp only
      obtain ⟨K1, K2, K3⟩ := K r r2
      by_cases e : r = s
      · subst e
        simp only [if_true, Option.isSome_some]
        refine ⟨trivial, trivial, fun y hy => ?_⟩
        rw [← Option.some.inj hy]
        refine ⟨S.1, ?_, B2⟩
        exact tl_Sp_of (by rw [b2.2.2.2 _ _ (by omega), tl_I_ne (by omega), tl_I_ne (by omega)]; exact a2.1) (fun i v hi m hm => by rw [b2.2.2.2 _ _ (by omega), tl_I_ne (by omega), tl_I_ne (by omega)]; exact tl_Sp_k a2 hi hm)
      · simp only [if_neg e]
        refine ⟨K1, K2, fun y hy => ?_⟩
        obtain ⟨z1, z2, z3⟩ := K3 y hy
        refine ⟨z1, ?_, ?_⟩
        · have zz : tl_Sp g (108 + 5 * r) y := tl_on_Sp (tl_P5_off ks (sps_k r2) (by omega)) a3 z2
          exact tl_Sp_of (by rw [b2.2.2.2 _ _ (by omega), tl_I_ne (by omega), tl_I_ne (by omega)]; exact zz.1) (fun i v hi m hm => by rw [b2.2.2.2 _ _ (by omega), tl_I_ne (by omega), tl_I_ne (by omega)]; exact tl_Sp_k zz hi hm)
        · refine tl_oB_Bk b2 z1.1 (by omega) ?_
          have o : 133 ∉ tl_P5 (108 + 5 * s) := fun z => by obtain ⟨k, k1, k2⟩ := tl_P5_m z; omega
          exact ⟨by rw [tl_I_ne (by decide), tl_I_ne (by decide), a3.2.2.2 _ o]; exact z3.1, fun i v hi => by rw [tl_I_ne (by decide), tl_I_ne (by decide), a3.2.2.2 _ o]; exact z3.2 i v hi⟩
theorem e_again (I : tl_I h) (a : Int32) : tl_st (mi_X6_again am_f h 0 a) (fun h1 => mi_X7_again am_f h1 118 a) := by
  obtain ⟨H, ⟨l, S⟩, ⟨tx, X⟩, ⟨ac, A⟩, ⟨kp, K⟩, ⟨sn, N⟩, D⟩ := id I
  obtain ⟨w, ⟨q, AC⟩, nx, AM⟩ := tl_PA_to A
  have h16 := S.1.1
  unfold mi_X6_again mi_X7_again tl_st
  simp only [oc_0 H, tl_bs, tl_in01, show (a < 0) = (a.toInt < 0) from propext Int32.lt_iff_toInt_lt, show (a < 2) = (a.toInt < 2) from propext Int32.lt_iff_toInt_lt]
  rcases tl_01 a with c | ⟨s, s2, rfl⟩
  · refine ⟨-1, h, h, ?_, ?_, I⟩
    · by_cases c1 : a.toInt < 0
      · rw [if_pos c1]
      · rw [if_neg c1, if_neg (by omega)]
    · simp only [oc_118 H, tl_bs]
      rw [decide_eq_false (by omega), if_neg (by decide)]
  · have c1 : ¬ (nI s).toInt < 0 := by rw [nI_toInt (by omega)]; omega
    have c2 : (nI s).toInt < 2 := by rw [nI_toInt (by omega)]; omega
    have ks := sps_k s2
    obtain ⟨K1, K2, K3⟩ := K s s2
    cases hk : kp s with
    | none =>
      rw [hk] at K1 K2
      have K1 : h.2.1 107 s = 0 := K1
      have K2 : h.2.1 132 s = 0 := K2
      refine ⟨-3, h, h, ?_, ?_, I⟩
      · rw [if_neg c1, if_pos c2, or_0_8 H, tl_bs, al_107 H s2, tl_bs, K1, if_pos rfl]
      · simp only [oc_118 H, tl_bs]
        rw [decide_eq_true (by omega), if_pos rfl, or_118_18 H, tl_bs, al_132 H s2, tl_bs, K2, if_pos rfl]
    | some y =>
      rw [hk] at K1 K2
      have K1 : h.2.1 107 s = nI 1 := K1
      have K2 : h.2.1 132 s = nI 1 := K2
      obtain ⟨z1, z2, z3⟩ := K3 y hk
      obtain ⟨g, a1, a2, a3⟩ := t5_cp H tl_sps7 ks (by omega) z2 z1.1
      have HG := tl_on_Sh H a3
      have H1 : tl_Sh (am_I g 17 1 0) := tl_Sh_I HG
      have kX : tl_ch tl_rX h (am_I g 17 1 0) := tl_ch_tr (tl_ch_on (P5_rX (by decide)) a3) (tl_ch_I (by decide))
      obtain ⟨g2, b1, b2, b3⟩ := t7_agL s2 am_f 0 _ H1 (by omega) (by decide)
      have HG2 := tl_oB_Sh H1 b2
      have H3 : tl_Sh (am_I g2 118 4 0) := tl_Sh_I HG2
      have kY : tl_ch tl_rY (am_I g 17 1 0) (am_I g2 118 4 0) := tl_ch_tr (tl_ch_oB (fun j _ _ => by simp [tl_rY]) b2) (tl_ch_I (by decide))
      have R : tl_Ro (am_I g 17 1 0) 133 s y := ⟨by rw [kX.1 _ _ (by simp [tl_rX])]; exact z3.1, fun i v hi => by rw [kX.1 _ _ (by simp [tl_rX])]; exact z3.2 i v hi⟩
      have M2 : tl_Mo g2 0 y := tl_cp_Bk (P := 119) (o := 0) (Q := 133) (q := 17 * s) (fun x hx => by rw [b3 x hx, if_neg (by omega)]) z1.1 R
      have M3 : tl_Mo (am_I g2 118 4 0) 0 y := ⟨by rw [tl_I_ne (by decide)]; exact M2.1, fun i v hi => by rw [tl_I_ne (by decide)]; exact M2.2 i v hi⟩
      have S1 : tl_Sp (am_I g 17 1 0) 7 y := tl_on_Sp (ps := [17]) (fun k hk => by simp; omega) (tl_on_I (by decide)) a2
      refine ⟨nI y.length, am_I g 17 1 0, am_I g2 118 4 0, ?_, ?_, tl_act I H3 (tl_ch_tr (tl_ch_w (fun p j z => by simp [tl_rZ, z]) kX) (tl_ch_w (fun p j z => by simp [tl_rZ, z]) kY)) (l2 := y) ⟨z1, tl_ch_Sp kY (by omega) S1, M3⟩ (ac2 := []) (tl_PA_of ⟨Nat.zero_le _, fun i l hi => by simp at hi⟩ (q := q) ⟨?_, ?_, AC.2.2.1, fun i l hi => by simp at hi⟩ (nx := nx) ⟨?_, AM.2.1, ?_, fun i l hi => by simp at hi⟩)⟩
      · rw [if_neg c1, if_pos c2, or_0_8 H, tl_bs, al_107 H s2, tl_bs, K1, if_neg (by decide), or_0_1 H, tl_bs, or_0_7 H, tl_bs, or_106 H s2, tl_bs, a1, tl_bs, or_0_3 HG, tl_bs, ow_17 HG, tl_bs, or_0_1 H1, tl_bs, sp_i H1 tl_sps7, tl_bs, S1.1]
      · have e132 : (am_I g 17 1 0).2.1 132 s = nI 1 := by rw [kX.1 _ _ (by simp [tl_rX])]; exact K2
        simp only [oc_118 H1, tl_bs]
        rw [decide_eq_true (by omega), if_pos rfl, or_118_18 H1, tl_bs, al_132 H1 s2, tl_bs, e132, if_neg (by decide), show lo_X7_again_26 am_f 118 (nI s) am_f 0 (am_I g 17 1 0) = some g2 from b1, tl_bs, ow_118 HG2, tl_bs, show mi_X7_many am_f (am_I g2 118 4 0) 118 0 = _ from t7_many H3 (show 0 < 2 by decide) M3 am_f, tl_bs]
      · rw [kY.1 _ _ (by decide), tl_I_at, if_pos rfl]; rfl
      · intro i hi
        show g2.2.2.2 18 i = _ ∧ _
        rw [b2.2.2.1]
        show g.2.2.2 18 i = _ ∧ _
        rw [a3.2.2.1]
        exact AC.2.1 i hi
      · rw [tl_I_at, if_pos rfl]; rfl
      · rw [tl_I_nj (by omega), b2.2.2.2 _ _ (by omega), kX.1 _ _ (by decide)]; exact AM.2.2.1
end A2
