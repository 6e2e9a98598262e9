theorem ll_0 : (0 : Int64) = lN 0 := rfl
theorem ll_1 : (1 : Int64) = lN 1 := rfl
theorem ll_5 : (100000 : Int64) = lN 100000 := rfl
theorem tl_kn_d {k : Nat} (h : k < 2 ^ 31) : tl_kn (nI k) = decide (k < 8) := by
  unfold tl_kn
  rw [nI_toInt h]
  by_cases q : k < 8
  · rw [decide_eq_true q, decide_eq_true (by omega)]
  · rw [decide_eq_false q, decide_eq_false (by omega)]
theorem tl_tm_d {k : Nat} (h : k < 2 ^ 31) : tl_tm (nI k) = decide (k < 16) := by
  unfold tl_tm
  rw [nI_toInt h]
  by_cases q : k < 16
  · rw [decide_eq_true q, decide_eq_true (by omega)]
  · rw [decide_eq_false q, decide_eq_false (by omega)]
/-- as tl_fr, but longs may change -/
def tl_fL (h h2 : am_H) : Prop := h2.1 = h.1 ∧ h2.2.2.2 = h.2.2.2 ∧ ∀ p j, tl_sc p j = false → h2.2.1 p j = h.2.1 p j
theorem tl_fL_tr {a b c : am_H} (h1 : tl_fL a b) (h2 : tl_fL b c) : tl_fL a c := ⟨h2.1.trans h1.1, h2.2.1.trans h1.2.1, fun p j q => (h2.2.2 p j q).trans (h1.2.2 p j q)⟩
theorem tl_fr_fL {h h2 : am_H} (k : tl_fr h h2) : tl_fL h h2 := ⟨k.1, k.2.2.1, k.2.2.2⟩
theorem tl_fL_rf {h : am_H} : tl_fL h h := ⟨rfl, rfl, fun _ _ _ => rfl⟩
theorem tl_fL_L {h : am_H} {p i : Nat} {x : Int64} : tl_fL h (am_L h p i x) := ⟨rfl, rfl, fun _ _ _ => rfl⟩
theorem tl_fL_Sh {h h2 : am_H} (k : tl_fL h h2) (H : tl_Sh h) : tl_Sh h2 := ⟨k.1.trans H.1, fun p j hp => by rw [k.2.1]; exact H.2 p j hp⟩
theorem tl_fL_Iv {h h2 : am_H} (k : tl_fL h h2) (I : tl_I h) (D : tl_PD h2) : tl_I h2 := by
  have z : tl_fr h (h2.1, h2.2.1, h.2.2.1, h2.2.2.2) := ⟨k.1, rfl, k.2.1, k.2.2⟩
  obtain ⟨s1, s2, s3, s4, s5, s6, -⟩ := tl_fr_Iv z I
  exact ⟨s1, s2, s3, s4, s5, s6, D⟩
theorem tl_fL_PS {h h2 : am_H} (k : tl_fL h h2) {l : List Nat} (S : tl_PS h l) : tl_PS h2 l := by
  have z : tl_fr h (h2.1, h2.2.1, h.2.2.1, h2.2.2.2) := ⟨k.1, rfl, k.2.1, k.2.2⟩
  have y : tl_PS (h2.1, h2.2.1, h.2.2.1, h2.2.2.2) l := tl_fr_PS z S
  exact y
theorem tl_L_at {h : am_H} {p i : Nat} {x : Int64} : (am_L h p i x).2.2.1 p i = x := by
  show am_u h.2.2.1 p i x p i = x
  rw [am_u_eq]
  simp
theorem tl_L_ne {h : am_H} {p i q j : Nat} {x : Int64} (hn : q ≠ p) : (am_L h p i x).2.2.1 q j = h.2.2.1 q j := by
  show am_u h.2.2.1 p i x q j = _
  rw [am_u_ne hn]
theorem tl_s_12 : ∀ p ∈ tl_P5 12, tl_scp p = true := by decide
section TR
variable {h : am_H} {l : List Nat}
theorem fo_off12 : ∀ k, k ≤ 4 → 12 + k ∉ tl_fs := by decide
theorem t6_jt (H : tl_Sh h) (S : tl_Sp h 12 l) (hw : tl_wf l) {a b t : Nat} (ha : a < 8) (hb : b < 8) (ht : t < 16) : ∃ h2, mi_X6_areJoinedInTrial am_f h 0 (nI a) (nI b) (nI t) = some (decide (uf_rt (qA l 65535 t).1 a = uf_rt (qA l 65535 t).1 b), h2) ∧ tl_Sp h2 12 l ∧ tl_fr h h2 := by
  obtain ⟨h1, x1, x2, x3, x4⟩ := t2_walkT sps12 hw H S ht
  have H1 := tl_on_Sh H x4
  refine ⟨h1, ?_, tl_on_Sp fo_off12 x4 S, tl_on_fr tl_s_fo x4⟩
  unfold mi_X6_areJoinedInTrial
  rw [oc_0 H, tl_bs, or_0_4 H, tl_bs, or_0_2 H, tl_bs, x1, tl_bs, or_0_4 H1, tl_bs, t2_aj H1 x2 (qF_I hw ht) ha hb, tl_bs, decide_eq_decide.mpr (qJ_eq hw ht ha hb)]
theorem t6_pt (H : tl_Sh h) (S : tl_Sp h 12 l) (hw : tl_wf l) {t : Nat} (ht : t < 16) : ∃ h2, mi_X6_partsInTrial am_f h 0 (nI t) = some (nI (uf_n (qA l 65535 t).1), h2) ∧ tl_Sp h2 12 l ∧ tl_fr h h2 := by
  obtain ⟨h1, x1, x2, x3, x4⟩ := t2_walkT sps12 hw H S ht
  have H1 := tl_on_Sh H x4
  refine ⟨h1, ?_, tl_on_Sp fo_off12 x4 S, tl_on_fr tl_s_fo x4⟩
  unfold mi_X6_partsInTrial
  rw [oc_0 H, tl_bs, or_0_4 H, tl_bs, or_0_2 H, tl_bs, x1, tl_bs, or_0_4 H1, tl_bs, t2_pa H1 x2 (qF_I hw ht), tl_bs, qP_eq hw ht]
-- drawn
def tl_sd (s : Int64) : Int64 := (s * 6364136223846793005) + 1442695040888963407
def tl_fg (s : Int64) : Int32 := ((((s).toUInt64 >>> ((33 : Int32).toInt64.toUInt64 &&& Int64.toUInt64 63)).toInt64) : Int64).toInt32
def tl_dl (l : List Nat) (v : Int32) : List Nat := (tl_put l (v - v / 8 * 8) ((v / 8) - (v / 8) / 8 * 8) ((v / 64) - (v / 64) / 16 * 16) (am_mn (((v / 64) - (v / 64) / 16 * 16) + ((v / 1024) - (v / 1024) / 16 * 16)) 15)).2
def tl_dg (sd : Int64 → Int64) (dl : List Nat → Int64 → List Nat) (pn : List Nat → Int32) : Nat → Int64 → List Nat → Int32 → Int32 × Int64
  | 0, s, _, c => (c, s)
  | m + 1, s, l, c => tl_dg sd dl pn m (sd s) (dl l (sd s)) (c + pn (dl l (sd s)))
theorem tl_dg_s (sd : Int64 → Int64) (dl : List Nat → Int64 → List Nat) (pn : List Nat → Int32) (m : Nat) (s : Int64) (l : List Nat) (c : Int32) : tl_dg sd dl pn (m + 1) s l c = tl_dg sd dl pn m (sd s) (dl l (sd s)) (c + pn (dl l (sd s))) := rfl
def tl_dr : Nat → Int64 → List Nat → Int32 → Int32 × Int64 := tl_dg tl_sd (fun l s => tl_dl l (tl_fg s)) (fun l => nI (uf_n (qA l 65535 8).1))
theorem tl_sd_eq (s : Int64) : (s * 6364136223846793005) + 1442695040888963407 = tl_sd s := rfl
theorem tl_fg_eq (s : Int64) : (((((s).toUInt64 >>> ((33 : Int32).toInt64.toUInt64 &&& Int64.toUInt64 63)).toInt64) : Int64).toInt32) = tl_fg s := rfl
theorem tl_dr_s (m : Nat) (s : Int64) (l : List Nat) (c : Int32) : tl_dr (m + 1) s l c = tl_dr m (tl_sd s) (tl_dl l (tl_fg (tl_sd s))) (c + nI (uf_n (qA (tl_dl l (tl_fg (tl_sd s))) 65535 8).1)) := tl_dg_s tl_sd (fun l s => tl_dl l (tl_fg s)) (fun l => nI (uf_n (qA l 65535 8).1)) m s l c
theorem t6_ad (H : tl_Sh h) (S : tl_Sp h 12 l) (hw : tl_wf l) (v : Int32) : ∃ h2, mi_X6_addDrawn am_f h 0 v = some h2 ∧ tl_Sp h2 12 (tl_dl l v) ∧ tl_wf (tl_dl l v) ∧ tl_on (tl_P5 12) h h2 := by
  obtain ⟨h3, a1, a2, a3, a4⟩ := t5_add H sps12 S hw (v - v / 8 * 8) ((v / 8) - (v / 8) / 8 * 8) ((v / 64) - (v / 64) / 16 * 16) (am_mn (((v / 64) - (v / 64) / 16 * 16) + ((v / 1024) - (v / 1024) / 16 * 16)) 15)
  refine ⟨h3, ?_, a2, a3, a4⟩
  unfold mi_X6_addDrawn
  rw [oc_0 H, tl_bs, or_0_2 H, tl_bs, a1, tl_bs]
theorem t6_drL {n : Nat} (hn : n ≤ 16) : ∀ m k fu h l c s, m + k = n → m < fu → tl_Sh h → tl_Sp h 12 l → tl_wf l → h.2.2.1 0 9 = s → ∃ h2, lo_X6_drawn_29 am_f 0 (nI n) fu c (nI k) h = some ((tl_dr m s l c).1, h2) ∧ h2.2.2.1 0 9 = (tl_dr m s l c).2 ∧ h2.2.2.1 118 17 = h.2.2.1 118 17 ∧ tl_fL h h2 := by
  intro m
  induction m with
  | zero =>
    intro k fu h l c s hk hf H S hw hs
    obtain ⟨fu, rfl⟩ : ∃ q, fu = q + 1 := ⟨fu - 1, by omega⟩
    rw [lo_X6_drawn_29.eq_2]
    simp only [nI_leI (show n < 2 ^ 31 by omega) (show k < 2 ^ 31 by omega)]
    rw [if_pos (by omega)]
    exact ⟨h, rfl, hs, rfl, tl_fL_rf⟩
  | succ m ih =>
    intro k fu h l c s hk hf H S hw hs
    obtain ⟨fu, rfl⟩ : ∃ q, fu = q + 1 := ⟨fu - 1, by omega⟩
    rw [lo_X6_drawn_29.eq_2, tl_dr_s]
    simp only [nI_leI (show n < 2 ^ 31 by omega) (show k < 2 ^ 31 by omega)]
    rw [if_neg (by omega), oL_0 H, tl_bs, tl_sd_eq, hs]
    generalize tl_sd s = s2
    have H1 : tl_Sh (am_L h 0 9 s2) := tl_Sh_L H
    rw [oM_0 H, tl_bs, oL_0 H1, tl_bs, tl_L_at, tl_fg_eq]
    generalize tl_fg s2 = v
    obtain ⟨h3, a1, a2, a3, a4⟩ := t6_ad H1 (l := l) S hw v
    have H3 := tl_on_Sh H1 a4
    rw [a1, tl_bs]
    generalize tl_dl l v = l2 at a2 a3 ⊢
    obtain ⟨h4, b1, b2, b3⟩ := t6_pt H3 a2 a3 (show 8 < 16 by decide)
    have H4 := tl_fr_Sh b3 H3
    have l4 : h4.2.2.1 = (am_L h 0 9 s2).2.2.1 := b3.2.1.trans a4.2.1
    obtain ⟨h5, c1, c2, c3, c4⟩ := ih (k + 1) fu h4 l2 (c + nI (uf_n (qA l2 65535 8).1)) s2 (by omega) (by omega) H4 b2 a3 (by rw [l4, tl_L_at])
    refine ⟨h5, ?_, c2, by rw [c3, l4, tl_L_ne (by decide)], tl_fL_tr (tl_fL_tr tl_fL_L (tl_fr_fL (tl_fr_tr (tl_on_fr tl_s_12 a4) b3))) c4⟩
    rw [il_8, b1, tl_bs]
    dsimp only
    rw [nI_1]
    exact c1
theorem t7_ptr (H : tl_Sh h) (M : tl_Mo h 1 l) (hw : tl_wf l) (a b c d : Int32) : ∃ h2, ((if decide (¬ (tl_put l a b c d).1 < 0) = true then (Option.bind (mi_X7_asOne am_f h a b c d) fun xq10 => Option.bind (mi_X7_putOn am_f h 118 1 xq10) fun hq12 => some hq12) else (some h)) : Option am_H) = some h2 ∧ tl_Mo h2 1 (tl_put l a b c d).2 ∧ tl_fr h h2 := by
  rcases tl_put_or l a b c d with ⟨z1, z2⟩ | ⟨a', b', s, t, rfl, rfl, rfl, rfl, a8, b8, s16, t16, hn, hst, hl, hf, z⟩
  · rw [decide_eq_false (fun y => y z1), if_neg (by decide), z2]
    exact ⟨h, rfl, M, tl_fr_rf⟩
  · rw [z]
    rw [decide_eq_true (nI_pos (by omega)), if_pos rfl, t7_C _ _ a8 b8 s16 t16, tl_bs]
    obtain ⟨h2, x1, x2, x3⟩ := t7_po H (show 1 < 2 by decide) M hl (sC (min a' b') (max a' b') s t)
    exact ⟨h2, by rw [show mi_X7_putOn am_f h 118 1 (nI (sC (min a' b') (max a' b') s t)) = _ from x1]; rfl, x2, tl_oB_fr x3⟩
theorem t7_ad (H : tl_Sh h) (M : tl_Mo h 1 l) (hw : tl_wf l) (v : Int32) : ∃ h2, tl_Mo h2 1 (tl_dl l v) ∧ tl_wf (tl_dl l v) ∧ tl_fr h h2 ∧ ∀ (K : am_H → Option (Int32 × am_H)),
    (Option.bind ((if (((v / 64) - (v / 64) / 16 * 16) + ((v / 1024) - (v / 1024) / 16 * 16)) ≤ 15 then (some (((v / 64) - (v / 64) / 16 * 16) + ((v / 1024) - (v / 1024) / 16 * 16))) else (some 15))) fun jq4 =>
    Option.bind (mi_X7_canPut am_f h 118 1 (v - v / 8 * 8) ((v / 8) - (v / 8) / 8 * 8) ((v / 64) - (v / 64) / 16 * 16) jq4) fun xq5 =>
    Option.bind ((if xq5 = true then (Option.bind (mi_X7_asOne am_f h (v - v / 8 * 8) ((v / 8) - (v / 8) / 8 * 8) ((v / 64) - (v / 64) / 16 * 16) jq4) fun xq10 => Option.bind (mi_X7_putOn am_f h 118 1 xq10) fun hq12 => some hq12) else (some h))) K) = K h2 := by
  have mn : ∀ x : Int32, ((if x ≤ 15 then some x else some 15) : Option Int32) = some (am_mn x 15) := fun x => by
    unfold am_mn
    by_cases q : x ≤ 15
    · rw [if_pos q, if_neg (Int32.not_lt.mpr q)]
    · rw [if_neg q, if_pos (Int32.not_le.mp q)]
  have cp := t7_cpt H (show 1 < 2 by decide) M hw (v - v / 8 * 8) ((v / 8) - (v / 8) / 8 * 8) ((v / 64) - (v / 64) / 16 * 16) (am_mn (((v / 64) - (v / 64) / 16 * 16) + ((v / 1024) - (v / 1024) / 16 * 16)) 15)
  obtain ⟨h3, a1, a2, a4⟩ := t7_ptr H M hw (v - v / 8 * 8) ((v / 8) - (v / 8) / 8 * 8) ((v / 64) - (v / 64) / 16 * 16) (am_mn (((v / 64) - (v / 64) / 16 * 16) + ((v / 1024) - (v / 1024) / 16 * 16)) 15)
  have wf2 : tl_wf (tl_dl l v) := by
    unfold tl_dl
    rcases tl_put_or l (v - v / 8 * 8) ((v / 8) - (v / 8) / 8 * 8) ((v / 64) - (v / 64) / 16 * 16) (am_mn (((v / 64) - (v / 64) / 16 * 16) + ((v / 1024) - (v / 1024) / 16 * 16)) 15) with ⟨z1, z2⟩ | ⟨a', b', s, t, -, -, -, -, a8, b8, s16, t16, hn, hst, hl, hf, z⟩
    · rw [z2]; exact hw
    · rw [z]; exact tl_wf_app hw hl (tl_put_v a8 b8 s16 t16 hn hst)
  refine ⟨h3, a2, wf2, a4, fun K => ?_⟩
  rw [mn, tl_bs, show mi_X7_canPut am_f h 118 1 _ _ _ _ = _ from cp, tl_bs]
  exact (congrArg (fun z => Option.bind z K) a1).trans rfl
theorem t7_drL {n : Nat} (hn : n ≤ 16) : ∀ m k fu h l c s, m + k = n → m < fu → tl_Sh h → tl_Mo h 1 l → tl_wf l → h.2.2.1 118 17 = s → ∃ h2, lo_X7_drawn_23 am_f 118 (nI n) fu c (nI k) h = some ((tl_dr m s l c).1, h2) ∧ h2.2.2.1 118 17 = (tl_dr m s l c).2 ∧ h2.2.2.1 0 9 = h.2.2.1 0 9 ∧ tl_fL h h2 := by
  intro m
  induction m with
  | zero =>
    intro k fu h l c s hk hf H S hw hs
    obtain ⟨fu, rfl⟩ : ∃ q, fu = q + 1 := ⟨fu - 1, by omega⟩
    rw [lo_X7_drawn_23.eq_2]
    simp only [nI_leI (show n < 2 ^ 31 by omega) (show k < 2 ^ 31 by omega)]
    rw [if_pos (by omega)]
    exact ⟨h, rfl, hs, rfl, tl_fL_rf⟩
  | succ m ih =>
    intro k fu h l c s hk hf H S hw hs
    obtain ⟨fu, rfl⟩ : ∃ q, fu = q + 1 := ⟨fu - 1, by omega⟩
    rw [lo_X7_drawn_23.eq_2, tl_dr_s]
    simp only [nI_leI (show n < 2 ^ 31 by omega) (show k < 2 ^ 31 by omega)]
    rw [if_neg (by omega), oL_118 H, tl_bs, tl_sd_eq, hs]
    generalize tl_sd s = s2
    have H1 : tl_Sh (am_L h 118 17 s2) := tl_Sh_L H
    rw [oM_118 H, tl_bs, oL_118 H1, tl_bs, tl_L_at]
    obtain ⟨h3, a1, a2, a4, a5⟩ := t7_ad H1 (l := l) S hw (tl_fg s2)
    have H3 := tl_fr_Sh a4 H1
    rw [tl_fg_eq]
    generalize tl_dl l (tl_fg s2) = l2 at a1 a2 ⊢
    obtain ⟨h4, b1, b2, b3⟩ := t7_parts H3 a2 (show 1 < 2 by decide) a1 (show 8 < 16 by decide) (show 65535 < 65536 by decide)
    have H4 := tl_on_Sh H3 b3
    have l4 : h4.2.2.1 = (am_L h 118 17 s2).2.2.1 := b3.2.1.trans a4.2.1
    obtain ⟨h5, c1, c2, c3, c4⟩ := ih (k + 1) fu h4 l2 (c + nI (uf_n (qA l2 65535 8).1)) s2 (by omega) (by omega) H4 (tl_on_Mo (by decide) b3 a1) a2 (by rw [l4, tl_L_at])
    refine ⟨h5, ?_, c2, by rw [c3, l4, tl_L_ne (by decide)], tl_fL_tr (tl_fL_tr tl_fL_L (tl_fr_fL (tl_fr_tr a4 (tl_on_fr tl_s_mu b3)))) c4⟩
    refine (a5 _).trans ?_
    rw [show mi_X7_partsBy am_f h3 118 1 8 65535 = _ from b1, tl_bs]
    dsimp only
    rw [nI_1]
    exact c1
theorem t7_lt (H : tl_Sh h) (M : tl_Mo h 0 l) (hl : l.length ≤ 16) : ∃ h2, mi_X7_layTrial am_f h 118 = some h2 ∧ tl_Mo h2 1 l ∧ tl_fr h h2 := by
  obtain ⟨h2, b1, b2, b3⟩ := t7_ltL am_f 0 h H (by omega) (by decide)
  refine ⟨h2, ?_, tl_cp_Bk (P := 119) (o := 17) (Q := 119) (q := 0) (fun x hx => by rw [b3 x hx, if_neg (by omega)]) hl M, tl_oB_fr b2⟩
  unfold mi_X7_layTrial
  rw [oc_118 H, tl_bs, il_0, b1, tl_bs]
theorem e_drawn (I : tl_I h) (a : Int32) : tl_st (mi_X6_drawn am_f h 0 a) (fun h1 => mi_X7_drawn am_f h1 118 a) := by
  obtain ⟨H, ⟨l, S⟩, -, -, -, -, D⟩ := id I
  have h16 := S.1.1
  have hin : ∀ h1 : am_H, mi_X7_in am_f h1 a.toInt64 1 16 = some (decide (1 ≤ a.toInt ∧ a.toInt ≤ 16)) := fun h1 => by rw [t7_in, Int32.toInt_toInt64]; rfl
  unfold mi_X6_drawn mi_X7_drawn tl_st
  simp only [oc_0 H, tl_bs, hin, show (a < 1) = (a.toInt < 1) from propext Int32.lt_iff_toInt_lt, show (a ≤ 16) = (a.toInt ≤ 16) from propext Int32.le_iff_toInt_le]
  by_cases c1 : a.toInt < 1
  · refine ⟨-2, h, h, by rw [if_pos c1], ?_, I⟩
    simp only [oc_118 H, tl_bs]
    rw [decide_eq_false (by omega), if_neg (by decide)]
  · by_cases c2 : a.toInt ≤ 16
    · obtain ⟨n, n1, rfl⟩ := tl_rg (a := a) (n := 16) (by decide) (decide_eq_true ⟨by omega, c2⟩)
      obtain ⟨g1, a1, a2, a3⟩ := t5_cp H sps12 tl_sps7 (by decide) S.2.1 h16
      have G1 := tl_on_Sh H a3
      obtain ⟨g2, b1, b2, b3, b4⟩ := t6_drL n1 n 0 am_f g1 l 0 (h.2.2.1 0 9) (by omega) (by unfold am_f; omega) G1 a2 S.1 (by rw [a3.2.1])
      have k2 := tl_fL_tr (tl_fr_fL (tl_on_fr tl_s_12 a3)) b4
      have G2 := tl_fL_Sh k2 H
      have S2 := tl_fL_PS k2 S
      obtain ⟨g3, d1, d2, d3⟩ := t7_lt G2 S2.2.2 h16
      have G3 := tl_fr_Sh d3 G2
      obtain ⟨g4, e1, e2, e3, e4⟩ := t7_drL n1 n 0 am_f g3 l 0 (h.2.2.1 0 9) (by omega) (by unfold am_f; omega) G3 d2 S.1 (by rw [d3.2.1, b3, a3.2.1]; exact D.symm)
      refine ⟨(tl_dr n (h.2.2.1 0 9) l 0).1, g2, g4, ?_, ?_, tl_fL_Iv (tl_fL_tr (tl_fL_tr k2 (tl_fr_fL d3)) e4) I ?_⟩
      · rw [if_neg c1, if_pos c2, or_0_2 H, tl_bs, or_0_1 H, tl_bs, a1, tl_bs]
        exact (congrArg (fun z => Option.bind z fun (q : Int32 × am_H) => some (q.1, q.2)) b1).trans rfl
      · simp only [oc_118 G2, tl_bs]
        rw [decide_eq_true ⟨by omega, c2⟩, if_pos rfl, d1, tl_bs]
        exact (congrArg (fun z => Option.bind z fun (q : Int32 × am_H) => some (q.1, q.2)) e1).trans rfl
      · unfold tl_PD
        rw [e3, d3.2.1, b2, e2]
    · refine ⟨-2, h, h, by rw [if_neg c1, if_neg c2], ?_, I⟩
      simp only [oc_118 H, tl_bs]
      rw [decide_eq_false (by omega), if_neg (by decide)]
end TR
