theorem tl_pair {α : Type} {x y : Option α} (e : x = y) (h : ∃ r, x = some r) : ∃ r, x = some r ∧ y = some r := by
  obtain ⟨r, hr⟩ := h
  exact ⟨r, hr, e ▸ hr⟩
section Q3
variable {h : am_H} {l : List Nat} {p : Nat}
theorem t5_lvL (H : tl_Sh h) (hp : p ∈ am_sps) (S : tl_Sp h p l) (hw : tl_wf l) {t : Nat} (ht : t < 16) : ∀ n j, j ≤ l.length → l.length - j < n → lo_X5_livingAt_4 am_f h p (nI t) n (nI (tl_B (fun i => sV (l.getD i 0) t) j)) (nI j) = some (nI (tl_B (fun i => sV (l.getD i 0) t) l.length)) := by
  have h16 := hw.1
  intro n
  induction n with
  | zero => intro j _ h; omega
  | succ n ih =>
    intro j hj hjn
    rw [lo_X5_livingAt_4.eq_2, n5 H hp S, tl_bs]
    simp only [nI_leI (show l.length < 2 ^ 31 by omega) (show j < 2 ^ 31 by omega)]
    by_cases h1 : l.length ≤ j
    · rw [if_pos h1, show j = l.length by omega]
    · rw [if_neg h1, t5_V H hp S hw (tl_gd (by omega)) ht, tl_bs, tl_sh1 j (by omega), fa_or, il_1, nI_add]
      have key : ((if sV (l.getD j 0) t = true then some (nI (tl_B (fun i => sV (l.getD i 0) t) j ||| 2 ^ j)) else some (nI (tl_B (fun i => sV (l.getD i 0) t) j))) : Option Int32) = some (nI (tl_B (fun i => sV (l.getD i 0) t) (j + 1))) := by
        show _ = some (nI (tl_B (fun i => sV (l.getD i 0) t) j ||| (if sV (l.getD j 0) t = true then 2 ^ j else 0)))
        by_cases h2 : sV (l.getD j 0) t = true
        · rw [if_pos h2, if_pos h2]
        · rw [if_neg h2, if_neg h2, Nat.or_zero]
      rw [key, tl_bs]
      exact ih (j + 1) (by omega) (by omega)
theorem t5_lv (H : tl_Sh h) (hp : p ∈ am_sps) (S : tl_Sp h p l) (hw : tl_wf l) {t : Nat} (ht : t < 16) : mi_X5_livingAt am_f h p (nI t) = some (nI (tl_B (fun i => sV (l.getD i 0) t) l.length)) := by
  unfold mi_X5_livingAt
  have h16 := hw.1
  have e := t5_lvL H hp S hw ht am_f 0 (Nat.zero_le _) (by unfold am_f; omega)
  rw [sp_c H hp, tl_bs]
  exact (congrArg (fun z => Option.bind z fun x => some x) e).trans rfl
theorem t7_lvL (H : tl_Sh h) (M : tl_Mo h 0 l) (hw : tl_wf l) {t : Nat} (ht : t < 16) : ∀ n j, j ≤ l.length → l.length - j < n → lo_X7_livingAt_4 am_f h 118 (nI t) n (nI (tl_B (fun i => sV (l.getD i 0) t) j)) (nI j) = some (nI (tl_B (fun i => sV (l.getD i 0) t) l.length)) := by
  have h16 := hw.1
  intro n
  induction n with
  | zero => intro j _ h; omega
  | succ n ih =>
    intro j hj hjn
    rw [lo_X7_livingAt_4.eq_2, il_0, t7_many H (by decide) M, tl_bs]
    simp only [nI_leI (show l.length < 2 ^ 31 by omega) (show j < 2 ^ 31 by omega)]
    by_cases h1 : l.length ≤ j
    · rw [if_pos h1, show j = l.length by omega]
    · have hg := tl_gd (l := l) (i := j) (by omega)
      have hv := (tl_wf_at hw hg).2.1
      rw [if_neg h1, t7_span H (by decide) M hg (by omega), tl_bs, t7_V _ _ hv ht, tl_bs, tl_sh1 j (by omega), il_1, nI_add]
      have key : ((if sV (l.getD j 0) t = true then some (nI (2 ^ j)) else some (nI 0)) : Option Int32) = some (nI (if sV (l.getD j 0) t = true then 2 ^ j else 0)) := by
        by_cases h2 : sV (l.getD j 0) t = true
        · rw [if_pos h2, if_pos h2]
        · rw [if_neg h2, if_neg h2]
      rw [key, tl_bs, fa_or]
      exact ih (j + 1) (by omega) (by omega)
theorem t7_lv (H : tl_Sh h) (M : tl_Mo h 0 l) (hw : tl_wf l) {t : Nat} (ht : t < 16) : mi_X7_livingAt am_f h 118 (nI t) = some (nI (tl_B (fun i => sV (l.getD i 0) t) l.length)) := by
  unfold mi_X7_livingAt
  have h16 := hw.1
  have e := t7_lvL H M hw ht am_f 0 (Nat.zero_le _) (by unfold am_f; omega)
  rw [oc_118 H, tl_bs]
  exact (congrArg (fun z => Option.bind z fun x => some x) e).trans rfl
-- when
def qJ (l : List Nat) (a b : Nat) : Nat → Bool := fun t => decide (uf_rt (qA l 65535 t).1 a = uf_rt (qA l 65535 t).1 b)
theorem t6_whL (hw : tl_wf l) {a b : Nat} (a8 : a < 8) (b8 : b < 8) : ∀ n j h, tl_Sh h → tl_Sp h 7 l → j ≤ 16 → 16 - j < n → ∃ h2, lo_X6_when_21 am_f 0 (nI a) (nI b) n (nI (tl_B (qJ l a b) j)) (nI j) h = some (nI (tl_B (qJ l a b) 16), h2) ∧ tl_on tl_fs h h2 := by
  intro n
  induction n with
  | zero => intro j h _ _ _ q; omega
  | succ n ih =>
    intro j h H S hj hn
    rw [lo_X6_when_21.eq_2]
    simp only [il_16, nI_leI (show 16 < 2 ^ 31 by decide) (show j < 2 ^ 31 by omega)]
    by_cases h1 : 16 ≤ j
    · rw [if_pos h1, show j = 16 by omega]
      exact ⟨h, rfl, tl_on_rf⟩
    · have j16 : j < 16 := by omega
      obtain ⟨h1', x1, x2, x3, x4⟩ := t2_walkT tl_sps7 hw H S j16
      have H1 := tl_on_Sh H x4
      rw [if_neg h1]
      simp only [or_0_4 H, or_0_1 H, tl_bs, x1, or_0_4 H1, t2_aj H1 x2 (qF_I hw j16) a8 b8]
      rw [decide_eq_decide.mpr (qJ_eq hw j16 a8 b8), tl_sh1 j (by omega), fa_or, nI_1]
      have key : ((if decide (uf_rt (qA l 65535 j).1 a = uf_rt (qA l 65535 j).1 b) = true then some (nI (tl_B (qJ l a b) j ||| 2 ^ j)) else some (nI (tl_B (qJ l a b) j))) : Option Int32) = some (nI (tl_B (qJ l a b) (j + 1))) := by
        show ((if qJ l a b j = true then some (nI (tl_B (qJ l a b) j ||| 2 ^ j)) else some (nI (tl_B (qJ l a b) j))) : Option Int32) = some (nI (tl_B (qJ l a b) j ||| (if qJ l a b j = true then 2 ^ j else 0)))
        by_cases h2 : qJ l a b j = true
        · rw [if_pos h2, if_pos h2]
        · rw [if_neg h2, if_neg h2, Nat.or_zero]
      rw [key, tl_bs]
      obtain ⟨h3, y1, y2⟩ := ih (j + 1) h1' H1 (tl_on_Sp (fun k hk => sp_fs 7 tl_sps7 k (by omega)) x4 S) (by omega) (by omega)
      exact ⟨h3, y1, tl_on_tr x4 y2⟩
theorem t7_whL (hw : tl_wf l) {a b : Nat} (a8 : a < 8) (b8 : b < 8) : ∀ n j h, tl_Sh h → tl_Mo h 0 l → j ≤ 16 → 16 - j < n → ∃ h2, lo_X7_when_21 am_f 118 (nI a) (nI b) n (nI (tl_B (qJ l a b) j)) (nI j) h = some (nI (tl_B (qJ l a b) 16), h2) ∧ tl_on [123, 124] h h2 := by
  intro n
  induction n with
  | zero => intro j h _ _ _ q; omega
  | succ n ih =>
    intro j h H M hj hn
    rw [lo_X7_when_21.eq_2]
    simp only [il_16, nI_leI (show 16 < 2 ^ 31 by decide) (show j < 2 ^ 31 by omega)]
    by_cases h1 : 16 ≤ j
    · rw [if_pos h1, show j = 16 by omega]
      exact ⟨h, rfl, tl_on_rf⟩
    · have j16 : j < 16 := by omega
      obtain ⟨h1', x1, x2⟩ := t7_joined H hw (show 0 < 2 by decide) M j16 (show 65535 < 65536 by decide) a8 b8
      rw [if_neg h1, il_0, il_65535, x1, tl_bs]
      dsimp only
      rw [tl_sh1 j (by omega), nI_1]
      have key : ((if decide (uf_rt (qA l 65535 j).1 a = uf_rt (qA l 65535 j).1 b) = true then some (nI (2 ^ j)) else some (nI 0)) : Option Int32) = some (nI (if qJ l a b j = true then 2 ^ j else 0)) := by
        by_cases h2 : qJ l a b j = true
        · rw [if_pos h2]; exact if_pos h2
        · rw [if_neg h2]; exact if_neg h2
      rw [key, tl_bs, fa_or]
      obtain ⟨h3, y1, y2⟩ := ih (j + 1) h1' (tl_on_Sh H x2) (tl_on_Mo (by decide) x2 M) (by omega) (by omega)
      exact ⟨h3, y1, tl_on_tr x2 y2⟩
theorem e_when (I : tl_I h) (a b : Int32) : tl_st (mi_X6_when am_f h 0 a b) (fun h1 => mi_X7_when am_f h1 118 a b) := by
  obtain ⟨H, ⟨l, S⟩, -⟩ := id I
  unfold mi_X6_when mi_X7_when tl_st
  simp only [oc_0 H, tl_bs, t6_kn, t7_kn]
  by_cases ha : tl_kn a = true
  · by_cases hb : tl_kn b = true
    · obtain ⟨a, a8, rfl⟩ := tl_kn_of ha
      obtain ⟨b, b8, rfl⟩ := tl_kn_of hb
      obtain ⟨h1, x1, x2⟩ := t6_whL S.1 a8 b8 am_f 0 h H S.2.1 (by omega) (by decide)
      have H1 := tl_on_Sh H x2
      have k1 := tl_on_fr tl_s_fo x2
      have S1 := tl_fr_PS k1 S
      obtain ⟨h2, y1, y2⟩ := t7_whL S.1 a8 b8 am_f 0 h1 H1 S1.2.2 (by omega) (by decide)
      refine ⟨nI (tl_B (qJ l a b) 16), h1, h2, ?_, ?_, tl_fr_Iv (tl_fr_tr k1 (tl_on_fr tl_s_mu y2)) I⟩
      · simp only [tl_if1 ha, tl_if1 hb]
        exact (congrArg (fun z => Option.bind z fun (q : Int32 × am_H) => some (q.1, q.2)) x1).trans rfl
      · simp only [oc_118 H1, tl_bs, tl_if1 ha, tl_if1 hb]
        exact (congrArg (fun z => Option.bind z fun (q : Int32 × am_H) => some (q.1, q.2)) y1).trans rfl
    · have hb : tl_kn b = false := by simpa using hb
      refine ⟨-1, h, h, ?_, ?_, I⟩
      · simp only [tl_if1 ha, tl_if0 hb]
      · simp only [oc_118 H, tl_bs, tl_if1 ha, tl_if0 hb]
  · have ha : tl_kn a = false := by simpa using ha
    refine ⟨-1, h, h, ?_, ?_, I⟩
    · simp only [tl_if0 ha]
    · simp only [oc_118 H, tl_bs, tl_if0 ha]
-- node and span: nothing is written
theorem tl_1_31 (a : Int32) : mi_X7_in am_f h a.toInt64 1 31 = some (decide (1 ≤ a.toInt ∧ a.toInt ≤ 31)) := by
  rw [t7_in, Int32.toInt_toInt64]
  rfl
theorem e_node (I : tl_I h) (a : Int32) : ∃ r, mi_X6_node am_f h 0 a = some r ∧ mi_X7_node am_f h 118 a = some r := by
  obtain ⟨H, ⟨l, S⟩, -⟩ := id I
  unfold mi_X6_node mi_X7_node
  simp only [oc_0 H, oc_118 H, tl_bs, tl_1_31, show (a < 1) = (a.toInt < 1) from propext Int32.lt_iff_toInt_lt, show (a ≤ 31) = (a.toInt ≤ 31) from propext Int32.le_iff_toInt_le]
  by_cases h1 : a.toInt < 1
  · exact ⟨-1, by rw [if_pos h1], by rw [decide_eq_false (by omega), if_neg (by decide)]; rfl⟩
  · by_cases h2 : a.toInt ≤ 31
    · obtain ⟨k, k1, rfl⟩ := tl_rg (a := a) (n := 31) (by decide) (decide_eq_true ⟨by omega, h2⟩)
      have k0 : 1 ≤ k := by rw [nI_toInt (by omega)] at h1; omega
      refine ⟨nI (tl_B (fun i => sLi (l.getD i 0) k) l.length), ?_, ?_⟩
      · rw [if_neg h1, if_pos h2, or_0_1 H, tl_bs, t5_ly H tl_sps7 S.2.1 S.1 (by omega), tl_bs]
      · rw [decide_eq_true ⟨by omega, h2⟩, if_pos rfl, t7_ly H S.2.2 S.1 (by omega) k0, tl_bs, tl_bs]
    · exact ⟨-1, by rw [if_neg h1, if_neg h2], by rw [decide_eq_false (by omega), if_neg (by decide)]; rfl⟩
theorem t5_hmL (H : tl_Sh h) (hp : p ∈ am_sps) (S : tl_Sp h p l) (hw : tl_wf l) {i v : Nat} (hi : l[i]? = some v) : ∀ n j, j ≤ 32 → 32 - j < n → lo_X5_howManyNodes_4 am_f h p (nI i) n (nI (tl_N (sLi v) j)) (nI j) = some (nI (tl_N (sLi v) 32)) := by
  intro n
  induction n with
  | zero => intro j _ h; omega
  | succ n ih =>
    intro j hj hjn
    rw [lo_X5_howManyNodes_4.eq_2]
    simp only [il_31, nI_ltI (show 31 < 2 ^ 31 by decide) (show j < 2 ^ 31 by omega)]
    by_cases h1 : 31 < j
    · rw [if_pos h1, show j = 32 by omega]
    · rw [if_neg h1, t5_li H hp S hw hi (by omega), tl_bs, nI_1, nI_1]
      have key : ((if sLi v j = true then some (nI (tl_N (sLi v) j + 1)) else some (nI (tl_N (sLi v) j))) : Option Int32) = some (nI (tl_N (sLi v) (j + 1))) := by
        show _ = some (nI (tl_N (sLi v) j + (if sLi v j = true then 1 else 0)))
        by_cases h2 : sLi v j = true
        · rw [if_pos h2, if_pos h2]
        · rw [if_neg h2, if_neg h2, Nat.add_zero]
      rw [key, tl_bs]
      exact ih (j + 1) (by omega) (by omega)
theorem t7_nnL (h : am_H) {v : Nat} (hv : v < 16384) : ∀ n j, 1 ≤ j → j ≤ 32 → 32 - j < n → lo_X7_nodesOf_4 am_f h (nI v) n (nI (tl_N (sLi v) j)) (nI j) = some (nI (tl_N (sLi v) 32)) := by
  intro n
  induction n with
  | zero => intro j _ _ h; omega
  | succ n ih =>
    intro j h0 hj hjn
    rw [lo_X7_nodesOf_4.eq_2]
    simp only [il_32, nI_leI (show 32 < 2 ^ 31 by decide) (show j < 2 ^ 31 by omega)]
    by_cases h1 : 32 ≤ j
    · rw [if_pos h1, show j = 32 by omega]
    · rw [if_neg h1, t7_li h hv (by omega) h0, tl_bs, tl_iteB, tl_bs, tl_b, nI_add, nI_1]
      exact ih (j + 1) (by omega) (by omega) (by omega)
theorem sLi_0 (v : Nat) : tl_N (sLi v) 1 = 0 := by simp [tl_N, sLi, sFl]
theorem t7_isS (H : tl_Sh h) (M : tl_Mo h 0 l) (hl : l.length ≤ 16) (a : Int32) : mi_X7_isSpan am_f h 118 a = some (tl_hs a l.length) := by
  unfold mi_X7_isSpan
  rw [oc_118 H, tl_bs, il_0, t7_many H (by decide) M, tl_bs, t7_in, tl_bs, Int32.toInt_toInt64, Int32.toInt_toInt64, il_1, pk_sub_toInt (by omega) (by decide)]
  rfl
theorem e_span (I : tl_I h) (a b : Int32) : ∃ r, mi_X6_span am_f h 0 a b = some r ∧ mi_X7_span am_f h 118 a b = some r := by
  obtain ⟨H, ⟨l, S⟩, -⟩ := id I
  have h16 := S.1.1
  unfold mi_X6_span mi_X7_span
  simp only [oc_0 H, oc_118 H, tl_bs, or_0_1 H, t5_has H tl_sps7 S.2.1 h16, t7_isS H S.2.2 h16]
  by_cases c : tl_hs a l.length = true
  · obtain ⟨k, k1, rfl⟩ := tl_hs_of c h16
    have hg := tl_gd (l := l) (i := k) k1
    obtain ⟨-, hv, -, -⟩ := tl_wf_at S.1 hg
    have k16 : k < 16 := by omega
    simp only [tl_if1 c, r5_0 H tl_sps7, r5_1 H tl_sps7, r5_2 H tl_sps7, r5_3 H tl_sps7, tl_bs, s5_0 H tl_sps7 S.2.1 hg k16, s5_1 H tl_sps7 S.2.1 hg k16, s5_2 H tl_sps7 S.2.1 hg k16, s5_3 H tl_sps7 S.2.1 hg k16]
    rw [show mi_X7_spanOf am_f h 118 0 (nI k) = some (nI (l.getD k 0)) from t7_span H (show 0 < 2 by decide) S.2.2 hg k16 am_f]
    simp only [tl_bs, t7_L _ _ hv, t7_H _ _ hv, t7_F _ _ hv, t7_T _ _ hv]
    have hm : mi_X5_howManyNodes am_f h 7 (nI k) = some (nI (tl_N (sLi (l.getD k 0)) 32)) := by
      unfold mi_X5_howManyNodes
      have e := t5_hmL H tl_sps7 S.2.1 S.1 hg am_f 1 (by omega) (by decide)
      rw [sLi_0] at e
      rw [sp_c H tl_sps7, tl_bs]
      exact (congrArg (fun z => Option.bind z fun x => some x) e).trans rfl
    have mm : mi_X7_nodesOf am_f h (nI (l.getD k 0)) = some (nI (tl_N (sLi (l.getD k 0)) 32)) := by
      unfold mi_X7_nodesOf
      have e := t7_nnL h hv am_f 1 (by omega) (by omega) (by decide)
      rw [sLi_0] at e
      exact (congrArg (fun z => Option.bind z fun x => some x) e).trans rfl
    simp only [hm, mm, tl_bs]
    refine tl_pair rfl ?_
    repeat' split
    all_goals exact ⟨_, rfl⟩
  · have c : tl_hs a l.length = false := by simpa using c
    exact ⟨-1, by rw [tl_if0 c], by rw [tl_if0 c]⟩
end Q3
