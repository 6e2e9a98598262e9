-- blocks of seventeen
def tl_Bk (h : am_H) (P o : Nat) (l : List Nat) : Prop := h.2.1 P o = nI l.length ∧ ∀ i v, l[i]? = some v → h.2.1 P (o + 1 + i) = nI v
def tl_oB (P o : Nat) (h h2 : am_H) : Prop := h2.1 = h.1 ∧ h2.2.2.1 = h.2.2.1 ∧ h2.2.2.2 = h.2.2.2 ∧ ∀ p j, ¬ (p = P ∧ o ≤ j ∧ j < o + 17) → h2.2.1 p j = h.2.1 p j
theorem tl_oB_rf {P o : Nat} {h : am_H} : tl_oB P o h h := ⟨rfl, rfl, rfl, fun _ _ _ => rfl⟩
theorem tl_oB_tr {P o : Nat} {a b c : am_H} (h1 : tl_oB P o a b) (h2 : tl_oB P o b c) : tl_oB P o a c := ⟨h2.1.trans h1.1, h2.2.1.trans h1.2.1, h2.2.2.1.trans h1.2.2.1, fun p j hp => (h2.2.2.2 p j hp).trans (h1.2.2.2 p j hp)⟩
theorem tl_I_nj {h : am_H} {p i q j : Nat} {x : Int32} (hn : ¬ (q = p ∧ j = i)) : (am_I h p i x).2.1 q j = h.2.1 q j := by
  show am_u h.2.1 p i x q j = _
  unfold am_u
  rw [if_neg hn]
theorem tl_oB_I {P o : Nat} {h : am_H} {i : Nat} {x : Int32} (h1 : o ≤ i) (h2 : i < o + 17) : tl_oB P o h (am_I h P i x) := ⟨rfl, rfl, rfl, fun q j hq => tl_I_nj (fun e => hq ⟨e.1, by omega, by omega⟩)⟩
theorem tl_oB_Sh {P o : Nat} {h h2 : am_H} (H : tl_Sh h) (k : tl_oB P o h h2) : tl_Sh h2 := ⟨k.1.trans H.1, fun p j hp => by rw [k.2.2.1]; exact H.2 p j hp⟩
theorem tl_oB_Bk {P o Q q : Nat} {h h2 : am_H} {l : List Nat} (k : tl_oB P o h h2) (hl : l.length ≤ 16) (hn : Q ≠ P ∨ q + 17 ≤ o ∨ o + 17 ≤ q) (B : tl_Bk h Q q l) : tl_Bk h2 Q q l := ⟨(k.2.2.2 _ _ (by omega)).trans B.1, fun i v hi => (k.2.2.2 _ _ (by have := tl_lt_of hi; omega)).trans (B.2 i v hi)⟩
theorem tl_oB_on {P o : Nat} {ps : List Nat} (hP : P ∈ ps) {h h2 : am_H} (k : tl_oB P o h h2) : tl_on ps h h2 := ⟨k.1, k.2.1, k.2.2.1, fun p hp j => k.2.2.2 p j (fun e => hp (e.1 ▸ hP))⟩
theorem tl_oB_kp {P o : Nat} {r : Nat → Nat → Bool} {h h2 : am_H} (k : tl_oB P o h h2) (hr : ∀ j, o ≤ j → j < o + 17 → r P j = false) : tl_kp r h h2 := fun p j q => k.2.2.2 p j (fun e => by rw [e.1, hr j e.2.1 e.2.2] at q; cases q)
theorem tl_oB_fr {h h2 : am_H} (k : tl_oB 119 17 h h2) : tl_fr h h2 := ⟨k.1, k.2.1, k.2.2.1, fun p j q => k.2.2.2 p j (fun e => by
  rw [e.1] at q
  have : tl_sc 119 j = true := by simp [tl_sc]; omega
  rw [this] at q
  cases q)⟩
theorem tl_cp_Bk {P o Q q : Nat} {h h2 : am_H} {l : List Nat} (hc : ∀ x, x < 17 → h2.2.1 P (o + x) = h.2.1 Q (q + x)) (hl : l.length ≤ 16) (B : tl_Bk h Q q l) : tl_Bk h2 P o l := ⟨(hc 0 (by omega)).trans B.1, fun i v hi => by
  have := tl_lt_of hi
  rw [show o + 1 + i = o + (1 + i) by omega, hc (1 + i) (by omega), show q + (1 + i) = q + 1 + i by omega]
  exact B.2 i v hi⟩

theorem t7_kaL {nx : Nat} (hnx : nx < 14) : ∀ n j h, tl_Sh h → h.2.1 118 5 = nI nx → j ≤ 17 → 17 - j < n → ∃ h2, lo_X7_keepAct_2 am_f 118 n (nI j) h = some h2 ∧ tl_oB 122 (17 * nx) h h2 ∧ ∀ x, x < 17 → h2.2.1 122 (17 * nx + x) = if x < j then h.2.1 122 (17 * nx + x) else h.2.1 119 (0 + x) := by
  intro n
  induction n with
  | zero => intro j h _ _ _ q; omega
  | succ n ih =>
    intro j h H N hj hjn
    rw [lo_X7_keepAct_2.eq_2]
    simp only [il_17, nI_leI (show 17 < 2 ^ 31 by decide) (show j < 2 ^ 31 by omega)]
    by_cases h1 : 17 ≤ j
    · rw [if_pos h1]
      exact ⟨h, rfl, tl_oB_rf, fun x hx => by rw [if_pos (by omega)]⟩
    · rw [if_neg h1]
      simp only [or_118_6 H, or_118_0 H, oi_118 H, N, tl_bs, pk_mul, nI_add, al_119 H (show j < 34 by omega), as_122 H (show 17 * nx + j < 238 by omega), nI_1]
      rw [show h.2.1 119 j = h.2.1 119 (0 + j) by rw [Nat.zero_add]]
      have on1 : tl_oB 122 (17 * nx) h (am_I h 122 (17 * nx + j) (h.2.1 119 (0 + j))) := tl_oB_I (by omega) (by omega)
      obtain ⟨h2, a1, a2, a3⟩ := ih (j + 1) _ (tl_oB_Sh H on1) (by rw [tl_I_ne (by decide)]; exact N) (by omega) (by omega)
      refine ⟨h2, a1, tl_oB_tr on1 a2, fun x hx => ?_⟩
      rw [a3 x hx]
      by_cases e1 : x < j
      · rw [if_pos (by omega), if_pos e1, tl_I_nj (by omega)]
      · by_cases e2 : x = j
        · subst e2
          rw [if_pos (by omega), if_neg e1, tl_I_at, if_pos rfl]
        · rw [if_neg (by omega), if_neg e1, tl_I_nj (by omega)]

theorem t7_unL {nx : Nat} (hnx : nx < 14) : ∀ n j h, tl_Sh h → h.2.1 118 5 = nI nx → j ≤ 17 → 17 - j < n → ∃ h2, lo_X7_undo_36 am_f 118 n (nI j) h = some h2 ∧ tl_oB 119 (0) h h2 ∧ ∀ x, x < 17 → h2.2.1 119 (0 + x) = if x < j then h.2.1 119 (0 + x) else h.2.1 122 (17 * nx + x) := by
  intro n
  induction n with
  | zero => intro j h _ _ _ q; omega
  | succ n ih =>
    intro j h H N hj hjn
    rw [lo_X7_undo_36.eq_2]
    simp only [il_17, nI_leI (show 17 < 2 ^ 31 by decide) (show j < 2 ^ 31 by omega)]
    by_cases h1 : 17 ≤ j
    · rw [if_pos h1]
      exact ⟨h, rfl, tl_oB_rf, fun x hx => by rw [if_pos (by omega)]⟩
    · rw [if_neg h1]
      simp only [or_118_6 H, or_118_0 H, oi_118 H, N, tl_bs, pk_mul, nI_add, al_122 H (show 17 * nx + j < 238 by omega), as_119 H (show j < 34 by omega), nI_1]
      rw [show am_I h 119 j (h.2.1 122 (17 * nx + j)) = am_I h 119 (0 + j) (h.2.1 122 (17 * nx + j)) by rw [Nat.zero_add]]
      have on1 : tl_oB 119 (0) h (am_I h 119 (0 + j) (h.2.1 122 (17 * nx + j))) := tl_oB_I (by omega) (by omega)
      obtain ⟨h2, a1, a2, a3⟩ := ih (j + 1) _ (tl_oB_Sh H on1) (by rw [tl_I_ne (by decide)]; exact N) (by omega) (by omega)
      refine ⟨h2, a1, tl_oB_tr on1 a2, fun x hx => ?_⟩
      rw [a3 x hx]
      by_cases e1 : x < j
      · rw [if_pos (by omega), if_pos e1, tl_I_nj (by omega)]
      · by_cases e2 : x = j
        · subst e2
          rw [if_pos (by omega), if_neg e1, tl_I_at, if_pos rfl]
        · rw [if_neg (by omega), if_neg e1, tl_I_nj (by omega)]

theorem t7_ltL : ∀ n j h, tl_Sh h → j ≤ 17 → 17 - j < n → ∃ h2, lo_X7_layTrial_2 am_f 118 n (nI j) h = some h2 ∧ tl_oB 119 (17) h h2 ∧ ∀ x, x < 17 → h2.2.1 119 (17 + x) = if x < j then h.2.1 119 (17 + x) else h.2.1 119 (0 + x) := by
  intro n
  induction n with
  | zero => intro j h _ _ q; omega
  | succ n ih =>
    intro j h H hj hjn
    rw [lo_X7_layTrial_2.eq_2]
    simp only [il_17, nI_leI (show 17 < 2 ^ 31 by decide) (show j < 2 ^ 31 by omega)]
    by_cases h1 : 17 ≤ j
    · rw [if_pos h1]
      exact ⟨h, rfl, tl_oB_rf, fun x hx => by rw [if_pos (by omega)]⟩
    · rw [if_neg h1]
      simp only [or_118_0 H, tl_bs, nI_add, al_119 H (show j < 34 by omega), as_119 H (show 17 + j < 34 by omega), nI_1]
      rw [show h.2.1 119 j = h.2.1 119 (0 + j) by rw [Nat.zero_add]]
      have on1 : tl_oB 119 (17) h (am_I h 119 (17 + j) (h.2.1 119 (0 + j))) := tl_oB_I (by omega) (by omega)
      obtain ⟨h2, a1, a2, a3⟩ := ih (j + 1) _ (tl_oB_Sh H on1) (by omega) (by omega)
      refine ⟨h2, a1, tl_oB_tr on1 a2, fun x hx => ?_⟩
      rw [a3 x hx]
      by_cases e1 : x < j
      · rw [if_pos (by omega), if_pos e1, tl_I_nj (by omega)]
      · by_cases e2 : x = j
        · subst e2
          rw [if_pos (by omega), if_neg e1, tl_I_at, if_pos rfl]
        · rw [if_neg (by omega), if_neg e1, tl_I_nj (by omega)]

theorem t7_keL {s : Nat} (hs : s < 2) : ∀ n j h, tl_Sh h → j ≤ 17 → 17 - j < n → ∃ h2, lo_X7_keep_21 am_f 118 (nI s) n (nI j) h = some h2 ∧ tl_oB 133 (17 * s) h h2 ∧ ∀ x, x < 17 → h2.2.1 133 (17 * s + x) = if x < j then h.2.1 133 (17 * s + x) else h.2.1 119 (0 + x) := by
  intro n
  induction n with
  | zero => intro j h _ _ q; omega
  | succ n ih =>
    intro j h H hj hjn
    rw [lo_X7_keep_21.eq_2]
    simp only [il_17, nI_leI (show 17 < 2 ^ 31 by decide) (show j < 2 ^ 31 by omega)]
    by_cases h1 : 17 ≤ j
    · rw [if_pos h1]
      exact ⟨h, rfl, tl_oB_rf, fun x hx => by rw [if_pos (by omega)]⟩
    · rw [if_neg h1]
      simp only [or_118_19 H, or_118_0 H, tl_bs, pk_mul, nI_add, al_119 H (show j < 34 by omega), as_133 H (show 17 * s + j < 34 by omega), nI_1]
      rw [show h.2.1 119 j = h.2.1 119 (0 + j) by rw [Nat.zero_add]]
      have on1 : tl_oB 133 (17 * s) h (am_I h 133 (17 * s + j) (h.2.1 119 (0 + j))) := tl_oB_I (by omega) (by omega)
      obtain ⟨h2, a1, a2, a3⟩ := ih (j + 1) _ (tl_oB_Sh H on1) (by omega) (by omega)
      refine ⟨h2, a1, tl_oB_tr on1 a2, fun x hx => ?_⟩
      rw [a3 x hx]
      by_cases e1 : x < j
      · rw [if_pos (by omega), if_pos e1, tl_I_nj (by omega)]
      · by_cases e2 : x = j
        · subst e2
          rw [if_pos (by omega), if_neg e1, tl_I_at, if_pos rfl]
        · rw [if_neg (by omega), if_neg e1, tl_I_nj (by omega)]

theorem t7_agL {s : Nat} (hs : s < 2) : ∀ n j h, tl_Sh h → j ≤ 17 → 17 - j < n → ∃ h2, lo_X7_again_26 am_f 118 (nI s) n (nI j) h = some h2 ∧ tl_oB 119 (0) h h2 ∧ ∀ x, x < 17 → h2.2.1 119 (0 + x) = if x < j then h.2.1 119 (0 + x) else h.2.1 133 (17 * s + x) := by
  intro n
  induction n with
  | zero => intro j h _ _ q; omega
  | succ n ih =>
    intro j h H hj hjn
    rw [lo_X7_again_26.eq_2]
    simp only [il_17, nI_leI (show 17 < 2 ^ 31 by decide) (show j < 2 ^ 31 by omega)]
    by_cases h1 : 17 ≤ j
    · rw [if_pos h1]
      exact ⟨h, rfl, tl_oB_rf, fun x hx => by rw [if_pos (by omega)]⟩
    · rw [if_neg h1]
      simp only [or_118_19 H, or_118_0 H, tl_bs, pk_mul, nI_add, al_133 H (show 17 * s + j < 34 by omega), as_119 H (show j < 34 by omega), nI_1]
      rw [show am_I h 119 j (h.2.1 133 (17 * s + j)) = am_I h 119 (0 + j) (h.2.1 133 (17 * s + j)) by rw [Nat.zero_add]]
      have on1 : tl_oB 119 (0) h (am_I h 119 (0 + j) (h.2.1 133 (17 * s + j))) := tl_oB_I (by omega) (by omega)
      obtain ⟨h2, a1, a2, a3⟩ := ih (j + 1) _ (tl_oB_Sh H on1) (by omega) (by omega)
      refine ⟨h2, a1, tl_oB_tr on1 a2, fun x hx => ?_⟩
      rw [a3 x hx]
      by_cases e1 : x < j
      · rw [if_pos (by omega), if_pos e1, tl_I_nj (by omega)]
      · by_cases e2 : x = j
        · subst e2
          rw [if_pos (by omega), if_neg e1, tl_I_at, if_pos rfl]
        · rw [if_neg (by omega), if_neg e1, tl_I_nj (by omega)]

section MD
variable {h : am_H} {l : List Nat} {e : Nat}
theorem tl_fe_iff {l : List Nat} {bt : Int32} {lo hi s t n : Nat} : tl_fe l bt lo hi s t n = true ↔ ∀ i, i < n → tl_fo l bt lo hi i = true → ¬ (s ≤ sT (l.getD i 0) ∧ sF (l.getD i 0) ≤ t) := by
  unfold tl_fe
  rw [decide_eq_true_eq]
theorem fr_k1 {l : List Nat} {bt : Int32} {lo hi j : Nat} : ((if nI j = bt then some false else if sL (l.getD j 0) = lo then (if sH (l.getD j 0) = hi then some true else some false) else some false) : Option Bool) = some (tl_fo l bt lo hi j) := by
  unfold tl_fo
  by_cases c1 : nI j = bt
  · rw [if_pos c1]; exact tl_df (fun z => z.1 c1)
  · by_cases c2 : sL (l.getD j 0) = lo
    · by_cases c3 : sH (l.getD j 0) = hi
      · rw [if_neg c1, if_pos c2, if_pos c3]; exact tl_dt ⟨c1, c2, c3⟩
      · rw [if_neg c1, if_pos c2, if_neg c3]; exact tl_df (fun z => c3 z.2.2)
    · rw [if_neg c1, if_neg c2]; exact tl_df (fun z => c2 z.2.1)
theorem fr_k2 {l : List Nat} {bt : Int32} {lo hi s t j : Nat} : ((if tl_fe l bt lo hi s t j = true then (if tl_fo l bt lo hi j = true then (if sT (l.getD j 0) < s then some true else if sF (l.getD j 0) ≤ t then some false else some true) else some true) else some false) : Option Bool) = some (tl_fe l bt lo hi s t (j + 1)) := by
  by_cases c1 : tl_fe l bt lo hi s t j = true
  · rw [if_pos c1]
    have c1' := tl_fe_iff.mp c1
    have st : (¬ (tl_fo l bt lo hi j = true ∧ (s ≤ sT (l.getD j 0) ∧ sF (l.getD j 0) ≤ t))) → tl_fe l bt lo hi s t (j + 1) = true := fun z => tl_fe_iff.mpr (fun i hi c => by
      by_cases q : i = j
      · subst q; exact fun y => z ⟨c, y⟩
      · exact c1' i (by omega) c)
    by_cases c2 : tl_fo l bt lo hi j = true
    · rw [if_pos c2]
      by_cases c3 : sT (l.getD j 0) < s
      · rw [if_pos c3, st (by omega)]
      · rw [if_neg c3]
        by_cases c4 : sF (l.getD j 0) ≤ t
        · rw [if_pos c4]
          have : tl_fe l bt lo hi s t (j + 1) = false := Bool.eq_false_iff.mpr (fun z => tl_fe_iff.mp z j (by omega) c2 ⟨by omega, c4⟩)
          rw [this]
        · rw [if_neg c4, st (by omega)]
    · rw [if_neg c2, st (fun z => c2 z.1)]
  · have : tl_fe l bt lo hi s t (j + 1) = false := Bool.eq_false_iff.mpr (fun z => c1 (tl_fe_iff.mpr (fun i hi => tl_fe_iff.mp z i (by omega))))
    rw [if_neg c1, this]
theorem t7_frL (H : tl_Sh h) (he : e < 2) (M : tl_Mo h e l) (hw : tl_wf l) (bt : Int32) {v : Nat} (hv : v < 16384) : ∀ n j, j ≤ l.length → l.length - j < n → lo_X7_isFree_6 am_f h 118 (nI e) (nI v) bt n (tl_fe l bt (sL v) (sH v) (sF v) (sT v) j) (nI j) = some (tl_fe l bt (sL v) (sH v) (sF v) (sT v) l.length) := by
  have h16 := hw.1
  have b1 : sL v < 2 ^ 31 := Nat.lt_of_lt_of_le (sL_lt hv) (by decide)
  have b2 : sH v < 2 ^ 31 := Nat.lt_of_lt_of_le (sH_lt v) (by decide)
  have b3 : sF v < 2 ^ 31 := Nat.lt_of_lt_of_le (sF_lt v) (by decide)
  have b4 : sT v < 2 ^ 31 := Nat.lt_of_lt_of_le (sT_lt v) (by decide)
  intro n
  induction n with
  | zero => intro j _ h; omega
  | succ n ih =>
    intro j hj hjn
    rw [lo_X7_isFree_6.eq_2, t7_many H he M, tl_bs]
    simp only [nI_leI (show l.length < 2 ^ 31 by omega) (show j < 2 ^ 31 by omega)]
    by_cases h1 : l.length ≤ j
    · rw [if_pos h1, show j = l.length by omega]
    · have hg := tl_gd (l := l) (i := j) (by omega)
      obtain ⟨j16, hw2, -, -⟩ := tl_wf_at hw hg
      have c1 : sL (l.getD j 0) < 2 ^ 31 := Nat.lt_of_lt_of_le (sL_lt hw2) (by decide)
      have c2 : sH (l.getD j 0) < 2 ^ 31 := Nat.lt_of_lt_of_le (sH_lt _) (by decide)
      have c3 : sF (l.getD j 0) < 2 ^ 31 := Nat.lt_of_lt_of_le (sF_lt _) (by decide)
      have c4 : sT (l.getD j 0) < 2 ^ 31 := Nat.lt_of_lt_of_le (sT_lt _) (by decide)
      rw [if_neg h1, t7_span H he M hg j16, tl_bs]
      simp only [t7_L _ _ hw2, t7_H _ _ hw2, t7_F _ _ hw2, t7_T _ _ hw2, t7_L _ _ hv, t7_H _ _ hv, t7_F _ _ hv, t7_T _ _ hv, tl_bs]
      simp only [nI_eq c1 b1, nI_eq c2 b2, nI_ltI c4 b3, nI_leI c3 b4, fr_k1, tl_bs, fr_k2, nI_1]
      exact ih (j + 1) (by omega) (by omega)
theorem t7_free (H : tl_Sh h) (he : e < 2) (M : tl_Mo h e l) (hw : tl_wf l) (bt : Int32) {v : Nat} (hv : v < 16384) : mi_X7_isFree am_f h 118 (nI e) (nI v) bt = some (tl_fe l bt (sL v) (sH v) (sF v) (sT v) l.length) := by
  have h16 := hw.1
  unfold mi_X7_isFree
  have z := t7_frL H he M hw bt hv am_f 0 (Nat.zero_le _) (by unfold am_f; omega)
  rw [show tl_fe l bt (sL v) (sH v) (sF v) (sT v) 0 = true from decide_eq_true (fun i hi => by omega)] at z
  rw [oc_118 H, tl_bs]
  exact (congrArg (fun z => Option.bind z fun x => some x) z).trans rfl
theorem t7_po (H : tl_Sh h) (he : e < 2) (M : tl_Mo h e l) (hl : l.length < 16) (v : Nat) : ∃ h2, mi_X7_putOn am_f h 118 (nI e) (nI v) = some h2 ∧ tl_Mo h2 e (l ++ [v]) ∧ tl_oB 119 (17 * e) h h2 := by
  have H1 : tl_Sh (am_I h 119 (17 * e + 1 + l.length) (nI v)) := tl_Sh_I H
  have r1 : (am_I h 119 (17 * e + 1 + l.length) (nI v)).2.1 119 (17 * e) = nI l.length := by rw [tl_I_nj (by omega)]; exact M.1
  refine ⟨am_I (am_I h 119 (17 * e + 1 + l.length) (nI v)) 119 (17 * e) (nI (l.length + 1)), ?_, ⟨?_, fun i x hi => ?_⟩, tl_oB_tr (tl_oB_I (by omega) (by omega)) (tl_oB_I (by omega) (by omega))⟩
  · unfold mi_X7_putOn
    rw [oc_118 H, tl_bs, or_118_0 H, tl_bs, t7_many H he M, tl_bs, il_17, il_1, pk_mul, nI_add, nI_add, as_119 H (by omega), tl_bs, or_118_0 H1, tl_bs, al_119 H1 (by omega), tl_bs, r1, nI_add, as_119 H1 (by omega), tl_bs]
  · rw [tl_I_at, if_pos rfl, List.length_append]; rfl
  · rw [tl_I_nj (by omega)]
    rcases tl_app hi with z | ⟨rfl, rfl⟩
    · rw [tl_I_nj (by have := tl_lt_of z; omega)]
      exact M.2 i x z
    · rw [tl_I_at, if_pos rfl]
theorem t7_coL (he : e < 2) {m : Nat} (hm : m ≤ 15) : ∀ n j h, tl_Sh h → h.2.1 119 (17 * e) = nI m → j ≤ m → m - j < n → ∃ h2, lo_X7_cutOn_15 am_f 118 (nI e) n (nI j) h = some h2 ∧ tl_oB 119 (17 * e) h h2 ∧ h2.2.1 119 (17 * e) = nI m ∧ ∀ x, x < m → h2.2.1 119 (17 * e + 1 + x) = if x < j then h.2.1 119 (17 * e + 1 + x) else h.2.1 119 (17 * e + 1 + (x + 1)) := by
  intro n
  induction n with
  | zero => intro j h _ _ _ q; omega
  | succ n ih =>
    intro j h H h4 hj hjn
    have mn : mi_X7_many am_f h 118 (nI e) = some (nI m) := by
      unfold mi_X7_many
      rw [oc_118 H, tl_bs, or_118_0 H, tl_bs, il_17, pk_mul, al_119 H (by omega), tl_bs, h4]
    rw [lo_X7_cutOn_15.eq_2, mn, tl_bs]
    simp only [nI_leI (show m < 2 ^ 31 by omega) (show j < 2 ^ 31 by omega)]
    by_cases h1 : m ≤ j
    · rw [if_pos h1]
      exact ⟨h, rfl, tl_oB_rf, h4, fun x hx => by rw [if_pos (by omega)]⟩
    · rw [if_neg h1]
      simp only [or_118_0 H, tl_bs, il_17, il_1, pk_mul, nI_add, al_119 H (show 17 * e + 1 + j + 1 < 34 by omega), as_119 H (show 17 * e + 1 + j < 34 by omega)]
      have on1 : tl_oB 119 (17 * e) h (am_I h 119 (17 * e + 1 + j) (h.2.1 119 (17 * e + 1 + j + 1))) := tl_oB_I (by omega) (by omega)
      obtain ⟨h2, a1, a2, a3, a4⟩ := ih (j + 1) _ (tl_oB_Sh H on1) (by rw [tl_I_nj (by omega)]; exact h4) (by omega) (by omega)
      refine ⟨h2, a1, tl_oB_tr on1 a2, a3, fun x hx => ?_⟩
      rw [a4 x hx]
      by_cases e1 : x < j
      · rw [if_pos (by omega), if_pos e1, tl_I_nj (by omega)]
      · by_cases e2 : x = j
        · subst e2
          rw [if_pos (by omega), if_neg e1, tl_I_at, if_pos rfl]
          rfl
        · rw [if_neg (by omega), if_neg e1, tl_I_nj (by omega)]
theorem t7_co (H : tl_Sh h) (he : e < 2) (M : tl_Mo h e l) (hl : l.length ≤ 16) {k : Nat} (hk : k < l.length) : ∃ h2, mi_X7_cutOn am_f h 118 (nI e) (nI k) = some h2 ∧ tl_Mo h2 e (l.eraseIdx k) ∧ tl_oB 119 (17 * e) h h2 := by
  have H1 : tl_Sh (am_I h 119 (17 * e) (nI (l.length - 1))) := tl_Sh_I H
  have on1 : tl_oB 119 (17 * e) h (am_I h 119 (17 * e) (nI (l.length - 1))) := tl_oB_I (by omega) (by omega)
  obtain ⟨h2, a1, a2, a3, a4⟩ := t7_coL he (m := l.length - 1) (by omega) am_f k _ H1 (by rw [tl_I_at, if_pos rfl]) (by omega) (by unfold am_f; omega)
  have le : (l.eraseIdx k).length = l.length - 1 := List.length_eraseIdx_of_lt hk
  refine ⟨h2, ?_, ⟨by rw [le]; exact a3, fun i v hi => ?_⟩, tl_oB_tr on1 a2⟩
  · unfold mi_X7_cutOn
    rw [oc_118 H, tl_bs, or_118_0 H, tl_bs, il_17, pk_mul, al_119 H (by omega), tl_bs, M.1, il_1, pk_sub (by omega), as_119 H (by omega), tl_bs, a1, tl_bs]
  · have il := tl_lt_of hi
    rw [le] at il
    rw [a4 i il]
    rw [List.getElem?_eraseIdx] at hi
    by_cases q : i < k
    · rw [if_pos q] at hi ⊢
      rw [tl_I_nj (by omega)]
      exact M.2 i v hi
    · rw [if_neg q] at hi ⊢
      rw [tl_I_nj (by omega)]
      exact M.2 (i + 1) v hi
theorem t7_eo (H : tl_Sh h) (he : e < 2) (M : tl_Mo h e l) (hw : tl_wf l) {k v t : Nat} (hk : l[k]? = some v) (ht : t < 16) : ∃ h2, mi_X7_endOn am_f h 118 (nI e) (nI k) (nI t) = some h2 ∧ tl_Mo h2 e (l.set k (sC (sL v) (sH v) (sF v) t)) ∧ tl_oB 119 (17 * e) h h2 := by
  obtain ⟨k16, hv, w1, w2⟩ := tl_wf_at hw hk
  have kl := tl_lt_of hk
  refine ⟨am_I h 119 (17 * e + 1 + k) (nI (sC (sL v) (sH v) (sF v) t)), ?_, ⟨?_, fun i x hi => ?_⟩, tl_oB_I (by omega) (by omega)⟩
  · unfold mi_X7_endOn
    rw [oc_118 H, tl_bs, t7_span H he M hk k16, tl_bs, or_118_0 H, tl_bs, t7_L _ _ hv, tl_bs, t7_H _ _ hv, tl_bs, t7_F _ _ hv, tl_bs, t7_C _ _ (sL_lt hv) (sH_lt v) (sF_lt v) ht, tl_bs, il_17, il_1, pk_mul, nI_add, nI_add, as_119 H (by omega), tl_bs, Nat.min_eq_left (by omega), Nat.max_eq_right (by omega)]
  · rw [tl_I_nj (by omega), List.length_set]; exact M.1
  · rw [List.getElem?_set] at hi
    by_cases q : k = i
    · subst q
      rw [if_pos rfl, if_pos kl] at hi
      rw [tl_I_at, if_pos rfl, Option.some.inj hi]
    · rw [if_neg q] at hi
      rw [tl_I_nj (by omega)]
      exact M.2 i x hi
-- the doings as facts
theorem tl_ng {r : Int32} (l : List Nat) (h : r < 0) : ((r, l) : Int32 × List Nat).1 < 0 := h
theorem tl_put_or (l : List Nat) (a b c d : Int32) : ((tl_put l a b c d).1 < 0 ∧ (tl_put l a b c d).2 = l) ∨ (∃ a' b' s t, a = nI a' ∧ b = nI b' ∧ c = nI s ∧ d = nI t ∧ a' < 8 ∧ b' < 8 ∧ s < 16 ∧ t < 16 ∧ a' ≠ b' ∧ s ≤ t ∧ l.length < 16 ∧ tl_fe l (-9) (min a' b') (max a' b') s t l.length = true ∧ tl_put l a b c d = (nI l.length, l ++ [sC (min a' b') (max a' b') s t])) := by
  unfold tl_put
  split
  · rename_i q
    obtain ⟨qa, qb, qc, qd⟩ := q
    obtain ⟨a, a8, rfl⟩ := tl_kn_of qa
    obtain ⟨b, b8, rfl⟩ := tl_kn_of qb
    obtain ⟨c, c16, rfl⟩ := tl_tm_of qc
    obtain ⟨d, d16, rfl⟩ := tl_tm_of qd
    simp only [nI_tt (show a < 2 ^ 31 by omega), nI_tt (show b < 2 ^ 31 by omega), nI_tt (show c < 2 ^ 31 by omega), nI_tt (show d < 2 ^ 31 by omega), nI_eq (show a < 2 ^ 31 by omega) (show b < 2 ^ 31 by omega)]
    by_cases c1 : a = b ∨ d < c
    · rw [if_pos c1]; exact Or.inl ⟨tl_ng _ (by decide), rfl⟩
    · rw [if_neg c1]
      by_cases c2 : tl_fe l (-9) (min a b) (max a b) c d l.length = true
      · rw [if_pos c2]
        by_cases c3 : l.length < 16
        · rw [if_pos c3]
          exact Or.inr ⟨a, b, c, d, rfl, rfl, rfl, rfl, a8, b8, c16, d16, by omega, by omega, c3, c2, rfl⟩
        · rw [if_neg c3]; exact Or.inl ⟨tl_ng _ (by decide), rfl⟩
      · rw [if_neg c2]; exact Or.inl ⟨tl_ng _ (by decide), rfl⟩
  · exact Or.inl ⟨tl_ng _ (by decide), rfl⟩
theorem tl_end_or (l : List Nat) (hw : tl_wf l) (a b : Int32) : ((tl_end l a b).1 < 0 ∧ (tl_end l a b).2 = l) ∨ (∃ k t, a = nI k ∧ b = nI t ∧ k < l.length ∧ t < 16 ∧ t ≠ sT (l.getD k 0) ∧ sF (l.getD k 0) ≤ t ∧ tl_fe l a (sL (l.getD k 0)) (sH (l.getD k 0)) (sF (l.getD k 0)) t l.length = true ∧ tl_end l a b = (nI (sT (l.getD k 0)), l.set k (sC (sL (l.getD k 0)) (sH (l.getD k 0)) (sF (l.getD k 0)) t))) := by
  have h16 := hw.1
  unfold tl_end
  split
  · rename_i q
    obtain ⟨k, k1, rfl⟩ := tl_hs_of q.1 h16
    obtain ⟨t, t16, rfl⟩ := tl_tm_of q.2
    simp only [nI_tt (show k < 2 ^ 31 by omega), nI_tt (show t < 2 ^ 31 by omega)]
    by_cases c1 : t = sT (l.getD k 0) ∨ t < sF (l.getD k 0)
    · rw [if_pos c1]; exact Or.inl ⟨tl_ng _ (by decide), rfl⟩
    · rw [if_neg c1]
      by_cases c2 : tl_fe l (nI k) (sL (l.getD k 0)) (sH (l.getD k 0)) (sF (l.getD k 0)) t l.length = true
      · rw [if_pos c2]
        exact Or.inr ⟨k, t, rfl, rfl, k1, t16, by omega, by omega, c2, rfl⟩
      · rw [if_neg c2]; exact Or.inl ⟨tl_ng _ (by decide), rfl⟩
  · exact Or.inl ⟨tl_ng _ (by decide), rfl⟩
theorem tl_cut_or (l : List Nat) (hw : tl_wf l) (a : Int32) : ((tl_cut l a).1 < 0 ∧ (tl_cut l a).2 = l ∧ tl_hs a l.length = false) ∨ (∃ k, a = nI k ∧ k < l.length ∧ tl_cut l a = (nI (l.length - 1), l.eraseIdx k)) := by
  have h16 := hw.1
  unfold tl_cut
  by_cases c : tl_hs a l.length = true
  · obtain ⟨k, k1, rfl⟩ := tl_hs_of c h16
    rw [if_pos c, nI_tt (by omega)]
    exact Or.inr ⟨k, rfl, k1, rfl⟩
  · rw [if_neg c]
    exact Or.inl ⟨tl_ng _ (by decide), rfl, by simpa using c⟩
theorem t7_cpt (H : tl_Sh h) (he : e < 2) (M : tl_Mo h e l) (hw : tl_wf l) (a b c d : Int32) : mi_X7_canPut am_f h 118 (nI e) a b c d = some (decide (¬ (tl_put l a b c d).1 < 0)) := by
  have h16 := hw.1
  unfold mi_X7_canPut tl_put
  simp only [oc_118 H, tl_bs, t7_kn, t7_tm]
  by_cases qa : tl_kn a = true
  · by_cases qb : tl_kn b = true
    · by_cases qc : tl_tm c = true
      · by_cases qd : tl_tm d = true
        · obtain ⟨a, a8, rfl⟩ := tl_kn_of qa
          obtain ⟨b, b8, rfl⟩ := tl_kn_of qb
          obtain ⟨c, c16, rfl⟩ := tl_tm_of qc
          obtain ⟨d, d16, rfl⟩ := tl_tm_of qd
          simp only [if_pos qa, if_pos qb, if_pos qc, if_pos qd, nI_tt (show a < 2 ^ 31 by omega), nI_tt (show b < 2 ^ 31 by omega), nI_tt (show c < 2 ^ 31 by omega), nI_tt (show d < 2 ^ 31 by omega), nI_eq (show a < 2 ^ 31 by omega) (show b < 2 ^ 31 by omega), nI_ltI (show d < 2 ^ 31 by omega) (show c < 2 ^ 31 by omega), and_self, qa, qb, qc, qd, if_true]
          by_cases e1 : a = b
          · rw [if_pos e1, if_pos (Or.inl e1)]; rfl
          · by_cases e2 : d < c
            · rw [if_neg e1, if_pos e2, if_pos (Or.inr e2)]; rfl
            · rw [if_neg e1, if_neg e2, if_neg (show ¬ (a = b ∨ d < c) by omega), t7_many H he M, tl_bs]
              have v := tl_put_v a8 b8 c16 d16 e1 (by omega)
              simp only [il_16, nI_leI (show 16 < 2 ^ 31 by decide) (show l.length < 2 ^ 31 by omega), t7_C _ _ a8 b8 c16 d16, tl_bs, t7_free H he M hw _ v.1]
              rw [sC_L (by omega) c16 d16, sC_H (by omega) c16 d16, sC_F c16 d16, sC_T d16]
              by_cases e4 : 16 ≤ l.length
              · rw [if_pos e4, if_neg (show ¬ l.length < 16 by omega)]
                by_cases e3 : tl_fe l (-9) (min a b) (max a b) c d l.length = true
                · rw [if_pos e3]; rfl
                · rw [if_neg e3]; rfl
              · rw [if_neg e4, if_pos (show l.length < 16 by omega)]
                by_cases e3 : tl_fe l (-9) (min a b) (max a b) c d l.length = true
                · rw [if_pos e3, if_pos e3, tl_bs]
                  exact tl_dt (nI_pos (by omega))
                · rw [if_neg e3, if_neg e3]; rfl
        · simp only [qa, qb, qc, qd, if_true, and_false, if_false]
          by_cases e1 : a = b
          · rw [if_pos e1]; rfl
          · rw [if_neg e1]; rfl
      · simp only [qa, qb, qc, if_true, and_false, false_and, if_false]
        by_cases e1 : a = b
        · rw [if_pos e1]; rfl
        · rw [if_neg e1]; rfl
    · simp only [qa, qb, if_true, and_false, false_and, if_false]
      rfl
  · simp only [qa, false_and, if_false]
    rfl
theorem t7_ce (H : tl_Sh h) (he : e < 2) (M : tl_Mo h e l) (hw : tl_wf l) (a b : Int32) : mi_X7_canEnd am_f h 118 (nI e) a b = some (decide (¬ (tl_end l a b).1 < 0)) := by
  have h16 := hw.1
  unfold mi_X7_canEnd tl_end
  have ein : decide ((0 : Int64).toInt ≤ (Int32.toInt64 a).toInt ∧ (Int32.toInt64 a).toInt ≤ (Int32.toInt64 (nI l.length - 1)).toInt) = tl_hs a l.length := by
    unfold tl_hs
    rw [Int32.toInt_toInt64, Int32.toInt_toInt64, il_1, pk_sub_toInt (by omega) (by decide)]
    rfl
  simp only [oc_118 H, tl_bs, t7_many H he M, t7_in, ein, t7_tm]
  by_cases c : tl_hs a l.length = true
  · obtain ⟨k, k1, rfl⟩ := tl_hs_of c h16
    have hg := tl_gd (l := l) (i := k) k1
    obtain ⟨k16, hv, w1, w2⟩ := tl_wf_at hw hg
    rw [if_pos c, t7_span H he M hg k16, tl_bs, tl_bs, nI_tt (by omega)]
    generalize l.getD k 0 = v at hv w1 w2 ⊢
    have lL := sL_lt hv
    have lH := sH_lt v
    have lF := sF_lt v
    have lT := sT_lt v
    have n9 : ¬ nI v = -9 := fun z => absurd (congrArg Int32.toInt z) (by rw [nI_toInt (by omega)]; show ¬ ((v : Int) = -9); omega)
    rw [if_neg n9]
    by_cases d : tl_tm b = true
    · obtain ⟨t, t16, rfl⟩ := tl_tm_of d
      rw [if_pos d, if_pos ⟨c, d⟩, nI_tt (by omega)]
      simp only [t7_T _ _ hv, t7_F _ _ hv, t7_L _ _ hv, t7_H _ _ hv, tl_bs, t7_C _ _ lL lH lF t16, nI_eq (show t < 2 ^ 31 by omega) (show sT v < 2 ^ 31 by omega), nI_leI (show sF v < 2 ^ 31 by omega) (show t < 2 ^ 31 by omega), Nat.min_eq_left (show sL v ≤ sH v by omega), Nat.max_eq_right (show sL v ≤ sH v by omega), t7_free H he M hw _ (sC_lt lL lH lF t16)]
      rw [sC_L lH lF t16, sC_H lH lF t16, sC_F lF t16, sC_T t16]
      by_cases e1 : t = sT v
      · rw [if_pos e1, if_pos (Or.inl e1)]; rfl
      · by_cases e2 : sF v ≤ t
        · rw [if_neg e1, if_pos e2, if_neg (by omega)]
          by_cases e3 : tl_fe l (nI k) (sL v) (sH v) (sF v) t l.length = true
          · rw [if_pos e3, e3]; exact tl_dt (nI_pos (by omega))
          · rw [if_neg e3, Bool.eq_false_iff.mpr e3]; rfl
        · rw [if_neg e1, if_neg e2, if_pos (Or.inr (by omega))]; rfl
    · rw [if_neg d, if_neg (fun z => d z.2)]; rfl
  · rw [if_neg c, if_neg (fun z => c z.1), tl_bs, if_pos rfl]; rfl
end MD
