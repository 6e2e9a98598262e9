/-- the class's forest: knots above, sizes; turns; odd marks -/
abbrev fo_S : Type := uf_S × (Nat → Nat) × (Nat → Nat)
def fo_0 : fo_S := (uf_0, fun _ => 0, fun _ => 0)
def fo_tp (ov tn : Nat → Nat) : Nat → Nat → Nat
  | 0, _ => 0
  | n + 1, k => if ov k = k then 0 else tn k ^^^ fo_tp ov tn n (ov k)
def fo_t (F : fo_S) (k : Nat) : Nat := fo_tp F.1.1 F.2.1 8 k
def fo_bt (F : fo_S) (a b : Nat) : Nat := (fo_t F a ^^^ fo_t F b) ^^^ 1
def fo_h (F : fo_S) (d u c : Nat) : fo_S := ((uf_up F.1.1 d u, uf_up F.1.2 u (F.1.2 u + F.1.2 d)), uf_up F.2.1 d c, uf_up F.2.2 u (F.2.2 u ||| F.2.2 d))
def fo_j (F : fo_S) (a b : Nat) : Bool × fo_S :=
  if uf_rt F.1.1 a = uf_rt F.1.1 b then (false, (F.1, F.2.1, uf_up F.2.2 (uf_rt F.1.1 a) (F.2.2 (uf_rt F.1.1 a) ||| (if fo_bt F a b = 1 then 1 else 0))))
  else (true, if F.1.2 (uf_rt F.1.1 b) < F.1.2 (uf_rt F.1.1 a) ∨ (F.1.2 (uf_rt F.1.1 a) = F.1.2 (uf_rt F.1.1 b) ∧ uf_rt F.1.1 a < uf_rt F.1.1 b) then fo_h F (uf_rt F.1.1 b) (uf_rt F.1.1 a) (fo_bt F a b) else fo_h F (uf_rt F.1.1 a) (uf_rt F.1.1 b) (fo_bt F a b))
theorem fo_j_1 (F : fo_S) (a b : Nat) : (fo_j F a b).1 = (uf_j F.1 a b).1 ∧ (fo_j F a b).2.1 = (uf_j F.1 a b).2 := by
  unfold fo_j uf_j
  by_cases h : uf_rt F.1.1 a = uf_rt F.1.1 b
  · rw [if_pos h, if_pos h]; exact ⟨rfl, rfl⟩
  · rw [if_neg h, if_neg h]
    refine ⟨rfl, ?_⟩
    dsimp only
    unfold uf_jr
    by_cases c : F.1.2 (uf_rt F.1.1 b) < F.1.2 (uf_rt F.1.1 a) ∨ (F.1.2 (uf_rt F.1.1 a) = F.1.2 (uf_rt F.1.1 b) ∧ uf_rt F.1.1 a < uf_rt F.1.1 b)
    · rw [if_pos c, if_pos c]; rfl
    · rw [if_neg c, if_neg c]; rfl
def fo_01 (F : fo_S) : Prop := ∀ k, k < 8 → F.2.1 k ≤ 1 ∧ F.2.2 k ≤ 1
theorem fo_x1 : ∀ a, a ≤ 1 → ∀ b, b ≤ 1 → a ^^^ b ≤ 1 ∧ a ||| b ≤ 1 := by decide
theorem fo_tp_1 {F : fo_S} (I : uf_I F.1.1 F.1.2) (h : fo_01 F) : ∀ n k, k < 8 → fo_tp F.1.1 F.2.1 n k ≤ 1 := by
  intro n
  induction n with
  | zero => intro k _; exact Nat.zero_le _
  | succ n ih =>
    intro k hk
    unfold fo_tp
    split
    · exact Nat.zero_le _
    · exact (fo_x1 _ (h k hk).1 _ (ih _ (I.1 k hk).1)).1
theorem fo_t_1 {F : fo_S} (I : uf_I F.1.1 F.1.2) (h : fo_01 F) {k : Nat} (hk : k < 8) : fo_t F k ≤ 1 := fo_tp_1 I h 8 k hk
theorem fo_bt_1 {F : fo_S} (I : uf_I F.1.1 F.1.2) (h : fo_01 F) {a b : Nat} (ha : a < 8) (hb : b < 8) : fo_bt F a b ≤ 1 := (fo_x1 _ (fo_x1 _ (fo_t_1 I h ha) _ (fo_t_1 I h hb)).1 _ (Nat.le_refl 1)).1
theorem fo_h_01 {F : fo_S} (h : fo_01 F) {d u c : Nat} (hd : d < 8) (hu : u < 8) (hc : c ≤ 1) : fo_01 (fo_h F d u c) := by
  intro k hk
  obtain ⟨q1, q2⟩ := h k hk
  refine ⟨?_, ?_⟩
  · show uf_up F.2.1 d c k ≤ 1
    unfold uf_up
    split <;> omega
  · show uf_up F.2.2 u (F.2.2 u ||| F.2.2 d) k ≤ 1
    unfold uf_up
    split
    · exact (fo_x1 _ (h u hu).2 _ (h d hd).2).2
    · exact q2
theorem fo_j_01 {F : fo_S} (I : uf_I F.1.1 F.1.2) (h : fo_01 F) {a b : Nat} (ha : a < 8) (hb : b < 8) : fo_01 (fo_j F a b).2 := by
  have ra := uf_rt_lt I ha
  have rb := uf_rt_lt I hb
  have hc := fo_bt_1 I h ha hb
  unfold fo_j
  split
  · intro k hk
    obtain ⟨q1, q2⟩ := h k hk
    refine ⟨q1, ?_⟩
    show uf_up F.2.2 (uf_rt F.1.1 a) _ k ≤ 1
    unfold uf_up
    split
    · exact (fo_x1 _ (h _ ra).2 _ (by split <;> omega)).2
    · exact q2
  · dsimp only
    split
    · exact fo_h_01 h rb ra hc
    · exact fo_h_01 h ra rb hc
theorem fo_nar : ∀ k, k ≤ 1 → vp_nar .boolean (nI k) = nI k := by decide
/-- the class's four rows hold it -/
def tl_Fo (h : am_H) (F : fo_S) : Prop := ∀ k, k < 8 → h.2.1 90 k = nI (F.1.1 k) ∧ h.2.1 91 k = nI (F.1.2 k) ∧ h.2.1 92 k = nI (F.2.1 k) ∧ h.2.1 93 k = nI (F.2.2 k)
abbrev tl_fs : List Nat := [90, 91, 92, 93]
section FO
variable {h : am_H} {F : fo_S}
theorem t2_taL : ∀ n j h, tl_Sh h → j ≤ 8 → 8 - j < n → (∀ k, k < j → h.2.1 90 k = nI k ∧ h.2.1 91 k = nI 1 ∧ h.2.1 92 k = nI 0 ∧ h.2.1 93 k = nI 0) → ∃ h2, lo_X2_takeApart_2 am_f 89 n (nI j) h = some h2 ∧ tl_Fo h2 fo_0 ∧ tl_on tl_fs h h2 := by
  intro n
  induction n with
  | zero => intro j h _ _ hn; omega
  | succ n ih =>
    intro j h H hj hn hk
    rw [lo_X2_takeApart_2.eq_2]
    simp only [il_8, nI_leI (show 8 < 2 ^ 31 by decide) (show j < 2 ^ 31 by omega)]
    by_cases h1 : 8 ≤ j
    · rw [if_pos h1]
      exact ⟨h, rfl, fun k q => hk k (by omega), tl_on_rf⟩
    · have hj8 : j < 8 := by omega
      have H2 : tl_Sh (am_I h 90 j (nI j)) := tl_Sh_I H
      have H3 : tl_Sh (am_I (am_I h 90 j (nI j)) 91 j 1) := tl_Sh_I H2
      have H4 : tl_Sh (am_I (am_I (am_I h 90 j (nI j)) 91 j 1) 92 j 0) := tl_Sh_I H3
      have H5 : tl_Sh (am_I (am_I (am_I (am_I h 90 j (nI j)) 91 j 1) 92 j 0) 93 j (vp_nar .boolean 0)) := tl_Sh_I H4
      rw [if_neg h1]
      simp only [or_89_0 H, tl_bs, as_90 H hj8, or_89_1 H2, as_91 H2 hj8, or_89_2 H3, as_92 H3 hj8, or_89_3 H4, as_93 H4 hj8]
      rw [show nI j + 1 = nI (j + 1) from nI_1 j]
      obtain ⟨h2, e1, e2, e3⟩ := ih (j + 1) _ H5 (by omega) (by omega) (fun k hk2 => by
        have e90 : (am_I (am_I (am_I (am_I h 90 j (nI j)) 91 j 1) 92 j 0) 93 j (vp_nar .boolean 0)).2.1 90 k = if k = j then nI j else h.2.1 90 k := by
          rw [tl_I_ne (by decide), tl_I_ne (by decide), tl_I_ne (by decide), tl_I_at]
        have e91 : (am_I (am_I (am_I (am_I h 90 j (nI j)) 91 j 1) 92 j 0) 93 j (vp_nar .boolean 0)).2.1 91 k = if k = j then 1 else h.2.1 91 k := by
          rw [tl_I_ne (by decide), tl_I_ne (by decide), tl_I_at, tl_I_ne (by decide)]
        have e92 : (am_I (am_I (am_I (am_I h 90 j (nI j)) 91 j 1) 92 j 0) 93 j (vp_nar .boolean 0)).2.1 92 k = if k = j then 0 else h.2.1 92 k := by
          rw [tl_I_ne (by decide), tl_I_at, tl_I_ne (by decide), tl_I_ne (by decide)]
        have e93 : (am_I (am_I (am_I (am_I h 90 j (nI j)) 91 j 1) 92 j 0) 93 j (vp_nar .boolean 0)).2.1 93 k = if k = j then vp_nar .boolean 0 else h.2.1 93 k := by
          rw [tl_I_at, tl_I_ne (by decide), tl_I_ne (by decide), tl_I_ne (by decide)]
        rw [e90, e91, e92, e93]
        by_cases q : k = j
        · subst q
          rw [if_pos rfl, if_pos rfl, if_pos rfl, if_pos rfl]
          exact ⟨rfl, rfl, rfl, fo_nar 0 (by decide)⟩
        · rw [if_neg q, if_neg q, if_neg q, if_neg q]
          exact hk k (by omega))
      exact ⟨h2, e1, e2, tl_on_tr (tl_on_tr (tl_on_tr (tl_on_tr (tl_on_I (by decide)) (tl_on_I (by decide))) (tl_on_I (by decide))) (tl_on_I (by decide))) e3⟩
theorem t2_ta (H : tl_Sh h) : ∃ h2, mi_X2_takeApart am_f h 89 = some h2 ∧ tl_Fo h2 fo_0 ∧ tl_on tl_fs h h2 := by
  obtain ⟨h2, e1, e2, e3⟩ := t2_taL am_f 0 h H (by omega) (by decide) (fun k hk => by omega)
  refine ⟨h2, ?_, e2, e3⟩
  unfold mi_X2_takeApart
  rw [oc_89 H, tl_bs, il_0, e1]
  rfl
theorem t2_rtL (H : tl_Sh h) (U : tl_Fo h F) (I : uf_I F.1.1 F.1.2) : ∀ n j k, k < 8 → j ≤ 8 → 8 - j < n → lo_X2_rootOf_4 am_f h 89 n (nI k) (nI j) = some (nI (uf_it F.1.1 (8 - j) k)) := by
  intro n
  induction n with
  | zero => intro j k _ _ h; omega
  | succ n ih =>
    intro j k hk hj hn
    rw [lo_X2_rootOf_4.eq_2]
    simp only [il_8, nI_leI (show 8 < 2 ^ 31 by decide) (show j < 2 ^ 31 by omega)]
    by_cases h1 : 8 ≤ j
    · rw [if_pos h1, show 8 - j = 0 by omega]; rfl
    · rw [if_neg h1]
      simp only [or_89_0 H, tl_bs, al_90 H hk, (U k hk).1]
      rw [show nI j + 1 = nI (j + 1) from nI_1 j, ih (j + 1) _ (I.1 k hk).1 (by omega) (by omega), show 8 - j = (8 - (j + 1)) + 1 by omega]
      rfl
theorem t2_rt (H : tl_Sh h) (U : tl_Fo h F) (I : uf_I F.1.1 F.1.2) {k : Nat} (hk : k < 8) : mi_X2_rootOf am_f h 89 (nI k) = some (nI (uf_rt F.1.1 k)) := by
  unfold mi_X2_rootOf
  rw [oc_89 H, tl_bs, il_0, t2_rtL H U I am_f 0 k hk (by omega) (by decide), tl_bs]
  rfl
theorem t2_tuL (H : tl_Sh h) (U : tl_Fo h F) (I : uf_I F.1.1 F.1.2) : ∀ n j k c, k < 8 → j ≤ 8 → 8 - j < n → lo_X2_turnOf_7 am_f h 89 n (nI c) (nI k) (nI j) = some (nI (c ^^^ fo_tp F.1.1 F.2.1 (8 - j) k)) := by
  intro n
  induction n with
  | zero => intro j k c _ _ h; omega
  | succ n ih =>
    intro j k c hk hj hn
    rw [lo_X2_turnOf_7.eq_2]
    simp only [il_8, nI_leI (show 8 < 2 ^ 31 by decide) (show j < 2 ^ 31 by omega)]
    by_cases h1 : 8 ≤ j
    · rw [if_pos h1, show 8 - j = 0 by omega]
      show _ = some (nI (c ^^^ 0))
      rw [Nat.xor_zero]
    · have ol := (I.1 k hk).1
      rw [if_neg h1, show 8 - j = (8 - (j + 1)) + 1 by omega]
      simp only [or_89_0 H, or_89_2 H, tl_bs, al_90 H hk, al_92 H hk, (U k hk).1, (U k hk).2.2.1, nI_eq (show F.1.1 k < 2 ^ 31 by omega) (show k < 2 ^ 31 by omega)]
      show _ = some (nI (c ^^^ (if F.1.1 k = k then 0 else F.2.1 k ^^^ fo_tp F.1.1 F.2.1 (8 - (j + 1)) (F.1.1 k))))
      by_cases h2 : F.1.1 k = k
      · rw [if_pos h2, if_pos h2, Nat.xor_zero]
      · rw [if_neg h2, if_neg h2, fa_xor, show nI j + 1 = nI (j + 1) from nI_1 j, ih (j + 1) _ _ ol (by omega) (by omega), Nat.xor_assoc]
theorem t2_tu (H : tl_Sh h) (U : tl_Fo h F) (I : uf_I F.1.1 F.1.2) {k : Nat} (hk : k < 8) : mi_X2_turnOf am_f h 89 (nI k) = some (nI (fo_t F k)) := by
  unfold mi_X2_turnOf
  rw [oc_89 H, tl_bs, il_0, t2_tuL H U I am_f 0 k 0 hk (by omega) (by decide), tl_bs, Nat.zero_xor]
  rfl
theorem t2_hb (H : tl_Sh h) (U : tl_Fo h F) (I : uf_I F.1.1 F.1.2) {a b : Nat} (ra : a < 8) (rb : b < 8) : mi_X2_hangsBelow am_f h 89 (nI a) (nI b) = some (decide (F.1.2 a < F.1.2 b ∨ (F.1.2 a = F.1.2 b ∧ b < a))) := by
  have sa := uf_s8 I ra
  have sb := uf_s8 I rb
  unfold mi_X2_hangsBelow
  simp only [oc_89 H, or_89_1 H, tl_bs, al_91 H ra, al_91 H rb, (U a ra).2.1, (U b rb).2.1, nI_ltI (show F.1.2 a < 2 ^ 31 by omega) (show F.1.2 b < 2 ^ 31 by omega), nI_eq (show F.1.2 a < 2 ^ 31 by omega) (show F.1.2 b < 2 ^ 31 by omega), nI_leI (show a < 2 ^ 31 by omega) (show b < 2 ^ 31 by omega)]
  by_cases c1 : F.1.2 a < F.1.2 b
  · rw [if_pos c1, tl_bs]; exact tl_dt (Or.inl c1)
  · rw [if_neg c1]
    by_cases c2 : F.1.2 a = F.1.2 b
    · rw [if_pos c2]
      by_cases c3 : a ≤ b
      · rw [if_pos c3, tl_bs]; exact tl_df (by omega)
      · rw [if_neg c3, tl_bs]; exact tl_dt (by omega)
    · rw [if_neg c2, tl_bs]; exact tl_df (by omega)
theorem t2_hang (H : tl_Sh h) (U : tl_Fo h F) (Z : fo_01 F) {d u c : Nat} (hd : d < 8) (hu : u < 8) (hn : d ≠ u) : ∃ h2, mi_X2_hang am_f h 89 (nI d) (nI u) (nI c) = some h2 ∧ tl_Fo h2 (fo_h F d u c) ∧ tl_on tl_fs h h2 := by
  have H2 : tl_Sh (am_I h 90 d (nI u)) := tl_Sh_I H
  have H3 : tl_Sh (am_I (am_I h 90 d (nI u)) 91 u (nI (F.1.2 u + F.1.2 d))) := tl_Sh_I H2
  have H4 : tl_Sh (am_I (am_I (am_I h 90 d (nI u)) 91 u (nI (F.1.2 u + F.1.2 d))) 92 d (nI c)) := tl_Sh_I H3
  obtain ⟨d1, d2, d3, d4⟩ := U d hd
  obtain ⟨u1, u2, u3, u4⟩ := U u hu
  refine ⟨am_I (am_I (am_I (am_I h 90 d (nI u)) 91 u (nI (F.1.2 u + F.1.2 d))) 92 d (nI c)) 93 u (nI (F.2.2 u ||| F.2.2 d)), ?_, ?_, tl_on_tr (tl_on_tr (tl_on_tr (tl_on_I (by decide)) (tl_on_I (by decide))) (tl_on_I (by decide))) (tl_on_I (by decide))⟩
  · unfold mi_X2_hang
    have r1 : (am_I h 90 d (nI u)).2.1 91 u = nI (F.1.2 u) := by rw [tl_I_ne (by decide)]; exact u2
    have r2 : (am_I h 90 d (nI u)).2.1 91 d = nI (F.1.2 d) := by rw [tl_I_ne (by decide)]; exact d2
    simp only [oc_89 H, tl_bs, or_89_0 H, as_90 H hd, or_89_1 H2, al_91 H2 hu, al_91 H2 hd, r1, r2, as_91 H2 hu, nI_add]
    have r3 : (am_I (am_I (am_I h 90 d (nI u)) 91 u (nI (F.1.2 u + F.1.2 d))) 92 d (nI c)).2.1 93 u = nI (F.2.2 u) := by rw [tl_I_ne (by decide), tl_I_ne (by decide), tl_I_ne (by decide)]; exact u4
    have r4 : (am_I (am_I (am_I h 90 d (nI u)) 91 u (nI (F.1.2 u + F.1.2 d))) 92 d (nI c)).2.1 93 d = nI (F.2.2 d) := by rw [tl_I_ne (by decide), tl_I_ne (by decide), tl_I_ne (by decide)]; exact d4
    simp only [or_89_2 H3, tl_bs, as_92 H3 hd, or_89_3 H4, al_93 H4 hu, al_93 H4 hd, r3, r4, as_93 H4 hu, fa_or, fo_nar _ (fo_x1 _ (Z u hu).2 _ (Z d hd).2).2]
  · intro k hk
    obtain ⟨q1, q2, q3, q4⟩ := U k hk
    refine ⟨?_, ?_, ?_, ?_⟩
    · rw [tl_I_ne (by decide), tl_I_ne (by decide), tl_I_ne (by decide), tl_I_at]
      show _ = nI (uf_up F.1.1 d u k)
      unfold uf_up
      split <;> simp [q1]
    · rw [tl_I_ne (by decide), tl_I_ne (by decide), tl_I_at, tl_I_ne (by decide)]
      show _ = nI (uf_up F.1.2 u (F.1.2 u + F.1.2 d) k)
      unfold uf_up
      split <;> simp [q2]
    · rw [tl_I_ne (by decide), tl_I_at, tl_I_ne (by decide), tl_I_ne (by decide)]
      show _ = nI (uf_up F.2.1 d c k)
      unfold uf_up
      split <;> simp [q3]
    · rw [tl_I_at, tl_I_ne (by decide), tl_I_ne (by decide), tl_I_ne (by decide)]
      show _ = nI (uf_up F.2.2 u (F.2.2 u ||| F.2.2 d) k)
      unfold uf_up
      split <;> simp [q4]
theorem t2_join (H : tl_Sh h) (U : tl_Fo h F) (I : uf_I F.1.1 F.1.2) (Z : fo_01 F) {a b : Nat} (ha : a < 8) (hb : b < 8) : ∃ h2, mi_X2_join am_f h 89 (nI a) (nI b) = some ((fo_j F a b).1, h2) ∧ tl_Fo h2 (fo_j F a b).2 ∧ tl_on tl_fs h h2 := by
  have ra := uf_rt_lt I ha
  have rb := uf_rt_lt I hb
  have bt := fo_bt_1 I Z ha hb
  have ebt : (nI (fo_t F a) ^^^ nI (fo_t F b)) ^^^ 1 = nI (fo_bt F a b) := by rw [fa_xor, il_1, fa_xor]; rfl
  unfold mi_X2_join fo_j
  simp only [oc_89 H, tl_bs, t2_rt H U I ha, t2_rt H U I hb, t2_tu H U I ha, t2_tu H U I hb, ebt]
  generalize fo_bt F a b = c at bt ⊢
  generalize uf_rt F.1.1 a = x at ra ⊢
  generalize uf_rt F.1.1 b = y at rb ⊢
  simp only [nI_eq (show x < 2 ^ 31 by omega) (show y < 2 ^ 31 by omega)]
  by_cases h1 : x = y
  · rw [if_pos h1, if_pos h1]
    have ec : ((if nI c = 1 then some true else some false) : Option Bool) = some (decide (c = 1)) := by
      rw [il_1]
      simp only [nI_eq (show c < 2 ^ 31 by omega) (show 1 < 2 ^ 31 by decide)]
      by_cases q : c = 1
      · rw [if_pos q, decide_eq_true q]
      · rw [if_neg q, decide_eq_false q]
    have o1 : (if c = 1 then 1 else 0) ≤ 1 := by split <;> omega
    have ob := (fo_x1 _ (Z x ra).2 _ o1).2
    simp only [or_89_3 H, tl_bs, al_93 H ra, (U x ra).2.2.2, ec, tl_b, decide_eq_true_eq, fa_or, fo_nar _ ob, as_93 H ra]
    refine ⟨_, rfl, ?_, tl_on_I (by decide)⟩
    intro k hk
    obtain ⟨q1, q2, q3, q4⟩ := U k hk
    refine ⟨by rw [tl_I_ne (by decide)]; exact q1, by rw [tl_I_ne (by decide)]; exact q2, by rw [tl_I_ne (by decide)]; exact q3, ?_⟩
    rw [tl_I_at]
    show _ = nI (uf_up F.2.2 x (F.2.2 x ||| (if c = 1 then 1 else 0)) k)
    unfold uf_up
    split
    · rfl
    · exact q4
  · rw [if_neg h1, if_neg h1]
    simp only [t2_hb H U I ra rb, tl_bs]
    by_cases q : F.1.2 x < F.1.2 y ∨ (F.1.2 x = F.1.2 y ∧ y < x)
    · have q2 : ¬ (F.1.2 y < F.1.2 x ∨ (F.1.2 x = F.1.2 y ∧ x < y)) := by omega
      obtain ⟨h2, e1, e2, e3⟩ := t2_hang H U Z (c := c) ra rb h1
      simp only [decide_eq_true q, if_true, e1, tl_bs]
      rw [if_neg q2]
      exact ⟨h2, rfl, e2, e3⟩
    · have q2 : F.1.2 y < F.1.2 x ∨ (F.1.2 x = F.1.2 y ∧ x < y) := by omega
      obtain ⟨h2, e1, e2, e3⟩ := t2_hang H U Z (c := c) rb ra (Ne.symm h1)
      simp only [decide_eq_false q, if_neg (show ¬ (false = true) by decide), e1, tl_bs]
      rw [if_pos q2]
      exact ⟨h2, rfl, e2, e3⟩
end FO
