def sdv (n : Nat) : Int32 := if n = 2 then -9 else nI n
def spv (A B : Int32) : Int32 := if A = -9 then B else if B = -9 then 1 - A else B
theorem spv_n : ∀ x, x < 3 → ∀ y, y < 3 → spv (sdv x) (sdv y) = sdv (if x ≠ 2 ∧ y = 2 then 1 - x else y) := by decide
theorem sdv_inj : ∀ x, x < 3 → ∀ y, y < 3 → (sdv x = sdv y ↔ x = y) := by decide
theorem sdv_9 : ∀ x, x < 3 → (sdv x = -9 ↔ x = 2) := by decide
def tl_Sd (h : am_H) (σ : Nat → Nat) : Prop := ∀ k, k < 8 → h.2.1 125 k = sdv (σ k)
section SM
variable {h : am_H} {l : List Nat} {t a b : Nat} {σ : Nat → Nat}
theorem t7_sb (H : tl_Sh h) (ha : a < 8) (hb : b < 8) (hn : a ≠ b) {A B : Int32} (ea : h.2.1 125 a = A) (eb : h.2.1 125 b = B) :
  (Option.bind (am_gr h 7 118 9) fun xq7 =>
  Option.bind (am_gr h 7 118 9) fun xq8 =>
  Option.bind (am_li h 9 xq8 (nI a)) fun xq9 =>
  Option.bind (Option.bind ((if xq9 = (-9) then
  (some true)
  else (Option.bind (am_gr h 7 118 9) fun xq25 =>
  Option.bind (am_li h 9 xq25 (nI b)) fun xq26 =>
  (if xq26 = (-9) then
  (some false)
  else (some true))))) fun tq24 =>
  (if tq24 = true then
  (Option.bind (am_gr h 7 118 9) fun xq27 =>
  Option.bind (am_li h 9 xq27 (nI b)) fun xq28 =>
  some xq28)
  else (Option.bind (am_gr h 7 118 9) fun xq29 =>
  Option.bind (am_li h 9 xq29 (nI a)) fun xq30 =>
  some ((1 : Int32) - xq30)))) fun jq10 =>
  Option.bind (am_si h 9 xq7 (nI b) jq10) fun hq11 =>
  Option.bind (am_gr hq11 7 118 9) fun xq12 =>
  Option.bind (am_gr hq11 7 118 9) fun xq13 =>
  Option.bind (am_li hq11 9 xq13 (nI b)) fun xq14 =>
  Option.bind (Option.bind ((if xq14 = (-9) then
  (some true)
  else (Option.bind (am_gr hq11 7 118 9) fun xq18 =>
  Option.bind (am_li hq11 9 xq18 (nI a)) fun xq19 =>
  (if xq19 = (-9) then
  (some false)
  else (some true))))) fun tq17 =>
  (if tq17 = true then
  (Option.bind (am_gr hq11 7 118 9) fun xq20 =>
  Option.bind (am_li hq11 9 xq20 (nI a)) fun xq21 =>
  some xq21)
  else (Option.bind (am_gr hq11 7 118 9) fun xq22 =>
  Option.bind (am_li hq11 9 xq22 (nI b)) fun xq23 =>
  some ((1 : Int32) - xq23)))) fun jq15 =>
  Option.bind (am_si hq11 9 xq12 (nI a) jq15) fun hq16 =>
  some hq16) = some (am_I (am_I h 125 b (spv A B)) 125 a (spv (spv A B) A)) := by
  have e1 : (Option.bind ((if A = (-9) then (some true) else (if B = (-9) then (some false) else (some true))) : Option Bool) fun tq24 => (if tq24 = true then some B else some ((1 : Int32) - A))) = some (spv A B) := by
    unfold spv
    by_cases c1 : A = -9
    · rw [if_pos c1, if_pos c1, tl_bs, if_pos rfl]
    · rw [if_neg c1, if_neg c1]
      by_cases c2 : B = -9
      · rw [if_pos c2, if_pos c2, tl_bs, if_neg (by decide)]
      · rw [if_neg c2, if_neg c2, tl_bs, if_pos rfl]
  simp only [or_118_9 H, tl_bs, al_125 H ha, al_125 H hb, ea, eb]
  rw [e1, tl_bs, as_125 H hb, tl_bs]
  have H1 : tl_Sh (am_I h 125 b (spv A B)) := tl_Sh_I H
  have f1 : (am_I h 125 b (spv A B)).2.1 125 b = spv A B := by rw [tl_I_at, if_pos rfl]
  have f2 : (am_I h 125 b (spv A B)).2.1 125 a = A := by rw [tl_I_at, if_neg hn]; exact ea
  have e2 : (Option.bind ((if spv A B = (-9) then (some true) else (if A = (-9) then (some false) else (some true))) : Option Bool) fun tq24 => (if tq24 = true then some A else some ((1 : Int32) - spv A B))) = some (spv (spv A B) A) := by
    generalize spv A B = J
    unfold spv
    by_cases c1 : J = -9
    · rw [if_pos c1, if_pos c1, tl_bs, if_pos rfl]
    · rw [if_neg c1, if_neg c1]
      by_cases c2 : A = -9
      · rw [if_pos c2, if_pos c2, tl_bs, if_neg (by decide)]
      · rw [if_neg c2, if_neg c2, tl_bs, if_pos rfl]
  simp only [or_118_9 H1, tl_bs, al_125 H1 ha, al_125 H1 hb, f1, f2]
  rw [e2, tl_bs, as_125 H1 ha, tl_bs]
theorem tl_Sd_sp (S : tl_Sd h σ) (hs : ∀ k, σ k ≤ 2) (ha : a < 8) (hb : b < 8) (hn : a ≠ b) : tl_Sd (am_I (am_I h 125 b (spv (sdv (σ a)) (sdv (σ b)))) 125 a (spv (spv (sdv (σ a)) (sdv (σ b))) (sdv (σ a)))) (sd_sp σ a b) := by
  have la := hs a
  have lb := hs b
  intro k hk
  rw [tl_I_at, tl_I_at, spv_n _ (by omega) _ (by omega), spv_n _ (by split <;> omega) _ (by omega)]
  unfold sd_sp
  by_cases c1 : σ a ≠ 2 ∧ σ b = 2
  · rw [if_pos c1, if_pos c1, if_neg (show ¬ (1 - σ a ≠ 2 ∧ σ a = 2) from fun z => c1.1 z.2)]
    by_cases e1 : k = a
    · subst e1; rw [if_pos rfl, uf_up_ne hn]
    · rw [if_neg e1]
      by_cases e2 : k = b
      · subst e2; rw [if_pos rfl, uf_up_at]
      · rw [if_neg e2, uf_up_ne e2]; exact S k hk
  · rw [if_neg c1, if_neg c1]
    by_cases c2 : σ b ≠ 2 ∧ σ a = 2
    · rw [if_pos c2, if_pos c2]
      by_cases e1 : k = a
      · subst e1; rw [if_pos rfl, uf_up_at]
      · rw [if_neg e1, uf_up_ne e1]
        by_cases e2 : k = b
        · subst e2; rw [if_pos rfl]
        · rw [if_neg e2]; exact S k hk
    · rw [if_neg c2, if_neg c2]
      by_cases e1 : k = a
      · subst e1; rw [if_pos rfl]
      · rw [if_neg e1]
        by_cases e2 : k = b
        · subst e2; rw [if_pos rfl]
        · rw [if_neg e2]; exact S k hk
theorem t7_s10 (hw : tl_wf l) (ht : t < 16) (hs : ∀ k, σ k ≤ 2) (r : Int32) : ∀ n j h, tl_Sh h → tl_Mo h 0 l → tl_Sd h (spP l t σ j) → j ≤ l.length → l.length - j < n → ∃ h2, lo_X7_spreadSides_10 am_f 118 (nI t) r n (nI j) h = some h2 ∧ tl_Sd h2 (spP l t σ l.length) ∧ tl_on [125] h h2 := by
  have h16 := hw.1
  intro n
  induction n with
  | zero => intro j h _ _ _ _ q; omega
  | succ n ih =>
    intro j h H M S hj hjn
    have m0 : mi_X7_many am_f h 118 0 = some (nI l.length) := t7_many H (show 0 < 2 by decide) M am_f
    rw [lo_X7_spreadSides_10.eq_2, m0, tl_bs]
    simp only [nI_leI (show l.length < 2 ^ 31 by omega) (show j < 2 ^ 31 by omega)]
    by_cases h1 : l.length ≤ j
    · rw [if_pos h1]
      rw [show j = l.length by omega] at S
      exact ⟨h, rfl, S, tl_on_rf⟩
    · have hg := tl_gd (l := l) (i := j) (by omega)
      obtain ⟨-, hv, w1, -⟩ := tl_wf_at hw hg
      have s0 : mi_X7_spanOf am_f h 118 0 (nI j) = some (nI (l.getD j 0)) := t7_span H (show 0 < 2 by decide) M hg (by omega) am_f
      rw [if_neg h1, s0, tl_bs, t7_V am_f h hv ht, tl_bs, nI_1]
      by_cases c : sV (l.getD j 0) t = true
      · rw [if_pos c, t7_L am_f h hv, tl_bs, t7_H am_f h hv, tl_bs, t7_sb H (sL_lt hv) (sH_lt (l.getD j 0)) (by omega) (S _ (sL_lt hv)) (S _ (sH_lt _)), tl_bs]
        have S2 := tl_Sd_sp S (spP_le (l := l) (t := t) hs j) (sL_lt hv) (sH_lt (l.getD j 0)) (by omega)
        rw [← spP_t c] at S2
        have o : tl_on [125] h (am_I (am_I h 125 (sH (l.getD j 0)) (spv (sdv (spP l t σ j (sL (l.getD j 0)))) (sdv (spP l t σ j (sH (l.getD j 0)))))) 125 (sL (l.getD j 0)) (spv (spv (sdv (spP l t σ j (sL (l.getD j 0)))) (sdv (spP l t σ j (sH (l.getD j 0))))) (sdv (spP l t σ j (sL (l.getD j 0)))))) := tl_on_tr (tl_on_I (by decide)) (tl_on_I (by decide))
        obtain ⟨h2, b1, b2, b3⟩ := ih (j + 1) _ (tl_on_Sh H o) (tl_on_Mo (by decide) o M) S2 (by omega) (by omega)
        exact ⟨h2, b1, b2, tl_on_tr o b3⟩
      · rw [if_neg c, tl_bs]
        rw [← spP_f c] at S
        exact ih (j + 1) h H M S (by omega) (by omega)
theorem t7_s2 (hw : tl_wf l) (ht : t < 16) (hs : ∀ k, σ k ≤ 2) : ∀ n r h, tl_Sh h → tl_Mo h 0 l → tl_Sd h (spR l t σ r) → r ≤ 8 → 8 - r < n → ∃ h2, lo_X7_spreadSides_2 am_f 118 (nI t) n (nI r) h = some h2 ∧ tl_Sd h2 (spR l t σ 8) ∧ tl_on [125] h h2 := by
  have h16 := hw.1
  intro n
  induction n with
  | zero => intro j h _ _ _ _ q; omega
  | succ n ih =>
    intro r h H M S hr hrn
    rw [lo_X7_spreadSides_2.eq_2]
    simp only [il_8, nI_leI (show 8 < 2 ^ 31 by decide) (show r < 2 ^ 31 by omega)]
    by_cases h1 : 8 ≤ r
    · rw [if_pos h1]
      rw [show r = 8 by omega] at S
      exact ⟨h, rfl, S, tl_on_rf⟩
    · obtain ⟨h2, a1, a2, a3⟩ := t7_s10 hw ht (spR_le (l := l) (t := t) hs r) (nI r) am_f 0 h H M S (Nat.zero_le _) (by unfold am_f; omega)
      rw [if_neg h1, show lo_X7_spreadSides_10 am_f 118 (nI t) (nI r) am_f 0 h = _ from a1, tl_bs, nI_1]
      obtain ⟨h3, b1, b2, b3⟩ := ih (r + 1) h2 (tl_on_Sh H a3) (tl_on_Mo (by decide) a3 M) a2 (by omega) (by omega)
      exact ⟨h3, b1, b2, tl_on_tr a3 b3⟩
theorem t7_ss (H : tl_Sh h) (M : tl_Mo h 0 l) (hw : tl_wf l) (ht : t < 16) (hs : ∀ k, σ k ≤ 2) (S : tl_Sd h σ) : ∃ h2, mi_X7_spreadSides am_f h 118 (nI t) = some h2 ∧ tl_Sd h2 (spR l t σ 8) ∧ tl_on [125] h h2 := by
  obtain ⟨h2, a1, a2, a3⟩ := t7_s2 hw ht hs am_f 0 h H M S (by omega) (by decide)
  refine ⟨h2, ?_, a2, a3⟩
  unfold mi_X7_spreadSides
  rw [oc_118 H, tl_bs, show lo_X7_spreadSides_2 am_f 118 (nI t) am_f 0 h = _ from a1, tl_bs]
theorem t7_f11 (x : Int32) : ∀ n j h, tl_Sh h → j ≤ 8 → 8 - j < n → (∀ k, k < j → h.2.1 125 k = sdv 2 ∧ h.2.1 126 k = nI 0) → ∃ h2, lo_X7_findSides_11 am_f 118 x n (nI j) h = some h2 ∧ tl_Sd h2 (fun _ => 2) ∧ (∀ k, k < 8 → h2.2.1 126 k = nI 0) ∧ tl_on [125, 126] h h2 := by
  intro n
  induction n with
  | zero => intro j h _ _ q; omega
  | succ n ih =>
    intro j h H hj hjn P
    rw [lo_X7_findSides_11.eq_2]
    simp only [il_8, nI_leI (show 8 < 2 ^ 31 by decide) (show j < 2 ^ 31 by omega)]
    by_cases h1 : 8 ≤ j
    · rw [if_pos h1]
      exact ⟨h, rfl, fun k hk => (P k (by omega)).1, fun k hk => (P k (by omega)).2, tl_on_rf⟩
    · have j8 : j < 8 := by omega
      have H1 : tl_Sh (am_I h 125 j (-9)) := tl_Sh_I H
      have o : tl_on [125, 126] h (am_I (am_I h 125 j (-9)) 126 j 0) := tl_on_tr (tl_on_I (by decide)) (tl_on_I (by decide))
      rw [if_neg h1, or_118_9 H, tl_bs, as_125 H j8, tl_bs, or_118_10 H1, tl_bs, as_126 H1 j8, tl_bs, nI_1]
      obtain ⟨h2, a1, a2, a3, a4⟩ := ih (j + 1) _ (tl_on_Sh H o) (by omega) (by omega) (fun k hk => by
        rw [tl_I_ne (by decide), tl_I_at, tl_I_at, tl_I_ne (by decide)]
        by_cases e : k = j
        · subst e; rw [if_pos rfl, if_pos rfl]; exact ⟨rfl, rfl⟩
        · rw [if_neg e, if_neg e]; exact P k (by omega))
      exact ⟨h2, a1, a2, a3, tl_on_tr o a4⟩
theorem sd_so_le (hw : tl_wf l) {k : Nat} (hk : k ≤ 8) (j : Nat) : sd_so l t k j ≤ 2 := (so_ok (t := t) hw k hk).1.1 j
theorem t7_f40 (hw : tl_wf l) (ht : t < 16) : ∀ n j h, tl_Sh h → tl_Mo h 0 l → tl_Sd h (sd_so l t j) → j ≤ 8 → 8 - j < n → ∃ h2, lo_X7_findSides_40 am_f 118 (nI t) n (nI j) h = some h2 ∧ tl_Sd h2 (sd_so l t 8) ∧ tl_on [125] h h2 := by
  intro n
  induction n with
  | zero => intro j h _ _ _ _ q; omega
  | succ n ih =>
    intro j h H M S hj hjn
    rw [lo_X7_findSides_40.eq_2]
    simp only [il_8, nI_leI (show 8 < 2 ^ 31 by decide) (show j < 2 ^ 31 by omega)]
    by_cases h1 : 8 ≤ j
    · rw [if_pos h1]
      rw [show j = 8 by omega] at S
      exact ⟨h, rfl, S, tl_on_rf⟩
    · have j8 : j < 8 := by omega
      have lj := sd_so_le (t := t) hw hj j
      have key : ((if sdv (sd_so l t j j) = -9 then some 0 else some (sdv (sd_so l t j j))) : Option Int32) = some (sdv (if sd_so l t j j = 2 then 0 else sd_so l t j j)) := by
        by_cases c : sd_so l t j j = 2
        · rw [if_pos ((sdv_9 _ (by omega)).mpr c), if_pos c]; rfl
        · rw [if_neg (fun z => c ((sdv_9 _ (by omega)).mp z)), if_neg c]
      have S1 : tl_Sd (am_I h 125 j (sdv (if sd_so l t j j = 2 then 0 else sd_so l t j j))) (uf_up (sd_so l t j) j (if sd_so l t j j = 2 then 0 else sd_so l t j j)) := fun k hk => by
        rw [tl_I_at]
        by_cases e : k = j
        · subst e; rw [if_pos rfl, uf_up_at]
        · rw [if_neg e, uf_up_ne e]; exact S k hk
      have o : tl_on [125] h (am_I h 125 j (sdv (if sd_so l t j j = 2 then 0 else sd_so l t j j))) := tl_on_I (by decide)
      obtain ⟨h2, a1, a2, a3⟩ := t7_ss (tl_on_Sh H o) (tl_on_Mo (by decide) o M) hw ht (fun k => by
        unfold uf_up
        split
        · split
          · exact Nat.zero_le _
          · exact lj
        · exact sd_so_le hw hj k) S1
      rw [if_neg h1]
      simp only [or_118_9 H, tl_bs, al_125 H j8, S j j8]
      rw [key, tl_bs, as_125 H j8, tl_bs, a1, tl_bs, nI_1]
      obtain ⟨h3, b1, b2, b3⟩ := ih (j + 1) h2 (tl_on_Sh (tl_on_Sh H o) a3) (tl_on_Mo (by decide) (tl_on_tr o a3) M) a2 (by omega) (by omega)
      exact ⟨h3, b1, b2, tl_on_tr (tl_on_tr o a3) b3⟩
theorem t7_f86 (hw : tl_wf l) (ht : t < 16) {u : uf_S} (I : uf_I u.1 u.2) (hs : ∀ k, σ k ≤ 2) : ∀ n j h, tl_Sh h → tl_Mo h 0 l → tl_Uo h u → tl_Sd h σ → (∀ k, k < 8 → h.2.1 126 k = nI (sd_mk l t σ u.1 j k)) → j ≤ l.length → l.length - j < n → ∃ h2, lo_X7_findSides_86 am_f 118 (nI t) n (nI j) h = some h2 ∧ (∀ k, k < 8 → h2.2.1 126 k = nI (sd_mk l t σ u.1 l.length k)) ∧ tl_on [126] h h2 := by
  have h16 := hw.1
  intro n
  induction n with
  | zero => intro j h _ _ _ _ _ _ q; omega
  | succ n ih =>
    intro j h H M U S O hj hjn
    have m0 : mi_X7_many am_f h 118 0 = some (nI l.length) := t7_many H (show 0 < 2 by decide) M am_f
    rw [lo_X7_findSides_86.eq_2, m0, tl_bs]
    simp only [nI_leI (show l.length < 2 ^ 31 by omega) (show j < 2 ^ 31 by omega)]
    by_cases h1 : l.length ≤ j
    · rw [if_pos h1]
      rw [show j = l.length by omega] at O
      exact ⟨h, rfl, O, tl_on_rf⟩
    · have hg := tl_gd (l := l) (i := j) (by omega)
      obtain ⟨-, hv, w1, -⟩ := tl_wf_at hw hg
      have L8 := sL_lt hv
      have H8 := sH_lt (l.getD j 0)
      have lL := hs (sL (l.getD j 0))
      have lH := hs (sH (l.getD j 0))
      have r8 := uf_rt_lt I L8
      have s0 : mi_X7_spanOf am_f h 118 0 (nI j) = some (nI (l.getD j 0)) := t7_span H (show 0 < 2 by decide) M hg (by omega) am_f
      rw [if_neg h1, s0, tl_bs, t7_V am_f h hv ht, tl_bs, nI_1]
      simp only [or_118_9 H, or_118_10 H, tl_bs, t7_L am_f h hv, t7_H am_f h hv, al_125 H L8, al_125 H H8, S _ L8, S _ H8, t7_rt H U I L8, as_126 H r8, sdv_inj _ (show σ (sL (l.getD j 0)) < 3 by omega) _ (show σ (sH (l.getD j 0)) < 3 by omega)]
      by_cases c : sV (l.getD j 0) t = true ∧ σ (sL (l.getD j 0)) = σ (sH (l.getD j 0))
      · rw [if_pos c.1, if_pos c.2, tl_bs]
        have o : tl_on [126] h (am_I h 126 (uf_rt u.1 (sL (l.getD j 0))) 1) := tl_on_I (by decide)
        obtain ⟨h2, a1, a2, a3⟩ := ih (j + 1) _ (tl_on_Sh H o) (tl_on_Mo (by decide) o M) (fun k hk => by rw [tl_I_ne (by decide), tl_I_ne (by decide)]; exact U k hk) (fun k hk => by rw [tl_I_ne (by decide)]; exact S k hk) (fun k hk => by
          rw [tl_I_at, mk_t c]
          by_cases e : k = uf_rt u.1 (sL (l.getD j 0))
          · rw [if_pos e, e, uf_up_at]; rfl
          · rw [if_neg e, uf_up_ne e]; exact O k hk) (by omega) (by omega)
        exact ⟨h2, a1, a2, tl_on_tr o a3⟩
      · have e : ((if sV (l.getD j 0) t = true then (if σ (sL (l.getD j 0)) = σ (sH (l.getD j 0)) then some (am_I h 126 (uf_rt u.1 (sL (l.getD j 0))) 1) else some h) else some h) : Option am_H) = some h := by
          by_cases d1 : sV (l.getD j 0) t = true
          · rw [if_pos d1, if_neg (fun z => c ⟨d1, z⟩)]
          · rw [if_neg d1]
        rw [e, tl_bs]
        exact ih (j + 1) h H M U S (fun k hk => by rw [mk_f c]; exact O k hk) (by omega) (by omega)
theorem t7_fs (H : tl_Sh h) (M : tl_Mo h 0 l) (hw : tl_wf l) (ht : t < 16) : ∃ h2, mi_X7_findSides am_f h 118 (nI t) = some h2 ∧ tl_Uo h2 (qA l 65535 t) ∧ tl_Sd h2 (sd_so l t 8) ∧ (∀ k, k < 8 → h2.2.1 126 k = nI (sd_mk l t (sd_so l t 8) (qA l 65535 t).1 l.length k)) ∧ tl_on [123, 124, 125, 126] h h2 := by
  have h16 := hw.1
  obtain ⟨h1, a1, a2, a3⟩ := t7_parts H hw (show 0 < 2 by decide) M ht (show 65535 < 65536 by decide)
  have H1 := tl_on_Sh H a3
  obtain ⟨h2, b1, b2, b3, b4⟩ := t7_f11 (nI t) am_f 0 h1 H1 (by omega) (by decide) (fun k hk => by omega)
  have H2 := tl_on_Sh H1 b4
  have M2 := tl_on_Mo (by decide) b4 (tl_on_Mo (by decide) a3 M)
  have U2 : tl_Uo h2 (qA l 65535 t) := fun k hk => by rw [b4.2.2.2 123 (by decide), b4.2.2.2 124 (by decide)]; exact a2 k hk
  obtain ⟨h3, c1, c2, c3⟩ := t7_f40 hw ht am_f 0 h2 H2 M2 b2 (by omega) (by decide)
  have H3 := tl_on_Sh H2 c3
  have U3 : tl_Uo h3 (qA l 65535 t) := fun k hk => by rw [c3.2.2.2 123 (by decide), c3.2.2.2 124 (by decide)]; exact U2 k hk
  obtain ⟨h4, d1, d2, d3⟩ := t7_f86 hw ht (qA_ok hw 65535 t).1 (sd_so_le (t := t) hw (Nat.le_refl 8)) am_f 0 h3 H3 (tl_on_Mo (by decide) c3 M2) U3 c2 (fun k hk => by rw [c3.2.2.2 126 (by decide)]; exact b3 k hk) (Nat.zero_le _) (by unfold am_f; omega)
  refine ⟨h4, ?_, fun k hk => by rw [d3.2.2.2 123 (by decide), d3.2.2.2 124 (by decide)]; exact U3 k hk, fun k hk => by rw [d3.2.2.2 125 (by decide)]; exact c2 k hk, d2, tl_on_tr (tl_on_tr (tl_on_tr (tl_on_w (by decide) a3) (tl_on_w (by decide) b4)) (tl_on_w (by decide) c3)) (tl_on_w (by decide) d3)⟩
  unfold mi_X7_findSides
  rw [oc_118 H, tl_bs, show mi_X7_partsBy am_f h 118 0 (nI t) 65535 = _ from a1, tl_bs]
  dsimp only
  rw [show lo_X7_findSides_11 am_f 118 (nI t) am_f 0 h1 = _ from b1, tl_bs, show lo_X7_findSides_40 am_f 118 (nI t) am_f 0 h2 = _ from c1, tl_bs, show lo_X7_findSides_86 am_f 118 (nI t) am_f 0 h3 = _ from d1, tl_bs]
theorem tl_s_sd : ∀ p ∈ [123, 124, 125, 126], tl_scp p = true := by decide
theorem e_side (I : tl_I h) (a b c : Int32) : tl_st (mi_X6_side am_f h 0 a b c) (fun h1 => mi_X7_side am_f h1 118 a b c) := by
  obtain ⟨H, ⟨l, S⟩, -⟩ := id I
  unfold mi_X6_side mi_X7_side tl_st
  simp only [oc_0 H, tl_bs, t6_kn, t6_tm, t7_kn, t7_tm]
  by_cases ha : tl_kn a = true
  · by_cases hb : tl_kn b = true
    · by_cases hc : tl_tm c = true
      · by_cases hab : a = b
        · refine ⟨0, h, h, ?_, ?_, I⟩
          · simp only [tl_if1 ha, tl_if1 hb, tl_if1 hc, if_pos hab]
          · simp only [oc_118 H, tl_bs, tl_if1 ha, tl_if1 hb, tl_if1 hc, if_pos hab]
        · obtain ⟨a, a8, rfl⟩ := tl_kn_of ha
          obtain ⟨b, b8, rfl⟩ := tl_kn_of hb
          obtain ⟨t, t16, rfl⟩ := tl_tm_of hc
          obtain ⟨h1, x1, x2, x3, x4⟩ := t2_walkT tl_sps7 S.1 H S.2.1 t16
          have H1 := tl_on_Sh H x4
          have k1 := tl_on_fr tl_s_fo x4
          have S1 := tl_fr_PS k1 S
          obtain ⟨h2, y1, y2, y3, y4, y5⟩ := t7_fs H1 S1.2.2 S.1 t16
          have H2 := tl_on_Sh H1 y5
          have fin : tl_I h2 := tl_fr_Iv (tl_fr_tr k1 (tl_on_fr tl_s_sd y5)) I
          have V := qF_V S.1 t16
          have IF := qF_I S.1 t16
          have IA := (qA_ok S.1 65535 t).1
          have RA := qA_R S.1 t
          obtain ⟨o1, -, o3⟩ := so_ok (t := t) S.1 8 (Nat.le_refl 8)
          have o3 : ∀ j, j < 8 → sd_so l t 8 j ≠ 2 := o3
          have rF := uf_rt_lt IF a8
          have rA := uf_rt_lt IA a8
          have rB := uf_rt_lt IA b8
          have jj := qJ_eq S.1 t16 a8 b8
          have ta := fo_t_1 IF x3 a8
          have tb := fo_t_1 IF x3 b8
          have la := o1.1 a
          have lb := o1.1 b
          have da := o3 a a8
          have db := o3 b b8
          have mo := mk_odd S.1 IA RA o1 o3 a8
          have fo := fo_odd V a8
          have ml := mk_le (l := l) (t := t) (σ := sd_so l t 8) (ov := (qA l 65535 t).1) l.length (uf_rt (qA l 65535 t).1 a)
          have oz := (x3 _ rF).2
          have c6 : ∀ (K : Bool → Option (Int32 × am_H)), (Option.bind (am_gr h1 6 0 4) fun xq8 => Option.bind (mi_X2_areJoined am_f h1 xq8 (nI a) (nI b)) fun xq9 => K xq9) = K (decide (uf_rt (qA l 65535 t).1 a = uf_rt (qA l 65535 t).1 b)) := fun K => by
            rw [or_0_4 H1, tl_bs, t2_aj H1 x2 IF a8 b8, tl_bs, decide_eq_decide.mpr jj]
          have e6 : ∀ r, ((if decide (uf_rt (qA l 65535 t).1 a = uf_rt (qA l 65535 t).1 b) = true then
              (Option.bind (am_gr h1 6 0 4) fun xq10 =>
              Option.bind (am_gr h1 2 xq10 3) fun xq11 =>
              Option.bind (am_gr h1 6 0 4) fun xq12 =>
              Option.bind (mi_X2_rootOf am_f h1 xq12 (nI a)) fun xq13 =>
              Option.bind (am_li h1 10 xq11 xq13) fun xq14 =>
              (if xq14 = 0 then
              (Option.bind (am_gr h1 6 0 4) fun xq15 =>
              Option.bind (mi_X2_turnOf am_f h1 xq15 (nI a)) fun xq16 =>
              Option.bind (am_gr h1 6 0 4) fun xq17 =>
              Option.bind (mi_X2_turnOf am_f h1 xq17 (nI b)) fun xq18 =>
              some ((xq16 ^^^ xq18), h1))
              else (some ((-3), h1))))
              else (some ((-3), h1))) : Option (Int32 × am_H)) = some (r, h1) ↔ ((if decide (uf_rt (qA l 65535 t).1 a = uf_rt (qA l 65535 t).1 b) = true then (if (qF l (16 + t)).2.2.2 (uf_rt (qF l (16 + t)).2.1.1 a) = 0 then nI (fo_t (qF l (16 + t)).2 a ^^^ fo_t (qF l (16 + t)).2 b) else -3) else -3) = r) := fun r => by
            simp only [or_0_4 H1, or_89_3 H1, tl_bs, t2_rt H1 x2 IF a8, al_93 H1 rF, (x2 _ rF).2.2.2, t2_tu H1 x2 IF a8, t2_tu H1 x2 IF b8, fa_xor, tl_e0 (show (qF l (16 + t)).2.2.2 (uf_rt (qF l (16 + t)).2.1.1 a) < 2 ^ 31 by omega)]
            by_cases d1 : decide (uf_rt (qA l 65535 t).1 a = uf_rt (qA l 65535 t).1 b) = true
            · rw [if_pos d1, if_pos d1]
              by_cases d2 : (qF l (16 + t)).2.2.2 (uf_rt (qF l (16 + t)).2.1.1 a) = 0
              · rw [if_pos d2, if_pos d2]
                constructor
                · intro q; cases q; rfl
                · intro q; rw [q]
              · rw [if_neg d2, if_neg d2]
                constructor
                · intro q; cases q; rfl
                · intro q; rw [q]
            · rw [if_neg d1, if_neg d1]
              constructor
              · intro q; cases q; rfl
              · intro q; rw [q]
          have m6 : ∀ r, ((if uf_rt (qA l 65535 t).1 a = uf_rt (qA l 65535 t).1 b then (if sd_mk l t (sd_so l t 8) (qA l 65535 t).1 l.length (uf_rt (qA l 65535 t).1 a) = 1 then -3 else (if sd_so l t 8 a = sd_so l t 8 b then 0 else 1)) else -3) = r) → (Option.bind (mi_X7_rootOf am_f h2 118 (nI a)) fun xq6 =>
              Option.bind (mi_X7_rootOf am_f h2 118 (nI b)) fun xq7 =>
              ((if xq6 = xq7 then
              (Option.bind (am_gr h2 7 118 10) fun xq8 =>
              Option.bind (mi_X7_rootOf am_f h2 118 (nI a)) fun xq9 =>
              Option.bind (am_li h2 9 xq8 xq9) fun xq10 =>
              (if xq10 = 1 then
              (some ((-3), h2))
              else (Option.bind (am_gr h2 7 118 9) fun xq11 =>
              Option.bind (am_li h2 9 xq11 (nI a)) fun xq12 =>
              Option.bind (am_gr h2 7 118 9) fun xq13 =>
              Option.bind (am_li h2 9 xq13 (nI b)) fun xq14 =>
              Option.bind ((if xq12 = xq14 then
              (some false)
              else (some true))) fun jq15 =>
              some ((am_b jq15), h2))))
              else (some ((-3), h2))) : Option (Int32 × am_H))) = some (r, h2) := fun r q => by
            subst q
            simp only [t7_rt H2 y2 IA a8, t7_rt H2 y2 IA b8, tl_bs, or_118_10 H2, or_118_9 H2, al_126 H2 rA, al_125 H2 a8, al_125 H2 b8, y4 _ rA, y3 a a8, y3 b b8, nI_eq (show uf_rt (qA l 65535 t).1 a < 2 ^ 31 by omega) (show uf_rt (qA l 65535 t).1 b < 2 ^ 31 by omega), sdv_inj _ (show sd_so l t 8 a < 3 by omega) _ (show sd_so l t 8 b < 3 by omega)]
            by_cases d1 : uf_rt (qA l 65535 t).1 a = uf_rt (qA l 65535 t).1 b
            · rw [if_pos d1, if_pos d1]
              rw [il_1]
              simp only [nI_eq (show sd_mk l t (sd_so l t 8) (qA l 65535 t).1 l.length (uf_rt (qA l 65535 t).1 a) < 2 ^ 31 by omega) (show 1 < 2 ^ 31 by decide)]
              by_cases d2 : sd_mk l t (sd_so l t 8) (qA l 65535 t).1 l.length (uf_rt (qA l 65535 t).1 a) = 1
              · rw [if_pos d2, if_pos d2]
              · rw [if_neg d2, if_neg d2]
                by_cases d3 : sd_so l t 8 a = sd_so l t 8 b
                · rw [if_pos d3, if_pos d3]; rfl
                · rw [if_neg d3, if_neg d3]; rfl
            · rw [if_neg d1, if_neg d1]
          refine ⟨(if decide (uf_rt (qA l 65535 t).1 a = uf_rt (qA l 65535 t).1 b) = true then (if (qF l (16 + t)).2.2.2 (uf_rt (qF l (16 + t)).2.1.1 a) = 0 then nI (fo_t (qF l (16 + t)).2 a ^^^ fo_t (qF l (16 + t)).2 b) else -3) else -3), h1, h2, ?_, ?_, fin⟩
          · simp only [tl_if1 ha, tl_if1 hb, tl_if1 hc, if_neg hab]
            rw [or_0_4 H, tl_bs, or_0_1 H, tl_bs, x1, tl_bs, c6]
            exact (e6 _).mpr rfl
          · simp only [oc_118 H1, tl_bs, tl_if1 ha, tl_if1 hb, tl_if1 hc, if_neg hab]
            rw [y1, tl_bs]
            apply m6
            by_cases d1 : uf_rt (qA l 65535 t).1 a = uf_rt (qA l 65535 t).1 b
            · rw [if_pos d1, if_pos (decide_eq_true d1)]
              by_cases d2 : sd_mk l t (sd_so l t 8) (qA l 65535 t).1 l.length (uf_rt (qA l 65535 t).1 a) = 1
              · have f1 := fo.mpr (mo.mp d2)
                rw [if_pos d2, if_neg (by omega)]
              · have no : ¬ dC (qE l t) (2 * a) (2 * a + 1) := fun z => d2 (mo.mpr z)
                have f1 : ¬ (qF l (16 + t)).2.2.2 (uf_rt (qF l (16 + t)).2.1.1 a) = 1 := fun z => no (fo.mp z)
                have cc := (uf_R_iff IA RA a8 b8).mp d1
                have q1 := sd_side o1 o3 a8 b8 cc no
                have q2 := fo_side V a8 b8 (jj.mpr d1) f1
                rw [if_neg d2, if_pos (show (qF l (16 + t)).2.2.2 (uf_rt (qF l (16 + t)).2.1.1 a) = 0 by omega), fo_x2 _ ta _ tb]
                by_cases d3 : sd_so l t 8 a = sd_so l t 8 b
                · have := q2.mpr (q1.mp d3)
                  rw [if_pos d3, this, show (fo_t (qF l (16 + t)).2 b + fo_t (qF l (16 + t)).2 b) % 2 = 0 by omega]
                  rfl
                · have : ¬ fo_t (qF l (16 + t)).2 a = fo_t (qF l (16 + t)).2 b := fun z => d3 (q1.mpr (q2.mp z))
                  rw [if_neg d3, show (fo_t (qF l (16 + t)).2 a + fo_t (qF l (16 + t)).2 b) % 2 = 1 by omega]
                  rfl
            · rw [if_neg d1, if_neg (by rw [decide_eq_true_eq]; exact d1)]
      · have hc : tl_tm c = false := by simpa using hc
        refine ⟨-1, h, h, ?_, ?_, I⟩
        · simp only [tl_if1 ha, tl_if1 hb, tl_if0 hc]
        · simp only [oc_118 H, tl_bs, tl_if1 ha, tl_if1 hb, tl_if0 hc]
    · have hb : tl_kn b = false := by simpa using hb
      refine ⟨-1, h, h, ?_, ?_, I⟩
      · simp only [tl_if1 ha, tl_if0 hb]
      · simp only [oc_118 H, tl_bs, tl_if1 ha, tl_if0 hb]
  · have ha : tl_kn a = false := by simpa using ha
    refine ⟨-1, h, h, ?_, ?_, I⟩
    · simp only [tl_if0 ha]
    · simp only [oc_118 H, tl_bs, tl_if0 ha]
end SM
