-- wipe, write, see, unsee, seed, count and the like come in their own parts; here: the walks' readers
section DEP
variable {ov sz : Nat → Nat}
def uf_dp (ov : Nat → Nat) : Nat → Nat → Nat
  | 0, _ => 0
  | n + 1, k => if ov k = k then 0 else uf_dp ov n (ov k) + 1
theorem uf_dp_le (ov : Nat → Nat) : ∀ n k, uf_dp ov n k ≤ n
  | 0, _ => Nat.le_refl _
  | n + 1, k => by
    unfold uf_dp
    have := uf_dp_le ov n (ov k)
    split <;> omega
theorem uf_dp_st (H : uf_I ov sz) : ∀ n k, k < 8 → 8 - sz k ≤ n → uf_dp ov (n + 1) k = uf_dp ov n k := by
  intro n
  induction n with
  | zero =>
    intro k hk h
    have he : ov k = k := uf_fix H 0 k hk h
    simp [uf_dp, he]
  | succ n ih =>
    intro k hk h
    by_cases he : ov k = k
    · simp [uf_dp, he]
    · have h1 := (H.1 k hk).2.2 he
      have h2 := ih (ov k) (H.1 k hk).1 (by omega)
      show (if ov k = k then 0 else uf_dp ov (n + 1) (ov k) + 1) = (if ov k = k then 0 else uf_dp ov n (ov k) + 1)
      rw [h2]
end DEP
section Q1
variable {h : am_H} {u : uf_S} {F : fo_S}
theorem t7_dpL (H : tl_Sh h) (U : tl_Uo h u) (I : uf_I u.1 u.2) : ∀ n k c m, k < 8 → 8 - u.2 k ≤ m → m < n → lo_X7_depthAt_4 am_f h 118 n (nI c) (nI k) = some (nI (c + uf_dp u.1 m k)) := by
  intro n
  induction n with
  | zero => intro k c m _ _ q; omega
  | succ n ih =>
    intro k c m hk hm hn
    obtain ⟨q1, q2, q3⟩ := I.1 k hk
    rw [lo_X7_depthAt_4.eq_2]
    simp only [or_118_7 H, tl_bs, al_123 H hk, (U k hk).1, nI_eq (show u.1 k < 2 ^ 31 by omega) (show k < 2 ^ 31 by omega)]
    by_cases h1 : u.1 k = k
    · have : uf_dp u.1 m k = 0 := by
        cases m with
        | zero => rfl
        | succ m => simp [uf_dp, h1]
      rw [if_pos h1, this, Nat.add_zero]
    · have h2 := q3 h1
      have h3 := uf_s8 I q1
      obtain ⟨m', rfl⟩ : ∃ m', m = m' + 1 := ⟨m - 1, by omega⟩
      rw [if_neg h1, nI_1, ih (u.1 k) (c + 1) m' q1 (by omega) (by omega)]
      show _ = some (nI (c + (if u.1 k = k then 0 else uf_dp u.1 m' (u.1 k) + 1)))
      rw [if_neg h1, show c + 1 + uf_dp u.1 m' (u.1 k) = c + (uf_dp u.1 m' (u.1 k) + 1) by omega]
theorem t7_dp (H : tl_Sh h) (U : tl_Uo h u) (I : uf_I u.1 u.2) {k : Nat} (hk : k < 8) : mi_X7_depthAt am_f h 118 (nI k) = some (nI (uf_dp u.1 8 k)) := by
  unfold mi_X7_depthAt
  have := t7_dpL H U I am_f k 0 8 hk (by omega) (by decide)
  rw [oc_118 H, tl_bs, il_0, this, tl_bs, Nat.zero_add]
theorem t2_dpL (H : tl_Sh h) (U : tl_Fo h F) (I : uf_I F.1.1 F.1.2) : ∀ n j k c, k < 8 → j ≤ 8 → 8 - j < n → lo_X2_depthOf_7 am_f h 89 n (nI c) (nI k) (nI j) = some (nI (c + uf_dp F.1.1 (8 - j) k)) := by
  intro n
  induction n with
  | zero => intro j k c _ _ h; omega
  | succ n ih =>
    intro j k c hk hj hn
    rw [lo_X2_depthOf_7.eq_2]
    simp only [il_8, nI_leI (show 8 < 2 ^ 31 by decide) (show j < 2 ^ 31 by omega)]
    by_cases h1 : 8 ≤ j
    · rw [if_pos h1, show 8 - j = 0 by omega]
      rfl
    · have ol := (I.1 k hk).1
      rw [if_neg h1, show 8 - j = (8 - (j + 1)) + 1 by omega]
      simp only [or_89_0 H, tl_bs, al_90 H hk, (U k hk).1, nI_eq (show F.1.1 k < 2 ^ 31 by omega) (show k < 2 ^ 31 by omega)]
      show _ = some (nI (c + (if F.1.1 k = k then 0 else uf_dp F.1.1 (8 - (j + 1)) (F.1.1 k) + 1)))
      by_cases h2 : F.1.1 k = k
      · rw [if_pos h2, if_pos h2, Nat.add_zero]
      · rw [if_neg h2, if_neg h2, nI_1, nI_1, ih (j + 1) _ _ ol (by omega) (by omega)]
        rw [show c + 1 + uf_dp F.1.1 (8 - (j + 1)) (F.1.1 k) = c + (uf_dp F.1.1 (8 - (j + 1)) (F.1.1 k) + 1) by omega]
theorem t2_dp (H : tl_Sh h) (U : tl_Fo h F) (I : uf_I F.1.1 F.1.2) {k : Nat} (hk : k < 8) : mi_X2_depthOf am_f h 89 (nI k) = some (nI (uf_dp F.1.1 8 k)) := by
  unfold mi_X2_depthOf
  rw [oc_89 H, tl_bs, il_0, t2_dpL H U I am_f 0 k 0 hk (by omega) (by decide), tl_bs, Nat.zero_add]
theorem t2_aj (H : tl_Sh h) (U : tl_Fo h F) (I : uf_I F.1.1 F.1.2) {a b : Nat} (ha : a < 8) (hb : b < 8) : mi_X2_areJoined am_f h 89 (nI a) (nI b) = some (decide (uf_rt F.1.1 a = uf_rt F.1.1 b)) := by
  have ra := uf_rt_lt I ha
  have rb := uf_rt_lt I hb
  unfold mi_X2_areJoined
  simp only [oc_89 H, tl_bs, t2_rt H U I ha, t2_rt H U I hb, nI_eq (show uf_rt F.1.1 a < 2 ^ 31 by omega) (show uf_rt F.1.1 b < 2 ^ 31 by omega)]
  by_cases c : uf_rt F.1.1 a = uf_rt F.1.1 b
  · rw [if_pos c, tl_bs, decide_eq_true c]
  · rw [if_neg c, tl_bs, decide_eq_false c]
theorem t2_paL (H : tl_Sh h) (U : tl_Fo h F) (I : uf_I F.1.1 F.1.2) : ∀ n j, j ≤ 8 → 8 - j < n → lo_X2_parts_4 am_f h 89 n (nI (tl_N (fun k => decide (F.1.1 k = k)) j)) (nI j) = some (nI (uf_n F.1.1)) := by
  intro n
  induction n with
  | zero => intro j _ h; omega
  | succ n ih =>
    intro j hj hn
    rw [lo_X2_parts_4.eq_2]
    simp only [il_8, nI_leI (show 8 < 2 ^ 31 by decide) (show j < 2 ^ 31 by omega)]
    by_cases h1 : 8 ≤ j
    · rw [if_pos h1, show j = 8 by omega]; rfl
    · have hj8 : j < 8 := by omega
      have ol := (I.1 j hj8).1
      rw [if_neg h1]
      simp only [or_89_0 H, tl_bs, al_90 H hj8, (U j hj8).1, nI_eq (show F.1.1 j < 2 ^ 31 by omega) (show j < 2 ^ 31 by omega), nI_1]
      have key : ((if F.1.1 j = j then some (nI (tl_N (fun k => decide (F.1.1 k = k)) j + 1)) else some (nI (tl_N (fun k => decide (F.1.1 k = k)) j))) : Option Int32) = some (nI (tl_N (fun k => decide (F.1.1 k = k)) (j + 1))) := by
        show _ = some (nI (tl_N (fun k => decide (F.1.1 k = k)) j + (if decide (F.1.1 j = j) = true then 1 else 0)))
        by_cases q : F.1.1 j = j
        · rw [if_pos q, if_pos (decide_eq_true q)]
        · rw [if_neg q, if_neg (by simp [q]), Nat.add_zero]
      rw [key, tl_bs]
      exact ih (j + 1) (by omega) (by omega)
theorem t2_pa (H : tl_Sh h) (U : tl_Fo h F) (I : uf_I F.1.1 F.1.2) : mi_X2_parts am_f h 89 = some (nI (uf_n F.1.1)) := by
  unfold mi_X2_parts
  have := t2_paL H U I am_f 0 (by omega) (by decide)
  rw [oc_89 H, tl_bs]
  exact (congrArg (fun z => Option.bind z fun x => some x) this).trans rfl
-- greatest of eight
def tl_mx (g : Nat → Nat) : Nat → Nat
  | 0 => 0
  | n + 1 => max (tl_mx g n) (g n)
theorem tl_mx_le {g : Nat → Nat} {b : Nat} : ∀ n, (∀ k, k < n → g k ≤ b) → tl_mx g n ≤ b
  | 0, _ => Nat.zero_le _
  | n + 1, h => by
    unfold tl_mx
    exact Nat.max_le.mpr ⟨tl_mx_le n (fun k hk => h k (by omega)), h n (by omega)⟩
theorem tl_mx_ge {g : Nat → Nat} : ∀ n k, k < n → g k ≤ tl_mx g n
  | 0, k, h => by omega
  | n + 1, k, h => by
    unfold tl_mx
    by_cases e : k = n
    · subst e; exact Nat.le_max_right _ _
    · exact Nat.le_trans (tl_mx_ge n k (by omega)) (Nat.le_max_left _ _)
theorem am_mx_n {a b : Nat} (ha : a < 2 ^ 31) (hb : b < 2 ^ 31) : am_mx (nI a) (nI b) = nI (max a b) := by
  unfold am_mx
  simp only [nI_ltI ha hb]
  by_cases q : a < b
  · rw [if_pos q, Nat.max_eq_right (by omega)]
  · rw [if_neg q, Nat.max_eq_left (by omega)]
theorem t2_gdL (H : tl_Sh h) (U : tl_Fo h F) (I : uf_I F.1.1 F.1.2) : ∀ n j, j ≤ 8 → 8 - j < n → lo_X2_greatestDepth_4 am_f h 89 n (nI (tl_mx (uf_dp F.1.1 8) j)) (nI j) = some (nI (tl_mx (uf_dp F.1.1 8) 8)) := by
  intro n
  induction n with
  | zero => intro j _ h; omega
  | succ n ih =>
    intro j hj hn
    rw [lo_X2_greatestDepth_4.eq_2]
    simp only [il_8, nI_leI (show 8 < 2 ^ 31 by decide) (show j < 2 ^ 31 by omega)]
    by_cases h1 : 8 ≤ j
    · rw [if_pos h1, show j = 8 by omega]
    · have b1 := tl_mx_le (g := uf_dp F.1.1 8) (b := 8) j (fun k _ => uf_dp_le _ 8 k)
      have b2 := uf_dp_le F.1.1 8 j
      rw [if_neg h1, t2_dp H U I (show j < 8 by omega), tl_bs, am_mx_n (by omega) (by omega), nI_1]
      exact ih (j + 1) (by omega) (by omega)
theorem t2_gd (H : tl_Sh h) (U : tl_Fo h F) (I : uf_I F.1.1 F.1.2) : mi_X2_greatestDepth am_f h 89 = some (nI (tl_mx (uf_dp F.1.1 8) 8)) := by
  unfold mi_X2_greatestDepth
  have := t2_gdL H U I am_f 0 (by omega) (by decide)
  rw [oc_89 H, tl_bs]
  exact (congrArg (fun z => Option.bind z fun x => some x) this).trans rfl
theorem t2_gsL (H : tl_Sh h) (U : tl_Fo h F) (I : uf_I F.1.1 F.1.2) : ∀ n j, j ≤ 8 → 8 - j < n → lo_X2_greatestSize_4 am_f h 89 n (nI (tl_mx F.1.2 j)) (nI j) = some (nI (tl_mx F.1.2 8)) := by
  intro n
  induction n with
  | zero => intro j _ h; omega
  | succ n ih =>
    intro j hj hn
    rw [lo_X2_greatestSize_4.eq_2]
    simp only [il_8, nI_leI (show 8 < 2 ^ 31 by decide) (show j < 2 ^ 31 by omega)]
    by_cases h1 : 8 ≤ j
    · rw [if_pos h1, show j = 8 by omega]
    · have hj8 : j < 8 := by omega
      have b1 := tl_mx_le (g := F.1.2) (b := 8) j (fun k _ => uf_s8 I (by omega))
      have b2 := uf_s8 I hj8
      rw [if_neg h1]
      simp only [or_89_1 H, tl_bs, al_91 H hj8, (U j hj8).2.1]
      rw [am_mx_n (by omega) (by omega), nI_1]
      exact ih (j + 1) (by omega) (by omega)
theorem t2_gs (H : tl_Sh h) (U : tl_Fo h F) (I : uf_I F.1.1 F.1.2) : mi_X2_greatestSize am_f h 89 = some (nI (tl_mx F.1.2 8)) := by
  unfold mi_X2_greatestSize
  have := t2_gsL H U I am_f 0 (by omega) (by decide)
  rw [oc_89 H, tl_bs]
  exact (congrArg (fun z => Option.bind z fun x => some x) this).trans rfl
theorem t7_gdL (H : tl_Sh h) (U : tl_Uo h u) (I : uf_I u.1 u.2) : ∀ n j, j ≤ 8 → 8 - j < n → lo_X7_greatestDepth_13 am_f h 118 n (nI (tl_mx (uf_dp u.1 8) j)) (nI j) = some (nI (tl_mx (uf_dp u.1 8) 8)) := by
  intro n
  induction n with
  | zero => intro j _ h; omega
  | succ n ih =>
    intro j hj hn
    rw [lo_X7_greatestDepth_13.eq_2]
    simp only [il_8, nI_leI (show 8 < 2 ^ 31 by decide) (show j < 2 ^ 31 by omega)]
    by_cases h1 : 8 ≤ j
    · rw [if_pos h1, show j = 8 by omega]
    · have b1 := tl_mx_le (g := uf_dp u.1 8) (b := 8) j (fun k _ => uf_dp_le _ 8 k)
      have b2 := uf_dp_le u.1 8 j
      rw [if_neg h1]
      simp only [t7_dp H U I (show j < 8 by omega), tl_bs, nI_leI (show uf_dp u.1 8 j < 2 ^ 31 by omega) (show tl_mx (uf_dp u.1 8) j < 2 ^ 31 by omega)]
      have key : ((if uf_dp u.1 8 j ≤ tl_mx (uf_dp u.1 8) j then some (nI (tl_mx (uf_dp u.1 8) j)) else some (nI (uf_dp u.1 8 j))) : Option Int32) = some (nI (tl_mx (uf_dp u.1 8) (j + 1))) := by
        show _ = some (nI (max (tl_mx (uf_dp u.1 8) j) (uf_dp u.1 8 j)))
        by_cases q : uf_dp u.1 8 j ≤ tl_mx (uf_dp u.1 8) j
        · rw [if_pos q, Nat.max_eq_left q]
        · rw [if_neg q, Nat.max_eq_right (by omega)]
      rw [key, tl_bs, nI_1]
      exact ih (j + 1) (by omega) (by omega)
/-- the greatest size of a root -/
theorem t7_gpL (H : tl_Sh h) (U : tl_Uo h u) (I : uf_I u.1 u.2) : ∀ n j, j ≤ 8 → 8 - j < n → lo_X7_greatestPart_13 am_f h 118 n (nI (tl_mx (uf_w u.1 u.2) j)) (nI j) = some (nI (tl_mx (uf_w u.1 u.2) 8)) := by
  intro n
  induction n with
  | zero => intro j _ h; omega
  | succ n ih =>
    intro j hj hn
    rw [lo_X7_greatestPart_13.eq_2]
    simp only [il_8, nI_leI (show 8 < 2 ^ 31 by decide) (show j < 2 ^ 31 by omega)]
    by_cases h1 : 8 ≤ j
    · rw [if_pos h1, show j = 8 by omega]
    · have hj8 : j < 8 := by omega
      have ol := (I.1 j hj8).1
      have b2 := uf_s8 I hj8
      have b1 := tl_mx_le (g := uf_w u.1 u.2) (b := 8) j (fun k hk => by
        have := uf_s8 I (show k < 8 by omega)
        unfold uf_w
        split <;> omega)
      rw [if_neg h1]
      simp only [or_118_7 H, or_118_8 H, tl_bs, al_123 H hj8, al_124 H hj8, (U j hj8).1, (U j hj8).2, nI_eq (show u.1 j < 2 ^ 31 by omega) (show j < 2 ^ 31 by omega), nI_leI (show u.2 j < 2 ^ 31 by omega) (show tl_mx (uf_w u.1 u.2) j < 2 ^ 31 by omega)]
      have key : ((if u.1 j = j then (if u.2 j ≤ tl_mx (uf_w u.1 u.2) j then some (nI (tl_mx (uf_w u.1 u.2) j)) else some (nI (u.2 j))) else some (nI (tl_mx (uf_w u.1 u.2) j))) : Option Int32) = some (nI (tl_mx (uf_w u.1 u.2) (j + 1))) := by
        show _ = some (nI (max (tl_mx (uf_w u.1 u.2) j) (if u.1 j = j then u.2 j else 0)))
        by_cases q : u.1 j = j
        · rw [if_pos q, if_pos q]
          by_cases q2 : u.2 j ≤ tl_mx (uf_w u.1 u.2) j
          · rw [if_pos q2, Nat.max_eq_left q2]
          · rw [if_neg q2, Nat.max_eq_right (by omega)]
        · rw [if_neg q, if_neg q, Nat.max_eq_left (Nat.zero_le _)]
      rw [key, tl_bs, nI_1]
      exact ih (j + 1) (by omega) (by omega)
theorem uf_mx {ov sz : Nat → Nat} (I : uf_I ov sz) : tl_mx (uf_w ov sz) 8 = tl_mx sz 8 := by
  apply Nat.le_antisymm
  · exact tl_mx_le 8 (fun k hk => Nat.le_trans (by unfold uf_w; split <;> omega) (tl_mx_ge (g := sz) 8 k hk))
  · refine tl_mx_le 8 (fun k hk => ?_)
    have h1 := uf_rt_sz I 8 k hk
    have h2 := uf_rt_fix I hk
    have h3 := uf_rt_lt I hk
    have h4 := tl_mx_ge (g := uf_w ov sz) 8 (uf_rt ov k) h3
    have h5 : uf_w ov sz (uf_rt ov k) = sz (uf_rt ov k) := by
      unfold uf_w
      rw [if_pos h2]
    rw [h5] at h4
    exact Nat.le_trans h1 h4
end Q1
