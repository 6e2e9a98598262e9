-- bits
theorem tl_tb2 (n k : Nat) : (2 ^ n).testBit k = decide (n = k) := Nat.testBit_two_pow
theorem tl_B_tb (P : Nat → Bool) : ∀ n k, (tl_B P n).testBit k = (decide (k < n) && P k)
  | 0, k => by simp [tl_B]
  | n + 1, k => by
    unfold tl_B
    rw [Nat.testBit_or, tl_B_tb P n k]
    by_cases e : k = n
    · subst e
      cases h : P k with
      | true => simp [tl_tb2]
      | false => simp
    · by_cases q : P n = true
      · rw [if_pos q, tl_tb2]
        simp only [show (n = k) = False from eq_false (Ne.symm e), decide_false, Bool.or_false]
        rw [show decide (k < n + 1) = decide (k < n) from decide_eq_decide.mpr (by omega)]
      · rw [if_neg q]
        simp only [Nat.zero_testBit, Bool.or_false]
        rw [show decide (k < n + 1) = decide (k < n) from decide_eq_decide.mpr (by omega)]
theorem tl_B_0 {P : Nat → Bool} {n : Nat} : tl_B P n = 0 ↔ ∀ k, k < n → P k = false := by
  constructor
  · intro h k hk
    have := tl_B_tb P n k
    rw [h, Nat.zero_testBit] at this
    simpa [hk] using this.symm
  · intro h
    apply Nat.eq_of_testBit_eq
    intro k
    rw [tl_B_tb, Nat.zero_testBit]
    by_cases hk : k < n
    · simp [hk, h k hk]
    · simp [hk]
theorem tl_B_lt (P : Nat → Bool) : ∀ n, tl_B P n < 2 ^ n
  | 0 => by simp [tl_B]
  | n + 1 => by
    have ih := tl_B_lt P n
    unfold tl_B
    refine Nat.or_lt_two_pow (Nat.lt_of_lt_of_le ih (Nat.pow_le_pow_right (by decide) (by omega))) ?_
    split
    · exact Nat.pow_lt_pow_right (by decide) (by omega)
    · exact Nat.two_pow_pos _
theorem tl_B_16 (P : Nat → Bool) {n : Nat} (hn : n ≤ 16) : tl_B P n < 65536 := Nat.lt_of_lt_of_le (tl_B_lt P n) (Nat.pow_le_pow_right (n := 2) (by decide) hn)
theorem tl_B_ex {P Q : Nat → Bool} : ∀ n, (∀ k, k < n → P k = Q k) → tl_B P n = tl_B Q n
  | 0, _ => rfl
  | n + 1, h => by
    unfold tl_B
    rw [tl_B_ex n (fun k hk => h k (by omega)), h n (by omega)]
-- stretches
def sX (s t : Nat) : Nat := tl_B (fun k => decide (s ≤ k ∧ k ≤ t)) 16
theorem t6_st0 : ∀ s, s < 16 → ∀ t, t < 16 → mi_X6_stretch 0 am_h0 (nI s) (nI t) = some (nI (sX s t)) := by decide +kernel
theorem t6_st (f : Nat) (h : am_H) {s t : Nat} (hs : s < 16) (ht : t < 16) : mi_X6_stretch f h (nI s) (nI t) = some (nI (sX s t)) := t6_st0 s hs t ht
def tl_O (g : Nat → Nat) : Nat → Nat
  | 0 => 0
  | n + 1 => tl_O g n ||| g n
theorem tl_O_tb (g : Nat → Nat) : ∀ n k, (tl_O g n).testBit k = true ↔ ∃ i, i < n ∧ (g i).testBit k = true
  | 0, k => by simp [tl_O]
  | n + 1, k => by
    unfold tl_O
    rw [Nat.testBit_or, Bool.or_eq_true, tl_O_tb g n k]
    constructor
    · rintro (⟨i, a, b⟩ | b)
      · exact ⟨i, by omega, b⟩
      · exact ⟨n, by omega, b⟩
    · rintro ⟨i, a, b⟩
      by_cases e : i = n
      · subst e; exact Or.inr b
      · exact Or.inl ⟨i, by omega, b⟩
section Q4
variable {h : am_H} {l : List Nat} {p : Nat}
theorem t5_tfL (H : tl_Sh h) (hp : p ∈ am_sps) (S : tl_Sp h p l) (hw : tl_wf l) : ∀ n j, j ≤ l.length → l.length - j < n → lo_X5_timesFilled_4 am_f h p n (nI (tl_O (fun i => sX (sF (l.getD i 0)) (sT (l.getD i 0))) j)) (nI j) = some (nI (tl_O (fun i => sX (sF (l.getD i 0)) (sT (l.getD i 0))) l.length)) := by
  have h16 := hw.1
  intro n
  induction n with
  | zero => intro j _ h; omega
  | succ n ih =>
    intro j hj hjn
    rw [lo_X5_timesFilled_4.eq_2, n5 H hp S, tl_bs]
    simp only [nI_leI (show l.length < 2 ^ 31 by omega) (show j < 2 ^ 31 by omega)]
    by_cases h1 : l.length ≤ j
    · rw [if_pos h1, show j = l.length by omega]
    · have hg := tl_gd (l := l) (i := j) (by omega)
      rw [if_neg h1]
      simp only [r5_2 H hp, r5_3 H hp, tl_bs, s5_2 H hp S hg (show j < 16 by omega), s5_3 H hp S hg (show j < 16 by omega), t6_st am_f h (sF_lt (l.getD j 0)) (sT_lt (l.getD j 0)), fa_or, nI_1]
      exact ih (j + 1) (by omega) (by omega)
theorem t7_ftL (H : tl_Sh h) (M : tl_Mo h 0 l) (hw : tl_wf l) : ∀ n j, j ≤ 16 → 16 - j < n → lo_X7_filledTimes_4 am_f h 118 n (nI (tl_B (fun t => decide (tl_B (fun i => sV (l.getD i 0) t) l.length ≠ 0)) j)) (nI j) = some (nI (tl_B (fun t => decide (tl_B (fun i => sV (l.getD i 0) t) l.length ≠ 0)) 16)) := by
  have h16 := hw.1
  intro n
  induction n with
  | zero => intro j _ h; omega
  | succ n ih =>
    intro j hj hjn
    rw [lo_X7_filledTimes_4.eq_2]
    simp only [il_16, nI_leI (show 16 < 2 ^ 31 by decide) (show j < 2 ^ 31 by omega)]
    by_cases h1 : 16 ≤ j
    · rw [if_pos h1, show j = 16 by omega]
    · have b := tl_B_16 (fun i => sV (l.getD i 0) j) h16
      rw [if_neg h1, t7_lv H M hw (by omega), tl_bs, il_0, tl_sh1 j (by omega)]
      simp only [nI_eq (show tl_B (fun i => sV (l.getD i 0) j) l.length < 2 ^ 31 by omega) (show 0 < 2 ^ 31 by decide)]
      have key : ((if tl_B (fun i => sV (l.getD i 0) j) l.length = 0 then some (nI 0) else some (nI (2 ^ j))) : Option Int32) = some (nI (if decide (tl_B (fun i => sV (l.getD i 0) j) l.length ≠ 0) = true then 2 ^ j else 0)) := by
        by_cases q : tl_B (fun i => sV (l.getD i 0) j) l.length = 0
        · rw [if_pos q, if_neg (by rw [decide_eq_false (fun z => z q)]; decide)]
        · rw [if_neg q, if_pos (decide_eq_true q)]
      rw [key, tl_bs, fa_or, nI_1]
      exact ih (j + 1) (by omega) (by omega)
theorem tl_fill (hw : tl_wf l) : tl_O (fun i => sX (sF (l.getD i 0)) (sT (l.getD i 0))) l.length = tl_B (fun t => decide (tl_B (fun i => sV (l.getD i 0) t) l.length ≠ 0)) 16 := by
  apply Nat.eq_of_testBit_eq
  intro t
  rw [Bool.eq_iff_iff, tl_O_tb, tl_B_tb, Bool.and_eq_true, decide_eq_true_eq, decide_eq_true_eq]
  constructor
  · rintro ⟨i, hi, hb⟩
    unfold sX at hb
    rw [tl_B_tb, Bool.and_eq_true, decide_eq_true_eq, decide_eq_true_eq] at hb
    refine ⟨hb.1, fun q => ?_⟩
    have := (tl_B_0.mp q) i hi
    rw [show sV (l.getD i 0) t = true from decide_eq_true hb.2] at this
    cases this
  · rintro ⟨ht, hq⟩
    apply Classical.byContradiction
    intro hn
    apply hq
    rw [tl_B_0]
    intro i hi
    cases hc : sV (l.getD i 0) t with
    | false => rfl
    | true =>
      exact absurd ⟨i, hi, by unfold sX; rw [tl_B_tb, Bool.and_eq_true]; exact ⟨decide_eq_true ht, hc⟩⟩ hn
def tl_tt (l : List Nat) : Nat → Nat
  | 0 => 0
  | n + 1 => tl_tt l n + (sT (l.getD n 0) - sF (l.getD n 0) + 1)
theorem t5_ttL (H : tl_Sh h) (hp : p ∈ am_sps) (S : tl_Sp h p l) (hw : tl_wf l) : ∀ n j, j ≤ l.length → l.length - j < n → lo_X5_timesTogether_4 am_f h p n (nI (tl_tt l j)) (nI j) = some (nI (tl_tt l l.length)) := by
  have h16 := hw.1
  intro n
  induction n with
  | zero => intro j _ h; omega
  | succ n ih =>
    intro j hj hjn
    rw [lo_X5_timesTogether_4.eq_2, n5 H hp S, tl_bs]
    simp only [nI_leI (show l.length < 2 ^ 31 by omega) (show j < 2 ^ 31 by omega)]
    by_cases h1 : l.length ≤ j
    · rw [if_pos h1, show j = l.length by omega]
    · have hg := tl_gd (l := l) (i := j) (by omega)
      have hv := tl_wf_at hw hg
      rw [if_neg h1]
      simp only [r5_2 H hp, r5_3 H hp, tl_bs, s5_2 H hp S hg (show j < 16 by omega), s5_3 H hp S hg (show j < 16 by omega), pk_sub hv.2.2.2, nI_1, nI_add]
      exact ih (j + 1) (by omega) (by omega)
theorem t7_ttL (H : tl_Sh h) (M : tl_Mo h 0 l) (hw : tl_wf l) : ∀ n j, j ≤ l.length → l.length - j < n → lo_X7_timesTogether_4 am_f h 118 n (nI (tl_tt l j)) (nI j) = some (nI (tl_tt l l.length)) := by
  have h16 := hw.1
  intro n
  induction n with
  | zero => intro j _ h; omega
  | succ n ih =>
    intro j hj hjn
    rw [lo_X7_timesTogether_4.eq_2, il_0, t7_many H (by decide) M, tl_bs]
    simp only [nI_leI (show l.length < 2 ^ 31 by omega) (show j < 2 ^ 31 by omega)]
    by_cases h1 : l.length ≤ j
    · rw [if_pos h1, show j = l.length by omega]
    · have hg := tl_gd (l := l) (i := j) (by omega)
      have hv := tl_wf_at hw hg
      rw [if_neg h1]
      simp only [t7_span H (show 0 < 2 by decide) M hg (show j < 16 by omega), tl_bs, t7_T _ _ hv.2.1, t7_F _ _ hv.2.1, pk_sub hv.2.2.2, nI_1, nI_add]
      exact ih (j + 1) (by omega) (by omega)
theorem e_count (I : tl_I h) (a : Int32) : ∃ r, mi_X6_count am_f h 0 a = some r ∧ mi_X7_count am_f h 118 a = some r := by
  obtain ⟨H, ⟨l, S⟩, ⟨tx, X⟩, ⟨ac, A⟩, -, ⟨sn, N⟩, -⟩ := id I
  have h16 := S.1.1
  have f5 : mi_X5_timesFilled am_f h 7 = some (nI (tl_B (fun t => decide (tl_B (fun i => sV (l.getD i 0) t) l.length ≠ 0)) 16)) := by
    unfold mi_X5_timesFilled
    have e := t5_tfL H tl_sps7 S.2.1 S.1 am_f 0 (Nat.zero_le _) (by unfold am_f; omega)
    rw [tl_fill S.1] at e
    rw [sp_c H tl_sps7, tl_bs]
    exact (congrArg (fun z => Option.bind z fun x => some x) e).trans rfl
  have f7 : mi_X7_filledTimes am_f h 118 = some (nI (tl_B (fun t => decide (tl_B (fun i => sV (l.getD i 0) t) l.length ≠ 0)) 16)) := by
    unfold mi_X7_filledTimes
    have e := t7_ftL H S.2.2 S.1 am_f 0 (Nat.zero_le _) (by decide)
    rw [oc_118 H, tl_bs]
    exact (congrArg (fun z => Option.bind z fun x => some x) e).trans rfl
  have g5 : mi_X5_timesTogether am_f h 7 = some (nI (tl_tt l l.length)) := by
    unfold mi_X5_timesTogether
    have e := t5_ttL H tl_sps7 S.2.1 S.1 am_f 0 (Nat.zero_le _) (by unfold am_f; omega)
    rw [sp_c H tl_sps7, tl_bs]
    exact (congrArg (fun z => Option.bind z fun x => some x) e).trans rfl
  have g7 : mi_X7_timesTogether am_f h 118 = some (nI (tl_tt l l.length)) := by
    unfold mi_X7_timesTogether
    have e := t7_ttL H S.2.2 S.1 am_f 0 (Nat.zero_le _) (by unfold am_f; omega)
    rw [oc_118 H, tl_bs]
    exact (congrArg (fun z => Option.bind z fun x => some x) e).trans rfl
  have m7 : mi_X7_many am_f h 118 0 = some (nI l.length) := t7_many H (show 0 < 2 by decide) S.2.2 am_f
  unfold mi_X6_count mi_X7_count
  simp only [oc_0 H, oc_118 H, tl_bs, or_0_0 H, or_0_1 H, or_0_3 H, or_0_6 H, oi_1 H, oi_17 H, oi_99 H, oi_118 H, n5 H tl_sps7 S.2.1, f5, f7, g5, g7, m7, X.2.2.1, X.2.2.2.1, A.2.1, A.2.2.1, N.2.1, N.2.2.1]
  refine tl_pair rfl ?_
  repeat' split
  all_goals exact ⟨_, rfl⟩
-- work
def tl_w0 (l : List Nat) : Nat → Nat
  | 0 => 0
  | n + 1 => tl_w0 l n + tl_pc (tl_B (fun i => sLi (l.getD i 0) n) l.length)
def tl_w1 (l : List Nat) : Nat → Nat
  | 0 => 0
  | n + 1 => tl_w1 l n + (if n = 0 then 0 else (qW l n).1)
theorem tl_w0_1 : tl_w0 l 1 = 0 := by
  have e : tl_B (fun i => sLi (l.getD i 0) 0) l.length = 0 := tl_B_0.mpr (fun k _ => by simp [sLi, sFl])
  unfold tl_w0
  rw [e]
  rfl
theorem t6_w0L (H : tl_Sh h) (S : tl_Sp h 7 l) (hw : tl_wf l) : ∀ n j, j ≤ 32 → 32 - j < n → lo_X6_lyingOnAll_4 am_f h 0 n (nI (tl_w0 l j)) (nI j) = some (nI (tl_w0 l 32)) := by
  intro n
  induction n with
  | zero => intro j _ h; omega
  | succ n ih =>
    intro j hj hjn
    rw [lo_X6_lyingOnAll_4.eq_2]
    simp only [il_31, nI_ltI (show 31 < 2 ^ 31 by decide) (show j < 2 ^ 31 by omega)]
    by_cases h1 : 31 < j
    · rw [if_pos h1, show j = 32 by omega]
    · rw [if_neg h1]
      simp only [or_0_1 H, tl_bs, t5_ly H tl_sps7 S hw (show j < 32 by omega), tj_bc am_f h (tl_B_16 (fun i => sLi (l.getD i 0) j) hw.1), nI_add, nI_1]
      exact ih (j + 1) (by omega) (by omega)
theorem t6_w1L (hw : tl_wf l) : ∀ n j h, tl_Sh h → tl_Sp h 7 l → 1 ≤ j → j ≤ 32 → 32 - j < n → ∃ h2, lo_X6_joiningOnAll_4 am_f 0 n (nI (tl_w1 l j)) (nI j) h = some (nI (tl_w1 l 32), h2) ∧ tl_on tl_fs h h2 := by
  intro n
  induction n with
  | zero => intro j h _ _ _ _ q; omega
  | succ n ih =>
    intro j h H S h0 hj hjn
    rw [lo_X6_joiningOnAll_4.eq_2]
    simp only [il_31, nI_ltI (show 31 < 2 ^ 31 by decide) (show j < 2 ^ 31 by omega)]
    by_cases h1 : 31 < j
    · rw [if_pos h1, show j = 32 by omega]
      exact ⟨h, rfl, tl_on_rf⟩
    · obtain ⟨h2, x1, x2, x3, x4⟩ := t2_walk tl_sps7 hw H S (show j < 32 by omega)
      rw [if_neg h1]
      simp only [or_0_1 H, or_0_4 H, tl_bs, x1, nI_add, nI_1]
      have e : tl_w1 l j + (qF l j).1 = tl_w1 l (j + 1) := by
        show _ = tl_w1 l j + (if j = 0 then 0 else (qW l j).1)
        rw [if_neg (by omega), (qF_W (l := l) (show j < 32 by omega)).1]
      rw [e]
      obtain ⟨h3, y1, y2⟩ := ih (j + 1) h2 (tl_on_Sh H x4) (tl_on_Sp (fun k hk => sp_fs 7 tl_sps7 k (by omega)) x4 S) (by omega) (by omega) (by omega)
      exact ⟨h3, y1, tl_on_tr x4 y2⟩
theorem t7_w0L (hw : tl_wf l) : ∀ n j h, tl_Sh h → tl_Mo h 0 l → 1 ≤ j → j ≤ 32 → 32 - j < n → lo_X7_work_17 am_f 118 0 n (nI (tl_w0 l j)) (nI j) h = some (nI (tl_w0 l 32), h) := by
  intro n
  induction n with
  | zero => intro j h _ _ _ _ q; omega
  | succ n ih =>
    intro j h H M h0 hj hjn
    rw [lo_X7_work_17.eq_2]
    simp only [il_32, nI_leI (show 32 < 2 ^ 31 by decide) (show j < 2 ^ 31 by omega)]
    by_cases h1 : 32 ≤ j
    · rw [if_pos h1, show j = 32 by omega]
    · rw [if_neg h1]
      simp only [if_true, t7_ly H M hw (show j < 32 by omega) h0, tl_bs, t7_on am_f h (tl_B_16 (fun i => sLi (l.getD i 0) j) hw.1) (show 17 ≤ am_f by decide), nI_add, nI_1]
      exact ih (j + 1) h H M (by omega) (by omega) (by omega)
theorem t7_w1L (hw : tl_wf l) : ∀ n j h, tl_Sh h → tl_Mo h 0 l → 1 ≤ j → j ≤ 32 → 32 - j < n → ∃ h2, lo_X7_work_17 am_f 118 1 n (nI (tl_w1 l j)) (nI j) h = some (nI (tl_w1 l 32), h2) ∧ tl_on [123, 124] h h2 := by
  intro n
  induction n with
  | zero => intro j h _ _ _ _ q; omega
  | succ n ih =>
    intro j h H M h0 hj hjn
    rw [lo_X7_work_17.eq_2]
    simp only [il_32, nI_leI (show 32 < 2 ^ 31 by decide) (show j < 2 ^ 31 by omega)]
    by_cases h1 : 32 ≤ j
    · rw [if_pos h1, show j = 32 by omega]
      exact ⟨h, rfl, tl_on_rf⟩
    · obtain ⟨h2, x1, x2, x3, x4⟩ := t7_walk H hw M (show j < 32 by omega) h0
      rw [if_neg h1]
      simp only [if_neg (show ¬ ((1 : Int32) = 0) by decide), x1, tl_bs, nI_add, nI_1]
      have e : tl_w1 l j + (qW l j).1 = tl_w1 l (j + 1) := by
        show _ = tl_w1 l j + (if j = 0 then 0 else (qW l j).1)
        rw [if_neg (by omega)]
      rw [e]
      obtain ⟨h3, y1, y2⟩ := ih (j + 1) h2 (tl_on_Sh H x3) (tl_on_Mo (by decide) x3 M) (by omega) (by omega) (by omega)
      exact ⟨h3, y1, tl_on_tr x3 y2⟩
theorem e_work (I : tl_I h) (a : Int32) : tl_st (mi_X6_work am_f h 0 a) (fun h1 => mi_X7_work am_f h1 118 a) := by
  obtain ⟨H, ⟨l, S⟩, -⟩ := id I
  have hin : ∀ h1 : am_H, mi_X7_in am_f h1 a.toInt64 0 1 = some (decide (0 ≤ a.toInt ∧ a.toInt ≤ 1)) := fun h1 => by rw [t7_in, Int32.toInt_toInt64]; rfl
  unfold mi_X6_work mi_X7_work tl_st
  simp only [oc_0 H, tl_bs, hin]
  by_cases a0 : a = 0
  · subst a0
    refine ⟨nI (tl_w0 l 32), h, h, ?_, ?_, I⟩
    · have e := t6_w0L H S.2.1 S.1 am_f 1 (by omega) (by decide)
      rw [tl_w0_1] at e
      unfold mi_X6_lyingOnAll
      simp only [if_true, oc_0 H, tl_bs]
      exact (congrArg (fun z => Option.bind (Option.bind z fun x => some x) fun (q : Int32) => some (q, h)) e).trans rfl
    · have e := t7_w0L S.1 am_f 1 h H S.2.2 (by omega) (by omega) (by decide)
      rw [tl_w0_1] at e
      simp only [oc_118 H, tl_bs]
      rw [decide_eq_true (by decide), if_pos rfl]
      exact (congrArg (fun z => Option.bind z fun (q : Int32 × am_H) => some (q.1, q.2)) e).trans rfl
  · by_cases a1 : a = 1
    · subst a1
      obtain ⟨h1, x1, x2⟩ := t6_w1L S.1 am_f 1 h H S.2.1 (by omega) (by omega) (by decide)
      have H1 := tl_on_Sh H x2
      have k1 := tl_on_fr tl_s_fo x2
      have S1 := tl_fr_PS k1 S
      obtain ⟨h2, y1, y2⟩ := t7_w1L S.1 am_f 1 h1 H1 S1.2.2 (by omega) (by omega) (by decide)
      refine ⟨nI (tl_w1 l 32), h1, h2, ?_, ?_, tl_fr_Iv (tl_fr_tr k1 (tl_on_fr tl_s_mu y2)) I⟩
      · unfold mi_X6_joiningOnAll
        simp only [if_neg (show ¬ ((1 : Int32) = 0) by decide), if_true, oc_0 H, tl_bs]
        exact (congrArg (fun z => Option.bind (Option.bind z fun (q : Int32 × am_H) => some (q.1, q.2)) fun (q : Int32 × am_H) => some (q.1, q.2)) x1).trans rfl
      · simp only [oc_118 H1, tl_bs]
        rw [decide_eq_true (by decide), if_pos rfl]
        exact (congrArg (fun z => Option.bind z fun (q : Int32 × am_H) => some (q.1, q.2)) y1).trans rfl
    · have d0 := lv_neT a0 (show (0 : Int32).toInt = 0 from by decide)
      have d1 := lv_neT a1 (show (1 : Int32).toInt = 1 from by decide)
      refine ⟨-2, h, h, by rw [if_neg a0, if_neg a1], ?_, I⟩
      simp only [oc_118 H, tl_bs]
      rw [decide_eq_false (by omega), if_neg (by decide)]
end Q4
