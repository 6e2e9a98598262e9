/-- a Spans of the class at place p holds the codes l -/
def tl_Sp (h : am_H) (p : Nat) (l : List Nat) : Prop := h.2.1 p 4 = nI l.length ∧ ∀ i v, l[i]? = some v → h.2.1 (p + 1 + 0) i = nI (sL v) ∧ h.2.1 (p + 1 + 1) i = nI (sH v) ∧ h.2.1 (p + 1 + 2) i = nI (sF v) ∧ h.2.1 (p + 1 + 3) i = nI (sT v)
/-- a level of the reference's row holds the codes l -/
def tl_Mo (h : am_H) (e : Nat) (l : List Nat) : Prop := h.2.1 119 (17 * e) = nI l.length ∧ ∀ i v, l[i]? = some v → h.2.1 119 (17 * e + 1 + i) = nI v
def tl_wf (l : List Nat) : Prop := l.length ≤ 16 ∧ ∀ v ∈ l, v < 16384 ∧ sL v < sH v ∧ sF v ≤ sT v
theorem tl_wf_at {l : List Nat} {i v : Nat} (h : tl_wf l) (hi : l[i]? = some v) : i < 16 ∧ v < 16384 ∧ sL v < sH v ∧ sF v ≤ sT v := by
  have h1 := (List.getElem?_eq_some_iff.mp hi).1
  have h2 := h.2 v (List.mem_of_getElem? hi)
  have h3 := h.1
  exact ⟨by omega, h2⟩
theorem tl_gd {l : List Nat} {i : Nat} (hi : i < l.length) : l[i]? = some (l.getD i 0) := by
  rw [List.getD_eq_getElem?_getD, List.getElem?_eq_getElem hi]
  rfl
-- reads of a Spans
section SPR
variable {h : am_H} {p i v : Nat} {l : List Nat}
theorem s5_0 (H : tl_Sh h) (hp : p ∈ am_sps) (S : tl_Sp h p l) (hi : l[i]? = some v) (h16 : i < 16) : am_li h 9 (p + 1 + 0) (nI i) = some (nI (sL v)) := by
  rw [sp_l H hp (by decide) h16, (S.2 i v hi).1]
theorem s5_1 (H : tl_Sh h) (hp : p ∈ am_sps) (S : tl_Sp h p l) (hi : l[i]? = some v) (h16 : i < 16) : am_li h 9 (p + 1 + 1) (nI i) = some (nI (sH v)) := by
  rw [sp_l H hp (by decide) h16, (S.2 i v hi).2.1]
theorem s5_2 (H : tl_Sh h) (hp : p ∈ am_sps) (S : tl_Sp h p l) (hi : l[i]? = some v) (h16 : i < 16) : am_li h 9 (p + 1 + 2) (nI i) = some (nI (sF v)) := by
  rw [sp_l H hp (by decide) h16, (S.2 i v hi).2.2.1]
theorem s5_3 (H : tl_Sh h) (hp : p ∈ am_sps) (S : tl_Sp h p l) (hi : l[i]? = some v) (h16 : i < 16) : am_li h 9 (p + 1 + 3) (nI i) = some (nI (sT v)) := by
  rw [sp_l H hp (by decide) h16, (S.2 i v hi).2.2.2]
theorem r5_0 (H : tl_Sh h) (hp : p ∈ am_sps) : am_gr h 5 p 0 = some (p + 1 + 0) := sp_r H hp (by decide)
theorem r5_1 (H : tl_Sh h) (hp : p ∈ am_sps) : am_gr h 5 p 1 = some (p + 1 + 1) := sp_r H hp (by decide)
theorem r5_2 (H : tl_Sh h) (hp : p ∈ am_sps) : am_gr h 5 p 2 = some (p + 1 + 2) := sp_r H hp (by decide)
theorem r5_3 (H : tl_Sh h) (hp : p ∈ am_sps) : am_gr h 5 p 3 = some (p + 1 + 3) := sp_r H hp (by decide)
theorem n5 (H : tl_Sh h) (hp : p ∈ am_sps) (S : tl_Sp h p l) : am_gi h 5 p 4 = some (nI l.length) := by rw [sp_i H hp, S.1]
def tl_hs (a : Int32) (n : Nat) : Bool := decide (0 ≤ a.toInt ∧ a.toInt ≤ (n : Int) - 1)
theorem tl_hs_of {a : Int32} {n : Nat} (h : tl_hs a n = true) (hn : n ≤ 16) : ∃ k, k < n ∧ a = nI k := by
  have h := of_decide_eq_true h
  refine ⟨a.toInt.toNat, by omega, ?_⟩
  apply Int32.toInt_inj.mp
  rw [nI_toInt (by omega)]
  omega
theorem tl_hs_n {k n : Nat} (hk : k < 2 ^ 31) : tl_hs (nI k) n = decide (k < n) := by
  unfold tl_hs
  rw [nI_toInt hk]
  by_cases h : k < n
  · rw [decide_eq_true h, decide_eq_true (by omega)]
  · rw [decide_eq_false h, decide_eq_false (by omega)]
theorem t5_has (H : tl_Sh h) (hp : p ∈ am_sps) (S : tl_Sp h p l) (hl : l.length ≤ 16) (a : Int32) : mi_X5_has am_f h p a = some (tl_hs a l.length) := by
  unfold mi_X5_has tl_hs
  rw [sp_c H hp, tl_bs, n5 H hp S, tl_bs]
  simp only [show (a < 0) = (a.toInt < 0) from propext Int32.lt_iff_toInt_lt, show (nI l.length ≤ a) = ((l.length : Int) ≤ a.toInt) from by rw [propext Int32.le_iff_toInt_le, nI_toInt (by omega)]]
  by_cases h1 : a.toInt < 0
  · rw [if_pos h1, tl_bs]
    exact tl_df (by omega)
  · by_cases h2 : (l.length : Int) ≤ a.toInt
    · rw [if_neg h1, if_pos h2, tl_bs]
      exact tl_df (by omega)
    · rw [if_neg h1, if_neg h2, tl_bs]
      exact tl_dt (by omega)
theorem t5_V (H : tl_Sh h) (hp : p ∈ am_sps) (S : tl_Sp h p l) (hw : tl_wf l) (hi : l[i]? = some v) {t : Nat} (ht : t < 16) : mi_X5_livesAt am_f h p (nI i) (nI t) = some (sV v t) := by
  obtain ⟨h16, hv, -, -⟩ := tl_wf_at hw hi
  unfold mi_X5_livesAt sV
  have := sF_lt v
  have := sT_lt v
  rw [sp_c H hp, tl_bs, r5_2 H hp, tl_bs, s5_2 H hp S hi h16, tl_bs, r5_3 H hp, tl_bs, s5_3 H hp S hi h16, tl_bs]
  simp only [nI_ltI (show t < 2 ^ 31 by omega) (show sF v < 2 ^ 31 by omega), nI_ltI (show sT v < 2 ^ 31 by omega) (show t < 2 ^ 31 by omega)]
  by_cases h1 : t < sF v
  · rw [if_pos h1, tl_bs]
    exact tl_df (by omega)
  · by_cases h2 : sT v < t
    · rw [if_neg h1, if_pos h2, tl_bs]
      exact tl_df (by omega)
    · rw [if_neg h1, if_neg h2, tl_bs]
      exact tl_dt (by omega)
theorem t5_fh (f : Nat) (h : am_H) (a0 : Nat) (a1 : Int32) : ∀ n b c d, lo_X5_fills_15 f h a0 a1 n b c d = lo_X5_fills_15 f am_h0 0 0 n b c d := by
  intro n
  induction n with
  | zero => intro b c d; rfl
  | succ n ih =>
    intro b c d
    rw [lo_X5_fills_15.eq_2, lo_X5_fills_15.eq_2, ih]
theorem t5_f0 : ∀ n, n < 32 → 1 ≤ n → lo_X5_fills_15 am_f am_h0 0 0 am_f (nI n) (nI n) 1 = some (nI (nLo n + 16), nI (nHi n + 16)) := by decide +kernel
theorem t5_fl (H : tl_Sh h) (hp : p ∈ am_sps) (S : tl_Sp h p l) (hw : tl_wf l) (hi : l[i]? = some v) {n : Nat} (hn : n < 32) : mi_X5_fills am_f h p (nI i) (nI n) = some (sFl v n) := by
  obtain ⟨h16, hv, -, -⟩ := tl_wf_at hw hi
  unfold mi_X5_fills sFl
  have := sF_lt v
  have := sT_lt v
  have := nLo_lt n hn
  rw [sp_c H hp, tl_bs]
  simp only [il_1, nI_leI (show 1 < 2 ^ 31 by decide) (show n < 2 ^ 31 by omega)]
  by_cases h1 : 1 ≤ n
  · rw [if_pos h1, ← il_1, t5_fh, t5_f0 n hn h1, tl_bs, r5_2 H hp, tl_bs, s5_2 H hp S hi h16, tl_bs, r5_3 H hp, tl_bs, s5_3 H hp S hi h16, tl_bs]
    simp only [il_16, pk_sub (show 16 ≤ nLo n + 16 by omega), pk_sub (show 16 ≤ nHi n + 16 by omega), Nat.add_sub_cancel]
    simp only [nI_ltI (show nLo n < 2 ^ 31 by omega) (show sF v < 2 ^ 31 by omega), nI_ltI (show sT v < 2 ^ 31 by omega) (show nHi n < 2 ^ 31 by omega)]
    by_cases h2 : nLo n < sF v
    · rw [if_pos h2, tl_bs]
      exact tl_df (by omega)
    · by_cases h3 : sT v < nHi n
      · rw [if_neg h2, if_pos h3, tl_bs]
        exact tl_df (by omega)
      · rw [if_neg h2, if_neg h3, tl_bs]
        exact tl_dt (by omega)
  · rw [if_neg h1]
    exact tl_df (by omega)
theorem t5_li (H : tl_Sh h) (hp : p ∈ am_sps) (S : tl_Sp h p l) (hw : tl_wf l) (hi : l[i]? = some v) {n : Nat} (hn : n < 32) : mi_X5_lies am_f h p (nI i) (nI n) = some (sLi v n) := by
  unfold mi_X5_lies sLi
  rw [sp_c H hp, tl_bs, t5_fl H hp S hw hi hn, tl_bs, il_2, pk_div (by omega) (by decide) (by decide), t5_fl H hp S hw hi (show n / 2 < 32 by omega), tl_bs]
  cases sFl v n <;> cases sFl v (n / 2) <;> simp
end SPR
-- sets of bits, counts
def tl_B (P : Nat → Bool) : Nat → Nat
  | 0 => 0
  | n + 1 => tl_B P n ||| (if P n = true then 2 ^ n else 0)
def tl_N (P : Nat → Bool) : Nat → Nat
  | 0 => 0
  | n + 1 => tl_N P n + (if P n = true then 1 else 0)
theorem tl_N_le (P : Nat → Bool) : ∀ n, tl_N P n ≤ n
  | 0 => Nat.le_refl _
  | n + 1 => by
    have := tl_N_le P n
    unfold tl_N
    split <;> omega
section LIE
variable {h : am_H} {p : Nat} {l : List Nat}
theorem t5_lyL (H : tl_Sh h) (hp : p ∈ am_sps) (S : tl_Sp h p l) (hw : tl_wf l) {nd : Nat} (hn : nd < 32) : ∀ n j, j ≤ l.length → l.length - j < n → lo_X5_lyingOn_4 am_f h p (nI nd) n (nI (tl_B (fun i => sLi (l.getD i 0) nd) j)) (nI j) = some (nI (tl_B (fun i => sLi (l.getD i 0) nd) l.length)) := by
  have h16 := hw.1
  intro n
  induction n with
  | zero => intro j _ h; omega
  | succ n ih =>
    intro j hj hjn
    rw [lo_X5_lyingOn_4.eq_2, n5 H hp S, tl_bs]
    simp only [nI_leI (show l.length < 2 ^ 31 by omega) (show j < 2 ^ 31 by omega)]
    by_cases h1 : l.length ≤ j
    · rw [if_pos h1, show j = l.length by omega]
    · rw [if_neg h1, t5_li H hp S hw (tl_gd (by omega)) hn, tl_bs, tl_sh1 j (by omega), fa_or, il_1, nI_add]
      have key : ((if sLi (l.getD j 0) nd = true then some (nI (tl_B (fun i => sLi (l.getD i 0) nd) j ||| 2 ^ j)) else some (nI (tl_B (fun i => sLi (l.getD i 0) nd) j))) : Option Int32) = some (nI (tl_B (fun i => sLi (l.getD i 0) nd) (j + 1))) := by
        show _ = some (nI (tl_B (fun i => sLi (l.getD i 0) nd) j ||| (if sLi (l.getD j 0) nd = true then 2 ^ j else 0)))
        by_cases h2 : sLi (l.getD j 0) nd = true
        · rw [if_pos h2, if_pos h2]
        · rw [if_neg h2, if_neg h2, Nat.or_zero]
      rw [key, tl_bs]
      exact ih (j + 1) (by omega) (by omega)
theorem t5_ly (H : tl_Sh h) (hp : p ∈ am_sps) (S : tl_Sp h p l) (hw : tl_wf l) {nd : Nat} (hn : nd < 32) : mi_X5_lyingOn am_f h p (nI nd) = some (nI (tl_B (fun i => sLi (l.getD i 0) nd) l.length)) := by
  unfold mi_X5_lyingOn
  have h16 := hw.1
  have e := t5_lyL H hp S hw hn am_f 0 (Nat.zero_le _) (by unfold am_f; omega)
  rw [sp_c H hp, tl_bs]
  exact (congrArg (fun z => Option.bind z fun x => some x) e).trans rfl
theorem t7_many (H : tl_Sh h) {e : Nat} (he : e < 2) (M : tl_Mo h e l) (f : Nat) : mi_X7_many f h 118 (nI e) = some (nI l.length) := by
  unfold mi_X7_many
  rw [oc_118 H, tl_bs, or_118_0 H, tl_bs, il_17, pk_mul, al_119 H (by omega), tl_bs, M.1]
theorem t7_span (H : tl_Sh h) {e i v : Nat} (he : e < 2) (M : tl_Mo h e l) (hi : l[i]? = some v) (h16 : i < 16) (f : Nat) : mi_X7_spanOf f h 118 (nI e) (nI i) = some (nI v) := by
  unfold mi_X7_spanOf
  rw [oc_118 H, tl_bs, or_118_0 H, tl_bs, il_17, il_1, pk_mul, nI_add, nI_add, al_119 H (by omega), tl_bs, M.2 i v hi]
theorem t7_lyL (H : tl_Sh h) (M : tl_Mo h 0 l) (hw : tl_wf l) {nd : Nat} (hn : nd < 32) (h1n : 1 ≤ nd) : ∀ n j, j ≤ l.length → l.length - j < n → lo_X7_liesOn_4 am_f h 118 (nI nd) n (nI (tl_B (fun i => sLi (l.getD i 0) nd) j)) (nI j) = some (nI (tl_B (fun i => sLi (l.getD i 0) nd) l.length)) := by
  have h16 := hw.1
  intro n
  induction n with
  | zero => intro j _ h; omega
  | succ n ih =>
    intro j hj hjn
    rw [lo_X7_liesOn_4.eq_2, il_0, t7_many H (by decide) M, tl_bs]
    simp only [nI_leI (show l.length < 2 ^ 31 by omega) (show j < 2 ^ 31 by omega)]
    by_cases h1 : l.length ≤ j
    · rw [if_pos h1, show j = l.length by omega]
    · have hg := tl_gd (l := l) (i := j) (by omega)
      have hv := (tl_wf_at hw hg).2.1
      rw [if_neg h1, t7_span H (by decide) M hg (by omega), tl_bs, t7_li h hv hn h1n, tl_bs, tl_sh1 j (by omega), il_1, nI_add]
      have key : ((if sLi (l.getD j 0) nd = true then some (nI (2 ^ j)) else some (nI 0)) : Option Int32) = some (nI (if sLi (l.getD j 0) nd = true then 2 ^ j else 0)) := by
        by_cases h2 : sLi (l.getD j 0) nd = true
        · rw [if_pos h2, if_pos h2]
        · rw [if_neg h2, if_neg h2]
      rw [key, tl_bs, fa_or]
      exact ih (j + 1) (by omega) (by omega)
theorem t7_ly (H : tl_Sh h) (M : tl_Mo h 0 l) (hw : tl_wf l) {nd : Nat} (hn : nd < 32) (h1n : 1 ≤ nd) : mi_X7_liesOn am_f h 118 (nI nd) = some (nI (tl_B (fun i => sLi (l.getD i 0) nd) l.length)) := by
  unfold mi_X7_liesOn
  have h16 := hw.1
  have e := t7_lyL H M hw hn h1n am_f 0 (Nat.zero_le _) (by unfold am_f; omega)
  rw [oc_118 H, tl_bs]
  exact (congrArg (fun z => Option.bind z fun x => some x) e).trans rfl
end LIE
