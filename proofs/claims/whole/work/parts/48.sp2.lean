-- a Spans is written
def tl_P5 (p : Nat) : List Nat := [p, p + 1, p + 2, p + 3, p + 4]
theorem sp_sep : ∀ p ∈ am_sps, ∀ q ∈ am_sps, ∀ k, k < 5 → ∀ m, m < 5 → p + k = q + m → p = q ∧ k = m := by decide +kernel
theorem tl_P5_k {p k : Nat} (hk : k < 4) : p + 1 + k ∈ tl_P5 p := by
  rcases (show k = 0 ∨ k = 1 ∨ k = 2 ∨ k = 3 by omega) with rfl | rfl | rfl | rfl <;> simp [tl_P5]
theorem tl_P5_0 {p : Nat} : p ∈ tl_P5 p := by simp [tl_P5]
theorem tl_P5_m {p x : Nat} (h : x ∈ tl_P5 p) : ∃ k, k < 5 ∧ x = p + k := by
  simp [tl_P5] at h
  rcases h with h | h | h | h | h
  · exact ⟨0, by omega, h⟩
  · exact ⟨1, by omega, h⟩
  · exact ⟨2, by omega, h⟩
  · exact ⟨3, by omega, h⟩
  · exact ⟨4, by omega, h⟩
theorem tl_P5_off {p q : Nat} (hp : p ∈ am_sps) (hq : q ∈ am_sps) (hn : p ≠ q) : ∀ k, k ≤ 4 → q + k ∉ tl_P5 p := by
  intro k hk h
  obtain ⟨m, h1, h2⟩ := tl_P5_m h
  exact hn (sp_sep q hq p hp k (by omega) m h1 h2).1.symm
def tkF (h : am_H) (p q i j : Nat) : am_H := am_I (am_I (am_I (am_I h (p + 1 + 0) j (h.2.1 (q + 1 + 0) i)) (p + 1 + 1) j (h.2.1 (q + 1 + 1) i)) (p + 1 + 2) j (h.2.1 (q + 1 + 2) i)) (p + 1 + 3) j (h.2.1 (q + 1 + 3) i)
section SW
variable {h : am_H} {p q : Nat} {l : List Nat}
theorem sp_sep1 (hp : p ∈ am_sps) (hq : q ∈ am_sps) {k m : Nat} (hk : k < 4) (hm : m < 4) (hn : k ≠ m) : q + 1 + k ≠ p + 1 + m := by
  intro e
  have := sp_sep q hq p hp (1 + k) (by omega) (1 + m) (by omega) (by omega)
  omega
theorem t5_tk (H : tl_Sh h) (hp : p ∈ am_sps) (hq : q ∈ am_sps) {i j : Nat} (hi : i < 16) (hj : j < 16) : mi_X5_takeFrom am_f h p q (nI i) (nI j) = some (tkF h p q i j) := by
  have H1 : tl_Sh (am_I h (p + 1 + 0) j (h.2.1 (q + 1 + 0) i)) := tl_Sh_I H
  have H2 : tl_Sh (am_I (am_I h (p + 1 + 0) j (h.2.1 (q + 1 + 0) i)) (p + 1 + 1) j (h.2.1 (q + 1 + 1) i)) := tl_Sh_I H1
  have H3 : tl_Sh (am_I (am_I (am_I h (p + 1 + 0) j (h.2.1 (q + 1 + 0) i)) (p + 1 + 1) j (h.2.1 (q + 1 + 1) i)) (p + 1 + 2) j (h.2.1 (q + 1 + 2) i)) := tl_Sh_I H2
  unfold mi_X5_takeFrom tkF
  rw [sp_c H hp, tl_bs, r5_0 H hp, tl_bs, r5_0 H hq, tl_bs, sp_l H hq (by decide) hi, tl_bs, sp_s H hp (by decide) hj, tl_bs]
  rw [r5_1 H1 hp, tl_bs, r5_1 H1 hq, tl_bs, sp_l H1 hq (by decide) hi, tl_bs, tl_I_ne (sp_sep1 hp hq (by decide) (by decide) (by decide)), sp_s H1 hp (by decide) hj, tl_bs]
  rw [r5_2 H2 hp, tl_bs, r5_2 H2 hq, tl_bs, sp_l H2 hq (by decide) hi, tl_bs, tl_I_ne (sp_sep1 hp hq (by decide) (by decide) (by decide)), tl_I_ne (sp_sep1 hp hq (by decide) (by decide) (by decide)), sp_s H2 hp (by decide) hj, tl_bs]
  rw [r5_3 H3 hp, tl_bs, r5_3 H3 hq, tl_bs, sp_l H3 hq (by decide) hi, tl_bs, tl_I_ne (sp_sep1 hp hq (by decide) (by decide) (by decide)), tl_I_ne (sp_sep1 hp hq (by decide) (by decide) (by decide)), tl_I_ne (sp_sep1 hp hq (by decide) (by decide) (by decide)), sp_s H3 hp (by decide) hj, tl_bs]
theorem tkF_on {i j : Nat} : tl_on (tl_P5 p) h (tkF h p q i j) := tl_on_tr (tl_on_tr (tl_on_tr (tl_on_I (tl_P5_k (by decide))) (tl_on_I (tl_P5_k (by decide)))) (tl_on_I (tl_P5_k (by decide)))) (tl_on_I (tl_P5_k (by decide)))
theorem tkF_at {i j k x : Nat} (hk : k < 4) : (tkF h p q i j).2.1 (p + 1 + k) x = if x = j then h.2.1 (q + 1 + k) i else h.2.1 (p + 1 + k) x := by
  unfold tkF
  rcases (show k = 0 ∨ k = 1 ∨ k = 2 ∨ k = 3 by omega) with rfl | rfl | rfl | rfl
  · rw [tl_I_ne (by omega), tl_I_ne (by omega), tl_I_ne (by omega), tl_I_at]
  · rw [tl_I_ne (by omega), tl_I_ne (by omega), tl_I_at, tl_I_ne (by omega)]
  · rw [tl_I_ne (by omega), tl_I_at, tl_I_ne (by omega), tl_I_ne (by omega)]
  · rw [tl_I_at, tl_I_ne (by omega), tl_I_ne (by omega), tl_I_ne (by omega)]
theorem tkF_0 {i j x : Nat} : (tkF h p q i j).2.1 p x = h.2.1 p x := by
  unfold tkF
  rw [tl_I_ne (by omega), tl_I_ne (by omega), tl_I_ne (by omega), tl_I_ne (by omega)]
theorem tl_Sp_k (S : tl_Sp h p l) {i v k : Nat} (hi : l[i]? = some v) (hk : k < 4) : h.2.1 (p + 1 + k) i = nI (if k = 0 then sL v else if k = 1 then sH v else if k = 2 then sF v else sT v) := by
  obtain ⟨a, b, c, d⟩ := S.2 i v hi
  rcases (show k = 0 ∨ k = 1 ∨ k = 2 ∨ k = 3 by omega) with rfl | rfl | rfl | rfl
  · exact a
  · exact b
  · exact c
  · exact d
theorem tl_Sp_of (h0 : h.2.1 p 4 = nI l.length) (hk : ∀ i v, l[i]? = some v → ∀ k, k < 4 → h.2.1 (p + 1 + k) i = nI (if k = 0 then sL v else if k = 1 then sH v else if k = 2 then sF v else sT v)) : tl_Sp h p l := ⟨h0, fun i v hi => ⟨hk i v hi 0 (by omega), hk i v hi 1 (by omega), hk i v hi 2 (by omega), hk i v hi 3 (by omega)⟩⟩
theorem t5_cpL (hp : p ∈ am_sps) (hq : q ∈ am_sps) (hn : p ≠ q) {m : Nat} (hm : m ≤ 16) : ∀ n j h, tl_Sh h → h.2.1 p 4 = nI m → j ≤ m → m - j < n → ∃ h2, lo_X5_copyOf_10 am_f p q n (nI j) h = some h2 ∧ tl_on (tl_P5 p) h h2 ∧ h2.2.1 p 4 = nI m ∧ ∀ k, k < 4 → ∀ x, x < m → h2.2.1 (p + 1 + k) x = if x < j then h.2.1 (p + 1 + k) x else h.2.1 (q + 1 + k) x := by
  intro n
  induction n with
  | zero => intro j h _ _ _ q; omega
  | succ n ih =>
    intro j h H h4 hj hjn
    rw [lo_X5_copyOf_10.eq_2, sp_i H hp, tl_bs, h4]
    simp only [nI_leI (show m < 2 ^ 31 by omega) (show j < 2 ^ 31 by omega)]
    by_cases h1 : m ≤ j
    · rw [if_pos h1]
      exact ⟨h, rfl, tl_on_rf, h4, fun k _ x hx => by rw [if_pos (by omega)]⟩
    · rw [if_neg h1, t5_tk H hp hq (by omega) (by omega), tl_bs, nI_1]
      have on1 : tl_on (tl_P5 p) h (tkF h p q j j) := tkF_on
      obtain ⟨h2, a1, a2, a3, a4⟩ := ih (j + 1) _ (tl_on_Sh H on1) (tkF_0.trans h4) (by omega) (by omega)
      refine ⟨h2, a1, tl_on_tr on1 a2, a3, fun k hk x hx => ?_⟩
      rw [a4 k hk x hx, tkF_at hk, show q + 1 + k = q + (1 + k) by omega, on1.2.2.2 _ (tl_P5_off hp hq hn (1 + k) (by omega)), ← show q + 1 + k = q + (1 + k) by omega]
      by_cases e1 : x < j
      · rw [if_pos (by omega), if_neg (by omega), if_pos e1]
      · by_cases e2 : x = j
        · subst e2
          rw [if_pos (by omega), if_pos rfl, if_neg (by omega)]
        · rw [if_neg (by omega), if_neg e1]
theorem t5_cp (H : tl_Sh h) (hp : p ∈ am_sps) (hq : q ∈ am_sps) (hn : p ≠ q) (S : tl_Sp h q l) (hl : l.length ≤ 16) : ∃ h2, mi_X5_copyOf am_f h p q = some h2 ∧ tl_Sp h2 p l ∧ tl_on (tl_P5 p) h h2 := by
  have H1 : tl_Sh (am_I h p 4 (nI l.length)) := tl_Sh_I H
  have on1 : tl_on (tl_P5 p) h (am_I h p 4 (nI l.length)) := tl_on_I tl_P5_0
  obtain ⟨h2, a1, a2, a3, a4⟩ := t5_cpL hp hq hn hl am_f 0 _ H1 (by rw [tl_I_at, if_pos rfl]) (Nat.zero_le _) (by unfold am_f; omega)
  refine ⟨h2, ?_, tl_Sp_of a3 (fun i v hi k hk => ?_), tl_on_tr on1 a2⟩
  · unfold mi_X5_copyOf
    rw [sp_c H hp, tl_bs, n5 H hq S, tl_bs, sp_w H hp, tl_bs]
    exact (congrArg (fun z => Option.bind z fun x => some x) a1).trans rfl
  · rw [a4 k hk i (tl_lt_of hi), if_neg (by omega), show q + 1 + k = q + (1 + k) by omega, on1.2.2.2 _ (tl_P5_off hp hq hn (1 + k) (by omega)), ← show q + 1 + k = q + (1 + k) by omega]
    exact tl_Sp_k S hi hk
theorem t5_drL (hp : p ∈ am_sps) {m : Nat} (hm : m ≤ 15) : ∀ n j h, tl_Sh h → h.2.1 p 4 = nI m → j ≤ m → m - j < n → ∃ h2, lo_X5_drop_22 am_f p n (nI j) h = some h2 ∧ tl_on (tl_P5 p) h h2 ∧ h2.2.1 p 4 = nI m ∧ ∀ k, k < 4 → ∀ x, x < m → h2.2.1 (p + 1 + k) x = if x < j then h.2.1 (p + 1 + k) x else h.2.1 (p + 1 + k) (x + 1) := by
  intro n
  induction n with
  | zero => intro j h _ _ _ q; omega
  | succ n ih =>
    intro j h H h4 hj hjn
    rw [lo_X5_drop_22.eq_2, sp_i H hp, tl_bs, h4]
    simp only [nI_leI (show m < 2 ^ 31 by omega) (show j < 2 ^ 31 by omega)]
    by_cases h1 : m ≤ j
    · rw [if_pos h1]
      exact ⟨h, rfl, tl_on_rf, h4, fun k _ x hx => by rw [if_pos (by omega)]⟩
    · rw [if_neg h1, nI_1, t5_tk H hp hp (by omega) (by omega), tl_bs]
      have on1 : tl_on (tl_P5 p) h (tkF h p p (j + 1) j) := tkF_on
      obtain ⟨h2, a1, a2, a3, a4⟩ := ih (j + 1) _ (tl_on_Sh H on1) (tkF_0.trans h4) (by omega) (by omega)
      refine ⟨h2, a1, tl_on_tr on1 a2, a3, fun k hk x hx => ?_⟩
      rw [a4 k hk x hx, tkF_at hk, tkF_at hk]
      by_cases e1 : x < j
      · rw [if_pos (by omega), if_neg (by omega), if_pos e1]
      · by_cases e2 : x = j
        · subst e2
          rw [if_pos (by omega), if_pos rfl, if_neg (by omega)]
        · rw [if_neg (by omega), if_neg (by omega), if_neg e1]
end SW
-- doings on a list of spans
def tl_cut (l : List Nat) (a : Int32) : Int32 × List Nat := if tl_hs a l.length = true then (nI (l.length - 1), l.eraseIdx a.toInt.toNat) else (-1, l)
def tl_fo (l : List Nat) (bt : Int32) (lo hi : Nat) : Nat → Bool := fun i => decide (¬ nI i = bt ∧ sL (l.getD i 0) = lo ∧ sH (l.getD i 0) = hi)
def tl_fe (l : List Nat) (bt : Int32) (lo hi s t : Nat) (n : Nat) : Bool := decide (∀ i, i < n → tl_fo l bt lo hi i = true → ¬ (s ≤ sT (l.getD i 0) ∧ sF (l.getD i 0) ≤ t))
def tl_to (l : List Nat) (bt : Int32) (lo hi : Nat) : Nat → Nat := tl_O (fun i => if tl_fo l bt lo hi i = true then sX (sF (l.getD i 0)) (sT (l.getD i 0)) else 0)
def tl_put (l : List Nat) (a b c d : Int32) : Int32 × List Nat :=
  if tl_kn a = true ∧ tl_kn b = true ∧ tl_tm c = true ∧ tl_tm d = true then
    if a = b ∨ d.toInt.toNat < c.toInt.toNat then (-2, l)
    else if tl_fe l (-9) (min a.toInt.toNat b.toInt.toNat) (max a.toInt.toNat b.toInt.toNat) c.toInt.toNat d.toInt.toNat l.length = true then
      (if l.length < 16 then (nI l.length, l ++ [sC (min a.toInt.toNat b.toInt.toNat) (max a.toInt.toNat b.toInt.toNat) c.toInt.toNat d.toInt.toNat]) else (-4, l))
    else (-3, l)
  else (-1, l)
def tl_end (l : List Nat) (a b : Int32) : Int32 × List Nat :=
  if tl_hs a l.length = true ∧ tl_tm b = true then
    if b.toInt.toNat = sT (l.getD a.toInt.toNat 0) ∨ b.toInt.toNat < sF (l.getD a.toInt.toNat 0) then (-3, l)
    else if tl_fe l a (sL (l.getD a.toInt.toNat 0)) (sH (l.getD a.toInt.toNat 0)) (sF (l.getD a.toInt.toNat 0)) b.toInt.toNat l.length = true then
      (nI (sT (l.getD a.toInt.toNat 0)), l.set a.toInt.toNat (sC (sL (l.getD a.toInt.toNat 0)) (sH (l.getD a.toInt.toNat 0)) (sF (l.getD a.toInt.toNat 0)) b.toInt.toNat))
    else (-3, l)
  else (-1, l)
theorem nI_tt {k : Nat} (h : k < 2 ^ 31) : (nI k).toInt.toNat = k := by rw [nI_toInt h]; rfl
theorem tl_O_lt {g : Nat → Nat} : ∀ n, (∀ i, i < n → g i < 65536) → tl_O g n < 65536
  | 0, _ => by unfold tl_O; decide
  | n + 1, hg => Nat.or_lt_two_pow (n := 16) (tl_O_lt n (fun i hi => hg i (by omega))) (hg n (by omega))
theorem sX_lt (s t : Nat) : sX s t < 65536 := tl_B_16 _ (Nat.le_refl 16)
theorem tl_to_lt {l : List Nat} {bt : Int32} {lo hi : Nat} (n : Nat) : tl_to l bt lo hi n < 65536 := tl_O_lt n (fun i _ => by
  split
  · exact sX_lt _ _
  · decide)
theorem sX_tb {s t k : Nat} : (sX s t).testBit k = true ↔ k < 16 ∧ s ≤ k ∧ k ≤ t := by
  unfold sX
  rw [tl_B_tb, Bool.and_eq_true, decide_eq_true_eq, decide_eq_true_eq]
theorem tl_to_tb {l : List Nat} {bt : Int32} {lo hi n k : Nat} : (tl_to l bt lo hi n).testBit k = true ↔ ∃ i, i < n ∧ tl_fo l bt lo hi i = true ∧ k < 16 ∧ sF (l.getD i 0) ≤ k ∧ k ≤ sT (l.getD i 0) := by
  unfold tl_to
  rw [tl_O_tb]
  constructor
  · rintro ⟨i, h1, h2⟩
    by_cases c : tl_fo l bt lo hi i = true
    · rw [if_pos c, sX_tb] at h2
      exact ⟨i, h1, c, h2⟩
    · rw [if_neg c, Nat.zero_testBit] at h2
      cases h2
  · rintro ⟨i, h1, c, h2⟩
    exact ⟨i, h1, by rw [if_pos c, sX_tb]; exact h2⟩
theorem tl_fe_to {l : List Nat} {bt : Int32} {lo hi s t : Nat} (hst : s ≤ t) (ht : t < 16) (hw : tl_wf l) : (tl_to l bt lo hi l.length &&& sX s t = 0) ↔ tl_fe l bt lo hi s t l.length = true := by
  unfold tl_fe
  rw [decide_eq_true_eq]
  constructor
  · intro h i il c ⟨c1, c2⟩
    have w := tl_wf_at hw (tl_gd il)
    have e : (tl_to l bt lo hi l.length &&& sX s t).testBit (max s (sF (l.getD i 0))) = true := by
      rw [Nat.testBit_and, Bool.and_eq_true, tl_to_tb, sX_tb]
      have := sT_lt (l.getD i 0)
      exact ⟨⟨i, il, c, by omega, by omega, by omega⟩, by omega, by omega, by omega⟩
    rw [h, Nat.zero_testBit] at e
    cases e
  · intro h
    apply Nat.eq_of_testBit_eq
    intro k
    rw [Nat.zero_testBit, Bool.eq_false_iff]
    intro e
    rw [Nat.testBit_and, Bool.and_eq_true, tl_to_tb, sX_tb] at e
    obtain ⟨⟨i, il, c, k1, k2, k3⟩, k4, k5, k6⟩ := e
    exact h i il c ⟨by omega, by omega⟩
theorem am_mn_n {a b : Nat} (ha : a < 2 ^ 31) (hb : b < 2 ^ 31) : am_mn (nI a) (nI b) = nI (min a b) := by
  unfold am_mn
  simp only [nI_ltI hb ha]
  by_cases q : b < a
  · rw [if_pos q, Nat.min_eq_right (by omega)]
  · rw [if_neg q, Nat.min_eq_left (by omega)]
theorem tl_and0 {a b : Nat} (ha : a < 65536) : ((nI a &&& nI b) = 0) ↔ (a &&& b = 0) := by
  have := Nat.and_le_left (n := a) (m := b)
  rw [fa_and, il_0, nI_eq (by omega) (by decide)]
section SD
variable {h : am_H} {p : Nat} {l : List Nat}
theorem t5_io (H : tl_Sh h) (hp : p ∈ am_sps) (S : tl_Sp h p l) (hw : tl_wf l) {i v a b : Nat} (hi : l[i]? = some v) (ha : a < 8) (hb : b < 8) : mi_X5_isOf am_f h p (nI i) (nI a) (nI b) = some (decide (sL v = min a b ∧ sH v = max a b)) := by
  obtain ⟨h16, hv, -, -⟩ := tl_wf_at hw hi
  have := sL_lt hv
  have := sH_lt v
  unfold mi_X5_isOf
  simp only [sp_c H hp, r5_0 H hp, r5_1 H hp, tl_bs, s5_0 H hp S hi h16, s5_1 H hp S hi h16, am_mn_n (show a < 2 ^ 31 by omega) (show b < 2 ^ 31 by omega), am_mx_n (show a < 2 ^ 31 by omega) (show b < 2 ^ 31 by omega), nI_eq (show sL v < 2 ^ 31 by omega) (show min a b < 2 ^ 31 by omega), nI_eq (show sH v < 2 ^ 31 by omega) (show max a b < 2 ^ 31 by omega)]
  by_cases c1 : sL v = min a b
  · by_cases c2 : sH v = max a b
    · rw [if_pos c1, if_pos c2, tl_bs]; exact tl_dt ⟨c1, c2⟩
    · rw [if_pos c1, if_neg c2, tl_bs]; exact tl_df (fun z => c2 z.2)
  · rw [if_neg c1, tl_bs]; exact tl_df (fun z => c1 z.1)
theorem t5_toL (H : tl_Sh h) (hp : p ∈ am_sps) (S : tl_Sp h p l) (hw : tl_wf l) (bt : Int32) {a b : Nat} (ha : a < 8) (hb : b < 8) : ∀ n j, j ≤ l.length → l.length - j < n → lo_X5_timesOf_6 am_f h p (nI a) (nI b) bt n (nI (tl_to l bt (min a b) (max a b) j)) (nI j) = some (nI (tl_to l bt (min a b) (max a b) l.length)) := by
  have h16 := hw.1
  intro n
  induction n with
  | zero => intro j _ h; omega
  | succ n ih =>
    intro j hj hjn
    rw [lo_X5_timesOf_6.eq_2, n5 H hp S, tl_bs]
    simp only [nI_leI (show l.length < 2 ^ 31 by omega) (show j < 2 ^ 31 by omega)]
    by_cases h1 : l.length ≤ j
    · rw [if_pos h1, show j = l.length by omega]
    · have hg := tl_gd (l := l) (i := j) (by omega)
      have j16 : j < 16 := by omega
      rw [if_neg h1]
      simp only [t5_io H hp S hw hg ha hb, r5_2 H hp, r5_3 H hp, tl_bs, s5_2 H hp S hg j16, s5_3 H hp S hg j16, t6_st am_f h (sF_lt (l.getD j 0)) (sT_lt (l.getD j 0)), fa_or, nI_1]
      have key : ((if nI j = bt then some (nI (tl_to l bt (min a b) (max a b) j)) else if decide (sL (l.getD j 0) = min a b ∧ sH (l.getD j 0) = max a b) = true then some (nI (tl_to l bt (min a b) (max a b) j ||| sX (sF (l.getD j 0)) (sT (l.getD j 0)))) else some (nI (tl_to l bt (min a b) (max a b) j))) : Option Int32) = some (nI (tl_to l bt (min a b) (max a b) (j + 1))) := by
        show _ = some (nI (tl_to l bt (min a b) (max a b) j ||| (if tl_fo l bt (min a b) (max a b) j = true then sX (sF (l.getD j 0)) (sT (l.getD j 0)) else 0)))
        by_cases c1 : nI j = bt
        · rw [if_pos c1, if_neg (by unfold tl_fo; rw [decide_eq_true_eq]; exact fun z => z.1 c1), Nat.or_zero]
        · by_cases c2 : sL (l.getD j 0) = min a b ∧ sH (l.getD j 0) = max a b
          · rw [if_neg c1, if_pos (decide_eq_true c2), if_pos (show tl_fo l bt (min a b) (max a b) j = true from decide_eq_true ⟨c1, c2⟩)]
          · rw [if_neg c1, if_neg (by rw [decide_eq_true_eq]; exact c2), if_neg (by unfold tl_fo; rw [decide_eq_true_eq]; exact fun z => c2 z.2), Nat.or_zero]
      rw [key, tl_bs]
      exact ih (j + 1) (by omega) (by omega)
theorem t5_to (H : tl_Sh h) (hp : p ∈ am_sps) (S : tl_Sp h p l) (hw : tl_wf l) (bt : Int32) {a b : Nat} (ha : a < 8) (hb : b < 8) : mi_X5_timesOf am_f h p (nI a) (nI b) bt = some (nI (tl_to l bt (min a b) (max a b) l.length)) := by
  have h16 := hw.1
  unfold mi_X5_timesOf
  have e := t5_toL H hp S hw bt ha hb am_f 0 (Nat.zero_le _) (by unfold am_f; omega)
  rw [sp_c H hp, tl_bs]
  exact (congrArg (fun z => Option.bind z fun x => some x) e).trans rfl
theorem tl_wf_app (hw : tl_wf l) {v : Nat} (hl : l.length < 16) (hv : v < 16384 ∧ sL v < sH v ∧ sF v ≤ sT v) : tl_wf (l ++ [v]) := by
  refine ⟨by rw [List.length_append]; simp; omega, fun x hx => ?_⟩
  rcases List.mem_append.mp hx with hx | hx
  · exact hw.2 x hx
  · have : x = v := by simpa using hx
    subst this; exact hv
theorem tl_wf_er (hw : tl_wf l) (k : Nat) : tl_wf (l.eraseIdx k) := ⟨Nat.le_trans (List.length_eraseIdx_le l k) hw.1, fun x hx => hw.2 x (List.mem_of_mem_eraseIdx hx)⟩
theorem tl_wf_set (hw : tl_wf l) {k v : Nat} (hv : v < 16384 ∧ sL v < sH v ∧ sF v ≤ sT v) : tl_wf (l.set k v) := ⟨by rw [List.length_set]; exact hw.1, fun x hx => by
  rcases List.mem_or_eq_of_mem_set hx with hx | hx
  · exact hw.2 x hx
  · subst hx; exact hv⟩
theorem tl_put_v {a b s t : Nat} (ha : a < 8) (hb : b < 8) (hs : s < 16) (ht : t < 16) (hn : a ≠ b) (hst : s ≤ t) : sC (min a b) (max a b) s t < 16384 ∧ sL (sC (min a b) (max a b) s t) < sH (sC (min a b) (max a b) s t) ∧ sF (sC (min a b) (max a b) s t) ≤ sT (sC (min a b) (max a b) s t) := by
  rw [sC_L (by omega) hs ht, sC_H (by omega) hs ht, sC_F hs ht, sC_T ht]
  exact ⟨sC_lt (by omega) (by omega) hs ht, by omega, hst⟩
theorem t5_add (H : tl_Sh h) (hp : p ∈ am_sps) (S : tl_Sp h p l) (hw : tl_wf l) (a b c d : Int32) : ∃ h2, mi_X5_add am_f h p a b c d = some ((tl_put l a b c d).1, h2) ∧ tl_Sp h2 p (tl_put l a b c d).2 ∧ tl_wf (tl_put l a b c d).2 ∧ tl_on (tl_P5 p) h h2 := by
  have h16 := hw.1
  unfold mi_X5_add tl_put
  simp only [sp_c H hp, tl_bs, t6_kn, t6_tm]
  by_cases qa : tl_kn a = true
  · by_cases qb : tl_kn b = true
    · by_cases qc : tl_tm c = true
      · by_cases qd : tl_tm d = true
        · obtain ⟨a, a8, rfl⟩ := tl_kn_of qa
          obtain ⟨b, b8, rfl⟩ := tl_kn_of qb
          obtain ⟨c, c16, rfl⟩ := tl_tm_of qc
          obtain ⟨d, d16, rfl⟩ := tl_tm_of qd
          simp only [if_pos qa, if_pos qb, if_pos qc, if_pos qd, nI_tt (show a < 2 ^ 31 by omega), nI_tt (show b < 2 ^ 31 by omega), nI_tt (show c < 2 ^ 31 by omega), nI_tt (show d < 2 ^ 31 by omega), nI_eq (show a < 2 ^ 31 by omega) (show b < 2 ^ 31 by omega), nI_leI (show c < 2 ^ 31 by omega) (show d < 2 ^ 31 by omega), and_self, qa, qb, qc, qd, if_true]
          by_cases e1 : a = b
          · rw [if_pos e1, if_pos (Or.inl e1)]
            exact ⟨h, rfl, S, hw, tl_on_rf⟩
          · by_cases e2 : c ≤ d
            · rw [if_neg e1, if_pos e2, if_neg (by omega), t5_to H hp S hw _ a8 b8, tl_bs, t6_st am_f h c16 d16, tl_bs]
              simp only [tl_and0 (tl_to_lt (l := l) (bt := -9) (lo := min a b) (hi := max a b) l.length), tl_fe_to e2 d16 hw]
              by_cases e3 : tl_fe l (-9) (min a b) (max a b) c d l.length = true
              · rw [if_pos e3, if_pos e3, n5 H hp S, tl_bs]
                simp only [il_16, nI_ltI (show l.length < 2 ^ 31 by omega) (show 16 < 2 ^ 31 by decide)]
                by_cases e4 : l.length < 16
                · rw [if_pos e4, if_pos e4]
                  have v := tl_put_v a8 b8 c16 d16 e1 e2
                  have H1 : tl_Sh (am_I h (p + 1 + 0) l.length (nI (min a b))) := tl_Sh_I H
                  have H2 : tl_Sh (am_I (am_I h (p + 1 + 0) l.length (nI (min a b))) (p + 1 + 1) l.length (nI (max a b))) := tl_Sh_I H1
                  have H3 : tl_Sh (am_I (am_I (am_I h (p + 1 + 0) l.length (nI (min a b))) (p + 1 + 1) l.length (nI (max a b))) (p + 1 + 2) l.length (nI c)) := tl_Sh_I H2
                  have H4 : tl_Sh (am_I (am_I (am_I (am_I h (p + 1 + 0) l.length (nI (min a b))) (p + 1 + 1) l.length (nI (max a b))) (p + 1 + 2) l.length (nI c)) (p + 1 + 3) l.length (nI d)) := tl_Sh_I H3
                  have H5 : tl_Sh (am_I (am_I (am_I (am_I (am_I h (p + 1 + 0) l.length (nI (min a b))) (p + 1 + 1) l.length (nI (max a b))) (p + 1 + 2) l.length (nI c)) (p + 1 + 3) l.length (nI d)) p 4 (nI (l.length + 1))) := tl_Sh_I H4
                  have i1 : (am_I h (p + 1 + 0) l.length (nI (min a b))).2.1 p 4 = nI l.length := by rw [tl_I_ne (by omega)]; exact S.1
                  have i2 : (am_I (am_I h (p + 1 + 0) l.length (nI (min a b))) (p + 1 + 1) l.length (nI (max a b))).2.1 p 4 = nI l.length := by rw [tl_I_ne (by omega)]; exact i1
                  have i3 : (am_I (am_I (am_I h (p + 1 + 0) l.length (nI (min a b))) (p + 1 + 1) l.length (nI (max a b))) (p + 1 + 2) l.length (nI c)).2.1 p 4 = nI l.length := by rw [tl_I_ne (by omega)]; exact i2
                  have i4 : (am_I (am_I (am_I (am_I h (p + 1 + 0) l.length (nI (min a b))) (p + 1 + 1) l.length (nI (max a b))) (p + 1 + 2) l.length (nI c)) (p + 1 + 3) l.length (nI d)).2.1 p 4 = nI l.length := by rw [tl_I_ne (by omega)]; exact i3
                  rw [r5_0 H hp, tl_bs, tl_bs, am_mn_n (by omega) (by omega), sp_s H hp (by decide) e4, tl_bs, r5_1 H1 hp, tl_bs, sp_i H1 hp, tl_bs, i1, am_mx_n (by omega) (by omega), sp_s H1 hp (by decide) e4, tl_bs, r5_2 H2 hp, tl_bs, sp_i H2 hp, tl_bs, i2, sp_s H2 hp (by decide) e4, tl_bs, r5_3 H3 hp, tl_bs, sp_i H3 hp, tl_bs, i3, sp_s H3 hp (by decide) e4, tl_bs, sp_i H4 hp, tl_bs, i4, nI_1, sp_w H4 hp, tl_bs, sp_i H5 hp, tl_bs, tl_I_at, if_pos rfl, il_1, pk_sub (by omega), Nat.add_sub_cancel]
                  refine ⟨_, rfl, ?_, tl_wf_app hw e4 v, tl_on_tr (tl_on_tr (tl_on_tr (tl_on_tr (tl_on_I (tl_P5_k (by decide))) (tl_on_I (tl_P5_k (by decide)))) (tl_on_I (tl_P5_k (by decide)))) (tl_on_I (tl_P5_k (by decide)))) (tl_on_I tl_P5_0)⟩
                  refine tl_Sp_of (by rw [tl_I_at, if_pos rfl, List.length_append]; rfl) (fun i v hi k hk => ?_)
                  have hc : ∀ i v, (l ++ [sC (min a b) (max a b) c d])[i]? = some v → (i ≠ l.length ∧ l[i]? = some v) ∨ (i = l.length ∧ v = sC (min a b) (max a b) c d) := fun i v hi => by
                    rcases tl_app hi with z | z
                    · exact Or.inl ⟨by have := tl_lt_of z; omega, z⟩
                    · exact Or.inr z
                  rcases (show k = 0 ∨ k = 1 ∨ k = 2 ∨ k = 3 by omega) with rfl | rfl | rfl | rfl
                  · rw [tl_I_ne (by omega), tl_I_ne (by omega), tl_I_ne (by omega), tl_I_ne (by omega), tl_I_at]
                    rcases hc i v hi with ⟨z1, z2⟩ | ⟨rfl, rfl⟩
                    · rw [if_neg z1]; exact tl_Sp_k S z2 (by decide)
                    · rw [if_pos rfl, if_pos rfl, sC_L (by omega) c16 d16]
                  · rw [tl_I_ne (by omega), tl_I_ne (by omega), tl_I_ne (by omega), tl_I_at, tl_I_ne (by omega)]
                    rcases hc i v hi with ⟨z1, z2⟩ | ⟨rfl, rfl⟩
                    · rw [if_neg z1]; exact tl_Sp_k S z2 (by decide)
                    · rw [if_pos rfl, if_neg (by decide), if_pos rfl, sC_H (by omega) c16 d16]
                  · rw [tl_I_ne (by omega), tl_I_ne (by omega), tl_I_at, tl_I_ne (by omega), tl_I_ne (by omega)]
                    rcases hc i v hi with ⟨z1, z2⟩ | ⟨rfl, rfl⟩
                    · rw [if_neg z1]; exact tl_Sp_k S z2 (by decide)
                    · rw [if_pos rfl, if_neg (by decide), if_neg (by decide), if_pos rfl, sC_F c16 d16]
                  · rw [tl_I_ne (by omega), tl_I_at, tl_I_ne (by omega), tl_I_ne (by omega), tl_I_ne (by omega)]
                    rcases hc i v hi with ⟨z1, z2⟩ | ⟨rfl, rfl⟩
                    · rw [if_neg z1]; exact tl_Sp_k S z2 (by decide)
                    · rw [if_pos rfl, if_neg (by decide), if_neg (by decide), if_neg (by decide), sC_T d16]
                · rw [if_neg e4, if_neg e4]
                  exact ⟨h, rfl, S, hw, tl_on_rf⟩
              · rw [if_neg e3, if_neg e3]
                exact ⟨h, rfl, S, hw, tl_on_rf⟩
            · rw [if_neg e1, if_neg e2, if_pos (Or.inr (by omega))]
              exact ⟨h, rfl, S, hw, tl_on_rf⟩
        · simp only [qa, qb, qc, qd, if_true, and_false, if_false]
          exact ⟨h, rfl, S, hw, tl_on_rf⟩
      · simp only [qa, qb, qc, if_true, and_false, false_and, if_false]
        exact ⟨h, rfl, S, hw, tl_on_rf⟩
    · simp only [qa, qb, if_true, and_false, false_and, if_false]
      exact ⟨h, rfl, S, hw, tl_on_rf⟩
  · simp only [qa, false_and, if_false]
    exact ⟨h, rfl, S, hw, tl_on_rf⟩
theorem t5_drop (H : tl_Sh h) (hp : p ∈ am_sps) (S : tl_Sp h p l) (hw : tl_wf l) (a : Int32) : ∃ h2, mi_X5_drop am_f h p a = some ((tl_cut l a).1, h2) ∧ tl_Sp h2 p (tl_cut l a).2 ∧ tl_wf (tl_cut l a).2 ∧ tl_on (tl_P5 p) h h2 := by
  have h16 := hw.1
  unfold mi_X5_drop tl_cut
  simp only [sp_c H hp, tl_bs, t5_has H hp S h16]
  by_cases c : tl_hs a l.length = true
  · obtain ⟨k, k1, rfl⟩ := tl_hs_of c h16
    rw [if_pos c, if_pos c, n5 H hp S, tl_bs, il_1, pk_sub (by omega), sp_w H hp, tl_bs, nI_tt (by omega)]
    have H1 : tl_Sh (am_I h p 4 (nI (l.length - 1))) := tl_Sh_I H
    have on1 : tl_on (tl_P5 p) h (am_I h p 4 (nI (l.length - 1))) := tl_on_I tl_P5_0
    obtain ⟨h2, a1, a2, a3, a4⟩ := t5_drL hp (m := l.length - 1) (by omega) am_f k _ H1 (by rw [tl_I_at, if_pos rfl]) (by omega) (by unfold am_f; omega)
    have le : (l.eraseIdx k).length = l.length - 1 := List.length_eraseIdx_of_lt k1
    refine ⟨h2, ?_, tl_Sp_of (by rw [le]; exact a3) (fun i v hi m hm => ?_), tl_wf_er hw k, tl_on_tr on1 a2⟩
    · rw [a1, tl_bs, sp_i (tl_on_Sh H1 a2) hp, tl_bs, a3]
    · have il := tl_lt_of hi
      rw [le] at il
      rw [a4 m hm i il]
      rw [List.getElem?_eraseIdx] at hi
      by_cases q : i < k
      · rw [if_pos q] at hi ⊢
        rw [tl_I_ne (by omega)]
        exact tl_Sp_k S hi hm
      · rw [if_neg q] at hi ⊢
        rw [tl_I_ne (by omega)]
        exact tl_Sp_k S hi hm
  · rw [if_neg c, if_neg c]
    exact ⟨h, rfl, S, hw, tl_on_rf⟩
theorem t5_stop (H : tl_Sh h) (hp : p ∈ am_sps) (S : tl_Sp h p l) (hw : tl_wf l) (a b : Int32) : ∃ h2, mi_X5_stopAt am_f h p a b = some ((tl_end l a b).1, h2) ∧ tl_Sp h2 p (tl_end l a b).2 ∧ tl_wf (tl_end l a b).2 ∧ tl_on (tl_P5 p) h h2 := by
  have h16 := hw.1
  unfold mi_X5_stopAt tl_end
  simp only [sp_c H hp, tl_bs, t5_has H hp S h16, t6_tm]
  by_cases c : tl_hs a l.length = true
  · by_cases d : tl_tm b = true
    · obtain ⟨k, k1, rfl⟩ := tl_hs_of c h16
      obtain ⟨t, t16, rfl⟩ := tl_tm_of d
      have hg := tl_gd (l := l) (i := k) k1
      obtain ⟨-, hv, w1, w2⟩ := tl_wf_at hw hg
      have k16 : k < 16 := by omega
      rw [if_pos c, if_pos d, if_pos ⟨c, d⟩, nI_tt (by omega), nI_tt (by omega)]
      simp only [r5_3 H hp, r5_2 H hp, r5_1 H hp, r5_0 H hp, tl_bs, s5_0 H hp S hg k16, s5_1 H hp S hg k16, s5_2 H hp S hg k16, s5_3 H hp S hg k16]
      generalize hvv : l.getD k 0 = v at hv w1 w2 ⊢
      have lL := sL_lt hv
      have lH := sH_lt v
      have lF := sF_lt v
      have lT := sT_lt v
      simp only [nI_eq (show t < 2 ^ 31 by omega) (show sT v < 2 ^ 31 by omega), nI_leI (show sF v < 2 ^ 31 by omega) (show t < 2 ^ 31 by omega)]
      by_cases e1 : t = sT v
      · rw [if_pos e1, if_pos (Or.inl e1)]
        exact ⟨h, rfl, S, hw, tl_on_rf⟩
      · by_cases e2 : sF v ≤ t
        · rw [if_neg e1, if_pos e2, if_neg (by omega), t5_to H hp S hw _ lL lH, tl_bs, t6_st am_f h lF t16, tl_bs, Nat.min_eq_left (by omega), Nat.max_eq_right (by omega)]
          simp only [tl_and0 (tl_to_lt (l := l) (bt := nI k) (lo := sL v) (hi := sH v) l.length), tl_fe_to e2 t16 hw]
          by_cases e3 : tl_fe l (nI k) (sL v) (sH v) (sF v) t l.length = true
          · rw [if_pos e3, if_pos e3, sp_s H hp (by decide) k16, tl_bs]
            have cv : sC (sL v) (sH v) (sF v) t < 16384 ∧ sL (sC (sL v) (sH v) (sF v) t) < sH (sC (sL v) (sH v) (sF v) t) ∧ sF (sC (sL v) (sH v) (sF v) t) ≤ sT (sC (sL v) (sH v) (sF v) t) := by
              rw [sC_L lH lF t16, sC_H lH lF t16, sC_F lF t16, sC_T t16]
              exact ⟨sC_lt lL lH lF t16, w1, e2⟩
            refine ⟨_, rfl, tl_Sp_of (by rw [tl_I_ne (by omega), List.length_set]; exact S.1) (fun i x hi m hm => ?_), tl_wf_set hw cv, tl_on_I (tl_P5_k (by decide))⟩
            rw [List.getElem?_set] at hi
            by_cases q : k = i
            · subst q
              rw [if_pos rfl, if_pos k1] at hi
              have hx := (Option.some.inj hi).symm
              subst hx
              have z := fun m (hm : m < 4) => tl_Sp_k S hg hm
              rw [hvv] at z
              rcases (show m = 0 ∨ m = 1 ∨ m = 2 ∨ m = 3 by omega) with rfl | rfl | rfl | rfl
              · rw [tl_I_ne (by omega), if_pos rfl, sC_L lH lF t16]; exact z 0 (by decide)
              · rw [tl_I_ne (by omega), if_neg (by decide), if_pos rfl, sC_H lH lF t16]; exact z 1 (by decide)
              · rw [tl_I_ne (by omega), if_neg (by decide), if_neg (by decide), if_pos rfl, sC_F lF t16]; exact z 2 (by decide)
              · rw [tl_I_at, if_pos rfl, if_neg (by decide), if_neg (by decide), if_neg (by decide), sC_T t16]
            · rw [if_neg q] at hi
              by_cases m3 : m = 3
              · subst m3
                rw [tl_I_at, if_neg (by omega)]
                exact tl_Sp_k S hi (by decide)
              · rw [tl_I_ne (by omega)]
                exact tl_Sp_k S hi hm
          · rw [if_neg e3, if_neg e3]
            exact ⟨h, rfl, S, hw, tl_on_rf⟩
        · rw [if_neg e1, if_neg e2, if_pos (Or.inr (by omega))]
          exact ⟨h, rfl, S, hw, tl_on_rf⟩
    · rw [if_pos c, if_neg d, if_neg (fun z => d z.2)]
      exact ⟨h, rfl, S, hw, tl_on_rf⟩
  · rw [if_neg c, if_neg (fun z => c z.1)]
    exact ⟨h, rfl, S, hw, tl_on_rf⟩
end SD
