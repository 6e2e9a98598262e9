theorem tl_bs {α β : Type} (a : α) (f : α → Option β) : Option.bind (some a) f = f a := rfl
theorem fa_and (a b : Nat) : nI a &&& nI b = nI (a &&& b) := by
  apply Int32.toBitVec_inj.1
  show BitVec.ofNat 32 a &&& BitVec.ofNat 32 b = BitVec.ofNat 32 (a &&& b)
  apply BitVec.eq_of_getLsbD_eq
  intro i hi
  simp [hi]
theorem fa_or (a b : Nat) : nI a ||| nI b = nI (a ||| b) := by
  apply Int32.toBitVec_inj.1
  show BitVec.ofNat 32 a ||| BitVec.ofNat 32 b = BitVec.ofNat 32 (a ||| b)
  apply BitVec.eq_of_getLsbD_eq
  intro i hi
  simp [hi]
theorem fa_xor (a b : Nat) : nI a ^^^ nI b = nI (a ^^^ b) := by
  apply Int32.toBitVec_inj.1
  show BitVec.ofNat 32 a ^^^ BitVec.ofNat 32 b = BitVec.ofNat 32 (a ^^^ b)
  apply BitVec.eq_of_getLsbD_eq
  intro i hi
  simp [hi]
theorem tl_sh1 : ∀ k, k < 31 → (1 : Int32) <<< (nI k &&& 31) = nI (2 ^ k) := by decide +kernel
theorem tl_and31 : ∀ k, k < 32 → nI k &&& 31 = nI k := by decide +kernel
-- codes of spans
def sL (v : Nat) : Nat := v / 2048
def sH (v : Nat) : Nat := v / 256 % 8
def sF (v : Nat) : Nat := v / 16 % 16
def sT (v : Nat) : Nat := v % 16
def sC (a b s t : Nat) : Nat := ((a * 8 + b) * 16 + s) * 16 + t
theorem sL_lt {v : Nat} (h : v < 16384) : sL v < 8 := by unfold sL; omega
theorem sH_lt (v : Nat) : sH v < 8 := by unfold sH; omega
theorem sF_lt (v : Nat) : sF v < 16 := by unfold sF; omega
theorem sT_lt (v : Nat) : sT v < 16 := by unfold sT; omega
theorem sC_lt {a b s t : Nat} (ha : a < 8) (hb : b < 8) (hs : s < 16) (ht : t < 16) : sC a b s t < 16384 := by unfold sC; omega
theorem sC_L {a b s t : Nat} (hb : b < 8) (hs : s < 16) (ht : t < 16) : sL (sC a b s t) = a := by unfold sC sL; omega
theorem sC_H {a b s t : Nat} (hb : b < 8) (hs : s < 16) (ht : t < 16) : sH (sC a b s t) = b := by unfold sC sH; omega
theorem sC_F {a b s t : Nat} (hs : s < 16) (ht : t < 16) : sF (sC a b s t) = s := by unfold sC sF; omega
theorem sC_T {a b s t : Nat} (ht : t < 16) : sT (sC a b s t) = t := by unfold sC sT; omega
theorem sC_of (v : Nat) : sC (sL v) (sH v) (sF v) (sT v) = v := by unfold sC sL sH sF sT; omega
-- ranges
theorem tl_dt {P : Prop} [Decidable P] (h : P) : some true = some (decide P) := by rw [decide_eq_true h]
theorem tl_df {P : Prop} [Decidable P] (h : ¬ P) : some false = some (decide P) := by rw [decide_eq_false h]
theorem t7_in (f : Nat) (h : am_H) (a b c : Int64) : mi_X7_in f h a b c = some (decide (b.toInt ≤ a.toInt ∧ a.toInt ≤ c.toInt)) := by
  unfold mi_X7_in
  simp only [lg_cmp_lt, lg_cmp_gt, Int64.lt_iff_toInt_lt]
  by_cases h1 : a.toInt < b.toInt
  · rw [if_pos h1, tl_bs]
    exact tl_df (by omega)
  · by_cases h2 : c.toInt < a.toInt
    · rw [if_neg h1, if_pos h2, tl_bs]
      exact tl_df (by omega)
    · rw [if_neg h1, if_neg h2, tl_bs]
      exact tl_dt (by omega)
def tl_kn (a : Int32) : Bool := decide (0 ≤ a.toInt ∧ a.toInt ≤ 7)
def tl_tm (a : Int32) : Bool := decide (0 ≤ a.toInt ∧ a.toInt ≤ 15)
theorem tl_rg {a : Int32} {n : Nat} (hn : n < 2 ^ 31) (h : decide (0 ≤ a.toInt ∧ a.toInt ≤ (n : Int)) = true) : ∃ k, k ≤ n ∧ a = nI k := by
  have h := of_decide_eq_true h
  refine ⟨a.toInt.toNat, by omega, ?_⟩
  apply Int32.toInt_inj.mp
  rw [nI_toInt (by omega)]
  omega
theorem tl_kn_of {a : Int32} (h : tl_kn a = true) : ∃ k, k < 8 ∧ a = nI k := by
  obtain ⟨k, h1, h2⟩ := tl_rg (n := 7) (by decide) h
  exact ⟨k, by omega, h2⟩
theorem tl_tm_of {a : Int32} (h : tl_tm a = true) : ∃ k, k < 16 ∧ a = nI k := by
  obtain ⟨k, h1, h2⟩ := tl_rg (n := 15) (by decide) h
  exact ⟨k, by omega, h2⟩
theorem tl_kn_n {k : Nat} (h : k < 8) : tl_kn (nI k) = true := by
  unfold tl_kn
  rw [nI_toInt (by omega)]
  simp
  omega
theorem tl_tm_n {k : Nat} (h : k < 16) : tl_tm (nI k) = true := by
  unfold tl_tm
  rw [nI_toInt (by omega)]
  simp
  omega
theorem t7_kn (f : Nat) (h : am_H) (a : Int32) : mi_X7_isKnot f h a = some (tl_kn a) := by
  unfold mi_X7_isKnot
  rw [t7_in, tl_bs, Int32.toInt_toInt64]
  rfl
theorem t7_tm (f : Nat) (h : am_H) (a : Int32) : mi_X7_isTime f h a = some (tl_tm a) := by
  unfold mi_X7_isTime
  rw [t7_in, tl_bs, Int32.toInt_toInt64]
  rfl
theorem t6_rg (a : Int32) (n : Int32) : ((Option.bind (if a < 0 then some false else (if n ≤ a then some false else some true)) fun j => some j) : Option Bool) = some (decide (0 ≤ a.toInt ∧ a.toInt ≤ n.toInt - 1)) := by
  simp only [show (a < 0) = (a.toInt < 0) from propext Int32.lt_iff_toInt_lt, show (n ≤ a) = (n.toInt ≤ a.toInt) from propext Int32.le_iff_toInt_le]
  by_cases h1 : a.toInt < 0
  · rw [if_pos h1, tl_bs]
    exact tl_df (by omega)
  · by_cases h2 : n.toInt ≤ a.toInt
    · rw [if_neg h1, if_pos h2, tl_bs]
      exact tl_df (by omega)
    · rw [if_neg h1, if_neg h2, tl_bs]
      exact tl_dt (by omega)
theorem t6_kn (f : Nat) (h : am_H) (a : Int32) : mi_X6_isKnot f h a = some (tl_kn a) := t6_rg a 8
theorem t6_tm (f : Nat) (h : am_H) (a : Int32) : mi_X6_isTime f h a = some (tl_tm a) := t6_rg a 16
-- the reference's reading of codes
theorem t7_L (f : Nat) (h : am_H) {v : Nat} (hv : v < 16384) : mi_X7_lowOf f h (nI v) = some (nI (sL v)) := by
  unfold mi_X7_lowOf
  rw [il_2048, pk_div (by omega) (by decide) (by decide)]
  rfl
theorem t7_H (f : Nat) (h : am_H) {v : Nat} (hv : v < 16384) : mi_X7_highOf f h (nI v) = some (nI (sH v)) := by
  unfold mi_X7_highOf
  rw [il_256, il_8, pk_div (by omega) (by decide) (by decide), pk_rem (by omega) (by decide) (by decide)]
  rfl
theorem t7_F (f : Nat) (h : am_H) {v : Nat} (hv : v < 16384) : mi_X7_fromOf f h (nI v) = some (nI (sF v)) := by
  unfold mi_X7_fromOf
  rw [il_16, pk_div (by omega) (by decide) (by decide), pk_rem (by omega) (by decide) (by decide)]
  rfl
theorem t7_T (f : Nat) (h : am_H) {v : Nat} (hv : v < 16384) : mi_X7_toOf f h (nI v) = some (nI (sT v)) := by
  unfold mi_X7_toOf
  rw [il_16, pk_rem (by omega) (by decide) (by decide)]
  rfl
def sV (v t : Nat) : Bool := decide (sF v ≤ t ∧ t ≤ sT v)
theorem t7_V (f : Nat) (h : am_H) {v t : Nat} (hv : v < 16384) (ht : t < 16) : mi_X7_livesAt f h (nI v) (nI t) = some (sV v t) := by
  unfold mi_X7_livesAt sV
  have := sF_lt v
  have := sT_lt v
  rw [t7_F f h hv, tl_bs, t7_T f h hv, tl_bs]
  simp only [nI_ltI (show t < 2 ^ 31 by omega) (show sF v < 2 ^ 31 by omega), nI_ltI (show sT v < 2 ^ 31 by omega) (show t < 2 ^ 31 by omega)]
  by_cases h1 : t < sF v
  · rw [if_pos h1, tl_bs]
    exact tl_df (by omega)
  · by_cases h2 : sT v < t
    · rw [if_neg h1, if_pos h2, tl_bs]
      exact tl_df (by omega)
    · rw [if_neg h1, if_neg h2, tl_bs]
      exact tl_dt (by omega)
theorem t7_C (f : Nat) (h : am_H) {a b s t : Nat} (ha : a < 8) (hb : b < 8) (hs : s < 16) (ht : t < 16) : mi_X7_asOne f h (nI a) (nI b) (nI s) (nI t) = some (nI (sC (min a b) (max a b) s t)) := by
  unfold mi_X7_asOne sC
  simp only [nI_leI (show b < 2 ^ 31 by omega) (show a < 2 ^ 31 by omega)]
  by_cases h1 : b ≤ a
  · simp only [h1, if_true, tl_bs, il_8, il_16, pk_mul, nI_add]
    rw [Nat.min_eq_right h1, Nat.max_eq_left h1]
  · simp only [h1, if_false, tl_bs, il_8, il_16, pk_mul, nI_add]
    rw [Nat.min_eq_left (by omega), Nat.max_eq_right (by omega)]
-- nodes
def nD (n : Nat) : Nat := Nat.log2 n
def nLo (n : Nat) : Nat := (n - 2 ^ nD n) * (16 / 2 ^ nD n)
def nHi (n : Nat) : Nat := nLo n + 16 / 2 ^ nD n - 1
theorem t7_dep_h (f : Nat) (h : am_H) : ∀ n a b, lo_X7_depthOf_4 f h n a b = lo_X7_depthOf_4 f am_h0 n a b := by
  intro n
  induction n with
  | zero => intro a b; rfl
  | succ n ih =>
    intro a b
    rw [lo_X7_depthOf_4.eq_2, lo_X7_depthOf_4.eq_2, ih]
theorem t7_D0 : ∀ n, n < 32 → mi_X7_depthOf am_f am_h0 (nI n) = some (nI (nD n)) := by decide +kernel
theorem t7_lo0 : ∀ n, n < 32 → 1 ≤ n → mi_X7_firstOf am_f am_h0 (nI n) = some (nI (nLo n)) := by decide +kernel
theorem t7_hi0 : ∀ n, n < 32 → 1 ≤ n → mi_X7_lastOf am_f am_h0 (nI n) = some (nI (nHi n)) := by decide +kernel
theorem t7_D (h : am_H) {n : Nat} (hn : n < 32) : mi_X7_depthOf am_f h (nI n) = some (nI (nD n)) := by
  rw [← t7_D0 n hn]
  unfold mi_X7_depthOf
  rw [t7_dep_h]
theorem t7_lo (h : am_H) {n : Nat} (hn : n < 32) (h1 : 1 ≤ n) : mi_X7_firstOf am_f h (nI n) = some (nI (nLo n)) := by
  rw [← t7_lo0 n hn h1]
  unfold mi_X7_firstOf mi_X7_depthOf
  rw [t7_dep_h]
theorem t7_hi (h : am_H) {n : Nat} (hn : n < 32) (h1 : 1 ≤ n) : mi_X7_lastOf am_f h (nI n) = some (nI (nHi n)) := by
  rw [← t7_hi0 n hn h1]
  unfold mi_X7_lastOf mi_X7_firstOf mi_X7_depthOf
  rw [t7_dep_h]
theorem nLo_lt : ∀ n, n < 32 → nLo n < 16 ∧ nHi n < 16 := by decide +kernel
def sFl (v n : Nat) : Bool := decide (1 ≤ n ∧ sF v ≤ nLo n ∧ nHi n ≤ sT v)
def sLi (v n : Nat) : Bool := sFl v n && !sFl v (n / 2)
theorem t7_fl (h : am_H) {v n : Nat} (hv : v < 16384) (hn : n < 32) (h1 : 1 ≤ n) : mi_X7_fills am_f h (nI v) (nI n) = some (sFl v n) := by
  unfold mi_X7_fills sFl
  have := sF_lt v
  have := sT_lt v
  have := nLo_lt n hn
  rw [t7_F _ _ hv, tl_bs, t7_lo h hn h1, tl_bs, t7_T _ _ hv, tl_bs, t7_hi h hn h1, tl_bs]
  simp only [nI_ltI (show nLo n < 2 ^ 31 by omega) (show sF v < 2 ^ 31 by omega), nI_ltI (show sT v < 2 ^ 31 by omega) (show nHi n < 2 ^ 31 by omega)]
  by_cases h2 : nLo n < sF v
  · rw [if_pos h2, tl_bs]
    exact tl_df (by omega)
  · by_cases h3 : sT v < nHi n
    · rw [if_neg h2, if_pos h3, tl_bs]
      exact tl_df (by omega)
    · rw [if_neg h2, if_neg h3, tl_bs]
      exact tl_dt (by omega)
theorem t7_li (h : am_H) {v n : Nat} (hv : v < 16384) (hn : n < 32) (h1 : 1 ≤ n) : mi_X7_lies am_f h (nI v) (nI n) = some (sLi v n) := by
  unfold mi_X7_lies sLi
  rw [t7_fl h hv hn h1, tl_bs, il_1, il_2, pk_div (by omega) (by decide) (by decide)]
  simp only [nI_eq (show n < 2 ^ 31 by omega) (show 1 < 2 ^ 31 by decide)]
  by_cases h2 : n = 1
  · subst h2
    have e : sFl v (1 / 2) = false := by simp [sFl]
    rw [e]
    cases sFl v 1 <;> simp
  · rw [if_neg h2, t7_fl h hv (by omega) (by omega), tl_bs]
    cases sFl v n <;> cases sFl v (n / 2) <;> simp
