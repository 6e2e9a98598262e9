-- factorials, fractions
def fct : Nat → Nat
  | 0 => 1
  | n + 1 => fct n * (n + 1)
theorem t6_fa_h (f : Nat) (h : am_H) (x : Int32) : ∀ n a b, lo_X6_factorial_4 f h x n a b = lo_X6_factorial_4 f am_h0 x n a b := by
  intro n
  induction n with
  | zero => intro a b; rfl
  | succ n ih =>
    intro a b
    rw [lo_X6_factorial_4.eq_2, lo_X6_factorial_4.eq_2, ih]
theorem t7_fa_h (f : Nat) (h : am_H) (x : Int32) : ∀ n a b, lo_X7_factorial_4 f h x n a b = lo_X7_factorial_4 f am_h0 x n a b := by
  intro n
  induction n with
  | zero => intro a b; rfl
  | succ n ih =>
    intro a b
    rw [lo_X7_factorial_4.eq_2, lo_X7_factorial_4.eq_2, ih]
theorem t6_fa0 : ∀ k, k < 9 → mi_X6_factorial am_f am_h0 (nI k) = some (lN (fct k)) := by decide +kernel
theorem t7_fa0 : ∀ k, k < 9 → mi_X7_factorial am_f am_h0 (nI k) = some (nI (fct k)) := by decide +kernel
theorem t6_fa (h : am_H) {k : Nat} (hk : k < 9) : mi_X6_factorial am_f h (nI k) = some (lN (fct k)) := by
  rw [← t6_fa0 k hk]
  unfold mi_X6_factorial
  rw [t6_fa_h]
theorem t7_fa (h : am_H) {k : Nat} (hk : k < 9) : mi_X7_factorial am_f h (nI k) = some (nI (fct k)) := by
  rw [← t7_fa0 k hk]
  unfold mi_X7_factorial
  rw [t7_fa_h]
theorem fct_b : ∀ m, m < 9 → 0 < fct m ∧ fct m < 50000 := by decide
theorem fct_m : ∀ m, m < 9 → ∀ k, k < m → fct k * fct (m - 1 - k) ≤ 5040 := by decide
theorem tl_gcd (a b : Nat) : Nat.gcd a b = Nat.gcd b (a % b) := by
  rw [Nat.gcd_comm a b, Nat.gcd_rec b a, Nat.gcd_comm]
theorem tl_half {a b k : Nat} (hb : b < 2 ^ (k + 1)) (h0 : 0 < b) (hr : 0 < a % b) : b % (a % b) < 2 ^ k := by
  have rl := Nat.mod_lt a h0
  generalize a % b = r at *
  rw [Nat.pow_succ] at hb
  by_cases c : r ≤ 2 ^ k
  · exact Nat.lt_of_lt_of_le (Nat.mod_lt b hr) c
  · rw [Nat.mod_eq_sub_mod (by omega)]
    have := Nat.mod_le (b - r) r
    omega
theorem t6_cd0 (h : am_H) {n a i : Nat} : lo_X6_commonDivisor_9 am_f h (n + 1) (lN a) (lN 0) (nI i) = some (lN a) := by
  rw [lo_X6_commonDivisor_9.eq_2]
  by_cases c : 100 ≤ nI i
  · rw [if_pos c]
  · rw [if_neg c, if_pos (show lg_cmp (lN 0) 0 = 0 from (lg_cmp_eq _ _).mpr rfl)]
theorem t6_cd1 (h : am_H) {n a b i : Nat} (ha : a < 2 ^ 31) (hb : b < 2 ^ 31) (h0 : 0 < b) (hi : i < 100) : lo_X6_commonDivisor_9 am_f h (n + 1) (lN a) (lN b) (nI i) = lo_X6_commonDivisor_9 am_f h n (lN b) (lN (a % b)) (nI (i + 1)) := by
  have nz : ¬ lN b = 0 := by
    rw [ll_0, pk_lEQ (by omega) (by decide)]
    omega
  have nz2 : am_nzl (lN b) = some () := by
    unfold am_nzl
    rw [if_neg nz]
  rw [lo_X6_commonDivisor_9.eq_2, if_neg (by rw [il_100, nI_leI (by decide) (by omega)]; omega), if_neg (by rw [lg_cmp_eq]; exact nz), nz2, tl_bs, pk_lRem (by omega) h0 (by omega), nI_1]
theorem t6_cd (h : am_H) : ∀ k n a b i, a < 2 ^ 31 → b < 2 ^ 31 → b < 2 ^ k → i + 2 * k ≤ 99 → 2 * k + 1 < n → lo_X6_commonDivisor_9 am_f h n (lN a) (lN b) (nI i) = some (lN (Nat.gcd a b)) := by
  intro k
  induction k with
  | zero =>
    intro n a b i ha _ hb hi hn
    have : b = 0 := by simpa using hb
    subst this
    obtain ⟨n, rfl⟩ : ∃ q, n = q + 1 := ⟨n - 1, by omega⟩
    rw [t6_cd0, Nat.gcd_zero_right]
  | succ k ih =>
    intro n a b i ha b31 hb hi hn
    obtain ⟨n, rfl⟩ : ∃ q, n = q + 1 := ⟨n - 1, by omega⟩
    by_cases c : b = 0
    · subst c
      rw [t6_cd0, Nat.gcd_zero_right]
    · have r := Nat.mod_lt a (show 0 < b by omega)
      rw [t6_cd1 h ha b31 (by omega) (by omega), tl_gcd a b]
      obtain ⟨n, rfl⟩ : ∃ q, n = q + 1 := ⟨n - 1, by omega⟩
      by_cases c2 : a % b = 0
      · rw [c2, t6_cd0, Nat.gcd_zero_right]
      · rw [t6_cd1 h b31 (by omega) (by omega) (by omega), tl_gcd b (a % b)]
        have hh := tl_half (a := a) hb (by omega) (by omega)
        exact ih n _ _ _ (by omega) (by have := Nat.mod_lt b (show 0 < a % b by omega); omega) hh (by omega) (by omega)
theorem t7_cm0 (h : am_H) {n a : Nat} : lo_X7_common_13 am_f h (n + 1) (nI a) (nI 0) = some (nI a) := by
  rw [lo_X7_common_13.eq_2, if_pos (show nI 0 = 0 from rfl)]
theorem t7_cm1 (h : am_H) {n a b : Nat} (ha : a < 2 ^ 31) (hb : b < 2 ^ 31) (h0 : 0 < b) : lo_X7_common_13 am_f h (n + 1) (nI a) (nI b) = lo_X7_common_13 am_f h n (nI b) (nI (a % b)) := by
  have nz : ¬ nI b = 0 := nI_ne0 h0 hb
  have nz2 : am_nz (nI b) = some () := by
    unfold am_nz
    rw [if_neg nz]
  rw [lo_X7_common_13.eq_2, if_neg nz, nz2, tl_bs, pk_rem ha h0 hb]
theorem t7_cm (h : am_H) : ∀ k n a b, a < 2 ^ 31 → b < 2 ^ 31 → b < 2 ^ k → 2 * k + 1 < n → lo_X7_common_13 am_f h n (nI a) (nI b) = some (nI (Nat.gcd a b)) := by
  intro k
  induction k with
  | zero =>
    intro n a b ha _ hb hn
    have : b = 0 := by simpa using hb
    subst this
    obtain ⟨n, rfl⟩ : ∃ q, n = q + 1 := ⟨n - 1, by omega⟩
    rw [t7_cm0, Nat.gcd_zero_right]
  | succ k ih =>
    intro n a b ha b31 hb hn
    obtain ⟨n, rfl⟩ : ∃ q, n = q + 1 := ⟨n - 1, by omega⟩
    by_cases c : b = 0
    · subst c
      rw [t7_cm0, Nat.gcd_zero_right]
    · have r := Nat.mod_lt a (show 0 < b by omega)
      rw [t7_cm1 h ha b31 (by omega), tl_gcd a b]
      obtain ⟨n, rfl⟩ : ∃ q, n = q + 1 := ⟨n - 1, by omega⟩
      by_cases c2 : a % b = 0
      · rw [c2, t7_cm0, Nat.gcd_zero_right]
      · rw [t7_cm1 h b31 (by omega) (by omega), tl_gcd b (a % b)]
        have hh := tl_half (a := a) hb (by omega) (by omega)
        exact ih n _ _ (by omega) (by have := Nat.mod_lt b (show 0 < a % b by omega); omega) hh (by omega)
theorem t6_told (h : am_H) {a b : Nat} (ha : a < 2 ^ 31) (hb : b < 2 ^ 31) (h0 : 0 < b) (c : Bool) : mi_X6_told am_f h (lN a) (lN b) c = some (nI ((if c = true then a else b) / Nat.gcd a b)) := by
  have g0 : 0 < Nat.gcd a b := Nat.gcd_pos_of_pos_right a h0
  have gb : Nat.gcd a b ≤ b := Nat.gcd_le_right a h0
  have e := t6_cd h 31 am_f a b 0 ha hb hb (by decide) (by decide)
  have ge : (0 : Int32) ≤ lg_cmp (lN (Nat.gcd a b)) 1 := by
    rw [lg_cmp_ge, ll_1, pk_lLE (by decide) (by omega)]
    omega
  have nz2 : am_nzl (lN (Nat.gcd a b)) = some () := by
    unfold am_nzl
    rw [if_neg]
    rw [ll_0, pk_lEQ (by omega) (by decide)]
    omega
  have k : ((if c = true then some (lN a) else some (lN b)) : Option Int64) = some (lN (if c = true then a else b)) := by
    cases c <;> rfl
  have kl : (if c = true then a else b) < 2 ^ 31 := by
    cases c
    · exact hb
    · exact ha
  unfold mi_X6_told mi_X6_commonDivisor
  rw [show lo_X6_commonDivisor_9 am_f h am_f (lN a) (lN b) 0 = _ from e, tl_bs, tl_bs, if_pos ge, k, tl_bs, nz2, tl_bs, pk_lDiv (by omega) g0 (by omega), lN_i]
theorem t7_com (h : am_H) {a b : Nat} (ha : a < 2 ^ 31) (hb : b < 2 ^ 31) : mi_X7_common am_f h (nI a) (nI b) = some (nI (Nat.gcd a b)) := by
  unfold mi_X7_common
  rw [if_pos (nI_pos' ha), tl_bs, t7_cm h 31 am_f a b ha hb hb (by decide), tl_bs]
theorem t7_dvd {a b : Nat} (ha : a < 2 ^ 31) (hb : b < 2 ^ 31) : (Option.bind (am_nz (nI b)) fun _ => some (nI a / nI b)) = if b = 0 then none else some (nI (a / b)) := by
  by_cases c : b = 0
  · subst c; rfl
  · rw [if_neg c]
    unfold am_nz
    rw [if_neg (nI_ne0 (by omega) hb), tl_bs, pk_div ha (by omega) hb]
-- sums over sets
theorem uf_sm_mo {g g2 : Nat → Nat} : ∀ n, (∀ k, k < n → g k ≤ g2 k) → uf_sm g n ≤ uf_sm g2 n
  | 0, _ => Nat.le_refl _
  | n + 1, h => by
    have := uf_sm_mo n (fun k hk => h k (by omega))
    have := h n (by omega)
    unfold uf_sm
    omega
theorem uf_sm_b {g : Nat → Nat} {c : Nat} : ∀ n, (∀ k, k < n → g k ≤ c) → uf_sm g n ≤ n * c
  | 0, _ => Nat.zero_le _
  | n + 1, h => by
    have := uf_sm_b n (fun k hk => h k (by omega))
    have := h n (by omega)
    unfold uf_sm
    rw [Nat.succ_mul]
    omega
theorem uf_sm_st {g : Nat → Nat} {m : Nat} : ∀ n, n ≤ m → uf_sm g n ≤ uf_sm g m := by
  induction m with
  | zero =>
    intro n h
    have : n = 0 := by omega
    subst this
    exact Nat.le_refl _
  | succ m ih =>
    intro n h
    by_cases e : n = m + 1
    · subst e; exact Nat.le_refl _
    · have := ih n (by omega)
      show _ ≤ uf_sm g m + g m
      omega
def wS (x m s : Nat) : Nat := (10 - x) ^ tl_pc s * x ^ (m - tl_pc s)
theorem wS_all : ∀ m, m < 9 → ∀ x, x < 11 → uf_sm (wS x m) (2 ^ m) = 10 ^ m := by decide +kernel
def wP (x s : Nat) : Nat → Nat
  | 0 => 1
  | k + 1 => wP x s k * (if s.testBit k = true then 10 - x else x)
theorem wP_eq (x s : Nat) : ∀ k, wP x s k = (10 - x) ^ tl_N (fun j => s.testBit j) k * x ^ (k - tl_N (fun j => s.testBit j) k)
  | 0 => by simp [wP, tl_N]
  | k + 1 => by
    have ih := wP_eq x s k
    have le := tl_N_le (fun j => s.testBit j) k
    unfold wP tl_N
    rw [ih]
    by_cases c : s.testBit k = true
    · rw [if_pos c, if_pos c, Nat.pow_succ, show k + 1 - (tl_N (fun j => s.testBit j) k + 1) = k - tl_N (fun j => s.testBit j) k by omega, Nat.mul_right_comm]
    · rw [if_neg c, if_neg c, Nat.add_zero, show k + 1 - tl_N (fun j => s.testBit j) k = (k - tl_N (fun j => s.testBit j) k) + 1 by omega, Nat.pow_succ, Nat.mul_assoc]
theorem wP_S {x s m : Nat} (hs : s < 2 ^ m) (hm : m ≤ 16) : wP x s m = wS x m s := by
  rw [wP_eq, wS, tl_pc_cut hs hm]
