theorem tl_p16 {m : Nat} (h : m ≤ 16) : 2 ^ m ≤ 65536 := Nat.pow_le_pow_right (n := 2) (j := 16) (by decide) h
theorem tl_p8 {m : Nat} (h : m ≤ 8) : 2 ^ m ≤ 256 := Nat.pow_le_pow_right (n := 2) (j := 8) (by decide) h
theorem tl_tb0 {s k : Nat} (hs : s < 65536) (hk : 16 ≤ k) : s.testBit k = false := Nat.testBit_lt_two_pow (Nat.lt_of_lt_of_le hs (Nat.pow_le_pow_right (n := 2) (i := 16) (by decide) hk))
theorem tl_N_cut {P : Nat → Bool} {N : Nat} : ∀ M, N ≤ M → tl_N (fun k => decide (k < N) && P k) M = tl_N P N
  | 0, h => by
    have : N = 0 := by omega
    subst this; rfl
  | M + 1, h => by
    by_cases e : N = M + 1
    · subst e
      exact tl_N_ex _ (fun k hk => by rw [decide_eq_true hk, Bool.true_and])
    · have ih := tl_N_cut (P := P) (N := N) M (by omega)
      show tl_N _ M + (if (decide (M < N) && P M) = true then 1 else 0) = _
      rw [ih, decide_eq_false (show ¬ M < N by omega), Bool.false_and, if_neg (by decide), Nat.add_zero]
theorem tl_pc_cut {s m : Nat} (hs : s < 2 ^ m) (hm : m ≤ 16) : tl_pc s = tl_N (fun k => s.testBit k) m := by
  rw [← tl_N_cut (P := fun k => s.testBit k) 16 hm]
  refine tl_N_ex 16 (fun k _ => ?_)
  by_cases c : k < m
  · rw [decide_eq_true c, Bool.true_and]
  · rw [decide_eq_false c, Bool.false_and]
    exact Nat.testBit_lt_two_pow (Nat.lt_of_lt_of_le hs (Nat.pow_le_pow_right (n := 2) (by decide) (by omega)))
theorem tl_pc_16 (s : Nat) : tl_pc s ≤ 16 := tl_N_le _ 16
section LE
variable {l : List Nat} {t : Nat}
theorem qM_N (s : Nat) : ∀ n, tl_N (fun v => sV (l.getD v 0) t && s.testBit (qL l t v).length) n = tl_N (fun j => s.testBit j) (qL l t n).length
  | 0 => rfl
  | n + 1 => by
    have ih := qM_N s n
    show tl_N _ n + (if (sV (l.getD n 0) t && s.testBit (qL l t n).length) = true then 1 else 0) = _
    rw [ih]
    by_cases c : sV (l.getD n 0) t = true
    · rw [qL_t c, List.length_append, c, Bool.true_and]
      rfl
    · rw [qL_f c, Bool.eq_false_iff.mpr c, Bool.false_and, if_neg (by decide), Nat.add_zero]
theorem qM_pc {s n : Nat} (hn : n ≤ 16) (hs : s < 2 ^ (qL l t n).length) : tl_pc (qM l t s n) = tl_pc s := by
  rw [tl_pc_cut hs (Nat.le_trans (qL_le l t n) hn), ← qM_N s n, ← tl_N_cut 16 hn]
  exact tl_N_ex 16 (fun k _ => qM_tb)
theorem qL_N : ∀ n, tl_N (fun v => sV (l.getD v 0) t) n = (qL l t n).length
  | 0 => rfl
  | n + 1 => by
    have ih := qL_N n
    show tl_N _ n + _ = _
    rw [ih]
    by_cases c : sV (l.getD n 0) t = true
    · rw [qL_t c, List.length_append, if_pos c]; rfl
    · rw [qL_f c, if_neg c]; rfl
theorem qM_s (s n : Nat) : qM l t s (n + 1) = qM l t s n ||| (if (sV (l.getD n 0) t && s.testBit (qL l t n).length) = true then 2 ^ n else 0) := rfl
theorem qM_lo (s n : Nat) : qM l t s n < 2 ^ n := tl_B_lt _ n
theorem tl_or2 {b n : Nat} (h : b < 2 ^ n) : b ||| 2 ^ n = 2 ^ n + b := by
  have := Nat.two_pow_add_eq_or_of_lt h 1
  rw [Nat.mul_one] at this
  rw [this, Nat.or_comm]
theorem qM_mo : ∀ n x y, x % 2 ^ (qL l t n).length < y % 2 ^ (qL l t n).length → qM l t x n < qM l t y n
  | 0, x, y, h => by
    simp [qL, Nat.mod_one] at h
  | n + 1, x, y, h => by
    have ih := qM_mo n x y
    have bx := qM_lo (l := l) (t := t) x n
    have b2 := qM_lo (l := l) (t := t) y n
    rw [qM_s, qM_s]
    by_cases c : sV (l.getD n 0) t = true
    · rw [qL_t c, List.length_append, List.length_singleton, Nat.mod_pow_succ, Nat.mod_pow_succ] at h
      rw [c, Bool.true_and, Bool.true_and, tl_tb, tl_tb]
      have lx := Nat.mod_lt x (Nat.two_pow_pos (qL l t n).length)
      have ly := Nat.mod_lt y (Nat.two_pow_pos (qL l t n).length)
      rcases Nat.mod_two_eq_zero_or_one (x / 2 ^ (qL l t n).length) with ex | ex
      · rcases Nat.mod_two_eq_zero_or_one (y / 2 ^ (qL l t n).length) with ey | ey
        · rw [ex, ey] at h ⊢
          simp only [Nat.mul_zero, Nat.add_zero] at h
          simpa using ih h
        · rw [ex, ey]
          simp only [decide_true, if_true]
          rw [if_neg (by decide), Nat.or_zero, tl_or2 b2]
          omega
      · rcases Nat.mod_two_eq_zero_or_one (y / 2 ^ (qL l t n).length) with ey | ey
        · rw [ex, ey] at h
          simp only [Nat.mul_zero, Nat.add_zero, Nat.mul_one] at h
          omega
        · rw [ex, ey] at h ⊢
          simp only [decide_true, if_true]
          rw [tl_or2 bx, tl_or2 b2]
          have := ih (by omega)
          omega
    · rw [qL_f c] at h
      have e : sV (l.getD n 0) t = false := by simpa using c
      rw [e, Bool.false_and, Bool.false_and, if_neg (by decide), Nat.or_zero, Nat.or_zero]
      exact ih h
theorem qM_le {n x y : Nat} (hx : x < 2 ^ (qL l t n).length) (hy : y < 2 ^ (qL l t n).length) (h : x ≤ y) : qM l t x n ≤ qM l t y n := by
  by_cases e : x = y
  · subst e; exact Nat.le_refl _
  · refine Nat.le_of_lt (qM_mo n x y ?_)
    rw [Nat.mod_eq_of_lt hx, Nat.mod_eq_of_lt hy]; omega
theorem qM_su {n y : Nat} (h : ∀ k, y.testBit k = true → k < n ∧ sV (l.getD k 0) t = true) : qM l t (tl_B (fun j => y.testBit ((qL l t n).getD j 0)) (qL l t n).length) n = y := by
  apply Nat.eq_of_testBit_eq
  intro v
  rw [qM_tb, tl_B_tb, Bool.eq_iff_iff]
  simp only [Bool.and_eq_true, decide_eq_true_eq]
  constructor
  · rintro ⟨v1, v2, v3, v4⟩
    have p := qL_pl n v v1 v2
    rw [List.getD_eq_getElem?_getD, p] at v4
    exact v4
  · intro q
    obtain ⟨v1, v2⟩ := h v q
    have p := qL_pl n v v1 v2
    refine ⟨v1, v2, tl_lt_of p, ?_⟩
    rw [List.getD_eq_getElem?_getD, p]
    exact q
def qLv (l : List Nat) (t : Nat) : Nat := tl_B (fun i => sV (l.getD i 0) t) l.length
theorem qLv_tb {k : Nat} : (qLv l t).testBit k = true ↔ k < l.length ∧ sV (l.getD k 0) t = true := by
  unfold qLv
  rw [tl_B_tb, Bool.and_eq_true, decide_eq_true_eq]
theorem qLv_pc (h16 : l.length ≤ 16) : tl_pc (qLv l t) = (qL l t l.length).length := by
  rw [← qL_N, ← tl_N_cut 16 h16]
  exact tl_N_ex 16 (fun k _ => by unfold qLv; rw [tl_B_tb])
def tl_ky (s : Nat) : Nat := tl_pc s * 65536 + s
/-- two knots are apart once these numbers are taken away -/
def cN (l : List Nat) (t a b x : Nat) : Bool := decide (¬ uf_rt (qA l (65535 ^^^ x) t).1 a = uf_rt (qA l (65535 ^^^ x) t).1 b)
theorem cN_all {a b x : Nat} (h16 : l.length ≤ 16) (hn : a ≠ b) (hx : ∀ k, k < l.length → sV (l.getD k 0) t = true → x.testBit k = true) : cN l t a b x = true := by
  unfold cN
  have e : qA l (65535 ^^^ x) t = qA l 0 t := qP_eqA (fun i hi c => by
    rw [tl_xor_tb (by omega), hx i hi c, Nat.zero_testBit]; rfl)
  have e2 : qA l 0 t = uf_0 := by
    unfold qA
    rw [uf_fd_no (fun i => by unfold qP; rw [Nat.zero_testBit, Bool.false_and])]
  rw [e, e2, decide_eq_true_eq]
  exact fun z => hn z
theorem tl_subI {j v : Nat} (hj : j < 65536) (hv : v < 65536) : ((nI j &&& (nI v ^^^ (-1))) = 0) ↔ ∀ k, j.testBit k = true → v.testBit k = true := by
  rw [show (-1 : Int32) = nI (2 ^ 32 - 1) from rfl, fa_xor, tl_and0 hj]
  constructor
  · intro e k hk
    have : (j &&& (v ^^^ (2 ^ 32 - 1))).testBit k = (0 : Nat).testBit k := by rw [e]
    rw [Nat.testBit_and, Nat.testBit_xor, tl_all1, hk, Nat.zero_testBit, Bool.true_and] at this
    have k32 : k < 32 := by
      apply Classical.byContradiction
      intro q
      rw [tl_tb0 hj (show 16 ≤ k by omega)] at hk
      cases hk
    rw [decide_eq_true k32] at this
    cases q : v.testBit k with
    | true => rfl
    | false => rw [q] at this; cases this
  · intro e
    apply Nat.eq_of_testBit_eq
    intro k
    rw [Nat.testBit_and, Nat.testBit_xor, tl_all1, Nat.zero_testBit]
    cases q : j.testBit k with
    | false => rfl
    | true =>
      have k32 : k < 32 := by
        apply Classical.byContradiction
        intro z
        rw [tl_tb0 hj (show 16 ≤ k by omega)] at q
        cases q
      rw [e k q, decide_eq_true k32]; rfl
variable {h : am_H} {a b : Nat}
theorem t6_l26 (H : tl_Sh h) (G : tl_Al h l (qL l t l.length)) (hw : tl_wf l) (a8 : a < 8) (b8 : b < 8) {k : Nat} (hk : k < 1000) : ∀ n j, j ≤ 2 ^ (qL l t l.length).length → 2 ^ (qL l t l.length).length - j < n →
    ∃ w, lo_X6_leastApart_26 am_f h 0 (nI a) (nI b) (nI (2 ^ (qL l t l.length).length - 1)) (nI k) n (nI j) = some w ∧ ((w = .inl () ∧ ∀ x, j ≤ x → x < 2 ^ (qL l t l.length).length → tl_pc x = k → cN l t a b (qM l t x l.length) = false) ∨ ∃ x, w = .inr (nI x) ∧ j ≤ x ∧ x < 2 ^ (qL l t l.length).length ∧ tl_pc x = k ∧ cN l t a b (qM l t x l.length) = true ∧ ∀ y, j ≤ y → y < x → tl_pc y = k → cN l t a b (qM l t y l.length) = false) := by
  have h16 := hw.1
  have hA : (qL l t l.length).length ≤ 16 := Nat.le_trans (qL_le l t _) h16
  have p1 := Nat.two_pow_pos (qL l t l.length).length
  have p2 : 2 ^ (qL l t l.length).length ≤ 65536 := tl_p16 hA
  intro n
  induction n with
  | zero => intro j _ q; omega
  | succ n ih =>
    intro j hj hjn
    rw [lo_X6_leastApart_26.eq_2]
    simp only [nI_ltI (show 2 ^ (qL l t l.length).length - 1 < 2 ^ 31 by omega) (show j < 2 ^ 31 by omega)]
    by_cases h1 : 2 ^ (qL l t l.length).length - 1 < j
    · rw [if_pos h1]
      exact ⟨_, rfl, Or.inl ⟨rfl, fun x x1 x2 _ => by omega⟩⟩
    · have hx : (2 ^ (qL l t l.length).length - 1) ^^^ j < 65536 := Nat.xor_lt_two_pow (n := 16) (by omega) (by omega)
      have pj := tl_pc_16 j
      have aj := t1_aj H G hw (s2 := 65535 ^^^ qM l t j l.length) hx (fun i v hi => by
        have b := qL_at _ _ _ hi
        rw [tl_xor_tb (by omega), Nat.testBit_xor, tl_all1, decide_eq_true (tl_lt_of hi), Bool.true_xor, qM_pl hi]) a8 b8
      rw [if_neg h1, tj_bc am_f h (show j < 65536 by omega), tl_bs, or_0_5 H, fa_xor, tl_bs, aj, tl_bs, tl_iteB, nI_1]
      simp only [nI_eq (show tl_pc j < 2 ^ 31 by omega) (show k < 2 ^ 31 by omega)]
      by_cases c : tl_pc j = k ∧ cN l t a b (qM l t j l.length) = true
      · have cc := c.2
        unfold cN at cc
        rw [decide_eq_true_eq] at cc
        rw [if_pos c.1, tl_bs, if_neg (by rw [decide_eq_true_eq]; exact cc)]
        exact ⟨_, rfl, Or.inr ⟨j, rfl, Nat.le_refl _, by omega, c.1, c.2, fun y y1 y2 => by omega⟩⟩
      · have e : ((if tl_pc j = k then some (decide (uf_rt (qA l (65535 ^^^ qM l t j l.length) t).1 a = uf_rt (qA l (65535 ^^^ qM l t j l.length) t).1 b)) else some true) : Option Bool) = some true := by
          by_cases c1 : tl_pc j = k
          · rw [if_pos c1]
            have cc : ¬ cN l t a b (qM l t j l.length) = true := fun z => c ⟨c1, z⟩
            unfold cN at cc
            rw [decide_eq_true_eq] at cc
            rw [decide_eq_true (Classical.not_not.mp cc)]
          · rw [if_neg c1]
        rw [e, tl_bs, if_pos rfl]
        have nj : tl_pc j = k → cN l t a b (qM l t j l.length) = false := fun z => by
          cases q : cN l t a b (qM l t j l.length) with
          | false => rfl
          | true => exact absurd ⟨z, q⟩ c
        obtain ⟨w, w1, w2⟩ := ih (j + 1) (by omega) (by omega)
        refine ⟨w, w1, ?_⟩
        rcases w2 with ⟨rfl, w3⟩ | ⟨x, rfl, x1, x2, x3, x4, x5⟩
        · refine Or.inl ⟨rfl, fun x y1 y2 y3 => ?_⟩
          by_cases z : x = j
          · subst z; exact nj y3
          · exact w3 x (by omega) y2 y3
        · refine Or.inr ⟨x, rfl, by omega, x2, x3, x4, fun y y1 y2 y3 => ?_⟩
          by_cases z : y = j
          · subst z; exact nj y3
          · exact x5 y (by omega) y2 y3
theorem t6_l11 (H : tl_Sh h) (G : tl_Al h l (qL l t l.length)) (hw : tl_wf l) (a8 : a < 8) (b8 : b < 8) : ∀ n k, k ≤ (qL l t l.length).length → (qL l t l.length).length - k < n →
    ∃ w, lo_X6_leastApart_11 am_f h 0 (nI a) (nI b) (nI (2 ^ (qL l t l.length).length - 1)) n (nI k) = some w ∧ ((w = .inl () ∧ ∀ x, x < 2 ^ (qL l t l.length).length → k ≤ tl_pc x → tl_pc x < (qL l t l.length).length → cN l t a b (qM l t x l.length) = false) ∨ ∃ x, w = .inr (nI x) ∧ x < 2 ^ (qL l t l.length).length ∧ cN l t a b (qM l t x l.length) = true ∧ ∀ y, y < 2 ^ (qL l t l.length).length → k ≤ tl_pc y → cN l t a b (qM l t y l.length) = true → tl_ky x ≤ tl_ky y) := by
  have h16 := hw.1
  have hA : (qL l t l.length).length ≤ 16 := Nat.le_trans (qL_le l t _) h16
  have p2 : 2 ^ (qL l t l.length).length ≤ 65536 := tl_p16 hA
  intro n
  induction n with
  | zero => intro j _ q; omega
  | succ n ih =>
    intro k hk hkn
    rw [lo_X6_leastApart_11.eq_2, or_0_5 H, tl_bs, oi_94 H, tl_bs, G.1]
    simp only [nI_leI (show (qL l t l.length).length < 2 ^ 31 by omega) (show k < 2 ^ 31 by omega)]
    by_cases h1 : (qL l t l.length).length ≤ k
    · rw [if_pos h1]
      exact ⟨_, rfl, Or.inl ⟨rfl, fun x _ x2 x3 => by omega⟩⟩
    · obtain ⟨w, w1, w2⟩ := t6_l26 H G hw a8 b8 (k := k) (by omega) am_f 0 (Nat.zero_le _) (by unfold am_f; omega)
      rw [if_neg h1, show lo_X6_leastApart_26 am_f h 0 (nI a) (nI b) (nI (2 ^ (qL l t l.length).length - 1)) (nI k) am_f 0 = some w from w1, tl_bs]
      rcases w2 with ⟨rfl, w3⟩ | ⟨x, rfl, -, x2, x3, x4, x5⟩
      · dsimp only
        rw [nI_1]
        obtain ⟨w, y1, y2⟩ := ih (k + 1) (by omega) (by omega)
        refine ⟨w, y1, ?_⟩
        rcases y2 with ⟨rfl, y3⟩ | ⟨x, rfl, x2, x4, x5⟩
        · refine Or.inl ⟨rfl, fun x z1 z2 z3 => ?_⟩
          by_cases z : tl_pc x = k
          · exact w3 x (Nat.zero_le _) z1 z
          · exact y3 x z1 (by omega) z3
        · refine Or.inr ⟨x, rfl, x2, x4, fun y z1 z2 z3 => ?_⟩
          by_cases z : tl_pc y = k
          · rw [w3 y (Nat.zero_le _) z1 z] at z3; cases z3
          · exact x5 y z1 (by omega) z3
      · refine ⟨_, rfl, Or.inr ⟨x, rfl, x2, x4, fun y z1 z2 z3 => ?_⟩⟩
        unfold tl_ky
        by_cases z : tl_pc y = k
        · by_cases yx : y < x
          · rw [x5 y (Nat.zero_le _) yx z] at z3; cases z3
          · rw [x3, z]; omega
        · rw [x3]
          omega
theorem tl_full {m x : Nat} (hm : m ≤ 16) (hx : x < 2 ^ m) (h : m ≤ tl_pc x) : x = 2 ^ m - 1 := by
  rw [tl_pc_cut hx hm] at h
  have f := tl_N_full m h
  apply Nat.eq_of_testBit_eq
  intro k
  rw [tl_all1]
  by_cases c : k < m
  · rw [f k c, decide_eq_true c]
  · rw [decide_eq_false c]
    exact Nat.testBit_lt_two_pow (Nat.lt_of_lt_of_le hx (Nat.pow_le_pow_right (n := 2) (by decide) (by omega)))
theorem t6_la (H : tl_Sh h) (G : tl_Al h l (qL l t l.length)) (hw : tl_wf l) (a8 : a < 8) (b8 : b < 8) (hn : a ≠ b) : ∃ x, mi_X6_leastApart am_f h 0 (nI a) (nI b) = some (nI x) ∧ x < 2 ^ (qL l t l.length).length ∧ cN l t a b (qM l t x l.length) = true ∧ ∀ y, y < 2 ^ (qL l t l.length).length → cN l t a b (qM l t y l.length) = true → tl_ky x ≤ tl_ky y := by
  have h16 := hw.1
  have hA : (qL l t l.length).length ≤ 16 := Nat.le_trans (qL_le l t _) h16
  have p1 := Nat.two_pow_pos (qL l t l.length).length
  have p2 : 2 ^ (qL l t l.length).length ≤ 65536 := tl_p16 hA
  obtain ⟨w, w1, w2⟩ := t6_l11 H G hw a8 b8 am_f 0 (Nat.zero_le _) (by unfold am_f; omega)
  unfold mi_X6_leastApart
  rw [oc_0 H, tl_bs, or_0_5 H, tl_bs, t1_all H G hA, tl_bs, show lo_X6_leastApart_11 am_f h 0 (nI a) (nI b) (nI (2 ^ (qL l t l.length).length - 1)) am_f 0 = some w from w1, tl_bs]
  rcases w2 with ⟨rfl, w3⟩ | ⟨x, rfl, x2, x4, x5⟩
  · refine ⟨2 ^ (qL l t l.length).length - 1, rfl, by omega, cN_all h16 hn (fun k k1 k2 => ?_), fun y y1 y2 => ?_⟩
    · have p := qL_pl _ k k1 k2
      rw [← qM_pl p, tl_all1]
      exact decide_eq_true (tl_lt_of p)
    · by_cases c : tl_pc y < (qL l t l.length).length
      · rw [w3 y y1 (Nat.zero_le _) c] at y2; cases y2
      · rw [tl_full hA y1 (by omega)]; exact Nat.le_refl _
  · exact ⟨x, rfl, x2, x4, fun y y1 y2 => x5 y y1 (Nat.zero_le _) y2⟩
theorem t1_nuL (H : tl_Sh h) (G : tl_Al h l (qL l t l.length)) (hw : tl_wf l) {s : Nat} (hs : s < 65536) : ∀ n j, j ≤ (qL l t l.length).length → (qL l t l.length).length - j < n → lo_X1_numbersOf_4 am_f h 94 (nI s) n (nI (tl_O (fun i => if s.testBit i = true then 2 ^ ((qL l t l.length).getD i 0) else 0) j)) (nI j) = some (nI (qM l t s l.length)) := by
  have h16 := hw.1
  have hA : (qL l t l.length).length ≤ 16 := Nat.le_trans (qL_le l t _) h16
  intro n
  induction n with
  | zero => intro j _ q; omega
  | succ n ih =>
    intro j hj hjn
    rw [lo_X1_numbersOf_4.eq_2, oi_94 H, tl_bs, G.1]
    simp only [nI_leI (show (qL l t l.length).length < 2 ^ 31 by omega) (show j < 2 ^ 31 by omega)]
    by_cases h1 : (qL l t l.length).length ≤ j
    · rw [if_pos h1, show j = (qL l t l.length).length by omega, qM_O]
    · have hg := tl_gd (l := qL l t l.length) (i := j) (by omega)
      have j16 : j < 16 := by omega
      obtain ⟨g1, -⟩ := G.2 j _ hg
      obtain ⟨a1, -⟩ := qL_at _ _ _ hg
      rw [if_neg h1, tl_bit (by omega) (by omega), or_94_0 H, tl_bs, al_95 H j16, tl_bs, g1, tl_sh1 _ (by omega), fa_or, nI_1]
      have key : ((if nI (if s.testBit j = true then 1 else 0) = 0 then some (nI (tl_O (fun i => if s.testBit i = true then 2 ^ ((qL l t l.length).getD i 0) else 0) j)) else some (nI (tl_O (fun i => if s.testBit i = true then 2 ^ ((qL l t l.length).getD i 0) else 0) j ||| 2 ^ ((qL l t l.length).getD j 0)))) : Option Int32) = some (nI (tl_O (fun i => if s.testBit i = true then 2 ^ ((qL l t l.length).getD i 0) else 0) (j + 1))) := by
        show _ = some (nI (tl_O (fun i => if s.testBit i = true then 2 ^ ((qL l t l.length).getD i 0) else 0) j ||| (if s.testBit j = true then 2 ^ ((qL l t l.length).getD j 0) else 0)))
        by_cases c : s.testBit j = true
        · rw [if_pos c, if_neg (show ¬ nI 1 = 0 by decide), if_pos c]
        · rw [if_neg c, if_pos (show nI 0 = 0 by decide), if_neg c, Nat.or_zero]
      rw [key, tl_bs]
      exact ih (j + 1) (by omega) (by omega)
theorem t1_nu (H : tl_Sh h) (G : tl_Al h l (qL l t l.length)) (hw : tl_wf l) {s : Nat} (hs : s < 65536) : mi_X1_numbersOf am_f h 94 (nI s) = some (nI (qM l t s l.length)) := by
  have h16 := hw.1
  have hA : (qL l t l.length).length ≤ 16 := Nat.le_trans (qL_le l t _) h16
  unfold mi_X1_numbersOf
  rw [oc_94 H, tl_bs]
  have e := t1_nuL H G hw hs am_f 0 (Nat.zero_le _) (by unfold am_f; omega)
  rw [show lo_X1_numbersOf_4 am_f h 94 (nI s) am_f 0 0 = _ from e, tl_bs]
end LE
