-- sets of places, sets of numbers
theorem qP_eqA {l : List Nat} {s s2 t : Nat} (h : ∀ i, i < l.length → sV (l.getD i 0) t = true → s.testBit i = s2.testBit i) : qA l s t = qA l s2 t := by
  unfold qA
  have key : ∀ n, n ≤ l.length → uf_fd l (qP l s t) uf_0 n = uf_fd l (qP l s2 t) uf_0 n := by
    intro n
    induction n with
    | zero => intro _; rfl
    | succ n ih =>
      intro hn
      have e : qP l s t n = qP l s2 t n := by
        unfold qP
        by_cases c : sV (l.getD n 0) t = true
        · rw [h n (by omega) c]
        · rw [Bool.eq_false_iff.mpr c, Bool.and_false, Bool.and_false]
      by_cases q : qP l s t n = true
      · rw [uf_fd_t q, uf_fd_t (e ▸ q), ih (by omega)]
      · have q0 : qP l s t n = false := by simpa using q
        rw [uf_fd_f q0, uf_fd_f (e ▸ q0), ih (by omega)]
  rw [key _ (Nat.le_refl _)]
theorem qA_add {l : List Nat} (hw : tl_wf l) {s s2 t v : Nat} (hv : v < l.length) (hl : sV (l.getD v 0) t = true) (h : ∀ i, i < l.length → (s2.testBit i = true ↔ s.testBit i = true ∨ i = v)) : uf_n (qA l s2 t).1 + (if uf_rt (qA l s t).1 (sL (l.getD v 0)) = uf_rt (qA l s t).1 (sH (l.getD v 0)) then 0 else 1) = uf_n (qA l s t).1 := by
  have o1 := qA_ok hw s t
  have o2 := qA_ok hw s2 t
  have vv := (tl_wf_at hw (tl_gd hv)).2.1
  obtain ⟨j1, j2, j3⟩ := uf_j_ok o1.1 o1.2 (a := sL (l.getD v 0)) (b := sH (l.getD v 0)) (sL_lt vv) (sH_lt _)
  have e : uf_n (uf_j (qA l s t) (sL (l.getD v 0)) (sH (l.getD v 0))).2.1 = uf_n (qA l s2 t).1 := by
    refine uf_n_eq j1 o2.1 j2 o2.2 ?_ ?_
    · rintro x y ((q | ⟨i, a1, a2, a3⟩) | ⟨rfl, rfl⟩)
      · exact q.elim
      · unfold qP at a2
        rw [Bool.and_eq_true] at a2
        exact uf_C_in (Or.inr ⟨i, a1, by unfold qP; rw [Bool.and_eq_true]; exact ⟨(h i a1).mpr (Or.inl a2.1), a2.2⟩, a3⟩)
      · exact uf_C_in (Or.inr ⟨v, hv, by unfold qP; rw [Bool.and_eq_true]; exact ⟨(h v hv).mpr (Or.inr rfl), hl⟩, rfl, rfl⟩)
    · rintro x y (q | ⟨i, a1, a2, a3⟩)
      · exact q.elim
      · unfold qP at a2
        rw [Bool.and_eq_true] at a2
        rcases (h i a1).mp a2.1 with c | rfl
        · exact uf_C_in (Or.inl (Or.inr ⟨i, a1, by unfold qP; rw [Bool.and_eq_true]; exact ⟨c, a2.2⟩, a3⟩))
        · exact uf_C_in (Or.inr a3)
  rw [← e]
  by_cases c : uf_rt (qA l s t).1 (sL (l.getD v 0)) = uf_rt (qA l s t).1 (sH (l.getD v 0))
  · have b : (uf_j (qA l s t) (sL (l.getD v 0)) (sH (l.getD v 0))).1 = false := by
      unfold uf_j
      rw [if_pos c]
    rw [b] at j3
    rw [if_pos c]
    simpa using j3
  · have b : (uf_j (qA l s t) (sL (l.getD v 0)) (sH (l.getD v 0))).1 = true := by
      unfold uf_j
      rw [if_neg c]
    rw [b] at j3
    rw [if_neg c]
    simpa using j3
/-- a set of places as a set of numbers -/
def qM (l : List Nat) (t s : Nat) (n : Nat) : Nat := tl_B (fun v => sV (l.getD v 0) t && s.testBit (qL l t v).length) n
theorem qL_pl {l : List Nat} {t : Nat} : ∀ n v, v < n → sV (l.getD v 0) t = true → (qL l t n)[(qL l t v).length]? = some v
  | 0, v, h, _ => by omega
  | n + 1, v, h, c => by
    by_cases e : v = n
    · subst e
      rw [qL_t c, List.getElem?_append_right (Nat.le_refl _), Nat.sub_self]
      rfl
    · have ih := qL_pl n v (by omega) c
      by_cases d : sV (l.getD n 0) t = true
      · rw [qL_t d, List.getElem?_append_left (tl_lt_of ih)]; exact ih
      · rw [qL_f d]; exact ih
theorem qL_pl_of {l : List Nat} {t n j v : Nat} (h : (qL l t n)[j]? = some v) : (qL l t v).length = j := by
  have a := qL_at n j v h
  exact qL_inj (qL_pl n v a.1 a.2) h
theorem qM_tb {l : List Nat} {t s n v : Nat} : (qM l t s n).testBit v = (decide (v < n) && (sV (l.getD v 0) t && s.testBit (qL l t v).length)) := by
  unfold qM
  rw [tl_B_tb]
theorem qM_pl {l : List Nat} {t s n j v : Nat} (h : (qL l t n)[j]? = some v) : s.testBit j = (qM l t s n).testBit v := by
  have a := qL_at n j v h
  rw [qM_tb, qL_pl_of h, a.2, decide_eq_true a.1, Bool.true_and, Bool.true_and]
theorem qM_lt (l : List Nat) (t s : Nat) {n : Nat} (hn : n ≤ 16) : qM l t s n < 65536 := tl_B_16 _ hn
theorem qM_O {l : List Nat} {t s : Nat} : tl_O (fun i => if s.testBit i = true then 2 ^ ((qL l t l.length).getD i 0) else 0) (qL l t l.length).length = qM l t s l.length := by
  apply Nat.eq_of_testBit_eq
  intro v
  rw [Bool.eq_iff_iff, tl_O_tb, qM_tb]
  simp only [Bool.and_eq_true, decide_eq_true_eq]
  constructor
  · rintro ⟨i, i1, i2⟩
    have hg := tl_gd (l := qL l t l.length) (i := i) i1
    by_cases c : s.testBit i = true
    · rw [if_pos c, Nat.testBit_two_pow, decide_eq_true_eq] at i2
      have a := qL_at _ _ _ hg
      have p := qL_pl_of hg
      rw [i2] at a p
      exact ⟨a.1, a.2, by rw [p]; exact c⟩
    · rw [if_neg c, Nat.zero_testBit] at i2; cases i2
  · rintro ⟨v1, v2, v3⟩
    have p := qL_pl _ v v1 v2
    refine ⟨(qL l t v).length, tl_lt_of p, ?_⟩
    rw [if_pos v3, List.getD_eq_getElem?_getD, p, Nat.testBit_two_pow]
    exact decide_eq_true rfl
theorem tl_all1 {m j : Nat} : (2 ^ m - 1).testBit j = decide (j < m) := Nat.testBit_two_pow_sub_one m j
theorem tl_notN {s : Nat} (hs : s < 65536) : ((65535 : Int32) &&& (nI s ^^^ (-1))) = nI (65535 ^^^ s) := by
  rw [show (-1 : Int32) = nI (2 ^ 32 - 1) from rfl, il_65535, fa_xor, fa_and]
  congr 1
  apply Nat.eq_of_testBit_eq
  intro k
  rw [Nat.testBit_and, Nat.testBit_xor, Nat.testBit_xor, show 65535 = 2 ^ 16 - 1 from rfl, tl_all1, tl_all1]
  by_cases c : k < 16
  · rw [decide_eq_true c, decide_eq_true (show k < 32 by omega), Bool.true_and]
    cases s.testBit k <;> rfl
  · have z : s.testBit k = false := Nat.testBit_lt_two_pow (Nat.lt_of_lt_of_le hs (Nat.pow_le_pow_right (n := 2) (by decide) (show 16 ≤ k by omega)))
    rw [decide_eq_false c, z]; rfl
theorem tl_xor_lt {s : Nat} (hs : s < 65536) : 65535 ^^^ s < 65536 := Nat.xor_lt_two_pow (n := 16) (by decide) hs
theorem tl_xor_tb {s k : Nat} (hk : k < 16) : (65535 ^^^ s).testBit k = !s.testBit k := by
  rw [Nat.testBit_xor, tl_all k hk, Bool.true_xor]
section BR
variable {h : am_H} {l A : List Nat}
theorem t1_all (H : tl_Sh h) (G : tl_Al h l A) (hA : A.length ≤ 16) : mi_X1_all am_f h 94 = some (nI (2 ^ A.length - 1)) := by
  unfold mi_X1_all
  have := Nat.two_pow_pos A.length
  rw [oc_94 H, tl_bs, oi_94 H, tl_bs, G.1, tl_sh1 _ (by omega), il_1, pk_sub (by omega)]
/-- the class's bridges, by places -/
def qBc (l : List Nat) (t : Nat) (i : Nat) : Nat := if uf_rt (qA l (65535 ^^^ 2 ^ ((qL l t l.length).getD i 0)) t).1 (sL (l.getD ((qL l t l.length).getD i 0) 0)) = uf_rt (qA l (65535 ^^^ 2 ^ ((qL l t l.length).getD i 0)) t).1 (sH (l.getD ((qL l t l.length).getD i 0) 0)) then 0 else 2 ^ ((qL l t l.length).getD i 0)
theorem t6_brL (H : tl_Sh h) {t : Nat} (G : tl_Al h l (qL l t l.length)) (hw : tl_wf l) : ∀ n j, j ≤ (qL l t l.length).length → (qL l t l.length).length - j < n → lo_X6_bridges_25 am_f h 0 n (nI (tl_O (qBc l t) j)) (nI j) = some (nI (tl_O (qBc l t) (qL l t l.length).length)) := by
  have h16 := hw.1
  have hA : (qL l t l.length).length ≤ 16 := Nat.le_trans (qL_le l t _) h16
  intro n
  induction n with
  | zero => intro j _ q; omega
  | succ n ih =>
    intro j hj hjn
    rw [lo_X6_bridges_25.eq_2, or_0_5 H, tl_bs, oi_94 H, tl_bs, G.1]
    simp only [nI_leI (show (qL l t l.length).length < 2 ^ 31 by omega) (show j < 2 ^ 31 by omega)]
    by_cases h1 : (qL l t l.length).length ≤ j
    · rw [if_pos h1, show j = (qL l t l.length).length by omega]
    · have hg := tl_gd (l := qL l t l.length) (i := j) (by omega)
      have j16 : j < 16 := by omega
      obtain ⟨g1, g2, g3, -⟩ := G.2 j _ hg
      obtain ⟨a1, a2⟩ := qL_at _ _ _ hg
      have vv := (tl_wf_at hw (tl_gd a1)).2.1
      rw [if_neg h1]
      simp only [tl_bs, or_94_0 H, or_94_1 H, or_94_2 H, al_95 H j16, al_96 H j16, al_97 H j16, g1, g2, g3, t1_all H G hA, tl_sh1 j (show j < 31 by omega), fa_xor]
      have hx : (2 ^ (qL l t l.length).length - 1) ^^^ 2 ^ j < 65536 := Nat.xor_lt_two_pow (n := 16) (Nat.lt_of_lt_of_le (Nat.sub_lt (Nat.two_pow_pos _) (by decide)) (Nat.pow_le_pow_right (n := 2) (by decide) hA)) (Nat.pow_lt_pow_right (by decide) j16)
      rw [t1_aj H G hw (s2 := 65535 ^^^ 2 ^ ((qL l t l.length).getD j 0)) hx (fun i v hi => by
        have b := qL_at _ _ _ hi
        rw [tl_xor_tb (by omega), Nat.testBit_xor, tl_all1, decide_eq_true (tl_lt_of hi), Bool.true_xor, Nat.testBit_two_pow, Nat.testBit_two_pow]
        congr 1
        apply decide_eq_decide.mpr
        constructor
        · intro e
          subst e
          rw [hg] at hi
          exact Option.some.inj hi
        · intro e
          rw [e] at hg
          exact qL_inj hg hi) (sL_lt vv) (sH_lt _), tl_bs, nI_1]
      rw [tl_sh1 _ (show (qL l t l.length).getD j 0 < 31 by omega), fa_or]
      have key : ((if decide (uf_rt (qA l (65535 ^^^ 2 ^ ((qL l t l.length).getD j 0)) t).1 (sL (l.getD ((qL l t l.length).getD j 0) 0)) = uf_rt (qA l (65535 ^^^ 2 ^ ((qL l t l.length).getD j 0)) t).1 (sH (l.getD ((qL l t l.length).getD j 0) 0))) = true then some (nI (tl_O (qBc l t) j)) else some (nI (tl_O (qBc l t) j ||| 2 ^ ((qL l t l.length).getD j 0)))) : Option Int32) = some (nI (tl_O (qBc l t) (j + 1))) := by
        show _ = some (nI (tl_O (qBc l t) j ||| qBc l t j))
        unfold qBc
        by_cases c : uf_rt (qA l (65535 ^^^ 2 ^ ((qL l t l.length).getD j 0)) t).1 (sL (l.getD ((qL l t l.length).getD j 0) 0)) = uf_rt (qA l (65535 ^^^ 2 ^ ((qL l t l.length).getD j 0)) t).1 (sH (l.getD ((qL l t l.length).getD j 0) 0))
        · rw [if_pos (decide_eq_true c), if_pos c, Nat.or_zero]
        · rw [if_neg (by rw [decide_eq_true_eq]; exact c), if_neg c]
      rw [key, tl_bs]
      exact ih (j + 1) (by omega) (by omega)
def qBm (l : List Nat) (t : Nat) : Nat → Bool := fun k => decide (uf_n (qA l 65535 t).1 < uf_n (qA l (65535 ^^^ 2 ^ k) t).1)
theorem t7_brL (hw : tl_wf l) {t : Nat} (ht : t < 16) : ∀ n j h, tl_Sh h → tl_Mo h 0 l → j ≤ l.length → l.length - j < n → ∃ h2, lo_X7_bridges_23 am_f 118 (nI t) (nI (uf_n (qA l 65535 t).1)) n (nI (tl_B (qBm l t) j)) (nI j) h = some (nI (tl_B (qBm l t) l.length), h2) ∧ tl_on [123, 124] h h2 := by
  have h16 := hw.1
  intro n
  induction n with
  | zero => intro j h _ _ _ q; omega
  | succ n ih =>
    intro j h H M hj hjn
    rw [lo_X7_bridges_23.eq_2, il_0, t7_many H (by decide) M, tl_bs]
    simp only [nI_leI (show l.length < 2 ^ 31 by omega) (show j < 2 ^ 31 by omega)]
    by_cases h1 : l.length ≤ j
    · rw [if_pos h1, show j = l.length by omega]
      exact ⟨h, rfl, tl_on_rf⟩
    · have p16 : 2 ^ j < 65536 := show 2 ^ j < 2 ^ 16 from Nat.pow_lt_pow_right (by decide) (by omega)
      obtain ⟨h2, a1, a2, a3⟩ := t7_parts H hw (show 0 < 2 by decide) M ht (tl_xor_lt p16)
      have b1 := uf_n8 (qA l 65535 t).1
      have b2 := uf_n8 (qA l (65535 ^^^ 2 ^ j) t).1
      rw [if_neg h1, tl_sh1 j (by omega), tl_notN p16, a1, tl_bs]
      dsimp only
      simp only [nI_leI (show uf_n (qA l (65535 ^^^ 2 ^ j) t).1 < 2 ^ 31 by omega) (show uf_n (qA l 65535 t).1 < 2 ^ 31 by omega)]
      have key : ((if uf_n (qA l (65535 ^^^ 2 ^ j) t).1 ≤ uf_n (qA l 65535 t).1 then some (nI 0) else some (nI (2 ^ j))) : Option Int32) = some (nI (if qBm l t j = true then 2 ^ j else 0)) := by
        unfold qBm
        by_cases c : uf_n (qA l (65535 ^^^ 2 ^ j) t).1 ≤ uf_n (qA l 65535 t).1
        · rw [if_pos c, if_neg (by rw [decide_eq_true_eq]; omega)]
        · rw [if_neg c, if_pos (by rw [decide_eq_true_eq]; omega)]
      rw [key, tl_bs, fa_or, nI_1]
      obtain ⟨h3, e1, e2⟩ := ih (j + 1) h2 (tl_on_Sh H a3) (tl_on_Mo (by decide) a3 M) (by omega) (by omega)
      exact ⟨h3, e1, tl_on_tr a3 e2⟩
theorem qB_eq (hw : tl_wf l) (t : Nat) : tl_O (qBc l t) (qL l t l.length).length = tl_B (qBm l t) l.length := by
  have h16 := hw.1
  have al : ∀ v, v < l.length → sV (l.getD v 0) t = true → (qBm l t v = true ↔ ¬ uf_rt (qA l (65535 ^^^ 2 ^ v) t).1 (sL (l.getD v 0)) = uf_rt (qA l (65535 ^^^ 2 ^ v) t).1 (sH (l.getD v 0))) := by
    intro v v1 v2
    have a := qA_add hw (s := 65535 ^^^ 2 ^ v) (s2 := 65535) v1 v2 (fun i hi => by
      rw [tl_all i (by omega), tl_xor_tb (by omega), Nat.testBit_two_pow]
      simp
      omega)
    unfold qBm
    rw [decide_eq_true_eq]
    by_cases c : uf_rt (qA l (65535 ^^^ 2 ^ v) t).1 (sL (l.getD v 0)) = uf_rt (qA l (65535 ^^^ 2 ^ v) t).1 (sH (l.getD v 0))
    · rw [if_pos c] at a
      constructor
      · intro q; omega
      · intro q; exact absurd c q
    · rw [if_neg c] at a
      constructor
      · intro _; exact c
      · intro _; omega
  apply Nat.eq_of_testBit_eq
  intro v
  rw [Bool.eq_iff_iff, tl_O_tb, tl_B_tb, Bool.and_eq_true, decide_eq_true_eq]
  constructor
  · rintro ⟨i, i1, i2⟩
    have hg := tl_gd (l := qL l t l.length) (i := i) i1
    obtain ⟨a1, a2⟩ := qL_at _ _ _ hg
    unfold qBc at i2
    generalize hx : (qL l t l.length).getD i 0 = x at *
    by_cases c : uf_rt (qA l (65535 ^^^ 2 ^ x) t).1 (sL (l.getD x 0)) = uf_rt (qA l (65535 ^^^ 2 ^ x) t).1 (sH (l.getD x 0))
    · rw [if_pos c, Nat.zero_testBit] at i2; cases i2
    · rw [if_neg c, Nat.testBit_two_pow, decide_eq_true_eq] at i2
      subst i2
      exact ⟨a1, (al _ a1 a2).mpr c⟩
  · rintro ⟨v1, v2⟩
    by_cases c : sV (l.getD v 0) t = true
    · have p := qL_pl _ v v1 c
      refine ⟨(qL l t v).length, tl_lt_of p, ?_⟩
      have e : (qL l t l.length).getD (qL l t v).length 0 = v := by rw [List.getD_eq_getElem?_getD, p]; rfl
      unfold qBc
      rw [e, if_neg ((al v v1 c).mp v2), Nat.testBit_two_pow]
      exact decide_eq_true rfl
    · have e : qA l (65535 ^^^ 2 ^ v) t = qA l 65535 t := qP_eqA (fun i hi ci => by
        rw [tl_all i (by omega), tl_xor_tb (by omega), Nat.testBit_two_pow]
        have : v ≠ i := fun z => c (z ▸ ci)
        simp [this])
      unfold qBm at v2
      rw [e, decide_eq_true_eq] at v2
      omega
theorem e_bridges (I : tl_I h) (a : Int32) : tl_st (mi_X6_bridges am_f h 0 a) (fun h1 => mi_X7_bridges am_f h1 118 a) := by
  obtain ⟨H, ⟨l, S⟩, -⟩ := id I
  have h16 := S.1.1
  unfold mi_X6_bridges mi_X7_bridges tl_st
  simp only [oc_0 H, tl_bs, t6_tm, t7_tm]
  by_cases ha : tl_tm a = true
  · obtain ⟨t, t16, rfl⟩ := tl_tm_of ha
    obtain ⟨h1, x1, x2, x3⟩ := t1_ga tl_sps7 H S.2.1 S.1 t16
    have H1 := tl_on_Sh H x3
    have k1 := tl_on_fr tl_s_al x3
    have S1 := tl_fr_PS k1 S
    obtain ⟨h2, y1, y2, y3⟩ := t7_parts H1 S.1 (show 0 < 2 by decide) S1.2.2 t16 (show 65535 < 65536 by decide)
    obtain ⟨h3, z1, z2⟩ := t7_brL S.1 t16 am_f 0 h2 (tl_on_Sh H1 y3) (tl_on_Mo (by decide) y3 S1.2.2) (Nat.zero_le _) (by unfold am_f; omega)
    have c1 := t6_brL H1 x2 S.1 am_f 0 (Nat.zero_le _) (by have := qL_le l t l.length; unfold am_f; omega)
    refine ⟨nI (tl_B (qBm l t) l.length), h1, h3, ?_, ?_, tl_fr_Iv (tl_fr_tr k1 (tl_fr_tr (tl_on_fr tl_s_mu y3) (tl_on_fr tl_s_mu z2))) I⟩
    · simp only [tl_if1 ha, or_0_5 H, or_0_1 H, tl_bs, x1]
      rw [show lo_X6_bridges_25 am_f h1 0 am_f 0 0 = _ from c1, tl_bs, qB_eq S.1 t]
    · simp only [oc_118 H1, tl_if1 ha, tl_bs]
      rw [il_0, il_65535, y1, tl_bs]
      dsimp only
      rw [show lo_X7_bridges_23 am_f 118 (nI t) (nI (uf_n (qA l 65535 t).1)) am_f (nI 0) (nI 0) h2 = _ from z1, tl_bs]
  · have ha : tl_tm a = false := by simpa using ha
    refine ⟨-1, h, h, ?_, ?_, I⟩
    · simp only [tl_if0 ha]
    · simp only [oc_118 H, tl_bs, tl_if0 ha]
end BR
