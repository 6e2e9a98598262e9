def tl_th (l : List Nat) (d : Nat) : Bool × List Nat :=
  if d / 10000 = 1 then (decide (¬ (tl_put l (nI (d / 100 % 100 / 10)) (nI (d / 100 % 100 % 10)) (nI (d % 100 / 10)) (nI (d % 100 % 10))).1 < 0), (tl_put l (nI (d / 100 % 100 / 10)) (nI (d / 100 % 100 % 10)) (nI (d % 100 / 10)) (nI (d % 100 % 10))).2)
  else if d / 10000 = 2 then (if d / 100 % 100 = 0 then (decide (¬ (tl_cut l (nI (d % 100))).1 < 0), (tl_cut l (nI (d % 100))).2) else (false, l))
  else if d / 10000 = 3 then (decide (¬ (tl_end l (nI (d / 100 % 100)) (nI (d % 100))).1 < 0), (tl_end l (nI (d / 100 % 100)) (nI (d % 100))).2)
  else if d / 10000 = 4 then (if d / 100 % 100 / 10 < 8 ∧ d / 100 % 100 % 10 < 8 ∧ d % 100 < 16 then (decide (uf_rt (qA l 65535 (d % 100)).1 (d / 100 % 100 / 10) = uf_rt (qA l 65535 (d % 100)).1 (d / 100 % 100 % 10)), l) else (false, l))
  else if d / 10000 = 5 then (if d / 100 % 100 / 10 = 0 ∧ d % 100 < 16 then (decide (d / 100 % 100 % 10 ≤ uf_n (qA l 65535 (d % 100)).1), l) else (false, l))
  else (false, l)
theorem tl_e0 {k : Nat} (h : k < 2 ^ 31) : (nI k = 0) ↔ k = 0 := by rw [il_0]; exact nI_eq h (by decide)
theorem tl_nn (x : Int32) : ((if x < 0 then some false else some true) : Option Bool) = some (decide (¬ x < 0)) := by
  by_cases c : x < 0
  · rw [if_pos c, decide_eq_false (fun z => z c)]
  · rw [if_neg c, decide_eq_true c]
theorem tl_nn2 (x : Int32) (h : am_H) : ((if x < 0 then some (false, h) else some (true, h)) : Option (Bool × am_H)) = some (decide (¬ x < 0), h) := by
  by_cases c : x < 0
  · rw [if_pos c, decide_eq_false (fun z => z c)]
  · rw [if_neg c, decide_eq_true c]
section JG
variable {h : am_H} {l : List Nat}
theorem t6_stn (H : tl_Sh h) (S : tl_Sp h 12 l) (hw : tl_wf l) {d : Nat} (hd : d < 100000) : ∃ h2, mi_X6_stands am_f h 0 (nI d) = some ((tl_th l d).1, h2) ∧ tl_Sp h2 12 (tl_th l d).2 ∧ tl_wf (tl_th l d).2 ∧ tl_fr h h2 := by
  have d31 : d < 2 ^ 31 := by omega
  have e1 : nI d / 10000 = nI (d / 10000) := by rw [il_10000]; exact pk_div d31 (by decide) (by decide)
  have e2 : nI d / 1000 - nI d / 1000 / 10 * 10 = nI (d / 100 % 100 / 10) := by
    rw [il_1000, il_10, pk_div d31 (by decide) (by decide), pk_rem (by omega) (by decide) (by decide), show d / 1000 % 10 = d / 100 % 100 / 10 by omega]
  have e3 : nI d / 100 - nI d / 100 / 10 * 10 = nI (d / 100 % 100 % 10) := by
    rw [il_100, il_10, pk_div d31 (by decide) (by decide), pk_rem (by omega) (by decide) (by decide), show d / 100 % 10 = d / 100 % 100 % 10 by omega]
  have e4 : nI d / 100 - nI d / 100 / 100 * 100 = nI (d / 100 % 100) := by
    rw [il_100, pk_div d31 (by decide) (by decide), pk_rem (by omega) (by decide) (by decide)]
  have e5 : nI d - nI d / 100 * 100 = nI (d % 100) := by rw [il_100]; exact pk_rem d31 (by decide) (by decide)
  have e6 : nI (d % 100) / 10 = nI (d % 100 / 10) := by rw [il_10]; exact pk_div (by omega) (by decide) (by decide)
  have e7 : nI (d % 100) - nI (d % 100) / 10 * 10 = nI (d % 100 % 10) := by rw [il_10]; exact pk_rem (by omega) (by decide) (by decide)
  unfold mi_X6_stands tl_th
  rw [e5, e7, e6, e4, e3, e2, e1]
  have q0 : d / 100 % 100 < 100 := Nat.mod_lt _ (by decide)
  have q1 : d % 100 < 100 := Nat.mod_lt _ (by decide)
  generalize d / 100 % 100 = two at q0 ⊢
  generalize d % 100 = low at q1 ⊢
  have hh : d / 10000 < 10 := by omega
  generalize d / 10000 = how at hh ⊢
  simp only [oc_0 H, tl_bs, il_1, il_2, il_3, il_4, il_5, nI_eq (show how < 2 ^ 31 by omega) (show 1 < 2 ^ 31 by decide), nI_eq (show how < 2 ^ 31 by omega) (show 2 < 2 ^ 31 by decide), nI_eq (show how < 2 ^ 31 by omega) (show 3 < 2 ^ 31 by decide), nI_eq (show how < 2 ^ 31 by omega) (show 4 < 2 ^ 31 by decide), nI_eq (show how < 2 ^ 31 by omega) (show 5 < 2 ^ 31 by decide), tl_e0 (show two < 2 ^ 31 by omega), tl_e0 (show two / 10 < 2 ^ 31 by omega)]
  by_cases c1 : how = 1
  · rw [if_pos c1, if_pos c1, or_0_2 H, tl_bs]
    obtain ⟨h2, x1, x2, x3, x4⟩ := t5_add H sps12 S hw (nI (two / 10)) (nI (two % 10)) (nI (low / 10)) (nI (low % 10))
    rw [x1, tl_bs]
    dsimp only
    rw [tl_nn, tl_bs]
    exact ⟨h2, rfl, x2, x3, tl_on_fr tl_s_12 x4⟩
  · rw [if_neg c1, if_neg c1]
    by_cases c2 : how = 2
    · rw [if_pos c2, if_pos c2]
      by_cases k : two = 0
      · rw [if_pos k, if_pos k, or_0_2 H, tl_bs]
        obtain ⟨h2, x1, x2, x3, x4⟩ := t5_drop H sps12 S hw (nI low)
        rw [x1, tl_bs]
        dsimp only
        rw [tl_nn2, tl_bs]
        exact ⟨h2, rfl, x2, x3, tl_on_fr tl_s_12 x4⟩
      · rw [if_neg k, if_neg k, tl_bs]
        exact ⟨h, rfl, S, hw, tl_fr_rf⟩
    · rw [if_neg c2, if_neg c2]
      by_cases c3 : how = 3
      · rw [if_pos c3, if_pos c3, or_0_2 H, tl_bs]
        obtain ⟨h2, x1, x2, x3, x4⟩ := t5_stop H sps12 S hw (nI two) (nI low)
        rw [x1, tl_bs]
        dsimp only
        rw [tl_nn, tl_bs]
        exact ⟨h2, rfl, x2, x3, tl_on_fr tl_s_12 x4⟩
      · rw [if_neg c3, if_neg c3]
        by_cases c4 : how = 4
        · rw [if_pos c4, if_pos c4]
          simp only [t6_kn, t6_tm, tl_bs, tl_kn_d (show two / 10 < 2 ^ 31 by omega), tl_kn_d (show two % 10 < 2 ^ 31 by omega), tl_tm_d (show low < 2 ^ 31 by omega), decide_eq_true_eq]
          by_cases k1 : two / 10 < 8
          · by_cases k2 : two % 10 < 8
            · by_cases k3 : low < 16
              · rw [if_pos k1, if_pos k2, if_pos k3, if_pos ⟨k1, k2, k3⟩]
                obtain ⟨h2, x1, x2, x3⟩ := t6_jt H S hw k1 k2 k3
                rw [x1, tl_bs]
                dsimp only
                rw [tl_ite2, tl_bs]
                exact ⟨h2, rfl, x2, hw, x3⟩
              · rw [if_pos k1, if_pos k2, if_neg k3, if_neg (fun z => k3 z.2.2), tl_bs]
                exact ⟨h, rfl, S, hw, tl_fr_rf⟩
            · rw [if_pos k1, if_neg k2, if_neg (fun z => k2 z.2.1), tl_bs]
              exact ⟨h, rfl, S, hw, tl_fr_rf⟩
          · rw [if_neg k1, if_neg (fun z => k1 z.1), tl_bs]
            exact ⟨h, rfl, S, hw, tl_fr_rf⟩
        · rw [if_neg c4, if_neg c4]
          by_cases c5 : how = 5
          · rw [if_pos c5, if_pos c5]
            simp only [t6_tm, tl_bs, tl_tm_d (show low < 2 ^ 31 by omega), decide_eq_true_eq]
            by_cases k1 : two / 10 = 0
            · by_cases k3 : low < 16
              · rw [if_pos k1, if_pos k3, if_pos ⟨k1, k3⟩]
                obtain ⟨h2, x1, x2, x3⟩ := t6_pt H S hw k3
                have n8 := uf_n8 (qA l 65535 low).1
                rw [x1, tl_bs]
                dsimp only
                simp only [nI_ltI (show uf_n (qA l 65535 low).1 < 2 ^ 31 by omega) (show two % 10 < 2 ^ 31 by omega)]
                by_cases k4 : uf_n (qA l 65535 low).1 < two % 10
                · rw [if_pos k4, tl_bs, decide_eq_false (by omega)]
                  exact ⟨h2, rfl, x2, hw, x3⟩
                · rw [if_neg k4, tl_bs, decide_eq_true (by omega)]
                  exact ⟨h2, rfl, x2, hw, x3⟩
              · rw [if_pos k1, if_neg k3, if_neg (fun z => k3 z.2), tl_bs]
                exact ⟨h, rfl, S, hw, tl_fr_rf⟩
            · rw [if_neg k1, if_neg (fun z => k1 z.1), tl_bs]
              exact ⟨h, rfl, S, hw, tl_fr_rf⟩
          · rw [if_neg c5, if_neg c5]
            exact ⟨h, rfl, S, hw, tl_fr_rf⟩
theorem t7_try (H : tl_Sh h) (M : tl_Mo h 1 l) (hw : tl_wf l) {d : Nat} (hd : d < 100000) : ∃ h2, mi_X7_tryThing am_f h 118 (nI (d / 10000)) (nI (d / 100 % 100)) (nI (d % 100)) = some ((tl_th l d).1, h2) ∧ tl_Mo h2 1 (tl_th l d).2 ∧ tl_fr h h2 := by
  have h16 := hw.1
  unfold mi_X7_tryThing tl_th
  have q0 : d / 100 % 100 < 100 := Nat.mod_lt _ (by decide)
  have q1 : d % 100 < 100 := Nat.mod_lt _ (by decide)
  generalize d / 100 % 100 = two at q0 ⊢
  generalize d % 100 = low at q1 ⊢
  have hh : d / 10000 < 10 := by omega
  generalize d / 10000 = how at hh ⊢
  have e2 : nI two / 10 = nI (two / 10) := by rw [il_10]; exact pk_div (by omega) (by decide) (by decide)
  have e3 : nI two - nI two / 10 * 10 = nI (two % 10) := by rw [il_10]; exact pk_rem (by omega) (by decide) (by decide)
  have e6 : nI low / 10 = nI (low / 10) := by rw [il_10]; exact pk_div (by omega) (by decide) (by decide)
  have e7 : nI low - nI low / 10 * 10 = nI (low % 10) := by rw [il_10]; exact pk_rem (by omega) (by decide) (by decide)
  rw [e3, e7, e2, e6]
  simp only [oc_118 H, tl_bs, il_1, il_2, il_3, il_4, il_5, il_65535, nI_eq (show how < 2 ^ 31 by omega) (show 1 < 2 ^ 31 by decide), nI_eq (show how < 2 ^ 31 by omega) (show 2 < 2 ^ 31 by decide), nI_eq (show how < 2 ^ 31 by omega) (show 3 < 2 ^ 31 by decide), nI_eq (show how < 2 ^ 31 by omega) (show 4 < 2 ^ 31 by decide), nI_eq (show how < 2 ^ 31 by omega) (show 5 < 2 ^ 31 by decide), tl_e0 (show two < 2 ^ 31 by omega), tl_e0 (show two / 10 < 2 ^ 31 by omega)]
  by_cases c1 : how = 1
  · rw [if_pos c1, if_pos c1, t7_cpt H (by decide) M hw, tl_bs]
    obtain ⟨h2, x1, x2, x3⟩ := t7_ptr H M hw (nI (two / 10)) (nI (two % 10)) (nI (low / 10)) (nI (low % 10))
    refine ⟨h2, ?_, x2, x3⟩
    exact (congrArg (fun z => Option.bind z _) x1).trans rfl
  · rw [if_neg c1, if_neg c1]
    by_cases c2 : how = 2
    · rw [if_pos c2, if_pos c2]
      by_cases k : two = 0
      · rw [if_pos k, if_pos k, t7_many H (by decide) M, tl_bs]
        simp only [nI_leI (show l.length < 2 ^ 31 by omega) (show low < 2 ^ 31 by omega)]
        unfold tl_cut
        rw [tl_hs_n (by omega), nI_tt (by omega)]
        by_cases k2 : l.length ≤ low
        · rw [if_pos k2, decide_eq_false (show ¬ low < l.length by omega), if_neg (show ¬ (false = true) by decide), tl_bs, if_neg (show ¬ (false = true) by decide), tl_bs]
          exact ⟨h, rfl, M, tl_fr_rf⟩
        · obtain ⟨h2, x1, x2, x3⟩ := t7_co H (show 1 < 2 by decide) M h16 (show low < l.length by omega)
          rw [if_neg k2, decide_eq_true (show low < l.length by omega), if_pos rfl, tl_bs, if_pos rfl, x1, tl_bs, tl_bs]
          exact ⟨h2, by rw [decide_eq_true (nI_pos (by omega))], x2, tl_oB_fr x3⟩
      · rw [if_neg k, if_neg k, tl_bs, if_neg (by decide), tl_bs]
        exact ⟨h, rfl, M, tl_fr_rf⟩
    · rw [if_neg c2, if_neg c2]
      by_cases c3 : how = 3
      · rw [if_pos c3, if_pos c3, t7_ce H (by decide) M hw, tl_bs]
        rcases tl_end_or l hw (nI two) (nI low) with ⟨z1, z2⟩ | ⟨k, t, ek, et, k1, t16, -, -, -, z⟩
        · rw [decide_eq_false (fun y => y z1), if_neg (by decide), tl_bs, z2]
          exact ⟨h, rfl, M, tl_fr_rf⟩
        · have := sT_lt (l.getD k 0)
          obtain ⟨h2, x1, x2, x3⟩ := t7_eo H (show 1 < 2 by decide) M hw (tl_gd k1) t16
          rw [z]
          rw [decide_eq_true (nI_pos (by omega)), if_pos rfl, ek, et, x1, tl_bs, tl_bs]
          exact ⟨h2, rfl, x2, tl_oB_fr x3⟩
      · rw [if_neg c3, if_neg c3]
        by_cases c4 : how = 4
        · rw [if_pos c4, if_pos c4]
          simp only [t7_kn, t7_tm, tl_bs, tl_kn_d (show two / 10 < 2 ^ 31 by omega), tl_kn_d (show two % 10 < 2 ^ 31 by omega), tl_tm_d (show low < 2 ^ 31 by omega), decide_eq_true_eq]
          by_cases k1 : two / 10 < 8
          · by_cases k2 : two % 10 < 8
            · by_cases k3 : low < 16
              · rw [if_pos k1, if_pos k2, if_pos k3, if_pos ⟨k1, k2, k3⟩]
                obtain ⟨h2, x1, x2⟩ := t7_joined H hw (show 1 < 2 by decide) M k3 (show 65535 < 65536 by decide) k1 k2
                rw [x1, tl_bs]
                dsimp only
                rw [tl_ite2, tl_bs]
                exact ⟨h2, rfl, tl_on_Mo (by decide) x2 M, tl_on_fr tl_s_mu x2⟩
              · rw [if_pos k1, if_pos k2, if_neg k3, if_neg (fun z => k3 z.2.2), tl_bs]
                exact ⟨h, rfl, M, tl_fr_rf⟩
            · rw [if_pos k1, if_neg k2, if_neg (fun z => k2 z.2.1), tl_bs]
              exact ⟨h, rfl, M, tl_fr_rf⟩
          · rw [if_neg k1, if_neg (fun z => k1 z.1), tl_bs]
            exact ⟨h, rfl, M, tl_fr_rf⟩
        · rw [if_neg c4, if_neg c4]
          by_cases c5 : how = 5
          · rw [if_pos c5, if_pos c5]
            simp only [t7_tm, tl_bs, tl_tm_d (show low < 2 ^ 31 by omega), decide_eq_true_eq]
            by_cases k1 : two / 10 = 0
            · by_cases k3 : low < 16
              · rw [if_pos k1, if_pos k3, if_pos ⟨k1, k3⟩]
                obtain ⟨h2, x1, x2, x3⟩ := t7_parts H hw (show 1 < 2 by decide) M k3 (show 65535 < 65536 by decide)
                have n8 := uf_n8 (qA l 65535 low).1
                rw [x1, tl_bs]
                dsimp only
                simp only [nI_ltI (show uf_n (qA l 65535 low).1 < 2 ^ 31 by omega) (show two % 10 < 2 ^ 31 by omega)]
                by_cases k4 : uf_n (qA l 65535 low).1 < two % 10
                · rw [if_pos k4, tl_bs, decide_eq_false (by omega)]
                  exact ⟨h2, rfl, tl_on_Mo (by decide) x3 M, tl_on_fr tl_s_mu x3⟩
                · rw [if_neg k4, tl_bs, decide_eq_true (by omega)]
                  exact ⟨h2, rfl, tl_on_Mo (by decide) x3 M, tl_on_fr tl_s_mu x3⟩
              · rw [if_pos k1, if_neg k3, if_neg (fun z => k3 z.2), tl_bs]
                exact ⟨h, rfl, M, tl_fr_rf⟩
            · rw [if_neg k1, if_neg (fun z => k1 z.1), tl_bs]
              exact ⟨h, rfl, M, tl_fr_rf⟩
          · rw [if_neg c5, if_neg c5]
            exact ⟨h, rfl, M, tl_fr_rf⟩
def tl_jg (th : List Nat → Nat → Bool × List Nat) (g : Nat → Nat) : Nat → Nat → List Nat → Int32
  | 0, _, _ => -9
  | m + 1, k, l => if (th l (g k)).1 = true then tl_jg th g m (k + 1) (th l (g k)).2 else nI k
theorem t6_pwL (h : am_H) (b e : Nat) (he : e < 2 ^ 31) : ∀ n j, j ≤ e → e - j < n → lo_X6_power_5 am_f h (lN b) (nI e) n (lN (b ^ j)) (nI j) = some (lN (b ^ e)) := by
  intro n
  induction n with
  | zero => intro j _ q; omega
  | succ n ih =>
    intro j hj hn
    rw [lo_X6_power_5.eq_2]
    simp only [nI_leI he (show j < 2 ^ 31 by omega)]
    by_cases h1 : e ≤ j
    · rw [if_pos h1, show j = e by omega]
    · rw [if_neg h1, lN_mul, nI_1, ← Nat.pow_succ]
      exact ih (j + 1) (by omega) (by omega)
theorem t6_pw (h : am_H) (b : Nat) {e : Nat} (he : e < 1000) : mi_X6_power am_f h (lN b) (nI e) = some (lN (b ^ e)) := by
  unfold mi_X6_power
  have z := t6_pwL h b e (by omega) am_f 0 (by omega) (by unfold am_f; omega)
  rw [Nat.pow_zero] at z
  exact (congrArg (fun z => Option.bind z fun x => some x) z).trans rfl
theorem t7_bfL (h : am_H) (e : Nat) (he : e < 2 ^ 31) : ∀ n j, j ≤ e → e - j < n → lo_X7_byFives_4 am_f h (nI e) n (lN (100000 ^ j)) (nI j) = some (lN (100000 ^ e)) := by
  intro n
  induction n with
  | zero => intro j _ q; omega
  | succ n ih =>
    intro j hj hn
    rw [lo_X7_byFives_4.eq_2]
    simp only [nI_leI he (show j < 2 ^ 31 by omega)]
    by_cases h1 : e ≤ j
    · rw [if_pos h1, show j = e by omega]
    · rw [if_neg h1, ll_5, lN_mul, nI_1, ← Nat.pow_succ]
      exact ih (j + 1) (by omega) (by omega)
theorem t7_bf (h : am_H) {e : Nat} (he : e < 1000) : mi_X7_byFives am_f h (nI e) = some (lN (100000 ^ e)) := by
  unfold mi_X7_byFives
  have z := t7_bfL h e (by omega) am_f 0 (by omega) (by unfold am_f; omega)
  rw [Nat.pow_zero] at z
  exact (congrArg (fun z => Option.bind z fun x => some x) z).trans rfl
theorem tl_p5 {j : Nat} (hj : j ≤ 3) : 0 < 100000 ^ j ∧ 100000 ^ j ≤ 1000000000000000 := by
  rcases (show j = 0 ∨ j = 1 ∨ j = 2 ∨ j = 3 by omega) with rfl | rfl | rfl | rfl <;> decide
theorem t6_jgL {n N : Nat} (hn : n ≤ 3) (hN : N < 1000000000000000) : ∀ m k fu u h l, m + k = n → m < fu → (k < n → u = lN (100000 ^ (n - 1 - k))) → tl_Sh h → tl_Sp h 12 l → tl_wf l → ∃ w h2, lo_X6_judge_56 am_f 0 (nI n) (lN N) fu u (nI k) h = some w ∧ ((w = .inl h2 ∧ tl_jg tl_th (fun k => N / 100000 ^ (n - 1 - k) % 100000) m k l = -9) ∨ w = .inr (tl_jg tl_th (fun k => N / 100000 ^ (n - 1 - k) % 100000) m k l, h2)) ∧ tl_fr h h2 := by
  intro m
  induction m with
  | zero =>
    intro k fu u h l hk hf _ H S hw
    obtain ⟨fu, rfl⟩ : ∃ q, fu = q + 1 := ⟨fu - 1, by omega⟩
    rw [lo_X6_judge_56.eq_2]
    simp only [nI_leI (show n < 2 ^ 31 by omega) (show k < 2 ^ 31 by omega)]
    rw [if_pos (by omega)]
    exact ⟨_, h, rfl, Or.inl ⟨rfl, rfl⟩, tl_fr_rf⟩
  | succ m ih =>
    intro k fu u h l hk hf hu H S hw
    obtain ⟨fu, rfl⟩ : ∃ q, fu = q + 1 := ⟨fu - 1, by omega⟩
    have hu := hu (by omega)
    subst hu
    have p := tl_p5 (j := n - 1 - k) (by omega)
    rw [lo_X6_judge_56.eq_2]
    simp only [nI_leI (show n < 2 ^ 31 by omega) (show k < 2 ^ 31 by omega), lg_cmp_le]
    have nz : ¬ lN (100000 ^ (n - 1 - k)) ≤ 0 := by
      rw [ll_0, pk_lLE (by omega) (by decide)]; omega
    have nz2 : am_nzl (lN (100000 ^ (n - 1 - k))) = some () := by
      unfold am_nzl
      rw [if_neg]
      rw [ll_0, pk_lEQ (by omega) (by decide)]
      omega
    rw [if_neg (by omega), if_neg nz, nz2, tl_bs, pk_lDiv (by omega) p.1 (by omega), ll_5, pk_lRem (by have := Nat.div_le_self N (100000 ^ (n - 1 - k)); omega) (by decide) (by decide), lN_i, pk_lDiv (by omega) (by decide) (by decide), nI_1]
    have dd : N / 100000 ^ (n - 1 - k) % 100000 < 100000 := Nat.mod_lt _ (by decide)
    obtain ⟨h2, x1, x2, x3, x4⟩ := t6_stn H S hw dd
    rw [x1, tl_bs]
    dsimp only
    have ej : tl_jg tl_th (fun k => N / 100000 ^ (n - 1 - k) % 100000) (m + 1) k l = if (tl_th l (N / 100000 ^ (n - 1 - k) % 100000)).1 = true then tl_jg tl_th (fun k => N / 100000 ^ (n - 1 - k) % 100000) m (k + 1) (tl_th l (N / 100000 ^ (n - 1 - k) % 100000)).2 else nI k := by
      rw [tl_jg]
    rw [ej]
    by_cases c : (tl_th l (N / 100000 ^ (n - 1 - k) % 100000)).1 = true
    · rw [if_pos c, if_pos c]
      obtain ⟨w, h3, y1, y2, y3⟩ := ih (k + 1) fu (lN (100000 ^ (n - 1 - k) / 100000)) h2 _ (by omega) (by omega) (fun q => by
        congr 1
        rw [show n - 1 - k = (n - 1 - (k + 1)) + 1 by omega, Nat.pow_succ, Nat.mul_div_cancel _ (by decide)]) (tl_fr_Sh x4 H) x2 x3
      exact ⟨w, h3, y1, y2, tl_fr_tr x4 y3⟩
    · rw [if_neg c, if_neg c]
      exact ⟨_, h2, rfl, Or.inr rfl, x4⟩
theorem tl_th_wf (hw : tl_wf l) (d : Nat) : tl_wf (tl_th l d).2 := by
  have pw : ∀ a b c d, tl_wf (tl_put l a b c d).2 := fun a b c d => by
    rcases tl_put_or l a b c d with ⟨z1, z2⟩ | ⟨a', b', s, t, -, -, -, -, a8, b8, s16, t16, hn, hst, hl, hf, z⟩
    · rw [z2]; exact hw
    · rw [z]; exact tl_wf_app hw hl (tl_put_v a8 b8 s16 t16 hn hst)
  have cw : ∀ a, tl_wf (tl_cut l a).2 := fun a => by
    rcases tl_cut_or l hw a with ⟨z1, z2, -⟩ | ⟨k, -, k1, z⟩
    · rw [z2]; exact hw
    · rw [z]; exact tl_wf_er hw k
  have ew : ∀ a b, tl_wf (tl_end l a b).2 := fun a b => by
    rcases tl_end_or l hw a b with ⟨z1, z2⟩ | ⟨k, t, -, -, k1, t16, -, ft, -, z⟩
    · rw [z2]; exact hw
    · rw [z]
      obtain ⟨-, hv, w1, w2⟩ := tl_wf_at hw (tl_gd k1)
      refine tl_wf_set hw ?_
      rw [sC_L (sH_lt _) (sF_lt _) t16, sC_H (sH_lt _) (sF_lt _) t16, sC_F (sF_lt _) t16, sC_T t16]
      exact ⟨sC_lt (sL_lt hv) (sH_lt _) (sF_lt _) t16, w1, ft⟩
  unfold tl_th
  repeat' split
  all_goals first | exact pw _ _ _ _ | exact cw _ | exact ew _ _ | exact hw
theorem t7_jgL {n N : Nat} (hn : n ≤ 3) (hN : N < 1000000000000000) : ∀ m k fu h l, m + k = n → m < fu → tl_Sh h → tl_Mo h 1 l → tl_wf l → ∃ w h2, lo_X7_judge_36 am_f 118 (nI n) (lN N) fu (nI k) h = some w ∧ ((w = .inl h2 ∧ tl_jg tl_th (fun k => N / 100000 ^ (n - 1 - k) % 100000) m k l = -9) ∨ w = .inr (tl_jg tl_th (fun k => N / 100000 ^ (n - 1 - k) % 100000) m k l, h2)) ∧ tl_fr h h2 := by
  intro m
  induction m with
  | zero =>
    intro k fu h l hk hf H S hw
    obtain ⟨fu, rfl⟩ : ∃ q, fu = q + 1 := ⟨fu - 1, by omega⟩
    rw [lo_X7_judge_36.eq_2]
    simp only [nI_leI (show n < 2 ^ 31 by omega) (show k < 2 ^ 31 by omega)]
    rw [if_pos (by omega)]
    exact ⟨_, h, rfl, Or.inl ⟨rfl, rfl⟩, tl_fr_rf⟩
  | succ m ih =>
    intro k fu h l hk hf H S hw
    obtain ⟨fu, rfl⟩ : ∃ q, fu = q + 1 := ⟨fu - 1, by omega⟩
    have p := tl_p5 (j := n - 1 - k) (by omega)
    rw [lo_X7_judge_36.eq_2]
    simp only [nI_leI (show n < 2 ^ 31 by omega) (show k < 2 ^ 31 by omega)]
    have nz2 : am_nzl (lN (100000 ^ (n - 1 - k))) = some () := by
      unfold am_nzl
      rw [if_neg]
      rw [ll_0, pk_lEQ (by omega) (by decide)]
      omega
    have dd : N / 100000 ^ (n - 1 - k) % 100000 < 100000 := Nat.mod_lt _ (by decide)
    have r1 : ∀ q, q < 100000 → nI q / 10000 = nI (q / 10000) := fun q hq => by rw [il_10000]; exact pk_div (by omega) (by decide) (by decide)
    have r2 : ∀ q, q < 100000 → nI q / 100 - nI q / 100 / 100 * 100 = nI (q / 100 % 100) := fun q hq => by rw [il_100, pk_div (by omega) (by decide) (by decide), pk_rem (by omega) (by decide) (by decide)]
    have r3 : ∀ q, q < 100000 → nI q - nI q / 100 * 100 = nI (q % 100) := fun q hq => by rw [il_100]; exact pk_rem (by omega) (by decide) (by decide)
    rw [if_neg (by omega), il_1, pk_sub (by omega), pk_sub (by omega), t7_bf h (by omega), tl_bs, nz2, tl_bs, pk_lDiv (by omega) p.1 (by omega), ll_5, pk_lRem (by have := Nat.div_le_self N (100000 ^ (n - 1 - k)); omega) (by decide) (by decide), lN_i, r3 _ dd, r2 _ dd, r1 _ dd, nI_add]
    obtain ⟨h2, x1, x2, x4⟩ := t7_try H S hw dd
    have x3 := tl_th_wf hw (N / 100000 ^ (n - 1 - k) % 100000)
    rw [x1, tl_bs]
    dsimp only
    have ej : tl_jg tl_th (fun k => N / 100000 ^ (n - 1 - k) % 100000) (m + 1) k l = if (tl_th l (N / 100000 ^ (n - 1 - k) % 100000)).1 = true then tl_jg tl_th (fun k => N / 100000 ^ (n - 1 - k) % 100000) m (k + 1) (tl_th l (N / 100000 ^ (n - 1 - k) % 100000)).2 else nI k := by
      rw [tl_jg]
    rw [ej]
    by_cases c : (tl_th l (N / 100000 ^ (n - 1 - k) % 100000)).1 = true
    · rw [if_pos c, if_pos c]
      obtain ⟨w, h3, y1, y2, y3⟩ := ih (k + 1) fu h2 _ (by omega) (by omega) (tl_fr_Sh x4 H) x2 x3
      exact ⟨w, h3, y1, y2, tl_fr_tr x4 y3⟩
    · rw [if_neg c, if_neg c]
      exact ⟨_, h2, rfl, Or.inr rfl, x4⟩
theorem e_judge (I : tl_I h) (a : Int32) (b : Int64) : tl_st (mi_X6_judge am_f h 0 a b) (fun h1 => mi_X7_judge am_f h1 118 a b) := by
  obtain ⟨H, ⟨l, S⟩, -⟩ := id I
  have h16 := S.1.1
  have hin : ∀ h1 : am_H, mi_X7_in am_f h1 a.toInt64 1 3 = some (decide (1 ≤ a.toInt ∧ a.toInt ≤ 3)) := fun h1 => by rw [t7_in, Int32.toInt_toInt64]; rfl
  unfold mi_X6_judge mi_X7_judge tl_st
  simp only [oc_0 H, tl_bs, hin, show (a < 1) = (a.toInt < 1) from propext Int32.lt_iff_toInt_lt, show (3 < a) = (3 < a.toInt) from propext Int32.lt_iff_toInt_lt, lg_cmp_lt]
  by_cases c1 : a.toInt < 1
  · refine ⟨-2, h, h, by rw [if_pos c1], ?_, I⟩
    simp only [oc_118 H, tl_bs]
    rw [decide_eq_false (by omega), if_neg (by decide)]
  · by_cases c2 : 3 < a.toInt
    · refine ⟨-2, h, h, by rw [if_neg c1, if_pos c2], ?_, I⟩
      simp only [oc_118 H, tl_bs]
      rw [decide_eq_false (by omega), if_neg (by decide)]
    · obtain ⟨n, n3, rfl⟩ := tl_rg (a := a) (n := 3) (by decide) (decide_eq_true ⟨by omega, by show a.toInt ≤ 3; omega⟩)
      have n0 : 1 ≤ n := by rw [nI_toInt (by omega)] at c1; omega
      have p := tl_p5 (j := n) n3
      have bf : ∀ h1 : am_H, mi_X7_in am_f h1 b 0 (lN (100000 ^ n) - 1) = some (decide (0 ≤ b.toInt ∧ b.toInt ≤ ((100000 ^ n - 1 : Nat) : Int))) := fun h1 => by
        rw [t7_in, ll_1, lN_sub p.1, pk_lT (n := 100000 ^ n - 1) (by omega)]
        rfl
      have dec : decide (1 ≤ (nI n).toInt ∧ (nI n).toInt ≤ 3) = true := by rw [nI_toInt (by omega)]; exact decide_eq_true (by omega)
      by_cases c3 : b < 0
      · refine ⟨-2, h, h, by rw [if_neg c1, if_neg c2, if_pos c3], ?_, I⟩
        have c3' : b.toInt < 0 := by rw [Int64.lt_iff_toInt_lt] at c3; exact c3
        simp only [oc_118 H, tl_bs]
        rw [dec, if_pos rfl, t7_bf h (by omega), tl_bs, bf, tl_bs, decide_eq_false (by omega), if_neg (by decide)]
      · obtain ⟨N, N63, rfl⟩ := pk_lOf c3
        have bt : (lN N).toInt = (N : Int) := pk_lT N63
        rw [bt] at bf
        by_cases c4 : N < 100000 ^ n
        · obtain ⟨g1, a1, a2, a3⟩ := t5_cp H sps12 tl_sps7 (by decide) S.2.1 h16
          have G1 := tl_on_Sh H a3
          obtain ⟨w, g2, b1, b2, b3⟩ := t6_jgL n3 (show N < 1000000000000000 by omega) n 0 am_f (lN (100000 ^ (n - 1))) g1 l (by omega) (by unfold am_f; omega) (fun _ => by rw [Nat.sub_zero]) G1 a2 S.1
          have k2 := tl_fr_tr (tl_on_fr tl_s_12 a3) b3
          have G2 := tl_fr_Sh k2 H
          obtain ⟨g3, d1, d2, d3⟩ := t7_lt G2 (tl_fr_PS k2 S).2.2 h16
          have G3 := tl_fr_Sh d3 G2
          obtain ⟨w2, g4, e1, e2, e3⟩ := t7_jgL n3 (show N < 1000000000000000 by omega) n 0 am_f g3 l (by omega) (by unfold am_f; omega) G3 d2 S.1
          refine ⟨tl_jg tl_th (fun k => N / 100000 ^ (n - 1 - k) % 100000) n 0 l, g2, g4, ?_, ?_, tl_fr_Iv (tl_fr_tr (tl_fr_tr k2 d3) e3) I⟩
          · rw [if_neg c1, if_neg c2, if_neg c3, ll_5, t6_pw h 100000 (by omega), tl_bs, if_pos ((pk_lLT N63 (by omega)).mpr c4), or_0_2 H, tl_bs, or_0_1 H, tl_bs, a1, tl_bs, il_1, pk_sub n0, t6_pw g1 100000 (by omega), tl_bs, il_0, b1, tl_bs]
            rcases b2 with ⟨rfl, z⟩ | rfl
            · dsimp only; rw [z]
            · rfl
          · simp only [oc_118 G2, tl_bs]
            rw [dec, if_pos rfl, t7_bf g2 (by omega), tl_bs, bf, tl_bs, decide_eq_true (by omega), if_pos rfl, d1, tl_bs, il_0, e1, tl_bs]
            rcases e2 with ⟨rfl, z⟩ | rfl
            · dsimp only; rw [z]
            · rfl
        · refine ⟨-2, h, h, ?_, ?_, I⟩
          · rw [if_neg c1, if_neg c2, if_neg c3, ll_5, t6_pw h 100000 (by omega), tl_bs, if_neg (fun z => c4 ((pk_lLT N63 (by omega)).mp z))]
          · simp only [oc_118 H, tl_bs]
            rw [dec, if_pos rfl, t7_bf h (by omega), tl_bs, bf, tl_bs, decide_eq_false (by omega), if_neg (by decide)]
end JG
-- see
section SEE
variable {h : am_H}
theorem e_see (I : tl_I h) (a b c d : Int32) : tl_st (mi_X6_see am_f h 0 a b c d) (fun h1 => mi_X7_see am_f h1 118 a b c d) := by
  obtain ⟨H, ⟨l, S⟩, ⟨tx, X⟩, ⟨ac, A⟩, ⟨kp, K⟩, ⟨sn, N⟩, D⟩ := id I
  have hl := N.1
  unfold mi_X6_see mi_X7_see tl_st
  simp only [oc_0 H, tl_bs, t6_kn, t6_tm, t7_kn, t7_tm, tl_in01, show (d < 0) = (d.toInt < 0) from propext Int32.lt_iff_toInt_lt, show (d ≤ 1) = (d.toInt ≤ 1) from propext Int32.le_iff_toInt_le]
  by_cases qa : tl_tm a = true
  · by_cases qb : tl_kn b = true
    · by_cases qc : tl_kn c = true
      · simp only [qa, qb, qc, if_true]
        by_cases e1 : b = c
        · exact ⟨-2, h, h, by rw [if_pos e1], by simp only [oc_118 H, tl_bs]; rw [if_pos e1], I⟩
        · by_cases e2 : d.toInt < 0
          · exact ⟨-2, h, h, by rw [if_neg e1, if_pos e2], by simp only [oc_118 H, tl_bs]; rw [if_neg e1, decide_eq_false (by omega), if_neg (by decide)], I⟩
          · by_cases e3 : d.toInt ≤ 1
            · obtain ⟨a, a16, rfl⟩ := tl_tm_of qa
              obtain ⟨b, b8, rfl⟩ := tl_kn_of qb
              obtain ⟨c, c8, rfl⟩ := tl_kn_of qc
              obtain ⟨d, d1, rfl⟩ := tl_rg (a := d) (n := 1) (by decide) (decide_eq_true ⟨by omega, e3⟩)
              rw [if_neg e1, if_neg e2, if_pos e3, or_0_6 H, tl_bs]
              unfold mi_X4_add
              simp only [oc_99 H, tl_bs, oi_99 H, N.2.1, il_6, nI_ltI (show sn.length < 2 ^ 31 by omega) (show 6 < 2 ^ 31 by decide)]
              have jb : ((if nI d = 1 then some true else some false) : Option Bool) = some (decide (d = 1)) := by
                rw [il_1]
                by_cases z : d = 1
                · rw [if_pos (by rw [z]), decide_eq_true z]
                · rw [if_neg (fun y => z ((nI_eq (by omega) (by decide)).mp y)), decide_eq_false z]
              have nb : vp_nar .boolean (am_b (decide (d = 1))) = nI d := by
                rcases (show d = 0 ∨ d = 1 by omega) with rfl | rfl <;> decide
              rw [jb, tl_bs, nb]
              by_cases e4 : sn.length < 6
              · rw [if_pos e4]
                have H1 : tl_Sh (am_I h 100 sn.length (nI a)) := tl_Sh_I H
                have H2 : tl_Sh (am_I (am_I h 100 sn.length (nI a)) 101 sn.length (nI b)) := tl_Sh_I H1
                have H3 : tl_Sh (am_I (am_I (am_I h 100 sn.length (nI a)) 101 sn.length (nI b)) 102 sn.length (nI c)) := tl_Sh_I H2
                have H4 : tl_Sh (am_I (am_I (am_I (am_I h 100 sn.length (nI a)) 101 sn.length (nI b)) 102 sn.length (nI c)) 103 sn.length (nI d)) := tl_Sh_I H3
                have i1 : (am_I h 100 sn.length (nI a)).2.1 99 6 = nI sn.length := by rw [tl_I_ne (by decide)]; exact N.2.1
                have i2 : (am_I (am_I h 100 sn.length (nI a)) 101 sn.length (nI b)).2.1 99 6 = nI sn.length := by rw [tl_I_ne (by decide)]; exact i1
                have i3 : (am_I (am_I (am_I h 100 sn.length (nI a)) 101 sn.length (nI b)) 102 sn.length (nI c)).2.1 99 6 = nI sn.length := by rw [tl_I_ne (by decide)]; exact i2
                have i4 : (am_I (am_I (am_I (am_I h 100 sn.length (nI a)) 101 sn.length (nI b)) 102 sn.length (nI c)) 103 sn.length (nI d)).2.1 99 6 = nI sn.length := by rw [tl_I_ne (by decide)]; exact i3
                have c1 : ∀ p j, (p ≠ 99 ∧ p ≠ 100 ∧ p ≠ 101 ∧ p ≠ 102 ∧ p ≠ 103) → (am_I (am_I (am_I (am_I (am_I h 100 sn.length (nI a)) 101 sn.length (nI b)) 102 sn.length (nI c)) 103 sn.length (nI d)) 99 6 (nI (sn.length + 1))).2.1 p j = h.2.1 p j := fun p j hp => by
                  rw [tl_I_ne hp.1, tl_I_ne hp.2.2.2.2, tl_I_ne hp.2.2.2.1, tl_I_ne hp.2.2.1, tl_I_ne hp.2.1]
                have c100 : ∀ i, (am_I (am_I (am_I (am_I (am_I h 100 sn.length (nI a)) 101 sn.length (nI b)) 102 sn.length (nI c)) 103 sn.length (nI d)) 99 6 (nI (sn.length + 1))).2.1 100 i = if i = sn.length then nI a else h.2.1 100 i := fun i => by
                  rw [tl_I_ne (by decide), tl_I_ne (by decide), tl_I_ne (by decide), tl_I_ne (by decide), tl_I_at]
                have c101 : ∀ i, (am_I (am_I (am_I (am_I (am_I h 100 sn.length (nI a)) 101 sn.length (nI b)) 102 sn.length (nI c)) 103 sn.length (nI d)) 99 6 (nI (sn.length + 1))).2.1 101 i = if i = sn.length then nI b else h.2.1 101 i := fun i => by
                  rw [tl_I_ne (by decide), tl_I_ne (by decide), tl_I_ne (by decide), tl_I_at, tl_I_ne (by decide)]
                have c102 : ∀ i, (am_I (am_I (am_I (am_I (am_I h 100 sn.length (nI a)) 101 sn.length (nI b)) 102 sn.length (nI c)) 103 sn.length (nI d)) 99 6 (nI (sn.length + 1))).2.1 102 i = if i = sn.length then nI c else h.2.1 102 i := fun i => by
                  rw [tl_I_ne (by decide), tl_I_ne (by decide), tl_I_at, tl_I_ne (by decide), tl_I_ne (by decide)]
                have c103 : ∀ i, (am_I (am_I (am_I (am_I (am_I h 100 sn.length (nI a)) 101 sn.length (nI b)) 102 sn.length (nI c)) 103 sn.length (nI d)) 99 6 (nI (sn.length + 1))).2.1 103 i = if i = sn.length then nI d else h.2.1 103 i := fun i => by
                  rw [tl_I_ne (by decide), tl_I_at, tl_I_ne (by decide), tl_I_ne (by decide), tl_I_ne (by decide)]
                have H5 : tl_Sh (am_I (am_I (am_I (am_I (am_I h 100 sn.length (nI a)) 101 sn.length (nI b)) 102 sn.length (nI c)) 103 sn.length (nI d)) 99 6 (nI (sn.length + 1))) := tl_Sh_I H4
                have kc : ∀ r : Nat → Nat → Bool, (∀ j, r 100 j = false) → (∀ j, r 101 j = false) → (∀ j, r 102 j = false) → (∀ j, r 103 j = false) → r 99 6 = false → tl_kp r h (am_I (am_I (am_I (am_I (am_I h 100 sn.length (nI a)) 101 sn.length (nI b)) 102 sn.length (nI c)) 103 sn.length (nI d)) 99 6 (nI (sn.length + 1))) := fun r r1 r2 r3 r4 r5 => tl_kp_tr (tl_kp_tr (tl_kp_tr (tl_kp_tr (tl_kp_I (r1 _)) (tl_kp_I (r2 _))) (tl_kp_I (r3 _))) (tl_kp_I (r4 _))) (tl_kp_I r5)
                have cls : (Option.bind (am_gr h 4 99 0) fun xq2 => Option.bind (am_si h 9 xq2 (nI sn.length) (nI a)) fun hq4 => Option.bind (am_gr hq4 4 99 1) fun xq5 => Option.bind (am_gi hq4 4 99 6) fun xq6 => Option.bind (am_si hq4 9 xq5 xq6 (nI b)) fun hq7 => Option.bind (am_gr hq7 4 99 2) fun xq8 => Option.bind (am_gi hq7 4 99 6) fun xq9 => Option.bind (am_si hq7 9 xq8 xq9 (nI c)) fun hq10 => Option.bind (am_gr hq10 4 99 3) fun xq11 => Option.bind (am_gi hq10 4 99 6) fun xq12 => Option.bind (am_si hq10 10 xq11 xq12 (nI d)) fun hq13 => Option.bind (am_gi hq13 4 99 6) fun xq14 => Option.bind (am_pi hq13 4 99 6 (xq14 + 1)) fun hq15 => Option.bind (am_gi hq15 4 99 6) fun xq16 => some (xq16, hq15)) = some (nI (sn.length + 1), am_I (am_I (am_I (am_I (am_I h 100 sn.length (nI a)) 101 sn.length (nI b)) 102 sn.length (nI c)) 103 sn.length (nI d)) 99 6 (nI (sn.length + 1))) := by
                  rw [or_99_0 H, tl_bs, as_100 H e4, tl_bs, or_99_1 H1, tl_bs, oi_99 H1, tl_bs, i1, as_101 H1 e4, tl_bs, or_99_2 H2, tl_bs, oi_99 H2, tl_bs, i2, as_102 H2 e4, tl_bs, or_99_3 H3, tl_bs, oi_99 H3, tl_bs, i3, as_103 H3 e4, tl_bs, oi_99 H4, tl_bs, i4, nI_1, ow_99 H4, tl_bs, oi_99 H5, tl_bs, tl_I_at, if_pos rfl]
                have NN : tl_kp (fun p j => (decide (127 ≤ p) && decide (p ≤ 130)) || (decide (p = 118) && decide (j = 11))) h (am_I (am_I (am_I (am_I (am_I h 100 sn.length (nI a)) 101 sn.length (nI b)) 102 sn.length (nI c)) 103 sn.length (nI d)) 99 6 (nI (sn.length + 1))) := kc _ (by intro j; simp) (by intro j; simp) (by intro j; simp) (by intro j; simp) (by decide)
                have KS := kc rS (by intro j; simp [rS]) (by intro j; simp [rS]) (by intro j; simp [rS]) (by intro j; simp [rS]) (by decide)
                have KT := kc rT (by intro j; simp [rT]) (by intro j; simp [rT]) (by intro j; simp [rT]) (by intro j; simp [rT]) (by decide)
                have KA := kc rA (by intro j; simp [rA]) (by intro j; simp [rA]) (by intro j; simp [rA]) (by intro j; simp [rA]) (by decide)
                have KK := kc rK (by intro j; simp [rK]) (by intro j; simp [rK]) (by intro j; simp [rK]) (by intro j; simp [rK]) (by decide)
                have PD : (am_I (am_I (am_I (am_I (am_I h 100 sn.length (nI a)) 101 sn.length (nI b)) 102 sn.length (nI c)) 103 sn.length (nI d)) 99 6 (nI (sn.length + 1))).2.2.1 = h.2.2.1 := rfl
                have PR : (am_I (am_I (am_I (am_I (am_I h 100 sn.length (nI a)) 101 sn.length (nI b)) 102 sn.length (nI c)) 103 sn.length (nI d)) 99 6 (nI (sn.length + 1))).2.2.2 = h.2.2.2 := rfl
                have c99 : (am_I (am_I (am_I (am_I (am_I h 100 sn.length (nI a)) 101 sn.length (nI b)) 102 sn.length (nI c)) 103 sn.length (nI d)) 99 6 (nI (sn.length + 1))).2.1 99 6 = nI (sn.length + 1) := by rw [tl_I_at, if_pos rfl]
                generalize am_I (am_I (am_I (am_I (am_I h 100 sn.length (nI a)) 101 sn.length (nI b)) 102 sn.length (nI c)) 103 sn.length (nI d)) 99 6 (nI (sn.length + 1)) = g at cls H5 NN KS KT KA KK PD PR c99 c1 c100 c101 c102 c103
                have g11 : g.2.1 118 11 = nI sn.length := by rw [NN 118 11 (by decide)]; exact N.2.2.1
                have G1 : tl_Sh (am_I g 127 sn.length (nI a)) := tl_Sh_I H5
                have G2 : tl_Sh (am_I (am_I g 127 sn.length (nI a)) 128 sn.length (nI b)) := tl_Sh_I G1
                have G3 : tl_Sh (am_I (am_I (am_I g 127 sn.length (nI a)) 128 sn.length (nI b)) 129 sn.length (nI c)) := tl_Sh_I G2
                have G4 : tl_Sh (am_I (am_I (am_I (am_I g 127 sn.length (nI a)) 128 sn.length (nI b)) 129 sn.length (nI c)) 130 sn.length (nI d)) := tl_Sh_I G3
                have G5 : tl_Sh (am_I (am_I (am_I (am_I (am_I g 127 sn.length (nI a)) 128 sn.length (nI b)) 129 sn.length (nI c)) 130 sn.length (nI d)) 118 11 (nI (sn.length + 1))) := tl_Sh_I G4
                have j1 : (am_I g 127 sn.length (nI a)).2.1 118 11 = nI sn.length := by rw [tl_I_ne (by decide)]; exact g11
                have j2 : (am_I (am_I g 127 sn.length (nI a)) 128 sn.length (nI b)).2.1 118 11 = nI sn.length := by rw [tl_I_ne (by decide)]; exact j1
                have j3 : (am_I (am_I (am_I g 127 sn.length (nI a)) 128 sn.length (nI b)) 129 sn.length (nI c)).2.1 118 11 = nI sn.length := by rw [tl_I_ne (by decide)]; exact j2
                have j4 : (am_I (am_I (am_I (am_I g 127 sn.length (nI a)) 128 sn.length (nI b)) 129 sn.length (nI c)) 130 sn.length (nI d)).2.1 118 11 = nI sn.length := by rw [tl_I_ne (by decide)]; exact j3
                have kd : ∀ r : Nat → Nat → Bool, (∀ j, r 127 j = false) → (∀ j, r 128 j = false) → (∀ j, r 129 j = false) → (∀ j, r 130 j = false) → r 118 11 = false → tl_kp r g (am_I (am_I (am_I (am_I (am_I g 127 sn.length (nI a)) 128 sn.length (nI b)) 129 sn.length (nI c)) 130 sn.length (nI d)) 118 11 (nI (sn.length + 1))) := fun r r1 r2 r3 r4 r5 => tl_kp_tr (tl_kp_tr (tl_kp_tr (tl_kp_tr (tl_kp_I (r1 _)) (tl_kp_I (r2 _))) (tl_kp_I (r3 _))) (tl_kp_I (r4 _))) (tl_kp_I r5)
                refine ⟨nI (sn.length + 1), g, am_I (am_I (am_I (am_I (am_I g 127 sn.length (nI a)) 128 sn.length (nI b)) 129 sn.length (nI c)) 130 sn.length (nI d)) 118 11 (nI (sn.length + 1)), ?_, ?_, G5, ⟨l, kS (tl_kp_tr KS (kd rS (by intro j; simp [rS]) (by intro j; simp [rS]) (by intro j; simp [rS]) (by intro j; simp [rS]) (by decide))) S⟩, ⟨tx, kT (tl_kp_tr KT (kd rT (by intro j; simp [rT]) (by intro j; simp [rT]) (by intro j; simp [rT]) (by intro j; simp [rT]) (by decide))) X⟩, ⟨ac, kA (tl_kp_tr KA (kd rA (by intro j; simp [rA]) (by intro j; simp [rA]) (by intro j; simp [rA]) (by intro j; simp [rA]) (by decide))) PR A⟩, ⟨kp, kK (tl_kp_tr KK (kd rK (by intro j; simp [rK]) (by intro j; simp [rK]) (by intro j; simp [rK]) (by intro j; simp [rK]) (by decide))) K⟩, ⟨sn ++ [(a, b, c, d)], by rw [List.length_append]; simp; omega, ?_, ?_, fun i x hi => ?_⟩, ?_⟩
                · rw [cls, tl_bs]
                · simp only [oc_118 H5, tl_bs]
                  rw [if_neg e1, decide_eq_true (by omega), if_pos rfl, oi_118 H5, tl_bs, g11]
                  simp only [nI_eq (show sn.length < 2 ^ 31 by omega) (show 6 < 2 ^ 31 by decide)]
                  rw [if_neg (by omega), or_118_12 H5, tl_bs, tl_bs, as_127 H5 e4, tl_bs, or_118_13 G1, tl_bs, oi_118 G1, tl_bs, j1, as_128 G1 e4, tl_bs, or_118_14 G2, tl_bs, oi_118 G2, tl_bs, j2, as_129 G2 e4, tl_bs, or_118_15 G3, tl_bs, oi_118 G3, tl_bs, j3, as_130 G3 e4, tl_bs, oi_118 G4, tl_bs, j4, nI_1, ow_118 G4, tl_bs, oi_118 G5, tl_bs, tl_I_at, if_pos rfl]
                · rw [tl_I_ne (by decide), tl_I_ne (by decide), tl_I_ne (by decide), tl_I_ne (by decide), tl_I_ne (by decide), c99, List.length_append]; rfl
                · rw [tl_I_at, if_pos rfl, List.length_append]; rfl
                · have f100 : ∀ p j, p ≠ 118 → p ≠ 127 → p ≠ 128 → p ≠ 129 → p ≠ 130 → (am_I (am_I (am_I (am_I (am_I g 127 sn.length (nI a)) 128 sn.length (nI b)) 129 sn.length (nI c)) 130 sn.length (nI d)) 118 11 (nI (sn.length + 1))).2.1 p j = g.2.1 p j := fun p j h1 h2 h3 h4 h5 => by
                    rw [tl_I_ne h1, tl_I_ne h5, tl_I_ne h4, tl_I_ne h3, tl_I_ne h2]
                  have f127 : (am_I (am_I (am_I (am_I (am_I g 127 sn.length (nI a)) 128 sn.length (nI b)) 129 sn.length (nI c)) 130 sn.length (nI d)) 118 11 (nI (sn.length + 1))).2.1 127 i = if i = sn.length then nI a else h.2.1 127 i := by
                    rw [tl_I_ne (by decide), tl_I_ne (by decide), tl_I_ne (by decide), tl_I_ne (by decide), tl_I_at, c1 127 i (by decide)]
                  have f128 : (am_I (am_I (am_I (am_I (am_I g 127 sn.length (nI a)) 128 sn.length (nI b)) 129 sn.length (nI c)) 130 sn.length (nI d)) 118 11 (nI (sn.length + 1))).2.1 128 i = if i = sn.length then nI b else h.2.1 128 i := by
                    rw [tl_I_ne (by decide), tl_I_ne (by decide), tl_I_ne (by decide), tl_I_at, tl_I_ne (by decide), c1 128 i (by decide)]
                  have f129 : (am_I (am_I (am_I (am_I (am_I g 127 sn.length (nI a)) 128 sn.length (nI b)) 129 sn.length (nI c)) 130 sn.length (nI d)) 118 11 (nI (sn.length + 1))).2.1 129 i = if i = sn.length then nI c else h.2.1 129 i := by
                    rw [tl_I_ne (by decide), tl_I_ne (by decide), tl_I_at, tl_I_ne (by decide), tl_I_ne (by decide), c1 129 i (by decide)]
                  have f130 : (am_I (am_I (am_I (am_I (am_I g 127 sn.length (nI a)) 128 sn.length (nI b)) 129 sn.length (nI c)) 130 sn.length (nI d)) 118 11 (nI (sn.length + 1))).2.1 130 i = if i = sn.length then nI d else h.2.1 130 i := by
                    rw [tl_I_ne (by decide), tl_I_at, tl_I_ne (by decide), tl_I_ne (by decide), tl_I_ne (by decide), c1 130 i (by decide)]
                  rw [f127, f128, f129, f130, f100 100 i (by decide) (by decide) (by decide) (by decide) (by decide), f100 101 i (by decide) (by decide) (by decide) (by decide) (by decide), f100 102 i (by decide) (by decide) (by decide) (by decide) (by decide), f100 103 i (by decide) (by decide) (by decide) (by decide) (by decide), c100, c101, c102, c103]
                  rcases tl_appA hi with z | ⟨rfl, rfl⟩
                  · have := tl_lt_of z
                    simp only [if_neg (show ¬ i = sn.length by omega)]
                    exact N.2.2.2 i x z
                  · simp only [if_true]
                    exact ⟨⟨a16, b8, c8, d1⟩, ⟨trivial, trivial, trivial, trivial⟩, trivial, trivial, trivial, trivial⟩
                · show g.2.2.1 0 9 = g.2.2.1 118 17
                  rw [PD]
                  exact D
              · refine ⟨-4, h, h, by rw [if_neg e4]; rfl, ?_, I⟩
                simp only [oc_118 H, tl_bs]
                rw [if_neg e1, decide_eq_true (by omega), if_pos rfl, oi_118 H, tl_bs, N.2.2.1]
                simp only [nI_eq (show sn.length < 2 ^ 31 by omega) (show 6 < 2 ^ 31 by decide)]
                rw [if_pos (by omega)]
            · exact ⟨-2, h, h, by rw [if_neg e1, if_neg e2, if_neg e3], by simp only [oc_118 H, tl_bs]; rw [if_neg e1, decide_eq_false (by omega), if_neg (by decide)], I⟩
      · refine ⟨-1, h, h, ?_, ?_, I⟩
        · simp only [qa, qb, qc, if_true, if_false, Bool.false_eq_true]
        · simp only [oc_118 H, tl_bs, qa, qb, qc, if_true, if_false, Bool.false_eq_true]
    · refine ⟨-1, h, h, ?_, ?_, I⟩
      · simp only [qa, qb, if_true, if_false, Bool.false_eq_true]
      · simp only [oc_118 H, tl_bs, qa, qb, if_true, if_false, Bool.false_eq_true]
  · refine ⟨-1, h, h, ?_, ?_, I⟩
    · simp only [qa, if_false, Bool.false_eq_true]
    · simp only [oc_118 H, tl_bs, qa, if_false, Bool.false_eq_true]
end SEE
