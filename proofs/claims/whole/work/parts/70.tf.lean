theorem tl_nch : ∀ c, c < 256 → vp_nar .char (nI c) = nI c := by decide +kernel
theorem oB_x {o o2 : tl_Op} {a b : Nat} (hb : b < 8) (h1 : o2 a b ≠ 0 ↔ o a b = 0) (he : ∀ j, j ≠ b → o2 a j = o a j) : oB o2 a = oB o a ^^^ 2 ^ b := by
  apply Nat.eq_of_testBit_eq
  intro j
  rw [Nat.testBit_xor, Nat.testBit_two_pow]
  by_cases j8 : j < 8
  · rw [oB_tb j8, oB_tb j8]
    by_cases c : j = b
    · subst c
      rw [decide_eq_true (show j = j from rfl)]
      by_cases z : o a j = 0
      · rw [decide_eq_true (h1.mpr z), decide_eq_false (fun w => w z)]; rfl
      · rw [decide_eq_false (fun w => z (h1.mp w)), decide_eq_true z]; rfl
    · rw [he j c, decide_eq_false (show ¬ b = j by omega), Bool.xor_false]
  · have p : 2 ^ 8 ≤ 2 ^ j := Nat.pow_le_pow_right (by decide) (by omega)
    rw [Nat.testBit_lt_two_pow (Nat.lt_of_lt_of_le (oB_lt o2 a) p), Nat.testBit_lt_two_pow (Nat.lt_of_lt_of_le (oB_lt o a) p), decide_eq_false (by omega)]
    rfl
theorem oB_e {o o2 : tl_Op} {a : Nat} (he : ∀ j, o2 a j = o a j) : oB o2 a = oB o a := tl_B_ex 8 (fun j _ => by rw [he j])
section TF
variable {h : am_H} {tx : List Nat} {es : List tl_Ev}
theorem t3_te (H : tl_Sh h) (X : tl_PT h tx) (ok : okE es) (T : tl_Tc h es (rpn es es.length).2) (hl : es.length < 16) {p : Nat} (hp : p < tx.length) (hE : evF tx p (rpn es es.length).2 = none) : ∃ h2, mi_X3_takeEvent am_f h 1 (nI p) = some h2 ∧ tl_fr h h2 ∧ h2.2.1 1 7 = nI es.length ∧ tl_Tc (am_I h2 1 7 (nI (es.length + 1))) (es ++ [evE tx p]) (rpn (es ++ [evE tx p]) (es ++ [evE tx p]).length).2 := by
  obtain ⟨T1, ⟨cc, T2, T3⟩, T4, T5⟩ := T
  have P := rpn_I ok es.length (Nat.le_refl _)
  obtain ⟨V, W⟩ := evF_ok hE
  have le : (es ++ [evE tx p]).length = es.length + 1 := by rw [List.length_append]; rfl
  obtain ⟨b0, -, l0, p64⟩ := tl_T2 X hp
  have x64 := X.1
  rw [le, rpn_len]
  unfold mi_X3_takeEvent
  rw [oc_1 H, tl_bs, or_1_0 H, tl_bs, al_2 H p64, tl_bs, b0, or_1_4 H, tl_bs, oi_1 H, tl_bs, T4, tl_nch _ l0, as_4 H hl, tl_bs]
  have H1 : tl_Sh (am_I h 4 es.length (nI (tx.getD p 0))) := tl_Sh_I H
  have k1 : tl_fr h (am_I h 4 es.length (nI (tx.getD p 0))) := tl_fr_I (tl_sc_t (by decide))
  by_cases c46 : tx.getD p 0 = 46
  · have ev : evE tx p = (46, 0, 0) := by unfold evE; rw [if_pos c46]
    rw [if_pos (show nI (tx.getD p 0) = 46 by rw [c46]; rfl), tl_bs]
    refine ⟨_, rfl, k1, by rw [tl_I_ne (by decide)]; exact T4, ?_⟩
    have eo : (evA (rpn es es.length) es.length (evE tx p)).2 = (rpn es es.length).2 := by
      rw [ev]; rfl
    rw [eo]
    refine ⟨fun k hk => by rw [tl_I_ne (by decide), tl_I_ne (by decide)]; exact T1 k hk, ⟨cc, by rw [tl_I_at, if_neg (by decide), tl_I_ne (by decide)]; exact T2, T3⟩, by rw [tl_I_at, if_pos rfl, le], fun i e hi => ?_⟩
    rw [tl_I_ne (by decide), tl_I_at, tl_I_ne (by decide), tl_I_ne (by decide), tl_I_ne (by decide), tl_I_ne (by decide)]
    rcases tl_appA hi with z | ⟨e1, e2⟩
    · have := tl_lt_of z
      rw [if_neg (by omega)]
      exact T5 i e z
    · rw [if_pos e1, e2, ev, c46]
      exact ⟨rfl, fun z => absurd rfl z⟩
  · obtain ⟨w1, w2, w3, w4, w5, w6⟩ := W.resolve_left c46
    obtain ⟨b1, -, l1, -⟩ := tl_T2 X (show p + 1 < tx.length by omega)
    obtain ⟨b2, -, l2, -⟩ := tl_T2 X w2
    have ev : evE tx p = (tx.getD p 0, tx.getD (p + 1) 0 - 48, tx.getD (p + 2) 0 - 48) := by unfold evE; rw [if_neg c46]
    rw [ev] at V ⊢
    obtain ⟨a8, b8, hn, hv⟩ := V.resolve_left c46
    have hab := P.2.2.1
    rw [if_neg (show ¬ nI (tx.getD p 0) = 46 by rw [il_46, nI_eq (by omega) (by decide)]; exact c46), nI_1, il_2, nI_add]
    generalize hA : tx.getD (p + 1) 0 = A at *
    generalize hB : tx.getD (p + 2) 0 = B at *
    generalize hc : tx.getD p 0 = c at *
    dsimp only at a8 b8 hn hv
    have i1 : (am_I h 4 es.length (nI c)).2.1 2 (p + 1) = nI A := by rw [tl_I_ne (by decide)]; exact b1
    have i2 : (am_I h 4 es.length (nI c)).2.1 2 (p + 2) = nI B := by rw [tl_I_ne (by decide)]; exact b2
    have i3 : (am_I h 4 es.length (nI c)).2.1 3 (A - 48) = nI (oB (rpn es es.length).2 (A - 48)) := by rw [tl_I_ne (by decide)]; exact T1 _ a8
    rw [or_1_0 H1, tl_bs, al_2 H1 (by omega), tl_bs, i1, tl_bs, al_2 H1 (by omega), tl_bs, i2, or_1_2 H1, tl_bs, il_48, pk_sub w3, pk_sub w5, al_3 H1 a8, tl_bs, i3, tl_sh1 _ (by omega), fa_xor, as_3 H1 a8, tl_bs]
    generalize ha : A - 48 = a at *
    generalize hb : B - 48 = b at *
    generalize ho : rpn es es.length = R at *
    have H2 : tl_Sh (am_I (am_I h 4 es.length (nI c)) 3 a (nI (oB R.2 a ^^^ 2 ^ b))) := tl_Sh_I H1
    have i4 : (am_I (am_I h 4 es.length (nI c)) 3 a (nI (oB R.2 a ^^^ 2 ^ b))).2.1 3 b = nI (oB R.2 b) := by rw [tl_I_at, if_neg (Ne.symm hn), tl_I_ne (by decide)]; exact T1 _ b8
    rw [or_1_2 H2, tl_bs, al_3 H2 b8, tl_bs, i4, tl_sh1 _ (by omega), fa_xor, as_3 H2 b8, tl_bs]
    have H3 : tl_Sh (am_I (am_I (am_I h 4 es.length (nI c)) 3 a (nI (oB R.2 a ^^^ 2 ^ b))) 3 b (nI (oB R.2 b ^^^ 2 ^ a))) := tl_Sh_I H2
    have i5 : (am_I (am_I (am_I h 4 es.length (nI c)) 3 a (nI (oB R.2 a ^^^ 2 ^ b))) 3 b (nI (oB R.2 b ^^^ 2 ^ a))).2.1 1 3 = nI cc := by rw [tl_I_ne (by decide), tl_I_ne (by decide), tl_I_ne (by decide)]; exact T2
    have i7 : (am_I (am_I (am_I h 4 es.length (nI c)) 3 a (nI (oB R.2 a ^^^ 2 ^ b))) 3 b (nI (oB R.2 b ^^^ 2 ^ a))).2.1 1 7 = nI es.length := by rw [tl_I_ne (by decide), tl_I_ne (by decide), tl_I_ne (by decide)]; exact T4
    rw [oi_1 H3, tl_bs, i5]
    have hba : R.2 b a = R.2 a b := hab b a
    -- the new matrix
    have N : ∃ x c2, (evA R es.length (c, a, b)).2 = oU R.2 a b x ∧ (x ≠ 0 ↔ R.2 a b = 0) ∧ (Option.bind ((if nI c = 43 then some 1 else some (-1)) : Option Int32) fun jq => some (nI cc + jq)) = some (nI c2) ∧ 2 * c2 = oS (oU R.2 a b x) := by
      unfold evA
      rcases hv with ⟨v1, v2⟩ | ⟨v1, v2⟩
      · refine ⟨R.1.length + 1, cc + 1, by rw [if_pos v1], ⟨fun _ => v2, fun _ => by omega⟩, by rw [if_pos (show nI c = 43 by rw [v1]; rfl), tl_bs, nI_1], ?_⟩
        have := oR_up (o := R.2) (o2 := oU R.2 a b (R.1.length + 1)) a8 b8 hn v2 (hba.trans v2) (by rw [oU_at (Or.inl ⟨rfl, rfl⟩)]; omega) (by rw [oU_at (Or.inr ⟨rfl, rfl⟩)]; omega) (fun i j q => oU_ne q)
        omega
      · have up := oR_up (o := oU R.2 a b 0) (o2 := R.2) a8 b8 hn (oU_at (Or.inl ⟨rfl, rfl⟩)) (oU_at (Or.inr ⟨rfl, rfl⟩)) v2 (by rw [hba]; exact v2) (fun i j q => (oU_ne q).symm)
        obtain ⟨c3, hc3⟩ : ∃ c3, cc = c3 + 1 := ⟨cc - 1, by omega⟩
        refine ⟨0, c3, by rw [if_neg (show ¬ c = 43 by omega), if_pos v1], ⟨fun z => absurd rfl z, fun z => absurd z v2⟩, ?_, by omega⟩
        rw [if_neg (show ¬ nI c = 43 by rw [v1]; decide), tl_bs, hc3, pk_m1]
    obtain ⟨x, c2, n1, n2, n3, n4⟩ := N
    have n3' : ((if nI c = 43 then some 1 else some (-1)) : Option Int32) = some 1 ∧ nI cc + 1 = nI c2 ∨ ((if nI c = 43 then some 1 else some (-1)) : Option Int32) = some (-1) ∧ nI cc + (-1) = nI c2 := by
      by_cases z : nI c = 43
      · rw [if_pos z] at n3 ⊢
        exact Or.inl ⟨rfl, Option.some.inj n3⟩
      · rw [if_neg z] at n3 ⊢
        exact Or.inr ⟨rfl, Option.some.inj n3⟩
    have fin : ∃ h2, (Option.bind (am_pi (am_I (am_I (am_I h 4 es.length (nI c)) 3 a (nI (oB R.2 a ^^^ 2 ^ b))) 3 b (nI (oB R.2 b ^^^ 2 ^ a))) 3 1 3 (nI c2)) fun hq19 => Option.bind (am_gr hq19 3 1 5) fun xq20 => Option.bind (am_gi hq19 3 1 7) fun xq21 => Option.bind (am_si hq19 9 xq20 xq21 (nI a)) fun hq22 => Option.bind (am_gr hq22 3 1 6) fun xq23 => Option.bind (am_gi hq22 3 1 7) fun xq24 => Option.bind (am_si hq22 9 xq23 xq24 (nI b)) fun hq25 => some hq25) = some h2 ∧ tl_fr h h2 ∧ h2.2.1 1 7 = nI es.length ∧ tl_Tc (am_I h2 1 7 (nI (es.length + 1))) (es ++ [(c, a, b)]) (oU R.2 a b x) := by
      rw [ow_1 H3, tl_bs]
      have H4 : tl_Sh (am_I (am_I (am_I (am_I h 4 es.length (nI c)) 3 a (nI (oB R.2 a ^^^ 2 ^ b))) 3 b (nI (oB R.2 b ^^^ 2 ^ a))) 1 3 (nI c2)) := tl_Sh_I H3
      have j7 : (am_I (am_I (am_I (am_I h 4 es.length (nI c)) 3 a (nI (oB R.2 a ^^^ 2 ^ b))) 3 b (nI (oB R.2 b ^^^ 2 ^ a))) 1 3 (nI c2)).2.1 1 7 = nI es.length := by rw [tl_I_at, if_neg (by decide)]; exact i7
      rw [or_1_5 H4, tl_bs, oi_1 H4, tl_bs, j7, as_5 H4 hl, tl_bs]
      have H5 : tl_Sh (am_I (am_I (am_I (am_I (am_I h 4 es.length (nI c)) 3 a (nI (oB R.2 a ^^^ 2 ^ b))) 3 b (nI (oB R.2 b ^^^ 2 ^ a))) 1 3 (nI c2)) 5 es.length (nI a)) := tl_Sh_I H4
      have m7 : (am_I (am_I (am_I (am_I (am_I h 4 es.length (nI c)) 3 a (nI (oB R.2 a ^^^ 2 ^ b))) 3 b (nI (oB R.2 b ^^^ 2 ^ a))) 1 3 (nI c2)) 5 es.length (nI a)).2.1 1 7 = nI es.length := by rw [tl_I_ne (by decide)]; exact j7
      rw [or_1_6 H5, tl_bs, oi_1 H5, tl_bs, m7, as_6 H5 hl, tl_bs]
      refine ⟨_, rfl, ?_, by rw [tl_I_ne (by decide)]; exact m7, ?_⟩
      · exact tl_fr_tr (tl_fr_tr (tl_fr_tr (tl_fr_tr (tl_fr_tr k1 (tl_fr_I (tl_sc_t (by decide)))) (tl_fr_I (tl_sc_t (by decide)))) (tl_fr_I (by decide))) (tl_fr_I (tl_sc_t (by decide)))) (tl_fr_I (tl_sc_t (by decide)))
      · refine ⟨fun k hk => ?_, ⟨c2, ?_, n4⟩, ?_, fun i e hi => ?_⟩
        · rw [tl_I_ne (by decide), tl_I_ne (by decide), tl_I_ne (by decide), tl_I_ne (by decide), tl_I_at, tl_I_at]
          by_cases kb : k = b
          · rw [if_pos kb, kb, oB_x (o := R.2) (o2 := oU R.2 a b x) (a := b) (b := a) a8 (by rw [oU_at (Or.inr ⟨rfl, rfl⟩), hba]; exact n2) (fun j hj => oU_ne (by omega))]
          · rw [if_neg kb]
            by_cases ka : k = a
            · rw [if_pos ka, ka, oB_x (o := R.2) (o2 := oU R.2 a b x) b8 (by rw [oU_at (Or.inl ⟨rfl, rfl⟩)]; exact n2) (fun j hj => oU_ne (by omega))]
            · rw [if_neg ka, tl_I_ne (by decide), oB_e (o := R.2) (fun j => oU_ne (by omega))]
              exact T1 k hk
        · rw [tl_I_at, if_neg (by decide), tl_I_ne (by decide), tl_I_ne (by decide), tl_I_at, if_pos rfl]
        · rw [tl_I_at, if_pos rfl, List.length_append]; rfl
        · have r4 : (am_I (am_I (am_I (am_I (am_I (am_I (am_I h 4 es.length (nI c)) 3 a (nI (oB R.2 a ^^^ 2 ^ b))) 3 b (nI (oB R.2 b ^^^ 2 ^ a))) 1 3 (nI c2)) 5 es.length (nI a)) 6 es.length (nI b)) 1 7 (nI (es.length + 1))).2.1 4 i = if i = es.length then nI c else h.2.1 4 i := by
            rw [tl_I_ne (by decide), tl_I_ne (by decide), tl_I_ne (by decide), tl_I_ne (by decide), tl_I_ne (by decide), tl_I_ne (by decide), tl_I_at]
          have r5 : (am_I (am_I (am_I (am_I (am_I (am_I (am_I h 4 es.length (nI c)) 3 a (nI (oB R.2 a ^^^ 2 ^ b))) 3 b (nI (oB R.2 b ^^^ 2 ^ a))) 1 3 (nI c2)) 5 es.length (nI a)) 6 es.length (nI b)) 1 7 (nI (es.length + 1))).2.1 5 i = if i = es.length then nI a else h.2.1 5 i := by
            rw [tl_I_ne (by decide), tl_I_ne (by decide), tl_I_at, tl_I_ne (by decide), tl_I_ne (by decide), tl_I_ne (by decide), tl_I_ne (by decide)]
          have r6 : (am_I (am_I (am_I (am_I (am_I (am_I (am_I h 4 es.length (nI c)) 3 a (nI (oB R.2 a ^^^ 2 ^ b))) 3 b (nI (oB R.2 b ^^^ 2 ^ a))) 1 3 (nI c2)) 5 es.length (nI a)) 6 es.length (nI b)) 1 7 (nI (es.length + 1))).2.1 6 i = if i = es.length then nI b else h.2.1 6 i := by
            rw [tl_I_ne (by decide), tl_I_at, tl_I_ne (by decide), tl_I_ne (by decide), tl_I_ne (by decide), tl_I_ne (by decide), tl_I_ne (by decide)]
          rw [r4, r5, r6]
          rcases tl_appA hi with z | ⟨e1, e2⟩
          · have := tl_lt_of z
            rw [if_neg (by omega), if_neg (by omega), if_neg (by omega)]
            exact T5 i e z
          · rw [if_pos e1, if_pos e1, if_pos e1, e2]
            exact ⟨rfl, fun _ => ⟨rfl, rfl⟩⟩
    rw [n1]
    obtain ⟨h2, f1, f2, f3, f4⟩ := fin
    refine ⟨h2, ?_, f2, f3, f4⟩
    rcases n3' with ⟨g1, g2⟩ | ⟨g1, g2⟩
    · rw [g1, tl_bs, g2, f1, tl_bs]
    · rw [g1, tl_bs, g2, f1, tl_bs]
end TF
