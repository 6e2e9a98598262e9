section Q2
variable {h : am_H}
/-- a call on both sides: one answer, and the state between calls again -/
def tl_st (x : Option (Int32 × am_H)) (y : am_H → Option (Int32 × am_H)) : Prop := ∃ r h1 h2, x = some (r, h1) ∧ y h1 = some (r, h2) ∧ tl_I h2
theorem tl_sps7 : 7 ∈ am_sps := by decide
theorem tl_if1 {α : Type} {b : Bool} {x y : α} (h : b = true) : (if b = true then x else y) = x := by rw [if_pos h]
theorem tl_if0 {α : Type} {b : Bool} {x y : α} (h : b = false) : (if b = true then x else y) = y := by rw [if_neg (by rw [h]; decide)]
theorem e_joined (I : tl_I h) (a b c : Int32) : tl_st (mi_X6_joined am_f h 0 a b c) (fun h1 => mi_X7_joined am_f h1 118 a b c) := by
  obtain ⟨H, ⟨l, S⟩, -⟩ := id I
  unfold mi_X6_joined mi_X7_joined tl_st
  simp only [oc_0 H, tl_bs, t6_kn, t6_tm, t7_kn, t7_tm]
  by_cases ha : tl_kn a = true
  · by_cases hb : tl_kn b = true
    · by_cases hc : tl_tm c = true
      · obtain ⟨a, a8, rfl⟩ := tl_kn_of ha
        obtain ⟨b, b8, rfl⟩ := tl_kn_of hb
        obtain ⟨c, c16, rfl⟩ := tl_tm_of hc
        obtain ⟨h1, x1, x2, x3, x4⟩ := t2_walkT tl_sps7 S.1 H S.2.1 c16
        have H1 := tl_on_Sh H x4
        have k1 := tl_on_fr tl_s_fo x4
        have S1 := tl_fr_PS k1 S
        obtain ⟨h2, y1, y2⟩ := t7_joined H1 S1.1 (show 0 < 2 by decide) S1.2.2 c16 (show 65535 < 65536 by decide) a8 b8
        have H2 := tl_on_Sh H1 y2
        refine ⟨am_b (decide (uf_rt (qA l 65535 c).1 a = uf_rt (qA l 65535 c).1 b)), h1, h2, ?_, ?_, tl_fr_Iv (tl_fr_tr k1 (tl_on_fr tl_s_mu y2)) I⟩
        · simp only [tl_if1 ha, tl_if1 hb, tl_if1 hc, or_0_4 H, or_0_1 H, tl_bs, x1, or_0_4 H1, t2_aj H1 x2 (qF_I S.1 c16) a8 b8, tl_iteB]
          rw [decide_eq_decide.mpr (qJ_eq S.1 c16 a8 b8)]
        · simp only [oc_118 H1, tl_if1 ha, tl_if1 hb, tl_if1 hc, tl_bs]
          rw [il_0, il_65535, y1, tl_bs]
          dsimp only
          rw [tl_iteB, tl_bs]
      · have hc := Bool.not_eq_true _ ▸ hc
        refine ⟨-1, h, h, ?_, ?_, I⟩
        · simp only [tl_if1 ha, tl_if1 hb, tl_if0 (Bool.eq_false_iff.mpr (by simpa using hc))]
        · simp only [oc_118 H, tl_bs, tl_if1 ha, tl_if1 hb, tl_if0 (Bool.eq_false_iff.mpr (by simpa using hc))]
    · have hb : tl_kn b = false := by simpa using hb
      refine ⟨-1, h, h, ?_, ?_, I⟩
      · simp only [tl_if1 ha, tl_if0 hb]
      · simp only [oc_118 H, tl_bs, tl_if1 ha, tl_if0 hb]
  · have ha : tl_kn a = false := by simpa using ha
    refine ⟨-1, h, h, ?_, ?_, I⟩
    · simp only [tl_if0 ha]
    · simp only [oc_118 H, tl_bs, tl_if0 ha]
theorem e_knot (I : tl_I h) (a b c : Int32) : tl_st (mi_X6_knot am_f h 0 a b c) (fun h1 => mi_X7_knot am_f h1 118 a b c) := by
  obtain ⟨H, ⟨l, S⟩, -⟩ := id I
  unfold mi_X6_knot mi_X7_knot tl_st
  simp only [oc_0 H, tl_bs, t6_kn, t6_tm, t7_kn, t7_tm, t7_in]
  by_cases ha : tl_kn a = true
  · by_cases hb : tl_tm b = true
    · obtain ⟨a, a8, rfl⟩ := tl_kn_of ha
      obtain ⟨b, b16, rfl⟩ := tl_tm_of hb
      obtain ⟨h1, x1, x2, x3, x4⟩ := t2_walkT tl_sps7 S.1 H S.2.1 b16
      have H1 := tl_on_Sh H x4
      have k1 := tl_on_fr tl_s_fo x4
      have S1 := tl_fr_PS k1 S
      obtain ⟨h2, y1, y2, y3, y4⟩ := t7_walk H1 S1.1 S1.2.2 (show 16 + b < 32 by omega) (by omega)
      have H2 := tl_on_Sh H1 y3
      have IF := qF_I S.1 b16
      have e := (qF_W (l := l) (show 16 + b < 32 by omega)).2
      rw [← e] at y2 y4
      have rl := uf_rt_lt IF a8
      have fin : tl_I h2 := tl_fr_Iv (tl_fr_tr k1 (tl_on_fr tl_s_mu y3)) I
      have in2 : ∀ k, k < 3 → decide ((0 : Int64).toInt ≤ (Int32.toInt64 (nI k)).toInt ∧ (Int32.toInt64 (nI k)).toInt ≤ (2 : Int64).toInt) = true := by decide
      by_cases c0 : c = 0
      · subst c0
        refine ⟨nI (uf_rt (qF l (16 + b)).2.1.1 a), h1, h2, ?_, ?_, fin⟩
        · simp only [tl_if1 ha, tl_if1 hb, or_0_4 H, or_0_1 H, tl_bs, x1, if_true, or_0_4 H1, t2_rt H1 x2 IF a8]
        · simp only [oc_118 H1, tl_if1 ha, tl_if1 hb, tl_bs]
          rw [show decide ((0 : Int64).toInt ≤ (Int32.toInt64 0).toInt ∧ (Int32.toInt64 0).toInt ≤ (2 : Int64).toInt) = true from by decide, if_pos rfl, il_16, nI_add, y1, tl_bs]
          simp only [if_true, t7_rt H2 y2 y4 a8, tl_bs]
      · by_cases c1 : c = 1
        · subst c1
          refine ⟨nI (uf_dp (qF l (16 + b)).2.1.1 8 a), h1, h2, ?_, ?_, fin⟩
          · simp only [tl_if1 ha, tl_if1 hb, or_0_4 H, or_0_1 H, tl_bs, x1, if_neg (show ¬ ((1 : Int32) = 0) by decide), if_true, or_0_4 H1, t2_dp H1 x2 IF a8]
          · simp only [oc_118 H1, tl_if1 ha, tl_if1 hb, tl_bs]
            rw [show decide ((0 : Int64).toInt ≤ (Int32.toInt64 1).toInt ∧ (Int32.toInt64 1).toInt ≤ (2 : Int64).toInt) = true from by decide, if_pos rfl, il_16, nI_add, y1, tl_bs]
            simp only [if_neg (show ¬ ((1 : Int32) = 0) by decide), if_true, t7_dp H2 y2 y4 a8, tl_bs]
        · by_cases c2 : c = 2
          · subst c2
            refine ⟨nI ((qF l (16 + b)).2.1.2 (uf_rt (qF l (16 + b)).2.1.1 a)), h1, h2, ?_, ?_, fin⟩
            · simp only [tl_if1 ha, tl_if1 hb, or_0_4 H, or_0_1 H, tl_bs, x1, if_neg (show ¬ ((2 : Int32) = 0) by decide), if_neg (show ¬ ((2 : Int32) = 1) by decide), if_true, or_0_4 H1, or_89_1 H1, t2_rt H1 x2 IF a8, al_91 H1 rl, (x2 _ rl).2.1]
            · simp only [oc_118 H1, tl_if1 ha, tl_if1 hb, tl_bs]
              rw [show decide ((0 : Int64).toInt ≤ (Int32.toInt64 2).toInt ∧ (Int32.toInt64 2).toInt ≤ (2 : Int64).toInt) = true from by decide, if_pos rfl, il_16, nI_add, y1, tl_bs]
              simp only [if_neg (show ¬ ((2 : Int32) = 0) by decide), if_neg (show ¬ ((2 : Int32) = 1) by decide), or_118_8 H2, t7_rt H2 y2 y4 a8, tl_bs, al_124 H2 rl, (y2 _ rl).2]
          · have hx : decide ((0 : Int64).toInt ≤ (Int32.toInt64 c).toInt ∧ (Int32.toInt64 c).toInt ≤ (2 : Int64).toInt) = false := by
              apply decide_eq_false
              rintro ⟨q1, q2⟩
              rw [Int32.toInt_toInt64] at q1 q2
              have q1 : (0 : Int) ≤ c.toInt := q1
              have q2 : c.toInt ≤ (2 : Int) := q2
              have d0 := lv_neT c0 (show (0 : Int32).toInt = 0 from by decide)
              have d1 := lv_neT c1 (show (1 : Int32).toInt = 1 from by decide)
              have d2 := lv_neT c2 (show (2 : Int32).toInt = 2 from by decide)
              omega
            refine ⟨-2, h1, h1, ?_, ?_, tl_fr_Iv k1 I⟩
            · simp only [tl_if1 ha, tl_if1 hb, or_0_4 H, or_0_1 H, tl_bs, x1, if_neg c0, if_neg c1, if_neg c2]
            · simp only [oc_118 H1, tl_if1 ha, tl_if1 hb, tl_bs, tl_if0 hx]
    · have hb : tl_tm b = false := by simpa using hb
      refine ⟨-1, h, h, ?_, ?_, I⟩
      · simp only [tl_if1 ha, tl_if0 hb]
      · simp only [oc_118 H, tl_bs, tl_if1 ha, tl_if0 hb]
  · have ha : tl_kn a = false := by simpa using ha
    refine ⟨-1, h, h, ?_, ?_, I⟩
    · simp only [tl_if0 ha]
    · simp only [oc_118 H, tl_bs, tl_if0 ha]
end Q2
