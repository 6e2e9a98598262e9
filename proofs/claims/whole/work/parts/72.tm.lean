theorem nI_le0 {x : Nat} (h : x < 2 ^ 31) : (nI x ≤ 0) ↔ x = 0 := by
  rw [il_0, nI_leI h (by decide)]
  omega
def tl_Om (h : am_H) (o : tl_Op) : Prop := ∀ i j, i < 8 → j < 8 → h.2.1 121 (8 * i + j) = nI (o i j)
theorem pI_o {τ : Nat} {l : List Nat} {o : tl_Op} (P : pI τ l o) (hτ : τ ≤ 16) (a b : Nat) : o a b ≤ 16 := by
  by_cases c : o a b = 0
  · omega
  · have p1 := P.1
    have n := P.2.2.2.1 a b c
    rcases Nat.lt_or_ge a b with q | q
    · have := (P.2.2.2.2.1 a b q c).1
      omega
    · have e := P.2.2.1 a b
      have := (P.2.2.2.2.1 b a (by omega) (by omega)).1
      omega
section TM
variable {h : am_H} {tx : List Nat} {es : List tl_Ev} {o : tl_Op}
theorem t7_kA (H : tl_Sh h) (X : tl_PT h tx) {q : Nat} (hq : q < 1000) : mi_X7_knotAt am_f h 118 (nI q) = some (if q < tx.length ∧ 48 ≤ tx.getD q 0 ∧ tx.getD q 0 < 56 then nI (tx.getD q 0 - 48) else -9) := by
  have x64 := X.1
  unfold mi_X7_knotAt
  rw [oc_118 H, tl_bs, oi_118 H, tl_bs, X.2.2.2.1]
  simp only [nI_leI (show tx.length < 2 ^ 31 by omega) (show q < 2 ^ 31 by omega)]
  by_cases c : tx.length ≤ q
  · rw [if_pos c, tl_bs, if_neg (by omega)]
  · obtain ⟨-, b0, l0, -⟩ := tl_T2 X (show q < tx.length by omega)
    rw [if_neg c, or_118_1 H, tl_bs, al_120 H (by omega), tl_bs, b0, t7_in, tl_bs, tl_bs, al_120 H (by omega), tl_bs, b0, Int32.toInt_toInt64, nI_toInt (by omega)]
    show Option.bind (if decide ((48 : Int) ≤ (tx.getD q 0 : Int) ∧ (tx.getD q 0 : Int) ≤ (55 : Int)) = true then some (nI (tx.getD q 0) - 48) else some (-9)) _ = _
    by_cases d : 48 ≤ tx.getD q 0 ∧ tx.getD q 0 < 56
    · rw [if_pos (decide_eq_true (by omega)), tl_bs, if_pos ⟨by omega, d⟩, il_48, pk_sub d.1]
    · rw [if_neg (by rw [decide_eq_true_eq]; omega), tl_bs, if_neg (fun z => d z.2)]
theorem t7_loL (H : tl_Sh h) (O : tl_Om h o) (ob : ∀ a b, o a b ≤ 16) {a : Nat} (ha : a < 8) : ∀ n j, j ≤ 8 → 8 - j < n → lo_X7_linksOf_4 am_f h 118 (nI a) n (nI (tl_N (fun j => decide (o a j ≠ 0)) j)) (nI j) = some (nI (oR o a)) := by
  intro n
  induction n with
  | zero => intro j _ q; omega
  | succ n ih =>
    intro j hj hjn
    rw [lo_X7_linksOf_4.eq_2]
    simp only [il_8, nI_leI (show 8 < 2 ^ 31 by decide) (show j < 2 ^ 31 by omega)]
    by_cases h1 : 8 ≤ j
    · rw [if_pos h1, show j = 8 by omega]; rfl
    · have := ob a j
      rw [if_neg h1, or_118_3 H, tl_bs, pk_mul, nI_add, al_121 H (by omega), tl_bs, O a j ha (by omega)]
      simp only [nI_le0 (show o a j < 2 ^ 31 by omega)]
      have e : ((if o a j = 0 then some false else some true) : Option Bool) = some (decide (o a j ≠ 0)) := by
        by_cases c : o a j = 0
        · rw [if_pos c]; exact tl_df (fun z => z c)
        · rw [if_neg c]; exact tl_dt c
      rw [e, tl_bs, tl_b, nI_add, nI_1]
      exact ih (j + 1) (by omega) (by omega)
theorem t7_lo1 (H : tl_Sh h) (O : tl_Om h o) (ob : ∀ a b, o a b ≤ 16) {a : Nat} (ha : a < 8) : mi_X7_linksOf am_f h 118 (nI a) = some (nI (oR o a)) := by
  unfold mi_X7_linksOf
  have e := t7_loL H O ob ha am_f 0 (by omega) (by decide)
  rw [oc_118 H, tl_bs, show lo_X7_linksOf_4 am_f h 118 (nI a) am_f 0 0 = _ from e, tl_bs]
theorem t7_laL (H : tl_Sh h) (O : tl_Om h o) (ob : ∀ a b, o a b ≤ 16) : ∀ n j, j ≤ 8 → 8 - j < n → lo_X7_linksOfAll_4 am_f h 118 n (nI (uf_sm (oR o) j)) (nI j) = some (nI (oS o)) := by
  intro n
  induction n with
  | zero => intro j _ q; omega
  | succ n ih =>
    intro j hj hjn
    rw [lo_X7_linksOfAll_4.eq_2]
    simp only [il_8, nI_leI (show 8 < 2 ^ 31 by decide) (show j < 2 ^ 31 by omega)]
    by_cases h1 : 8 ≤ j
    · rw [if_pos h1, show j = 8 by omega]; rfl
    · rw [if_neg h1, t7_lo1 H O ob (by omega), tl_bs, nI_add, nI_1]
      exact ih (j + 1) (by omega) (by omega)
theorem t7_la1 (H : tl_Sh h) (O : tl_Om h o) (ob : ∀ a b, o a b ≤ 16) : mi_X7_linksOfAll am_f h 118 = some (nI (oS o)) := by
  unfold mi_X7_linksOfAll
  have e := t7_laL H O ob am_f 0 (by omega) (by decide)
  rw [oc_118 H, tl_bs, show lo_X7_linksOfAll_4 am_f h 118 am_f 0 0 = _ from e, tl_bs]
theorem tl_sc19 {j : Nat} (h : 17 ≤ j) : tl_sc 119 j = true := by simp [tl_sc, h]
theorem tl_Om_u {l1 : am_H} {a b x : Nat} (O : ∀ i j, i < 8 → j < 8 → l1.2.1 121 (8 * i + j) = nI (o i j)) (ha : a < 8) (hb : b < 8) : tl_Om (am_I (am_I l1 121 (8 * a + b) (nI x)) 121 (8 * b + a) (nI x)) (oU o a b x) := by
  intro i j hi hj
  rw [tl_I_at, tl_I_at]
  by_cases c1 : 8 * i + j = 8 * b + a
  · rw [if_pos c1, oU_at (by omega)]
  · rw [if_neg c1]
    by_cases c2 : 8 * i + j = 8 * a + b
    · rw [if_pos c2, oU_at (by omega)]
    · rw [if_neg c2, oU_ne (by omega)]
      exact O i j hi hj
theorem t7_rp (H : tl_Sh h) (X : tl_PT h tx) {l : List Nat} {τ : Nat} (P : pI τ l o) (hτ : τ < 16) (M : tl_Mo h 1 l) (O : tl_Om h o) {p : Nat} (hp : p < tx.length) (d : tx.getD p 0 = 43 ∨ (tx.getD p 0 = 45 ∧ oS o ≠ 0)) : ∃ h2, mi_X7_readPair am_f h 118 (nI p) (decide (tx.getD p 0 = 43)) (nI τ) = some (evI (evF tx p o), h2) ∧ tl_fr h h2 ∧ (evF tx p o = none → tl_Mo h2 1 (evA (l, o) τ (evE tx p)).1 ∧ tl_Om h2 (evA (l, o) τ (evE tx p)).2) := by
  have x64 := X.1
  have ob := pI_o P (by omega)
  have h0 : ∀ k, o k k = 0 := fun k => by
    apply Classical.byContradiction
    intro q
    exact (P.2.2.2.1 k k q).2.2 rfl
  have hEn := fun e => evF_ok (tx := tx) (p := p) (o := o) e
  have c46 : ¬ tx.getD p 0 = 46 := by omega
  have hw := pI_wf P (by omega)
  have l1 := P.1
  have ne9 : ∀ x, x < 8 → ¬ nI x = -9 := fun x hx z => by
    have z2 : ¬ nI x < 0 := nI_pos (by omega)
    rw [z] at z2
    exact absurd (show (-9 : Int32) < 0 by decide) z2
  unfold mi_X7_readPair evE
  rw [if_neg c46]
  have eF : evF tx p o = if p + 1 < tx.length ∧ 48 ≤ tx.getD (p + 1) 0 ∧ tx.getD (p + 1) 0 < 56 ∧ oR o (tx.getD (p + 1) 0 - 48) ≠ (if tx.getD p 0 = 43 then 7 else 0) then
      if p + 2 < tx.length ∧ 48 ≤ tx.getD (p + 2) 0 ∧ tx.getD (p + 2) 0 < 56 ∧ tx.getD (p + 2) 0 ≠ tx.getD (p + 1) 0 ∧ (o (tx.getD (p + 1) 0 - 48) (tx.getD (p + 2) 0 - 48) ≠ 0 ↔ tx.getD p 0 = 45) then none
      else some (p + 2)
    else some (p + 1) := by
    unfold evF
    rw [if_neg c46, if_pos d]
  rw [oc_118 H, tl_bs, nI_1, t7_kA H X (by omega), tl_bs]
  generalize hc : tx.getD p 0 = c at *
  generalize hA : tx.getD (p + 1) 0 = A at *
  generalize hB : tx.getD (p + 2) 0 = B at *
  by_cases e1 : p + 1 < tx.length ∧ 48 ≤ A ∧ A < 56
  · have a8 : A - 48 < 8 := by omega
    have rl : oR o (A - 48) ≤ 8 := tl_N_le _ 8
    rw [if_pos e1, if_neg (ne9 _ a8), t7_lo1 H O ob a8, tl_bs]
    have e7 : ((if decide (c = 43) = true then some 7 else some 0) : Option Int32) = some (nI (if c = 43 then 7 else 0)) := by
      by_cases z : c = 43
      · rw [if_pos (decide_eq_true z), if_pos z]; rfl
      · rw [if_neg (by rw [decide_eq_true_eq]; exact z), if_neg z]; rfl
    have e7l : (if c = 43 then 7 else 0) ≤ 7 := by split <;> omega
    rw [e7, tl_bs]
    simp only [nI_eq (show oR o (A - 48) < 2 ^ 31 by omega) (show (if c = 43 then 7 else 0) < 2 ^ 31 by omega)]
    by_cases e3 : oR o (A - 48) = (if c = 43 then 7 else 0)
    · have ee : evF tx p o = some (p + 1) := by rw [eF, if_neg (fun z => z.2.2.2 e3)]
      rw [if_pos e3, ee]
      exact ⟨h, rfl, tl_fr_rf, fun z => by cases z⟩
    · rw [if_neg e3, il_2, nI_add, t7_kA H X (by omega), tl_bs, hB]
      rw [if_pos (show p + 1 < tx.length ∧ 48 ≤ A ∧ A < 56 ∧ oR o (A - 48) ≠ (if c = 43 then 7 else 0) from ⟨e1.1, e1.2.1, e1.2.2, e3⟩)] at eF
      by_cases e5 : p + 2 < tx.length ∧ 48 ≤ B ∧ B < 56
      · have b8 : B - 48 < 8 := by omega
        have obAB := ob (A - 48) (B - 48)
        rw [if_pos e5, if_neg (ne9 _ b8)]
        simp only [nI_eq (show B - 48 < 2 ^ 31 by omega) (show A - 48 < 2 ^ 31 by omega)]
        by_cases e6 : B - 48 = A - 48
        · have ee : evF tx p o = some (p + 2) := by rw [eF, if_neg (fun z => z.2.2.2.1 (by omega))]
          rw [if_pos e6, ee]
          exact ⟨h, rfl, tl_fr_rf, fun z => by cases z⟩
        · rw [if_neg e6, or_118_3 H, tl_bs, il_8, pk_mul, nI_add, al_121 H (by omega), tl_bs, O _ _ a8 b8]
          simp only [nI_le0 (show o (A - 48) (B - 48) < 2 ^ 31 by omega)]
          have e : ((if o (A - 48) (B - 48) = 0 then some false else some true) : Option Bool) = some (decide (o (A - 48) (B - 48) ≠ 0)) := by
            by_cases z : o (A - 48) (B - 48) = 0
            · rw [if_pos z]; exact tl_df (fun w => w z)
            · rw [if_neg z]; exact tl_dt z
          rw [e, tl_bs]
          simp only [am_b_inj]
          by_cases e8 : decide (o (A - 48) (B - 48) ≠ 0) = decide (c = 43)
          · have ee : evF tx p o = some (p + 2) := by
              rw [eF, if_neg]
              intro z
              have z5 := z.2.2.2.2
              have e9 := decide_eq_decide.mp e8
              rcases d with d | d
              · have := z5.mp (e9.mpr d)
                omega
              · have := e9.mp (z5.mpr d.1)
                omega
            rw [if_pos e8, ee]
            exact ⟨h, rfl, tl_fr_rf, fun z => by cases z⟩
          · have ee : evF tx p o = none := by
              have key : (o (A - 48) (B - 48) ≠ 0 ↔ c = 45) := by
                constructor
                · intro z
                  rcases d with d | d
                  · exact absurd (decide_eq_decide.mpr ⟨fun _ => d, fun _ => z⟩) e8
                  · exact d.1
                · intro z
                  apply Classical.byContradiction
                  intro w
                  exact e8 (decide_eq_decide.mpr ⟨fun q => absurd q w, fun q => by omega⟩)
              rw [eF, if_pos ⟨e5.1, e5.2.1, e5.2.2, by omega, key⟩]
            rw [if_neg e8, ee]
            generalize ha : A - 48 = a at *
            generalize hb : B - 48 = b at *
            have hn : a ≠ b := fun z => e6 z.symm
            by_cases c43 : c = 43
            · have o0 : o a b = 0 := by
                apply Classical.byContradiction
                intro w
                exact e8 (decide_eq_decide.mpr ⟨fun _ => c43, fun _ => w⟩)
              have ec : mi_X7_asOne am_f h (nI a) (nI b) (nI τ) 15 = some (nI (sC (min a b) (max a b) τ 15)) := t7_C am_f h a8 b8 hτ (by decide)
              have r17 : am_li h 9 119 17 = some (nI l.length) := by
                rw [show am_li h 9 119 17 = _ from al_119 H (j := 17) (by decide)]
                exact congrArg some M.1
              rw [if_pos (decide_eq_true c43), or_118_0 H, tl_bs, tl_bs, r17, tl_bs, ec, tl_bs, il_18, nI_add, as_119 H (by omega), tl_bs]
              have H1 : tl_Sh (am_I h 119 (18 + l.length) (nI (sC (min a b) (max a b) τ 15))) := tl_Sh_I H
              have r2 : am_li (am_I h 119 (18 + l.length) (nI (sC (min a b) (max a b) τ 15))) 9 119 17 = some (nI l.length) := by
                rw [show am_li (am_I h 119 (18 + l.length) (nI (sC (min a b) (max a b) τ 15))) 9 119 17 = _ from al_119 H1 (j := 17) (by decide), tl_I_at, if_neg (by omega)]
                exact congrArg some M.1
              rw [or_118_0 H1, tl_bs, r2, tl_bs, nI_1, show am_si (am_I h 119 (18 + l.length) (nI (sC (min a b) (max a b) τ 15))) 9 119 17 (nI (l.length + 1)) = _ from as_119 H1 (j := 17) (by decide), tl_bs]
              have H2 : tl_Sh (am_I (am_I h 119 (18 + l.length) (nI (sC (min a b) (max a b) τ 15))) 119 17 (nI (l.length + 1))) := tl_Sh_I H1
              have r3 : am_li (am_I (am_I h 119 (18 + l.length) (nI (sC (min a b) (max a b) τ 15))) 119 17 (nI (l.length + 1))) 9 119 17 = some (nI (l.length + 1)) := by
                rw [show am_li (am_I (am_I h 119 (18 + l.length) (nI (sC (min a b) (max a b) τ 15))) 119 17 (nI (l.length + 1))) 9 119 17 = _ from al_119 H2 (j := 17) (by decide), tl_I_at, if_pos rfl]
              rw [or_118_3 H2, tl_bs, or_118_0 H2, tl_bs, r3, tl_bs, as_121 H2 (by omega), tl_bs]
              have H3 : tl_Sh (am_I (am_I (am_I h 119 (18 + l.length) (nI (sC (min a b) (max a b) τ 15))) 119 17 (nI (l.length + 1))) 121 (8 * a + b) (nI (l.length + 1))) := tl_Sh_I H2
              have r4 : am_li (am_I (am_I (am_I h 119 (18 + l.length) (nI (sC (min a b) (max a b) τ 15))) 119 17 (nI (l.length + 1))) 121 (8 * a + b) (nI (l.length + 1))) 9 119 17 = some (nI (l.length + 1)) := by
                rw [show am_li (am_I (am_I (am_I h 119 (18 + l.length) (nI (sC (min a b) (max a b) τ 15))) 119 17 (nI (l.length + 1))) 121 (8 * a + b) (nI (l.length + 1))) 9 119 17 = _ from al_119 H3 (j := 17) (by decide), tl_I_ne (by decide), tl_I_at, if_pos rfl]
              rw [or_118_3 H3, tl_bs, or_118_0 H3, tl_bs, r4, tl_bs, pk_mul, nI_add, as_121 H3 (by omega), tl_bs, tl_bs]
              refine ⟨_, rfl, tl_fr_tr (tl_fr_tr (tl_fr_tr (tl_fr_I (tl_sc19 (by omega))) (tl_fr_I (tl_sc19 (by omega)))) (tl_fr_I (tl_sc_t (by decide)))) (tl_fr_I (tl_sc_t (by decide))), fun _ => ?_⟩
              have eA : evA (l, o) τ (c, a, b) = (l ++ [sC (min a b) (max a b) τ 15], oU o a b (l.length + 1)) := by
                unfold evA
                rw [if_pos c43]
              rw [eA]
              refine ⟨⟨?_, fun i v hi => ?_⟩, tl_Om_u (fun i j hi hj => by rw [tl_I_ne (by decide), tl_I_ne (by decide)]; exact O i j hi hj) a8 b8⟩
              · rw [tl_I_ne (by decide), tl_I_ne (by decide), tl_I_at, if_pos rfl, List.length_append]; rfl
              · have il := tl_lt_of hi
                rw [List.length_append] at il
                rw [tl_I_ne (by decide), tl_I_ne (by decide), tl_I_at, if_neg (by omega), tl_I_at]
                rcases tl_app hi with z | ⟨z1, z2⟩
                · have := tl_lt_of z
                  rw [if_neg (by omega)]
                  exact M.2 i v z
                · rw [if_pos (by omega), z2]
            · have c45 : c = 45 := by omega
              have on : o a b ≠ 0 := by
                intro w
                exact e8 (decide_eq_decide.mpr ⟨fun q => absurd w q, fun q => absurd q c43⟩)
              obtain ⟨k1, k2, k3, k4, k5, -⟩ := pI_end P hτ a8 b8 hn on
              have hg := tl_gd (l := l) (i := o a b - 1) k1
              have hv := (tl_wf_at hw hg).2.1
              have ix : nI 18 + nI (o a b) - 1 = nI (17 * 1 + 1 + (o a b - 1)) := by
                rw [nI_add, il_1, pk_sub (by omega)]
                congr 1
                omega
              have t1 : nI τ - 1 = nI (τ - 1) := by rw [il_1, pk_sub (by omega)]
              have rd : am_li h 9 119 (nI (17 * 1 + 1 + (o a b - 1))) = some (nI (l.getD (o a b - 1) 0)) := by
                rw [al_119 H (by omega), M.2 _ _ hg]
              have ec : mi_X7_asOne am_f h (nI a) (nI b) (nI (sF (l.getD (o a b - 1) 0))) (nI (τ - 1)) = some (nI (sC (min a b) (max a b) (sF (l.getD (o a b - 1) 0)) (τ - 1))) := t7_C am_f h a8 b8 (sF_lt _) (by omega)
              rw [if_neg (by rw [decide_eq_true_eq]; exact c43), tl_bs, al_121 H (by omega), tl_bs, O _ _ a8 b8, or_118_0 H, tl_bs, tl_bs, il_18, ix, rd, tl_bs, t7_F am_f h hv, tl_bs, t1, ec, tl_bs, as_119 H (by omega), tl_bs]
              have H1 : tl_Sh (am_I h 119 (17 * 1 + 1 + (o a b - 1)) (nI (sC (min a b) (max a b) (sF (l.getD (o a b - 1) 0)) (τ - 1)))) := tl_Sh_I H
              rw [or_118_3 H1, tl_bs, as_121 H1 (by omega), tl_bs]
              have H2 : tl_Sh (am_I (am_I h 119 (17 * 1 + 1 + (o a b - 1)) (nI (sC (min a b) (max a b) (sF (l.getD (o a b - 1) 0)) (τ - 1)))) 121 (8 * a + b) 0) := tl_Sh_I H1
              rw [or_118_3 H2, tl_bs, pk_mul, nI_add, as_121 H2 (by omega), tl_bs, tl_bs]
              refine ⟨_, rfl, tl_fr_tr (tl_fr_tr (tl_fr_I (tl_sc19 (by omega))) (tl_fr_I (tl_sc_t (by decide)))) (tl_fr_I (tl_sc_t (by decide))), fun _ => ?_⟩
              have eA : evA (l, o) τ (c, a, b) = (l.set (o a b - 1) (sC (min a b) (max a b) (sF (l.getD (o a b - 1) 0)) (τ - 1)), oU o a b 0) := by
                unfold evA
                rw [if_neg c43, if_pos c45]
              rw [eA]
              refine ⟨⟨?_, fun i v hi => ?_⟩, tl_Om_u (x := 0) (fun i j hi hj => by rw [tl_I_ne (by decide)]; exact O i j hi hj) a8 b8⟩
              · rw [tl_I_ne (by decide), tl_I_ne (by decide), tl_I_at, if_neg (by omega), List.length_set]; exact M.1
              · rw [tl_I_ne (by decide), tl_I_ne (by decide), tl_I_at]
                rw [List.getElem?_set] at hi
                by_cases q : o a b - 1 = i
                · rw [if_pos q, if_pos k1] at hi
                  rw [if_pos (by omega), Option.some.inj hi]
                · rw [if_neg q] at hi
                  rw [if_neg (by omega)]
                  exact M.2 i v hi
      · have ee : evF tx p o = some (p + 2) := by rw [eF, if_neg (fun z => e5 ⟨z.1, z.2.1, z.2.2.1⟩)]
        rw [if_neg e5, if_pos rfl, ee]
        exact ⟨h, rfl, tl_fr_rf, fun z => by cases z⟩
  · have ee : evF tx p o = some (p + 1) := by rw [eF, if_neg (fun z => e1 ⟨z.1, z.2.1, z.2.2.1⟩)]
    rw [if_neg e1, if_pos rfl, ee]
    exact ⟨h, rfl, tl_fr_rf, fun z => by cases z⟩
end TM
