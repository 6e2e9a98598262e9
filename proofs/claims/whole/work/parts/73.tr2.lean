section TR2
variable {h : am_H} {tx : List Nat}
theorem t7_tL : ∀ f p es h fu, es.length + f = 17 → f < fu → p < 100 → tl_Sh h → tl_PT h tx → okE es → tl_Mo h 1 (rpn es es.length).1 → tl_Om h (rpn es es.length).2 →
    ∃ w h2, lo_X7_readText_53 am_f 118 fu (nI p) (nI es.length) h = some w ∧ tl_fr h h2 ∧ ((w = .inl h2 ∧ (prs tx f p es).1 = -9) ∨ w = .inr ((prs tx f p es).1, h2)) ∧ ((prs tx f p es).1 = -9 → tl_Mo h2 1 (rpn (prs tx f p es).2 (prs tx f p es).2.length).1) := by
  intro f
  induction f with
  | zero =>
    intro p es h fu hf hfu _ H X ok M O
    have := ok.1
    omega
  | succ f ih =>
    intro p es h fu hf hfu p100 H X ok M O
    have x64 := X.1
    have e16 := ok.1
    have P := rpn_I ok es.length (Nat.le_refl _)
    have ob := pI_o P (by omega)
    have sl := oS_le (rpn es es.length).2
    obtain ⟨fu, rfl⟩ : ∃ q, fu = q + 1 := ⟨fu - 1, by omega⟩
    rw [lo_X7_readText_53.eq_2, oi_118 H, tl_bs, X.2.2.2.1, prs_s]
    simp only [nI_leI (show tx.length < 2 ^ 31 by omega) (show p < 2 ^ 31 by omega)]
    by_cases c1 : tx.length ≤ p
    · rw [if_pos c1, if_pos c1]
      exact ⟨_, h, rfl, tl_fr_rf, Or.inl ⟨rfl, rfl⟩, fun _ => M⟩
    · obtain ⟨-, b0, l0, p64⟩ := tl_T2 X (show p < tx.length by omega)
      have c1' : p < tx.length := by omega
      have fin9 : ∀ q, q < 1000 → ¬ nI q = -9 := fun q hq z => by
        have z2 : ¬ nI q < 0 := nI_pos (by omega)
        rw [z] at z2
        exact absurd (show (-9 : Int32) < 0 by decide) z2
      rw [if_neg c1, if_neg c1, or_118_1 H, tl_bs, al_120 H p64, tl_bs, b0, il_16]
      simp only [il_43, il_45, il_46, nI_eq (show tx.getD p 0 < 2 ^ 31 by omega) (show 46 < 2 ^ 31 by decide), nI_eq (show tx.getD p 0 < 2 ^ 31 by omega) (show 43 < 2 ^ 31 by decide), nI_eq (show tx.getD p 0 < 2 ^ 31 by omega) (show 45 < 2 ^ 31 by decide), nI_eq (show es.length < 2 ^ 31 by omega) (show 16 < 2 ^ 31 by decide)]
      have j4 : ((if tx.getD p 0 = 43 then some true else some false) : Option Bool) = some (decide (tx.getD p 0 = 43)) := by
        by_cases z : tx.getD p 0 = 43
        · rw [if_pos z, decide_eq_true z]
        · rw [if_neg z, decide_eq_false z]
      have j5 : ((if tx.getD p 0 = 45 then (Option.bind (mi_X7_linksOfAll am_f h 118) fun xq15 => (if xq15 ≤ 0 then some false else some true)) else some false) : Option Bool) = some (decide (tx.getD p 0 = 45 ∧ oS (rpn es es.length).2 ≠ 0)) := by
        by_cases z : tx.getD p 0 = 45
        · rw [if_pos z, t7_la1 H O ob, tl_bs]
          simp only [nI_le0 (show oS (rpn es es.length).2 < 2 ^ 31 by omega)]
          by_cases z2 : oS (rpn es es.length).2 = 0
          · rw [if_pos z2]; exact tl_df (fun w => w.2 z2)
          · rw [if_neg z2]; exact tl_dt ⟨z, z2⟩
        · rw [if_neg z]; exact tl_df (fun w => z w.1)
      rw [j4, tl_bs, j5, tl_bs]
      by_cases c2 : es.length = 16
      · rw [if_pos c2, if_pos c2]
        exact ⟨_, h, rfl, tl_fr_rf, Or.inr rfl, fun z => absurd z (fin9 p (by omega))⟩
      · rw [if_neg c2, if_neg c2]
        have j6 : ((if decide (tx.getD p 0 = 43) = true then some true else if decide (tx.getD p 0 = 45 ∧ oS (rpn es es.length).2 ≠ 0) = true then some true else if tx.getD p 0 = 46 then some true else some false) : Option Bool) = some (decide (tx.getD p 0 = 46 ∨ (tx.getD p 0 = 43 ∨ (tx.getD p 0 = 45 ∧ oS (rpn es es.length).2 ≠ 0)))) := by
          by_cases z1 : tx.getD p 0 = 43
          · rw [if_pos (decide_eq_true z1)]; exact tl_dt (Or.inr (Or.inl z1))
          · rw [if_neg (by rw [decide_eq_true_eq]; exact z1)]
            by_cases z2 : tx.getD p 0 = 45 ∧ oS (rpn es es.length).2 ≠ 0
            · rw [if_pos (decide_eq_true z2)]; exact tl_dt (Or.inr (Or.inr z2))
            · rw [if_neg (by rw [decide_eq_true_eq]; exact z2)]
              by_cases z3 : tx.getD p 0 = 46
              · rw [if_pos z3]; exact tl_dt (Or.inl z3)
              · rw [if_neg z3]
                refine tl_df ?_
                rintro (w | w | w)
                · exact z3 w
                · exact z1 w
                · exact z2 w
        rw [j6, tl_bs]
        have le : (es ++ [evE tx p]).length = es.length + 1 := by rw [List.length_append]; rfl
        by_cases c46 : tx.getD p 0 = 46
        · have ev : evF tx p (rpn es es.length).2 = none := by unfold evF; rw [if_pos c46]
          have eE : evE tx p = (46, 0, 0) := by unfold evE; rw [if_pos c46]
          have eR : rpn (es ++ [evE tx p]) (es ++ [evE tx p]).length = rpn es es.length := by
            rw [le, rpn_len, eE]; rfl
          rw [if_pos (decide_eq_true (Or.inl c46)), if_pos c46, tl_bs]
          dsimp only
          rw [if_pos c46, tl_bs, nI_1, nI_1, ev]
          dsimp only
          rw [if_pos c46]
          obtain ⟨w, h2, r1, r2, r3, r4⟩ := ih (p + 1) (es ++ [evE tx p]) h fu (by omega) (by omega) (by omega) H X (okE_app ok (by omega) (evF_ok ev).1) (by rw [eR]; exact M) (by rw [eR]; exact O)
          rw [le] at r1
          exact ⟨w, h2, r1, r2, r3, r4⟩
        · by_cases d : tx.getD p 0 = 43 ∨ (tx.getD p 0 = 45 ∧ oS (rpn es es.length).2 ≠ 0)
          · obtain ⟨h2, a1, a2, a3⟩ := t7_rp (l := (rpn es es.length).1) (o := (rpn es es.length).2) H X P (by omega) M O c1' d
            rw [if_pos (decide_eq_true (Or.inr d)), if_neg c46, a1, tl_bs]
            dsimp only
            simp only [evI_9 (tx := tx) (o := (rpn es es.length).2) (show p < 1000 by omega)]
            cases ev : evF tx p (rpn es es.length).2 with
            | some q =>
              rw [if_neg (by intro z; cases z), tl_bs]
              have := evF_b ev
              exact ⟨_, h2, rfl, a2, Or.inr rfl, fun z => absurd z (fin9 q (by omega))⟩
            | none =>
              rw [if_pos rfl, tl_bs]
              dsimp only
              rw [if_neg c46, if_neg c46, tl_bs, nI_1, il_3, nI_add]
              obtain ⟨m1, m2⟩ := a3 ev
              have eR : rpn (es ++ [evE tx p]) (es ++ [evE tx p]).length = evA ((rpn es es.length).1, (rpn es es.length).2) es.length (evE tx p) := by
                rw [le, rpn_len]
              obtain ⟨w, h4, r1, r2, r3, r4⟩ := ih (p + 3) (es ++ [evE tx p]) h2 fu (by omega) (by omega) (by omega) (tl_fr_Sh a2 H) (tl_fr_PT a2 X) (okE_app ok (by omega) (evF_ok ev).1) (by rw [eR]; exact m1) (by rw [eR]; exact m2)
              rw [le] at r1
              exact ⟨w, h4, r1, tl_fr_tr a2 r2, r3, r4⟩
          · have ev : evF tx p (rpn es es.length).2 = some p := by unfold evF; rw [if_neg c46, if_neg d]
            rw [if_neg (by rw [decide_eq_true_eq]; rintro (w | w); exact c46 w; exact d w), ev]
            exact ⟨_, h, rfl, tl_fr_rf, Or.inr rfl, fun z => absurd z (fin9 p (by omega))⟩
theorem t7_t10 : ∀ n j h, tl_Sh h → j ≤ 64 → 64 - j < n → (∀ k, k < j → h.2.1 121 k = nI 0) → ∃ h2, lo_X7_readText_10 am_f 118 n (nI j) h = some h2 ∧ (∀ k, k < 64 → h2.2.1 121 k = nI 0) ∧ tl_on [121] h h2 := by
  intro n
  induction n with
  | zero => intro j h _ _ q; omega
  | succ n ih =>
    intro j h H hj hjn P
    rw [lo_X7_readText_10.eq_2]
    simp only [il_64, nI_leI (show 64 < 2 ^ 31 by decide) (show j < 2 ^ 31 by omega)]
    by_cases h1 : 64 ≤ j
    · rw [if_pos h1]
      exact ⟨h, rfl, fun k hk => P k (by omega), tl_on_rf⟩
    · have o : tl_on [121] h (am_I h 121 j 0) := tl_on_I (by decide)
      rw [if_neg h1, or_118_3 H, tl_bs, as_121 H (by omega), tl_bs, nI_1]
      obtain ⟨h2, a1, a2, a3⟩ := ih (j + 1) _ (tl_on_Sh H o) (by omega) (by omega) (fun k hk => by
        rw [tl_I_at]
        by_cases e : k = j
        · rw [if_pos e]; rfl
        · rw [if_neg e]; exact P k (by omega))
      exact ⟨h2, a1, a2, tl_on_tr o a3⟩
theorem t7_rdt (H : tl_Sh h) (X : tl_PT h tx) : ∃ h2, mi_X7_readText am_f h 118 = some ((txF tx).1, h2) ∧ tl_fr h h2 ∧ ((txF tx).1 = -9 → tl_Mo h2 1 (rpn (txF tx).2 (txF tx).2.length).1) := by
  have x64 := X.1
  have o1 : tl_fr h (am_I h 119 17 0) := tl_fr_I (tl_sc19 (by omega))
  have H1 := tl_fr_Sh o1 H
  obtain ⟨h2, a1, a2, a3⟩ := t7_t10 am_f 0 (am_I h 119 17 0) H1 (by omega) (by decide) (fun k hk => by omega)
  have k2 : tl_fr (am_I h 119 17 0) h2 := tl_on_fr (by decide) a3
  have k12 := tl_fr_tr o1 k2
  have H2 := tl_fr_Sh k12 H
  have X2 := tl_fr_PT k12 X
  unfold mi_X7_readText txF
  rw [oc_118 H, tl_bs, or_118_0 H, tl_bs, show am_si h 9 119 17 0 = _ from as_119 H (j := 17) (by decide), tl_bs, show lo_X7_readText_10 am_f 118 am_f 0 (am_I h 119 17 0) = _ from a1, tl_bs, oi_118 H2, tl_bs, X2.2.2.2.1]
  simp only [tl_e0 (show tx.length < 2 ^ 31 by omega)]
  by_cases c0 : tx.length = 0
  · rw [if_pos c0, if_pos c0]
    exact ⟨h2, rfl, k12, fun z => absurd z (by decide)⟩
  · obtain ⟨-, b0, l0, -⟩ := tl_T2 X2 (show 0 < tx.length by omega)
    rw [if_neg c0, if_neg c0, or_118_1 H2, tl_bs, show am_li h2 9 120 0 = _ from al_120 H2 (j := 0) (by decide), tl_bs, b0, il_76]
    simp only [nI_eq (show tx.getD 0 0 < 2 ^ 31 by omega) (show 76 < 2 ^ 31 by decide)]
    by_cases c1 : tx.getD 0 0 = 76
    · rw [if_pos c1, if_pos c1]
      have M : tl_Mo h2 1 (rpn [] 0).1 := ⟨by rw [a3.2.2.2 119 (by decide), tl_I_at, if_pos rfl]; rfl, fun i v hi => by simp [rpn] at hi⟩
      have O : tl_Om h2 (rpn [] 0).2 := fun i j hi hj => a2 _ (by omega)
      obtain ⟨w, h4, r1, r2, r3, r4⟩ := t7_tL 17 1 [] h2 am_f rfl (by decide) (by decide) H2 X2 ⟨by decide, fun n hn => by simp at hn⟩ M O
      rw [show lo_X7_readText_53 am_f 118 am_f 1 0 h2 = _ from r1, tl_bs]
      rcases r3 with ⟨rfl, e⟩ | rfl
      · dsimp only
        exact ⟨h4, by rw [e], tl_fr_tr k12 r2, r4⟩
      · dsimp only
        exact ⟨h4, rfl, tl_fr_tr k12 r2, r4⟩
    · rw [if_neg c1, if_neg c1]
      exact ⟨h2, rfl, k12, fun z => absurd z (by decide)⟩
theorem e_fault (I : tl_I h) : tl_st (mi_X6_fault am_f h 0) (fun h1 => mi_X7_fault am_f h1 118) := by
  obtain ⟨H, -, ⟨tx, X⟩, -⟩ := id I
  obtain ⟨h1, a1, a2, -⟩ := t3_ff H X
  have H1 := tl_fr_Sh a2 H
  obtain ⟨h2, b1, b2, -⟩ := t7_rdt H1 (tl_fr_PT a2 X)
  unfold mi_X6_fault mi_X7_fault tl_st
  refine ⟨(txF tx).1, h1, h2, ?_, ?_, tl_fr_Iv (tl_fr_tr a2 b2) I⟩
  · rw [oc_0 H, tl_bs, or_0_0 H, tl_bs, a1, tl_bs]
  · dsimp only
    rw [oc_118 H1, tl_bs, b1, tl_bs]
end TR2
