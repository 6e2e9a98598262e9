section TG
variable {h : am_H} {tx : List Nat}
theorem prs_s {f p : Nat} {es : List tl_Ev} : prs tx (f + 1) p es = if tx.length ≤ p then (-9, es) else if es.length = 16 then (nI p, es) else (match evF tx p (rpn es es.length).2 with | some q => (nI q, es) | none => prs tx f (p + (if tx.getD p 0 = 46 then 1 else 3)) (es ++ [evE tx p])) := rfl
theorem prs_ok : ∀ f p es, okE es → okE (prs tx f p es).2
  | 0, p, es, h => h
  | f + 1, p, es, h => by
    rw [prs_s]
    by_cases c1 : tx.length ≤ p
    · rw [if_pos c1]; exact h
    · rw [if_neg c1]
      by_cases c2 : es.length = 16
      · rw [if_pos c2]; exact h
      · rw [if_neg c2]
        cases e : evF tx p (rpn es es.length).2 with
        | some q => exact h
        | none => exact prs_ok f _ _ (okE_app h (by have := h.1; omega) (evF_ok e).1)
theorem evF_b {p q : Nat} {o : tl_Op} (h : evF tx p o = some q) : q ≤ p + 2 := by
  unfold evF at h
  by_cases c1 : tx.getD p 0 = 46
  · rw [if_pos c1] at h; cases h
  · rw [if_neg c1] at h
    by_cases c2 : tx.getD p 0 = 43 ∨ (tx.getD p 0 = 45 ∧ oS o ≠ 0)
    · rw [if_pos c2] at h
      by_cases c3 : p + 1 < tx.length ∧ 48 ≤ tx.getD (p + 1) 0 ∧ tx.getD (p + 1) 0 < 56 ∧ oR o (tx.getD (p + 1) 0 - 48) ≠ (if tx.getD p 0 = 43 then 7 else 0)
      · rw [if_pos c3] at h
        by_cases c4 : p + 2 < tx.length ∧ 48 ≤ tx.getD (p + 2) 0 ∧ tx.getD (p + 2) 0 < 56 ∧ tx.getD (p + 2) 0 ≠ tx.getD (p + 1) 0 ∧ (o (tx.getD (p + 1) 0 - 48) (tx.getD (p + 2) 0 - 48) ≠ 0 ↔ tx.getD p 0 = 45)
        · rw [if_pos c4] at h; cases h
        · rw [if_neg c4] at h
          have := Option.some.inj h
          omega
      · rw [if_neg c3] at h
        have := Option.some.inj h
        omega
    · rw [if_neg c2] at h
      have := Option.some.inj h
      omega
theorem evI_9 {p : Nat} {o : tl_Op} (hp : p < 1000) : (evI (evF tx p o) = -9) ↔ evF tx p o = none := by
  cases e : evF tx p o with
  | none => exact ⟨fun _ => rfl, fun _ => rfl⟩
  | some q =>
    have := evF_b e
    constructor
    · intro z
      have z : nI q = -9 := z
      have z2 : ¬ nI q < 0 := nI_pos (by omega)
      rw [z] at z2
      exact absurd (show (-9 : Int32) < 0 by decide) z2
    · intro z; cases z
theorem t3_ffL : ∀ f p es h fu, es.length + f = 17 → f < fu → p < 100 → tl_Sh h → tl_PT h tx → okE es → tl_Tc h es (rpn es es.length).2 →
    ∃ w h2, lo_X3_firstFault_31 am_f 1 fu (nI p) h = some w ∧ tl_fr h h2 ∧ tl_Tc h2 (prs tx f p es).2 (rpn (prs tx f p es).2 (prs tx f p es).2.length).2 ∧ ((∃ q, q < 100 ∧ w = .inl (nI q, h2) ∧ (if tx.length ≤ q then -9 else nI q) = (prs tx f p es).1) ∨ w = .inr ((prs tx f p es).1, h2)) := by
  intro f
  induction f with
  | zero =>
    intro p es h fu hf hfu _ H X ok T
    have := ok.1
    omega
  | succ f ih =>
    intro p es h fu hf hfu p100 H X ok T
    have x64 := X.1
    have e16 := ok.1
    obtain ⟨fu, rfl⟩ : ∃ q, fu = q + 1 := ⟨fu - 1, by omega⟩
    rw [lo_X3_firstFault_31.eq_2, oi_1 H, tl_bs, T.2.2.1, prs_s]
    simp only [il_16, nI_leI (show 16 < 2 ^ 31 by decide) (show es.length < 2 ^ 31 by omega)]
    by_cases c2 : 16 ≤ es.length
    · have e : es.length = 16 := by omega
      rw [if_pos c2, if_pos e]
      by_cases c1 : tx.length ≤ p
      · rw [if_pos c1]
        exact ⟨_, h, rfl, tl_fr_rf, T, Or.inl ⟨p, p100, rfl, by rw [if_pos c1]⟩⟩
      · rw [if_neg c1]
        exact ⟨_, h, rfl, tl_fr_rf, T, Or.inl ⟨p, p100, rfl, by rw [if_neg c1]⟩⟩
    · rw [if_neg c2, oi_1 H, tl_bs, X.2.2.1]
      simp only [nI_leI (show tx.length < 2 ^ 31 by omega) (show p < 2 ^ 31 by omega)]
      by_cases c1 : tx.length ≤ p
      · rw [if_pos c1, if_pos c1]
        exact ⟨_, h, rfl, tl_fr_rf, T, Or.inl ⟨p, p100, rfl, by rw [if_pos c1]⟩⟩
      · have P := rpn_I ok es.length (Nat.le_refl _)
        have h0 : ∀ k, (rpn es es.length).2 k k = 0 := fun k => by
          apply Classical.byContradiction
          intro q
          exact (P.2.2.2.1 k k q).2.2 rfl
        rw [if_neg c1, if_neg c1, if_neg (show ¬ es.length = 16 by omega), t3_fe H X T.1 T.2.1 h0 (by omega), tl_bs]
        simp only [evI_9 (tx := tx) (o := (rpn es es.length).2) (show p < 1000 by omega)]
        cases e : evF tx p (rpn es es.length).2 with
        | some q =>
          rw [if_neg (by intro z; cases z)]
          exact ⟨_, h, rfl, tl_fr_rf, T, Or.inr rfl⟩
        | none =>
          rw [if_pos rfl]
          dsimp only
          obtain ⟨h2, a1, a2, a3, a4⟩ := t3_te H X ok T (by omega) (show p < tx.length by omega) e
          have H2 := tl_fr_Sh a2 H
          have X2 := tl_fr_PT a2 X
          obtain ⟨b0, -, l0, p64⟩ := tl_T2 X2 (show p < tx.length by omega)
          have key : ((if nI (tx.getD p 0) = 46 then some 1 else some 3) : Option Int32) = some (nI (if tx.getD p 0 = 46 then 1 else 3)) := by
            rw [il_46]
            simp only [nI_eq (show tx.getD p 0 < 2 ^ 31 by omega) (show 46 < 2 ^ 31 by decide)]
            by_cases z : tx.getD p 0 = 46
            · rw [if_pos z, if_pos z]; rfl
            · rw [if_neg z, if_neg z]; rfl
          have st : p + (if tx.getD p 0 = 46 then 1 else 3) < 100 := by split <;> omega
          rw [a1, tl_bs, or_1_0 H2, tl_bs, al_2 H2 p64, tl_bs, b0, key, tl_bs, oi_1 H2, tl_bs, a3, nI_1, ow_1 H2, tl_bs, nI_add]
          have k3 : tl_fr h2 (am_I h2 1 7 (nI (es.length + 1))) := tl_fr_I (by decide)
          have le : (es ++ [evE tx p]).length = es.length + 1 := by rw [List.length_append]; rfl
          obtain ⟨w, h4, r1, r2, r3, r4⟩ := ih (p + (if tx.getD p 0 = 46 then 1 else 3)) (es ++ [evE tx p]) _ fu (by omega) (by omega) st (tl_fr_Sh k3 H2) (tl_fr_PT k3 X2) (okE_app ok (by omega) (evF_ok e).1) a4
          exact ⟨w, h4, r1, tl_fr_tr a2 (tl_fr_tr k3 r2), r3, r4⟩
theorem t3_flL : ∀ n j h, tl_Sh h → j ≤ 8 → 8 - j < n → (∀ k, k < j → h.2.1 3 k = nI 0) → ∃ h2, lo_X3_forgetLinks_7 am_f 1 n (nI j) h = some h2 ∧ (∀ k, k < 8 → h2.2.1 3 k = nI 0) ∧ tl_on [3] h h2 := by
  intro n
  induction n with
  | zero => intro j h _ _ q; omega
  | succ n ih =>
    intro j h H hj hjn P
    rw [lo_X3_forgetLinks_7.eq_2]
    simp only [il_8, nI_leI (show 8 < 2 ^ 31 by decide) (show j < 2 ^ 31 by omega)]
    by_cases h1 : 8 ≤ j
    · rw [if_pos h1]
      exact ⟨h, rfl, fun k hk => P k (by omega), tl_on_rf⟩
    · have o : tl_on [3] h (am_I h 3 j 0) := tl_on_I (by decide)
      rw [if_neg h1, or_1_2 H, tl_bs, as_3 H (by omega), tl_bs, nI_1]
      obtain ⟨h2, a1, a2, a3⟩ := ih (j + 1) _ (tl_on_Sh H o) (by omega) (by omega) (fun k hk => by
        rw [tl_I_at]
        by_cases e : k = j
        · rw [if_pos e]; rfl
        · rw [if_neg e]; exact P k (by omega))
      exact ⟨h2, a1, a2, tl_on_tr o a3⟩
/-- the whole text's fault, and its events -/
def txF (tx : List Nat) : Int32 × List tl_Ev := if tx.length = 0 then (0, []) else if tx.getD 0 0 = 76 then prs tx 17 1 [] else (0, [])
theorem txF_ok : okE (txF tx).2 := by
  have z : okE [] := ⟨by decide, fun n hn => by simp at hn⟩
  unfold txF
  split
  · exact z
  · split
    · exact prs_ok 17 1 [] z
    · exact z
theorem t3_ff (H : tl_Sh h) (X : tl_PT h tx) : ∃ h2, mi_X3_firstFault am_f h 1 = some ((txF tx).1, h2) ∧ tl_fr h h2 ∧ ((txF tx).1 = -9 → tl_Tc h2 (txF tx).2 (rpn (txF tx).2 (txF tx).2.length).2) := by
  have x64 := X.1
  have o1 : tl_fr h (am_I h 1 3 0) := tl_fr_I (by decide)
  have H1 := tl_fr_Sh o1 H
  obtain ⟨h2, a1, a2, a3⟩ := t3_flL am_f 0 (am_I h 1 3 0) H1 (by omega) (by decide) (fun k hk => by omega)
  have k2 : tl_fr (am_I h 1 3 0) h2 := tl_on_fr (by decide) a3
  have k12 := tl_fr_tr o1 k2
  have H2 := tl_fr_Sh k12 H
  have X2 := tl_fr_PT k12 X
  have fl : mi_X3_forgetLinks am_f h 1 = some h2 := by
    unfold mi_X3_forgetLinks
    rw [oc_1 H, tl_bs, ow_1 H, tl_bs, show lo_X3_forgetLinks_7 am_f 1 am_f 0 (am_I h 1 3 0) = _ from a1, tl_bs]
  unfold mi_X3_firstFault txF
  rw [oc_1 H, tl_bs, fl, tl_bs, oi_1 H2, tl_bs, X2.2.2.1]
  simp only [tl_e0 (show tx.length < 2 ^ 31 by omega)]
  by_cases c0 : tx.length = 0
  · rw [if_pos c0, if_pos c0]
    exact ⟨h2, rfl, k12, fun z => absurd z (by decide)⟩
  · obtain ⟨b0, -, l0, -⟩ := tl_T2 X2 (show 0 < tx.length by omega)
    rw [if_neg c0, if_neg c0, or_1_0 H2, tl_bs, show am_li h2 8 2 0 = _ from al_2 H2 (j := 0) (by decide), tl_bs, b0, il_76]
    simp only [nI_eq (show tx.getD 0 0 < 2 ^ 31 by omega) (show 76 < 2 ^ 31 by decide)]
    by_cases c1 : tx.getD 0 0 = 76
    · rw [if_pos c1, if_pos c1, ow_1 H2, tl_bs]
      have k3 : tl_fr h2 (am_I h2 1 7 0) := tl_fr_I (by decide)
      have H3 := tl_fr_Sh k3 H2
      have X3 := tl_fr_PT k3 X2
      have T : tl_Tc (am_I h2 1 7 0) [] (rpn [] 0).2 := by
        refine ⟨fun k hk => ?_, ⟨0, ?_, ?_⟩, ?_, fun i e hi => by simp at hi⟩
        · rw [tl_I_ne (by decide), a2 k hk]
          congr 1
          show 0 = tl_B (fun _ => decide ((0 : Nat) ≠ 0)) 8
          decide
        · rw [tl_I_at, if_neg (by decide), a3.2.2.2 1 (by decide), tl_I_at, if_pos rfl]; rfl
        · decide
        · rw [tl_I_at, if_pos rfl]; rfl
      obtain ⟨w, h4, r1, r2, r3, r4⟩ := t3_ffL 17 1 [] (am_I h2 1 7 0) am_f rfl (by decide) (by decide) H3 X3 ⟨by decide, fun n hn => by simp at hn⟩ T
      rw [show lo_X3_firstFault_31 am_f 1 am_f 1 (am_I h2 1 7 0) = _ from r1, tl_bs]
      have kk := tl_fr_tr k12 (tl_fr_tr k3 r2)
      rcases r4 with ⟨q, q100, rfl, q2⟩ | rfl
      · dsimp only
        have H4 := tl_fr_Sh kk H
        have X4 := tl_fr_PT kk X
        rw [oi_1 H4, tl_bs, X4.2.2.1]
        simp only [nI_leI (show tx.length < 2 ^ 31 by omega) (show q < 2 ^ 31 by omega)]
        have e : ((if tx.length ≤ q then some (-9) else some (nI q)) : Option Int32) = some (prs tx 17 1 []).1 := by
          rw [← q2]
          split <;> rfl
        rw [e, tl_bs]
        exact ⟨h4, rfl, kk, fun _ => r3⟩
      · dsimp only
        exact ⟨h4, rfl, kk, fun _ => r3⟩
    · rw [if_neg c1, if_neg c1]
      exact ⟨h2, rfl, k12, fun z => absurd z (by decide)⟩
end TG
