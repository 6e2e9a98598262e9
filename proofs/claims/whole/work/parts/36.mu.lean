/-- only ints at these places have changed -/
def tl_on (ps : List Nat) (h h2 : am_H) : Prop := h2.1 = h.1 ∧ h2.2.2.1 = h.2.2.1 ∧ h2.2.2.2 = h.2.2.2 ∧ ∀ p, p ∉ ps → ∀ j, h2.2.1 p j = h.2.1 p j
theorem tl_on_rf {ps : List Nat} {h : am_H} : tl_on ps h h := ⟨rfl, rfl, rfl, fun _ _ _ => rfl⟩
theorem tl_on_tr {ps : List Nat} {a b c : am_H} (h1 : tl_on ps a b) (h2 : tl_on ps b c) : tl_on ps a c := ⟨h2.1.trans h1.1, h2.2.1.trans h1.2.1, h2.2.2.1.trans h1.2.2.1, fun p hp j => (h2.2.2.2 p hp j).trans (h1.2.2.2 p hp j)⟩
theorem tl_on_I {ps : List Nat} {h : am_H} {p i : Nat} {x : Int32} (hp : p ∈ ps) : tl_on ps h (am_I h p i x) := ⟨rfl, rfl, rfl, fun q hq j => tl_I_ne (fun e => hq (e ▸ hp))⟩
theorem tl_on_w {ps qs : List Nat} {h h2 : am_H} (hs : ∀ p ∈ ps, p ∈ qs) (k : tl_on ps h h2) : tl_on qs h h2 := ⟨k.1, k.2.1, k.2.2.1, fun p hp j => k.2.2.2 p (fun q => hp (hs p q)) j⟩
theorem tl_on_Sh {ps : List Nat} {h h2 : am_H} (H : tl_Sh h) (k : tl_on ps h h2) : tl_Sh h2 := ⟨k.1.trans H.1, fun p j hp => by rw [k.2.2.1]; exact H.2 p j hp⟩
theorem tl_on_Mo {ps : List Nat} {h h2 : am_H} {e : Nat} {l : List Nat} (hp : 119 ∉ ps) (k : tl_on ps h h2) (M : tl_Mo h e l) : tl_Mo h2 e l := ⟨by rw [k.2.2.2 _ hp]; exact M.1, fun i v hi => by rw [k.2.2.2 _ hp]; exact M.2 i v hi⟩
theorem tl_on_Sp {ps : List Nat} {h h2 : am_H} {p : Nat} {l : List Nat} (hp : ∀ k, k ≤ 4 → p + k ∉ ps) (k : tl_on ps h h2) (S : tl_Sp h p l) : tl_Sp h2 p l := by
  refine ⟨by rw [k.2.2.2 p (hp 0 (by omega))]; exact S.1, fun i v hi => ?_⟩
  obtain ⟨s1, s2, s3, s4⟩ := S.2 i v hi
  exact ⟨by rw [k.2.2.2 _ (hp 1 (by omega))]; exact s1, by rw [k.2.2.2 _ (hp 2 (by omega))]; exact s2, by rw [k.2.2.2 _ (hp 3 (by omega))]; exact s3, by rw [k.2.2.2 _ (hp 4 (by omega))]; exact s4⟩
/-- the reference's two rows hold a forest -/
def tl_Uo (h : am_H) (u : uf_S) : Prop := ∀ k, k < 8 → h.2.1 123 k = nI (u.1 k) ∧ h.2.1 124 k = nI (u.2 k)
section MU
variable {h : am_H} {u : uf_S}
theorem t7_clL : ∀ n j h, tl_Sh h → j ≤ 8 → 8 - j < n → (∀ k, k < j → h.2.1 123 k = nI k ∧ h.2.1 124 k = nI 1) → ∃ h2, lo_X7_clearKnots_2 am_f 118 n (nI j) h = some h2 ∧ tl_Uo h2 uf_0 ∧ tl_on [123, 124] h h2 := by
  intro n
  induction n with
  | zero => intro j h _ _ hn; omega
  | succ n ih =>
    intro j h H hj hn hk
    rw [lo_X7_clearKnots_2.eq_2]
    simp only [il_8, nI_leI (show 8 < 2 ^ 31 by decide) (show j < 2 ^ 31 by omega)]
    by_cases h1 : 8 ≤ j
    · rw [if_pos h1]
      exact ⟨h, rfl, fun k q => hk k (by omega), tl_on_rf⟩
    · have H2 : tl_Sh (am_I h 123 j (nI j)) := tl_Sh_I H
      have H3 : tl_Sh (am_I (am_I h 123 j (nI j)) 124 j 1) := tl_Sh_I H2
      rw [if_neg h1, or_118_7 H, tl_bs, as_123 H (by omega), tl_bs, or_118_8 H2, tl_bs, as_124 H2 (by omega), tl_bs, il_1, nI_add]
      obtain ⟨h2, e1, e2, e3⟩ := ih (j + 1) _ H3 (by omega) (by omega) (fun k hk2 => by
        rw [tl_I_ne (by decide), tl_I_at, tl_I_at, tl_I_ne (by decide)]
        by_cases q : k = j
        · subst q
          exact ⟨by rw [if_pos rfl], by rw [if_pos rfl]; rfl⟩
        · rw [if_neg q, if_neg q]
          exact hk k (by omega))
      exact ⟨h2, e1, e2, tl_on_tr (tl_on_tr (tl_on_I (by decide)) (tl_on_I (by decide))) e3⟩
theorem t7_cl (H : tl_Sh h) : ∃ h2, mi_X7_clearKnots am_f h 118 = some h2 ∧ tl_Uo h2 uf_0 ∧ tl_on [123, 124] h h2 := by
  obtain ⟨h2, e1, e2, e3⟩ := t7_clL am_f 0 h H (by omega) (by decide) (fun k hk => by omega)
  refine ⟨h2, ?_, e2, e3⟩
  unfold mi_X7_clearKnots
  rw [oc_118 H, tl_bs, il_0, e1]
  rfl
theorem t7_rtL (H : tl_Sh h) (U : tl_Uo h u) (I : uf_I u.1 u.2) : ∀ n k, k < 8 → 8 - u.2 k < n → lo_X7_rootOf_2 am_f h 118 n (nI k) = some (nI (uf_rt u.1 k)) := by
  intro n
  induction n with
  | zero => intro k _ h; omega
  | succ n ih =>
    intro k hk hn
    obtain ⟨q1, q2, q3⟩ := I.1 k hk
    rw [lo_X7_rootOf_2.eq_2, or_118_7 H, tl_bs, al_123 H hk, tl_bs, (U k hk).1]
    simp only [nI_eq (show u.1 k < 2 ^ 31 by omega) (show k < 2 ^ 31 by omega)]
    by_cases h1 : u.1 k = k
    · rw [if_pos h1, uf_rt_root h1]
    · rw [if_neg h1]
      simp only [tl_bs, al_123 H hk, (U k hk).1]
      rw [ih (u.1 k) q1 (by have := q3 h1; have := uf_s8 I q1; omega), uf_rt_ov I hk]
theorem t7_rt (H : tl_Sh h) (U : tl_Uo h u) (I : uf_I u.1 u.2) {k : Nat} (hk : k < 8) : mi_X7_rootOf am_f h 118 (nI k) = some (nI (uf_rt u.1 k)) := by
  unfold mi_X7_rootOf
  rw [oc_118 H, tl_bs, t7_rtL H U I am_f k hk (by unfold am_f; omega), tl_bs]
theorem tl_Uo_hang (U : tl_Uo h u) {d a : Nat} (hd : d < 8) (ha : a < 8) (hn : d ≠ a) : tl_Uo (am_I (am_I h 123 d (nI a)) 124 a (nI (u.2 a + u.2 d))) (uf_up u.1 d a, uf_up u.2 a (u.2 a + u.2 d)) := by
  intro k hk
  obtain ⟨q1, q2⟩ := U k hk
  rw [tl_I_ne (by decide), tl_I_at, tl_I_at, tl_I_ne (by decide)]
  refine ⟨?_, ?_⟩
  · by_cases h1 : k = d
    · subst h1; rw [if_pos rfl]; show _ = nI (uf_up u.1 k a k); rw [uf_up_at]
    · rw [if_neg h1, q1]; show _ = nI (uf_up u.1 d a k); rw [uf_up_ne h1]
  · by_cases h1 : k = a
    · subst h1; rw [if_pos rfl]; show _ = nI (uf_up u.2 k _ k); rw [uf_up_at]
    · rw [if_neg h1, q2]; show _ = nI (uf_up u.2 a _ k); rw [uf_up_ne h1]
theorem t7_join (H : tl_Sh h) (U : tl_Uo h u) (I : uf_I u.1 u.2) {v : Nat} (hv : v < 16384) : ∃ h2, mi_X7_joins am_f h 118 (nI v) = some ((uf_j u (sL v) (sH v)).1, h2) ∧ tl_Uo h2 (uf_j u (sL v) (sH v)).2 ∧ tl_on [123, 124] h h2 := by
  have la := sL_lt hv
  have lb := sH_lt v
  have ra := uf_rt_lt I la
  have rb := uf_rt_lt I lb
  unfold mi_X7_joins uf_j
  rw [oc_118 H, tl_bs, t7_L _ _ hv, tl_bs, t7_rt H U I la, tl_bs, t7_H _ _ hv, tl_bs, t7_rt H U I lb, tl_bs]
  generalize uf_rt u.1 (sL v) = a at ra ⊢
  generalize uf_rt u.1 (sH v) = b at rb ⊢
  simp only [nI_eq (show a < 2 ^ 31 by omega) (show b < 2 ^ 31 by omega)]
  by_cases h1 : a = b
  · rw [if_pos h1, if_pos h1]
    exact ⟨h, rfl, U, tl_on_rf⟩
  · rw [if_neg h1, if_neg h1]
    have sa := uf_s8 I ra
    have sb := uf_s8 I rb
    simp only [or_118_8 H, tl_bs, al_124 H rb, al_124 H ra, (U a ra).2, (U b rb).2]
    simp only [nI_ltI (show u.2 b < 2 ^ 31 by omega) (show u.2 a < 2 ^ 31 by omega), nI_eq (show u.2 a < 2 ^ 31 by omega) (show u.2 b < 2 ^ 31 by omega), nI_leI (show b < 2 ^ 31 by omega) (show a < 2 ^ 31 by omega)]
    have key : ((if u.2 b < u.2 a then some true else (if u.2 a = u.2 b then (if b ≤ a then some false else some true) else some false)) : Option Bool) = some (decide (u.2 b < u.2 a ∨ (u.2 a = u.2 b ∧ a < b))) := by
      by_cases c1 : u.2 b < u.2 a
      · rw [if_pos c1]; exact tl_dt (Or.inl c1)
      · rw [if_neg c1]
        by_cases c2 : u.2 a = u.2 b
        · rw [if_pos c2]
          by_cases c3 : b ≤ a
          · rw [if_pos c3]; exact tl_df (by omega)
          · rw [if_neg c3]; exact tl_dt (by omega)
        · rw [if_neg c2]; exact tl_df (by omega)
    rw [key, tl_bs]
    unfold uf_jr
    by_cases c : u.2 b < u.2 a ∨ (u.2 a = u.2 b ∧ a < b)
    · have H2 : tl_Sh (am_I h 123 b (nI a)) := tl_Sh_I H
      rw [decide_eq_true c, if_pos rfl, tl_bs, if_pos rfl, tl_bs, or_118_7 H, tl_bs, as_123 H rb, tl_bs, or_118_8 H2, tl_bs, al_124 H2 ra, tl_bs, tl_bs, al_124 H2 rb, tl_bs, as_124 H2 ra, tl_bs, tl_I_ne (by decide), tl_I_ne (by decide), (U a ra).2, (U b rb).2, nI_add, if_pos c]
      exact ⟨_, rfl, tl_Uo_hang U rb ra (Ne.symm h1), tl_on_tr (tl_on_I (by decide)) (tl_on_I (by decide))⟩
    · have H2 : tl_Sh (am_I h 123 a (nI b)) := tl_Sh_I H
      rw [decide_eq_false c, if_neg (by decide), tl_bs, if_neg (by decide), tl_bs, or_118_7 H, tl_bs, as_123 H ra, tl_bs, or_118_8 H2, tl_bs, al_124 H2 rb, tl_bs, tl_bs, al_124 H2 ra, tl_bs, as_124 H2 rb, tl_bs, tl_I_ne (by decide), tl_I_ne (by decide), (U a ra).2, (U b rb).2, nI_add, if_neg c]
      exact ⟨_, rfl, tl_Uo_hang U ra rb h1, tl_on_tr (tl_on_I (by decide)) (tl_on_I (by decide))⟩
end MU
/-- joins of the spans of l that Q picks, in their order: how many joined, the forest -/
def uf_fd (l : List Nat) (Q : Nat → Bool) (u : uf_S) : Nat → Nat × uf_S
  | 0 => (0, u)
  | n + 1 => if Q n = true then ((uf_fd l Q u n).1 + (if (uf_j (uf_fd l Q u n).2 (sL (l.getD n 0)) (sH (l.getD n 0))).1 = true then 1 else 0), (uf_j (uf_fd l Q u n).2 (sL (l.getD n 0)) (sH (l.getD n 0))).2) else uf_fd l Q u n
/-- edges: what was there, and the picked spans' -/
def uf_E (E : Nat → Nat → Prop) (l : List Nat) (Q : Nat → Bool) (n : Nat) : Nat → Nat → Prop := fun x y => E x y ∨ ∃ i, i < n ∧ Q i = true ∧ x = sL (l.getD i 0) ∧ y = sH (l.getD i 0)
theorem uf_R_ex {E E2 : Nat → Nat → Prop} {ov : Nat → Nat} (h : ∀ a b, E a b ↔ E2 a b) (R : uf_R E ov) : uf_R E2 ov := ⟨fun k hk => uf_C_mono (fun a b q => uf_C_in ((h a b).mp q)) (R.1 k hk), fun a b q => R.2 a b ((h a b).mpr q)⟩
theorem uf_fd_ok {l : List Nat} {Q : Nat → Bool} {u : uf_S} {E : Nat → Nat → Prop} (hw : tl_wf l) (I : uf_I u.1 u.2) (R : uf_R E u.1) : ∀ n, n ≤ l.length → uf_I (uf_fd l Q u n).2.1 (uf_fd l Q u n).2.2 ∧ uf_R (uf_E E l Q n) (uf_fd l Q u n).2.1 ∧ uf_n (uf_fd l Q u n).2.1 + (uf_fd l Q u n).1 = uf_n u.1 := by
  intro n
  induction n with
  | zero =>
    intro _
    refine ⟨I, uf_R_ex (fun a b => ?_) R, rfl⟩
    constructor
    · intro q; exact Or.inl q
    · intro q
      rcases q with q | ⟨i, hi, -⟩
      · exact q
      · omega
  | succ n ih =>
    intro hn
    obtain ⟨i1, i2, i3⟩ := ih (by omega)
    have hv := tl_wf_at hw (tl_gd (l := l) (i := n) (by omega))
    show uf_I (uf_fd l Q u (n + 1)).2.1 (uf_fd l Q u (n + 1)).2.2 ∧ _
    unfold uf_fd
    by_cases hQ : Q n = true
    · rw [if_pos hQ]
      obtain ⟨j1, j2, j3⟩ := uf_j_ok i1 i2 (a := sL (l.getD n 0)) (b := sH (l.getD n 0)) (sL_lt hv.2.1) (sH_lt _)
      refine ⟨j1, uf_R_ex (fun a b => ?_) j2, ?_⟩
      · constructor
        · rintro ((q | ⟨i, a1, a2, a3⟩) | ⟨rfl, rfl⟩)
          · exact Or.inl q
          · exact Or.inr ⟨i, by omega, a2, a3⟩
          · exact Or.inr ⟨n, by omega, hQ, rfl, rfl⟩
        · rintro (q | ⟨i, a1, a2, a3, a4⟩)
          · exact Or.inl (Or.inl q)
          · by_cases e : i = n
            · subst e; exact Or.inr ⟨a3, a4⟩
            · exact Or.inl (Or.inr ⟨i, by omega, a2, a3, a4⟩)
      · dsimp only
        omega
    · rw [if_neg hQ]
      refine ⟨i1, uf_R_ex (fun a b => ?_) i2, i3⟩
      constructor
      · rintro (q | ⟨i, a1, a2, a3⟩)
        · exact Or.inl q
        · exact Or.inr ⟨i, by omega, a2, a3⟩
      · rintro (q | ⟨i, a1, a2, a3, a4⟩)
        · exact Or.inl q
        · by_cases e : i = n
          · subst e; exact absurd a2 hQ
          · exact Or.inr ⟨i, by omega, a2, a3, a4⟩
