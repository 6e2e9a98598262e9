-- events and what they lay out
abbrev tl_Ev : Type := Nat × Nat × Nat
abbrev tl_Op : Type := Nat → Nat → Nat
def oU (o : tl_Op) (a b x : Nat) : tl_Op := fun i j => if (i = a ∧ j = b) ∨ (i = b ∧ j = a) then x else o i j
def oR (o : tl_Op) (i : Nat) : Nat := tl_N (fun j => decide (o i j ≠ 0)) 8
def oS (o : tl_Op) : Nat := uf_sm (oR o) 8
def evA (s : List Nat × tl_Op) (τ : Nat) (e : tl_Ev) : List Nat × tl_Op :=
  if e.1 = 43 then (s.1 ++ [sC (min e.2.1 e.2.2) (max e.2.1 e.2.2) τ 15], oU s.2 e.2.1 e.2.2 (s.1.length + 1))
  else if e.1 = 45 then (s.1.set (s.2 e.2.1 e.2.2 - 1) (sC (min e.2.1 e.2.2) (max e.2.1 e.2.2) (sF (s.1.getD (s.2 e.2.1 e.2.2 - 1) 0)) (τ - 1)), oU s.2 e.2.1 e.2.2 0)
  else s
def rpn (es : List tl_Ev) : Nat → List Nat × tl_Op
  | 0 => ([], fun _ _ => 0)
  | n + 1 => evA (rpn es n) n (es.getD n (46, 0, 0))
def evV (o : tl_Op) (e : tl_Ev) : Prop := e.1 = 46 ∨ (e.2.1 < 8 ∧ e.2.2 < 8 ∧ e.2.1 ≠ e.2.2 ∧ ((e.1 = 43 ∧ o e.2.1 e.2.2 = 0) ∨ (e.1 = 45 ∧ o e.2.1 e.2.2 ≠ 0)))
def okE (es : List tl_Ev) : Prop := es.length ≤ 16 ∧ ∀ n, n < es.length → evV (rpn es n).2 (es.getD n (46, 0, 0))
theorem tl_gdE {es : List tl_Ev} {e : tl_Ev} {n : Nat} (h : n < es.length) : (es ++ [e]).getD n (46, 0, 0) = es.getD n (46, 0, 0) := by
  rw [List.getD_eq_getElem?_getD, List.getD_eq_getElem?_getD, List.getElem?_append_left h]
theorem tl_gdEz {es : List tl_Ev} {e : tl_Ev} : (es ++ [e]).getD es.length (46, 0, 0) = e := by
  rw [List.getD_eq_getElem?_getD, List.getElem?_append_right (Nat.le_refl _), Nat.sub_self]
  rfl
theorem rpn_app {es : List tl_Ev} {e : tl_Ev} : ∀ n, n ≤ es.length → rpn (es ++ [e]) n = rpn es n
  | 0, _ => rfl
  | n + 1, h => by
    show evA (rpn (es ++ [e]) n) n ((es ++ [e]).getD n (46, 0, 0)) = evA (rpn es n) n (es.getD n (46, 0, 0))
    rw [rpn_app n (by omega), tl_gdE (by omega)]
theorem rpn_len {es : List tl_Ev} {e : tl_Ev} : rpn (es ++ [e]) (es.length + 1) = evA (rpn es es.length) es.length e := by
  show evA (rpn (es ++ [e]) es.length) es.length ((es ++ [e]).getD es.length (46, 0, 0)) = _
  rw [rpn_app _ (Nat.le_refl _), tl_gdEz]
theorem okE_app {es : List tl_Ev} {e : tl_Ev} (h : okE es) (hl : es.length < 16) (hv : evV (rpn es es.length).2 e) : okE (es ++ [e]) := by
  have e1 : (es ++ [e]).length = es.length + 1 := by rw [List.length_append]; rfl
  refine ⟨by omega, fun n hn => ?_⟩
  rw [rpn_app n (by omega)]
  by_cases c : n = es.length
  · subst c; rw [tl_gdEz]; exact hv
  · rw [tl_gdE (by omega)]; exact h.2 n (by omega)
/-- what holds of spans and links that are open, at a time -/
def pI (τ : Nat) (l : List Nat) (o : tl_Op) : Prop :=
  l.length ≤ τ ∧ (∀ i, i < l.length → l.getD i 0 < 16384 ∧ sL (l.getD i 0) < sH (l.getD i 0) ∧ sF (l.getD i 0) ≤ sT (l.getD i 0)) ∧ (∀ a b, o a b = o b a) ∧ (∀ a b, o a b ≠ 0 → a < 8 ∧ b < 8 ∧ a ≠ b) ∧
  (∀ a b, a < b → o a b ≠ 0 → o a b - 1 < l.length ∧ sL (l.getD (o a b - 1) 0) = a ∧ sH (l.getD (o a b - 1) 0) = b ∧ sT (l.getD (o a b - 1) 0) = 15) ∧
  (∀ i, i < l.length → sF (l.getD i 0) < τ) ∧ (∀ i, i < l.length → o (sL (l.getD i 0)) (sH (l.getD i 0)) ≠ i + 1 → sT (l.getD i 0) < τ) ∧
  (∀ i j, i < l.length → j < l.length → sL (l.getD i 0) = sL (l.getD j 0) → sH (l.getD i 0) = sH (l.getD j 0) → o (sL (l.getD i 0)) (sH (l.getD i 0)) = i + 1 → j ≠ i → j < i ∧ sT (l.getD j 0) < sF (l.getD i 0))
section PI
variable {l : List Nat} {o : tl_Op} {τ a b : Nat}
theorem pI_wf (P : pI τ l o) (hτ : τ ≤ 16) : tl_wf l := by
  refine ⟨by have := P.1; omega, fun v hv => ?_⟩
  obtain ⟨i, hi⟩ := List.mem_iff_getElem?.mp hv
  have := P.2.1 i (tl_lt_of hi)
  rw [List.getD_eq_getElem?_getD, hi] at this
  exact this
theorem oU_at {x : Nat} {i j : Nat} (h : (i = a ∧ j = b) ∨ (i = b ∧ j = a)) : oU o a b x i j = x := by
  unfold oU
  rw [if_pos h]
theorem oU_ne {x : Nat} {i j : Nat} (h : ¬ ((i = a ∧ j = b) ∨ (i = b ∧ j = a))) : oU o a b x i j = o i j := by
  unfold oU
  rw [if_neg h]
theorem oU_p {i j : Nat} (hij : i < j) : ((i = a ∧ j = b) ∨ (i = b ∧ j = a)) ↔ (i = min a b ∧ j = max a b) := by omega
theorem pI_0 : pI 0 [] (fun _ _ => 0) := ⟨Nat.le_refl _, fun i hi => by simp at hi, fun _ _ => rfl, fun _ _ h => absurd rfl h, fun _ _ _ h => absurd rfl h, fun i hi => by simp at hi, fun i hi => by simp at hi, fun i j hi => by simp at hi⟩
theorem pI_m (P : pI τ l o) : pI (τ + 1) l o := by
  obtain ⟨p1, p2, p3, p4, p5, p6, p7, p8⟩ := P
  exact ⟨by omega, p2, p3, p4, p5, fun i hi => by have := p6 i hi; omega, fun i hi q => by have := p7 i hi q; omega, p8⟩
theorem pI_put (P : pI τ l o) (hτ : τ < 16) (ha : a < 8) (hb : b < 8) (hn : a ≠ b) (h0 : o a b = 0) : pI (τ + 1) (l ++ [sC (min a b) (max a b) τ 15]) (oU o a b (l.length + 1)) := by
  obtain ⟨p1, p2, p3, p4, p5, p6, p7, p8⟩ := P
  have m8 : max a b < 8 := by omega
  have hm : min a b < max a b := by omega
  have om : o (min a b) (max a b) = 0 := by
    by_cases c : a ≤ b
    · rw [Nat.min_eq_left c, Nat.max_eq_right c]; exact h0
    · rw [Nat.min_eq_right (by omega), Nat.max_eq_left (by omega), p3]; exact h0
  have gl : ∀ i, i < l.length → (l ++ [sC (min a b) (max a b) τ 15]).getD i 0 = l.getD i 0 := fun i hi => tl_gda hi
  have gz : (l ++ [sC (min a b) (max a b) τ 15]).getD l.length 0 = sC (min a b) (max a b) τ 15 := tl_gdz
  have vL : sL (sC (min a b) (max a b) τ 15) = min a b := sC_L m8 hτ (by decide)
  have vH : sH (sC (min a b) (max a b) τ 15) = max a b := sC_H m8 hτ (by decide)
  have vF : sF (sC (min a b) (max a b) τ 15) = τ := sC_F hτ (by decide)
  have vT : sT (sC (min a b) (max a b) τ 15) = 15 := sC_T (by decide)
  have le : (l ++ [sC (min a b) (max a b) τ 15]).length = l.length + 1 := by rw [List.length_append]; rfl
  generalize sC (min a b) (max a b) τ 15 = v at *
  have sp : ∀ i, i < (l ++ [v]).length → (i < l.length ∧ (l ++ [v]).getD i 0 = l.getD i 0) ∨ (i = l.length ∧ (l ++ [v]).getD i 0 = v) := fun i hi => by
    by_cases c : i < l.length
    · exact Or.inl ⟨c, gl i c⟩
    · have : i = l.length := by omega
      subst this
      exact Or.inr ⟨rfl, gz⟩
  have vb : v < 16384 := by
    have : sC (min a b) (max a b) τ 15 < 16384 := sC_lt (by omega) m8 hτ (by decide)
    have e := sC_of v
    rw [vL, vH, vF, vT] at e
    omega
  refine ⟨by omega, fun i hi => ?_, fun x y => ?_, fun x y q => ?_, fun x y hxy q => ?_, fun i hi => ?_, fun i hi q => ?_, fun i j hi hj e1 e2 q hne => ?_⟩
  · rcases sp i hi with ⟨c, e⟩ | ⟨c, e⟩
    · rw [e]; exact p2 i c
    · rw [e]; exact ⟨vb, by omega, by omega⟩
  · unfold oU
    rw [p3 x y]
    by_cases c : (x = a ∧ y = b) ∨ (x = b ∧ y = a)
    · rw [if_pos c, if_pos (by omega)]
    · rw [if_neg c, if_neg (by omega)]
  · by_cases c : (x = a ∧ y = b) ∨ (x = b ∧ y = a)
    · omega
    · rw [oU_ne c] at q; exact p4 x y q
  · by_cases c : (x = a ∧ y = b) ∨ (x = b ∧ y = a)
    · have c2 := (oU_p hxy).mp c
      rw [oU_at c, Nat.add_sub_cancel, gz]
      exact ⟨by omega, by omega, by omega, vT⟩
    · rw [oU_ne c] at q ⊢
      have z := p5 x y hxy q
      rw [gl _ z.1]
      exact ⟨by omega, z.2⟩
  · rcases sp i hi with ⟨c, e⟩ | ⟨c, e⟩
    · rw [e]; have := p6 i c; omega
    · rw [e]; omega
  · rcases sp i hi with ⟨c, e⟩ | ⟨c, e⟩
    · rw [e] at q ⊢
      have w := p2 i c
      by_cases d : (sL (l.getD i 0) = a ∧ sH (l.getD i 0) = b) ∨ (sL (l.getD i 0) = b ∧ sH (l.getD i 0) = a)
      · have d2 := (oU_p w.2.1).mp d
        have := p7 i c (by rw [d2.1, d2.2, om]; omega)
        omega
      · rw [oU_ne d] at q
        have := p7 i c q
        omega
    · rw [e, vL, vH, oU_at ((oU_p hm).mpr ⟨rfl, rfl⟩)] at q
      omega
  · rcases sp i hi with ⟨ci, ei⟩ | ⟨ci, ei⟩
    · rw [ei] at e1 e2 q ⊢
      have w := p2 i ci
      by_cases d : (sL (l.getD i 0) = a ∧ sH (l.getD i 0) = b) ∨ (sL (l.getD i 0) = b ∧ sH (l.getD i 0) = a)
      · rw [oU_at d] at q; omega
      · rw [oU_ne d] at q
        rcases sp j hj with ⟨cj, ej⟩ | ⟨cj, ej⟩
        · rw [ej] at e1 e2 ⊢
          exact p8 i j ci cj e1 e2 q hne
        · rw [ej, vL] at e1
          rw [ej, vH] at e2
          exact absurd ((oU_p w.2.1).mpr ⟨e1, e2⟩) d
    · rw [ei] at e1 e2 q ⊢
      rcases sp j hj with ⟨cj, ej⟩ | ⟨cj, ej⟩
      · rw [ej] at e1 e2 ⊢
        rw [vL] at e1
        rw [vH] at e2
        have := p7 j cj (by rw [← e1, ← e2, om]; omega)
        rw [vF]
        omega
      · omega
theorem pI_end (P : pI τ l o) (hτ : τ < 16) (ha : a < 8) (hb : b < 8) (hn : a ≠ b) (h0 : o a b ≠ 0) : o a b - 1 < l.length ∧ sL (l.getD (o a b - 1) 0) = min a b ∧ sH (l.getD (o a b - 1) 0) = max a b ∧ sT (l.getD (o a b - 1) 0) = 15 ∧ sF (l.getD (o a b - 1) 0) < τ ∧ pI (τ + 1) (l.set (o a b - 1) (sC (min a b) (max a b) (sF (l.getD (o a b - 1) 0)) (τ - 1))) (oU o a b 0) := by
  obtain ⟨p1, p2, p3, p4, p5, p6, p7, p8⟩ := P
  have hm : min a b < max a b := by omega
  have m8 : max a b < 8 := by omega
  have om : o (min a b) (max a b) = o a b := by
    by_cases c : a ≤ b
    · rw [Nat.min_eq_left c, Nat.max_eq_right c]
    · rw [Nat.min_eq_right (by omega), Nat.max_eq_left (by omega), p3]
  have z := p5 _ _ hm (by rw [om]; exact h0)
  rw [om] at z
  have zF := p6 _ z.1
  refine ⟨z.1, z.2.1, z.2.2.1, z.2.2.2, zF, ?_⟩
  generalize hk : o a b - 1 = k at *
  have hk1 : o a b = k + 1 := by omega
  have f16 := sF_lt (l.getD k 0)
  generalize hF : sF (l.getD k 0) = F at *
  have t16 : τ - 1 < 16 := by omega
  have vL : sL (sC (min a b) (max a b) F (τ - 1)) = min a b := sC_L m8 f16 t16
  have vH : sH (sC (min a b) (max a b) F (τ - 1)) = max a b := sC_H m8 f16 t16
  have vF : sF (sC (min a b) (max a b) F (τ - 1)) = F := sC_F f16 t16
  have vT : sT (sC (min a b) (max a b) F (τ - 1)) = τ - 1 := sC_T t16
  have vb : sC (min a b) (max a b) F (τ - 1) < 16384 := sC_lt (by omega) m8 f16 t16
  generalize sC (min a b) (max a b) F (τ - 1) = v at *
  have le : (l.set k v).length = l.length := List.length_set
  have gs : ∀ i, i < l.length → (i = k ∧ (l.set k v).getD i 0 = v) ∨ (i ≠ k ∧ (l.set k v).getD i 0 = l.getD i 0) := fun i hi => by
    rw [List.getD_eq_getElem?_getD, List.getElem?_set, List.getD_eq_getElem?_getD]
    by_cases c : k = i
    · rw [if_pos c, if_pos z.1]; exact Or.inl ⟨c.symm, rfl⟩
    · rw [if_neg c]; exact Or.inr ⟨fun q => c q.symm, rfl⟩
  refine ⟨by omega, fun i hi => ?_, fun x y => ?_, fun x y q => ?_, fun x y hxy q => ?_, fun i hi => ?_, fun i hi q => ?_, fun i j hi hj e1 e2 q hne => ?_⟩
  · rcases gs i (by omega) with ⟨c, e⟩ | ⟨c, e⟩
    · rw [e]; exact ⟨vb, by omega, by omega⟩
    · rw [e]; exact p2 i (by omega)
  · unfold oU
    rw [p3 x y]
    by_cases c : (x = a ∧ y = b) ∨ (x = b ∧ y = a)
    · rw [if_pos c, if_pos (by omega)]
    · rw [if_neg c, if_neg (by omega)]
  · by_cases c : (x = a ∧ y = b) ∨ (x = b ∧ y = a)
    · omega
    · rw [oU_ne c] at q; exact p4 x y q
  · by_cases c : (x = a ∧ y = b) ∨ (x = b ∧ y = a)
    · rw [oU_at c] at q; exact absurd rfl q
    · rw [oU_ne c] at q ⊢
      have w := p5 x y hxy q
      rcases gs _ w.1 with ⟨d, e⟩ | ⟨d, e⟩
      · exfalso
        rw [d] at w
        exact c ((oU_p hxy).mpr ⟨by omega, by omega⟩)
      · rw [e]
        exact ⟨by omega, w.2⟩
  · rcases gs i (by omega) with ⟨c, e⟩ | ⟨c, e⟩
    · rw [e]; omega
    · rw [e]; have := p6 i (by omega); omega
  · rcases gs i (by omega) with ⟨c, e⟩ | ⟨c, e⟩
    · rw [e]; omega
    · rw [e] at q ⊢
      have w := p2 i (by omega)
      by_cases d : (sL (l.getD i 0) = a ∧ sH (l.getD i 0) = b) ∨ (sL (l.getD i 0) = b ∧ sH (l.getD i 0) = a)
      · have d2 := (oU_p w.2.1).mp d
        have := p7 i (by omega) (by rw [d2.1, d2.2, om]; omega)
        omega
      · rw [oU_ne d] at q
        have := p7 i (by omega) q
        omega
  · rcases gs i (by omega) with ⟨ci, ei⟩ | ⟨ci, ei⟩
    · rw [ei, vL, vH, oU_at ((oU_p hm).mpr ⟨rfl, rfl⟩)] at q
      omega
    · rw [ei] at e1 e2 q ⊢
      have w := p2 i (by omega)
      by_cases d : (sL (l.getD i 0) = a ∧ sH (l.getD i 0) = b) ∨ (sL (l.getD i 0) = b ∧ sH (l.getD i 0) = a)
      · rw [oU_at d] at q; omega
      · rw [oU_ne d] at q
        rcases gs j (by omega) with ⟨cj, ej⟩ | ⟨cj, ej⟩
        · rw [ej, vL] at e1
          rw [ej, vH] at e2
          exact absurd ((oU_p w.2.1).mpr ⟨e1, e2⟩) d
        · rw [ej] at e1 e2 ⊢
          exact p8 i j (by omega) (by omega) e1 e2 q hne
end PI
theorem rpn_I {es : List tl_Ev} (h : okE es) : ∀ n, n ≤ es.length → pI n (rpn es n).1 (rpn es n).2
  | 0, _ => pI_0
  | n + 1, hn => by
    have ih := rpn_I h n (by omega)
    have h16 := h.1
    have v := h.2 n (by omega)
    show pI (n + 1) (evA (rpn es n) n (es.getD n (46, 0, 0))).1 (evA (rpn es n) n (es.getD n (46, 0, 0))).2
    unfold evA
    rcases v with v | ⟨v1, v2, v3, ⟨v4, v5⟩ | ⟨v4, v5⟩⟩
    · rw [if_neg (by omega), if_neg (by omega)]
      exact pI_m ih
    · rw [if_pos v4]
      exact pI_put ih (by omega) v1 v2 v3 v5
    · rw [if_neg (by omega), if_pos v4]
      exact (pI_end ih (by omega) v1 v2 v3 v5).2.2.2.2.2
-- the class's acts at each event
theorem pI_tput {l : List Nat} {o : tl_Op} {τ a b : Nat} (P : pI τ l o) (hτ : τ < 16) (ha : a < 8) (hb : b < 8) (hn : a ≠ b) (h0 : o a b = 0) : tl_put l (nI a) (nI b) (nI τ) (nI 15) = (nI l.length, l ++ [sC (min a b) (max a b) τ 15]) := by
  have p1 := P.1
  have hm : min a b < max a b := by omega
  have om : o (min a b) (max a b) = 0 := by
    by_cases c : a ≤ b
    · rw [Nat.min_eq_left c, Nat.max_eq_right c]; exact h0
    · rw [Nat.min_eq_right (by omega), Nat.max_eq_left (by omega), P.2.2.1]; exact h0
  unfold tl_put
  rw [if_pos ⟨tl_kn_n ha, tl_kn_n hb, tl_tm_n hτ, tl_tm_n (by decide)⟩, nI_tt (by omega), nI_tt (by omega), nI_tt (by omega), nI_tt (by omega)]
  have fe : tl_fe l (-9) (min a b) (max a b) τ 15 l.length = true := by
    rw [tl_fe_iff]
    intro i hi q ⟨q1, q2⟩
    have q := of_decide_eq_true q
    have := P.2.2.2.2.2.2.1 i hi (by rw [q.2.1, q.2.2, om]; omega)
    omega
  rw [if_neg (by rintro (q | q); rw [nI_eq (by omega) (by omega)] at q; exact hn q; omega), if_pos fe, if_pos (by omega)]
theorem pI_tend {l : List Nat} {o : tl_Op} {τ a b : Nat} (P : pI τ l o) (hτ : τ < 16) (ha : a < 8) (hb : b < 8) (hn : a ≠ b) (h0 : o a b ≠ 0) : tl_end l (nI (o a b - 1)) (nI (τ - 1)) = (nI 15, l.set (o a b - 1) (sC (min a b) (max a b) (sF (l.getD (o a b - 1) 0)) (τ - 1))) := by
  obtain ⟨e1, e2, e3, e4, e5, -⟩ := pI_end P hτ ha hb hn h0
  have p1 := P.1
  have om : o (min a b) (max a b) = o a b := by
    by_cases c : a ≤ b
    · rw [Nat.min_eq_left c, Nat.max_eq_right c]
    · rw [Nat.min_eq_right (by omega), Nat.max_eq_left (by omega), P.2.2.1]
  unfold tl_end
  rw [nI_tt (by omega), nI_tt (by omega), e2, e3, e4]
  have fe : tl_fe l (nI (o a b - 1)) (min a b) (max a b) (sF (l.getD (o a b - 1) 0)) (τ - 1) l.length = true := by
    rw [tl_fe_iff]
    intro i hi q ⟨q1, q2⟩
    have q := of_decide_eq_true q
    rw [nI_eq (by omega) (by omega)] at q
    have := P.2.2.2.2.2.2.2 (o a b - 1) i e1 hi (by rw [e2, q.2.1]) (by rw [e3, q.2.2]) (by rw [e2, e3, om]; omega) q.1
    omega
  rw [if_pos ⟨by rw [tl_hs_n (by omega)]; exact decide_eq_true e1, tl_tm_n (by omega)⟩, if_neg (by omega), if_pos fe]
