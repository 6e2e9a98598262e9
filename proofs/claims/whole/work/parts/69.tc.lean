-- the text's first fault
def evF (tx : List Nat) (p : Nat) (o : tl_Op) : Option Nat :=
  if tx.getD p 0 = 46 then none
  else if tx.getD p 0 = 43 ∨ (tx.getD p 0 = 45 ∧ oS o ≠ 0) then
    if p + 1 < tx.length ∧ 48 ≤ tx.getD (p + 1) 0 ∧ tx.getD (p + 1) 0 < 56 ∧ oR o (tx.getD (p + 1) 0 - 48) ≠ (if tx.getD p 0 = 43 then 7 else 0) then
      if p + 2 < tx.length ∧ 48 ≤ tx.getD (p + 2) 0 ∧ tx.getD (p + 2) 0 < 56 ∧ tx.getD (p + 2) 0 ≠ tx.getD (p + 1) 0 ∧ (o (tx.getD (p + 1) 0 - 48) (tx.getD (p + 2) 0 - 48) ≠ 0 ↔ tx.getD p 0 = 45) then none
      else some (p + 2)
    else some (p + 1)
  else some p
def evE (tx : List Nat) (p : Nat) : tl_Ev := if tx.getD p 0 = 46 then (46, 0, 0) else (tx.getD p 0, tx.getD (p + 1) 0 - 48, tx.getD (p + 2) 0 - 48)
def prs (tx : List Nat) : Nat → Nat → List tl_Ev → Int32 × List tl_Ev
  | 0, _, es => (-9, es)
  | f + 1, p, es => if tx.length ≤ p then (-9, es) else if es.length = 16 then (nI p, es) else
    match evF tx p (rpn es es.length).2 with
    | some q => (nI q, es)
    | none => prs tx f (p + (if tx.getD p 0 = 46 then 1 else 3)) (es ++ [evE tx p])
theorem evF_ok {tx : List Nat} {p : Nat} {o : tl_Op} (h : evF tx p o = none) : evV o (evE tx p) ∧ (tx.getD p 0 = 46 ∨ ((tx.getD p 0 = 43 ∨ tx.getD p 0 = 45) ∧ p + 2 < tx.length ∧ 48 ≤ tx.getD (p + 1) 0 ∧ tx.getD (p + 1) 0 < 56 ∧ 48 ≤ tx.getD (p + 2) 0 ∧ tx.getD (p + 2) 0 < 56)) := by
  unfold evF at h
  unfold evE evV
  by_cases c1 : tx.getD p 0 = 46
  · rw [if_pos c1]
    exact ⟨Or.inl rfl, Or.inl c1⟩
  · rw [if_neg c1] at h ⊢
    by_cases c2 : tx.getD p 0 = 43 ∨ (tx.getD p 0 = 45 ∧ oS o ≠ 0)
    · rw [if_pos c2] at h
      by_cases c3 : p + 1 < tx.length ∧ 48 ≤ tx.getD (p + 1) 0 ∧ tx.getD (p + 1) 0 < 56 ∧ oR o (tx.getD (p + 1) 0 - 48) ≠ (if tx.getD p 0 = 43 then 7 else 0)
      · rw [if_pos c3] at h
        by_cases c4 : p + 2 < tx.length ∧ 48 ≤ tx.getD (p + 2) 0 ∧ tx.getD (p + 2) 0 < 56 ∧ tx.getD (p + 2) 0 ≠ tx.getD (p + 1) 0 ∧ (o (tx.getD (p + 1) 0 - 48) (tx.getD (p + 2) 0 - 48) ≠ 0 ↔ tx.getD p 0 = 45)
        · obtain ⟨d1, d2, d3, d4, d5⟩ := c4
          obtain ⟨f1, f2, f3, f4⟩ := c3
          dsimp only
          refine ⟨Or.inr ⟨by omega, by omega, by omega, ?_⟩, Or.inr ⟨by omega, d1, f2, f3, d2, d3⟩⟩
          rcases c2 with c2 | c2
          · left
            refine ⟨c2, ?_⟩
            apply Classical.byContradiction
            intro q
            have := d5.mp q
            omega
          · exact Or.inr ⟨c2.1, d5.mpr c2.1⟩
        · rw [if_neg c4] at h; cases h
      · rw [if_neg c3] at h; cases h
    · rw [if_neg c2] at h; cases h
theorem tl_N_not {P : Nat → Bool} : ∀ n, tl_N P n + tl_N (fun k => !P k) n = n
  | 0 => rfl
  | n + 1 => by
    have ih := tl_N_not (P := P) n
    unfold tl_N
    cases P n <;> simp <;> omega
/-- links of a knot as bits -/
def oB (o : tl_Op) (a : Nat) : Nat := tl_B (fun b => decide (o a b ≠ 0)) 8
theorem oB_lt (o : tl_Op) (a : Nat) : oB o a < 256 := tl_B_lt _ 8
theorem oB_tb {o : tl_Op} {a b : Nat} (hb : b < 8) : (oB o a).testBit b = decide (o a b ≠ 0) := by
  unfold oB
  rw [tl_B_tb, decide_eq_true hb, Bool.true_and]
theorem oB_0 {o : tl_Op} {a : Nat} : oB o a = 0 ↔ oR o a = 0 := by
  unfold oB oR
  rw [tl_B_0]
  constructor
  · intro h
    have := tl_N_no (P := fun j => decide (o a j ≠ 0)) (x := 0) 8 (fun k _ hk => h k (by omega))
    exact this
  · intro h
    exact tl_N_z 8 h
def oQ (o : tl_Op) (a : Nat) : Nat := (255 ^^^ 2 ^ a) &&& (oB o a ^^^ (2 ^ 32 - 1))
theorem oQ_lt (o : tl_Op) {a : Nat} (ha : a < 8) : oQ o a < 256 := by
  have h1 : (255 ^^^ 2 ^ a) < 256 := Nat.xor_lt_two_pow (n := 8) (by decide) (Nat.pow_lt_pow_right (by decide) ha)
  exact Nat.lt_of_le_of_lt Nat.and_le_left h1
theorem oQ_tb {o : tl_Op} {a b : Nat} (hb : b < 8) : (oQ o a).testBit b = decide (b ≠ a ∧ o a b = 0) := by
  have e1 : Nat.testBit 255 b = true := by
    rw [show 255 = 2 ^ 8 - 1 from rfl, tl_all1]
    exact decide_eq_true hb
  unfold oQ
  rw [Nat.testBit_and, Nat.testBit_xor, Nat.testBit_xor, tl_all1, oB_tb hb, e1, Nat.testBit_two_pow, decide_eq_true (show b < 32 by omega), Bool.eq_iff_iff]
  simp
  omega
theorem oQ_0 {o : tl_Op} {a : Nat} (ha : a < 8) (h0 : o a a = 0) : oQ o a = 0 ↔ oR o a = 7 := by
  have n1 := tl_N_not (P := fun j => decide (o a j ≠ 0)) 8
  have n2 := tl_N_off (P := fun k => !decide (o a k ≠ 0)) (Q := fun k => decide (k ≠ a ∧ o a k = 0)) (b := a) (by simp [h0]) (by simp) (fun k hk => by simp [hk]) 8
  rw [if_pos ha] at n2
  have n3 : oR o a + tl_N (fun k => decide (k ≠ a ∧ o a k = 0)) 8 = 7 := by
    unfold oR
    omega
  constructor
  · intro h
    have z : tl_N (fun k => decide (k ≠ a ∧ o a k = 0)) 8 = 0 := by
      have := tl_N_no (P := fun k => decide (k ≠ a ∧ o a k = 0)) (x := 0) 8 (fun k _ hk => by
        have q := oQ_tb (o := o) (a := a) (b := k) (by omega)
        rw [h, Nat.zero_testBit] at q
        exact q.symm)
      exact this
    omega
  · intro h
    have z := tl_N_z 8 (show tl_N (fun k => decide (k ≠ a ∧ o a k = 0)) 8 = 0 by omega)
    apply Nat.eq_of_testBit_eq
    intro k
    rw [Nat.zero_testBit]
    by_cases k8 : k < 8
    · rw [oQ_tb k8]; exact z k k8
    · exact Nat.testBit_lt_two_pow (Nat.lt_of_lt_of_le (oQ_lt o ha) (Nat.pow_le_pow_right (n := 2) (i := 8) (by decide) (by omega)))
-- counts when a link comes or goes
theorem uf_sm_ad {f g : Nat → Nat} : ∀ n, uf_sm (fun k => f k + g k) n = uf_sm f n + uf_sm g n
  | 0 => rfl
  | n + 1 => by
    have ih := uf_sm_ad (f := f) (g := g) n
    unfold uf_sm
    omega
theorem uf_sm_1 : ∀ a, a < 8 → uf_sm (fun i => if i = a then 1 else 0) 8 = 1 := by decide
theorem oR_up {o o2 : tl_Op} {a b : Nat} (ha : a < 8) (hb : b < 8) (hn : a ≠ b) (h1 : o a b = 0) (h2 : o b a = 0) (k1 : o2 a b ≠ 0) (k2 : o2 b a ≠ 0) (he : ∀ i j, ¬ ((i = a ∧ j = b) ∨ (i = b ∧ j = a)) → o2 i j = o i j) : oS o2 = oS o + 2 := by
  have e : ∀ i, i < 8 → oR o2 i = (oR o i + (if i = a then 1 else 0)) + (if i = b then 1 else 0) := by
    intro i hi
    unfold oR
    by_cases c1 : i = a
    · subst c1
      have z := tl_N_off (P := fun j => decide (o2 i j ≠ 0)) (Q := fun j => decide (o i j ≠ 0)) (b := b) (decide_eq_true k1) (by simp [h1]) (fun j hj => by rw [he i j (by omega)]) 8
      rw [if_pos hb] at z
      rw [if_pos rfl, if_neg hn, Nat.add_zero]
      exact z.symm
    · by_cases c2 : i = b
      · subst c2
        have z := tl_N_off (P := fun j => decide (o2 i j ≠ 0)) (Q := fun j => decide (o i j ≠ 0)) (b := a) (decide_eq_true k2) (by simp [h2]) (fun j hj => by rw [he i j (by omega)]) 8
        rw [if_pos ha] at z
        rw [if_neg c1, if_pos rfl, Nat.add_zero]
        exact z.symm
      · rw [if_neg c1, if_neg c2]
        show _ = tl_N (fun j => decide (o i j ≠ 0)) 8
        exact tl_N_ex 8 (fun j _ => by rw [he i j (by omega)])
  unfold oS
  rw [uf_sm_ex 8 e, uf_sm_ad, uf_sm_ad, uf_sm_1 a ha, uf_sm_1 b hb]
theorem oS_0 {o : tl_Op} (h : oS o = 0) {a b : Nat} (ha : a < 8) (hb : b < 8) : o a b = 0 := by
  have z := uf_sm_le (oR o) 8 a ha
  have z2 : oR o a = 0 := by
    unfold oS at h
    omega
  have := tl_N_z 8 z2 b hb
  simpa using this
section TC
variable {h : am_H} {tx : List Nat} {es : List tl_Ev}
def tl_Tc (h : am_H) (es : List tl_Ev) (o : tl_Op) : Prop := (∀ k, k < 8 → h.2.1 3 k = nI (oB o k)) ∧ (∃ c, h.2.1 1 3 = nI c ∧ 2 * c = oS o) ∧ h.2.1 1 7 = nI es.length ∧ ∀ (i : Nat) (e : tl_Ev), es[i]? = some e → h.2.1 4 i = nI e.1 ∧ (e.1 ≠ 46 → h.2.1 5 i = nI e.2.1 ∧ h.2.1 6 i = nI e.2.2)
theorem oS_le (o : tl_Op) : oS o ≤ 64 := by
  have := uf_sm_b (g := oR o) (c := 8) 8 (fun k _ => tl_N_le _ 8)
  exact this
theorem tl_T2 (X : tl_PT h tx) {i : Nat} (hi : i < tx.length) : h.2.1 2 i = nI (tx.getD i 0) ∧ h.2.1 120 i = nI (tx.getD i 0) ∧ tx.getD i 0 < 256 ∧ i < 64 := by
  have := X.1
  have g := tl_gd (l := tx) hi
  obtain ⟨a, b⟩ := X.2.2.2.2 i _ g
  exact ⟨a, b, X.2.1 _ (List.mem_of_getElem? g), by omega⟩
theorem tl_48 {c : Nat} (hc : c < 256) : tl_kn (nI c - 48) = decide (48 ≤ c ∧ c < 56) := by
  by_cases q : 48 ≤ c
  · rw [il_48, pk_sub q, tl_kn_d (by omega)]
    exact decide_eq_decide.mpr (by omega)
  · rw [decide_eq_false (by omega)]
    unfold tl_kn
    apply decide_eq_false
    have := pk_sub_toInt (a := c) (b := 48) (by omega) (by decide)
    rw [il_48, this]
    omega
theorem t3_pt (H : tl_Sh h) {o : tl_Op} (L : ∀ k, k < 8 → h.2.1 3 k = nI (oB o k)) {a : Nat} (ha : a < 8) {c : Nat} (hc : c < 256) : mi_X3_partners am_f h 1 (nI a) (nI c) = some (nI (if c = 43 then oQ o a else oB o a)) := by
  unfold mi_X3_partners
  simp only [oc_1 H, tl_bs, or_1_2 H, al_3 H ha, L a ha]
  rw [tl_sh1 a (by omega), il_43]
  simp only [nI_eq (show c < 2 ^ 31 by omega) (show 43 < 2 ^ 31 by decide)]
  by_cases q : c = 43
  · rw [if_pos q, if_pos q, tl_bs, il_255, fa_xor, show (-1 : Int32) = nI (2 ^ 32 - 1) from rfl, fa_xor, fa_and]
    rfl
  · rw [if_neg q, if_neg q, tl_bs]
def evI (x : Option Nat) : Int32 := match x with
  | some q => nI q
  | none => -9
theorem t3_fe (H : tl_Sh h) (X : tl_PT h tx) {o : tl_Op} (L : ∀ k, k < 8 → h.2.1 3 k = nI (oB o k)) (C : ∃ c, h.2.1 1 3 = nI c ∧ 2 * c = oS o) (h0 : ∀ k, o k k = 0) {p : Nat} (hp : p < tx.length) : mi_X3_faultOfEvent am_f h 1 (nI p) = some (evI (evF tx p o)) := by
  have x64 := X.1
  obtain ⟨b0, -, l0, -⟩ := tl_T2 X hp
  obtain ⟨cc, c1, c2⟩ := C
  have sl := oS_le o
  unfold mi_X3_faultOfEvent evF
  rw [oc_1 H, tl_bs, or_1_0 H, tl_bs, al_2 H (by omega), tl_bs, b0, il_46]
  generalize hc : tx.getD p 0 = c at *
  simp only [il_43, il_45, nI_eq (show c < 2 ^ 31 by omega) (show 46 < 2 ^ 31 by decide), nI_eq (show c < 2 ^ 31 by omega) (show 43 < 2 ^ 31 by decide), nI_eq (show c < 2 ^ 31 by omega) (show 45 < 2 ^ 31 by decide)]
  by_cases q46 : c = 46
  · rw [if_pos q46, if_pos q46]; rfl
  · rw [if_neg q46, if_neg q46]
    have hd : ((if c = 43 then some true else (if c = 45 then (Option.bind (am_gi h 3 1 3) fun xq4 => (if xq4 = 0 then some false else some true)) else some false)) : Option Bool) = some (decide (c = 43 ∨ (c = 45 ∧ oS o ≠ 0))) := by
      by_cases d1 : c = 43
      · rw [if_pos d1]; exact tl_dt (Or.inl d1)
      · rw [if_neg d1]
        by_cases d2 : c = 45
        · rw [if_pos d2, oi_1 H, tl_bs, c1]
          simp only [tl_e0 (show cc < 2 ^ 31 by omega)]
          by_cases d3 : cc = 0
          · rw [if_pos d3]; exact tl_df (by omega)
          · rw [if_neg d3]; exact tl_dt (by omega)
        · rw [if_neg d2]; exact tl_df (by omega)
    rw [hd, tl_bs]
    by_cases d : c = 43 ∨ (c = 45 ∧ oS o ≠ 0)
    · rw [if_pos (decide_eq_true d), if_pos d, oi_1 H, tl_bs, X.2.2.1, nI_1]
      simp only [nI_ltI (show p + 1 < 2 ^ 31 by omega) (show tx.length < 2 ^ 31 by omega)]
      by_cases e1 : p + 1 < tx.length
      · obtain ⟨b1, -, l1, -⟩ := tl_T2 X e1
        rw [if_pos e1, tl_bs, al_2 H (by omega), tl_bs, b1, t6_kn, tl_bs, tl_48 l1]
        generalize hA : tx.getD (p + 1) 0 = A at *
        by_cases e2 : 48 ≤ A ∧ A < 56
        · have a8 : A - 48 < 8 := by omega
          rw [if_pos (decide_eq_true e2), il_48, pk_sub e2.1, t3_pt H L a8 (by omega), tl_bs]
          have ol : (if c = 43 then oQ o (A - 48) else oB o (A - 48)) < 256 := by
            split
            · exact oQ_lt o a8
            · exact oB_lt o _
          have o0 : (if c = 43 then oQ o (A - 48) else oB o (A - 48)) = 0 ↔ oR o (A - 48) = (if c = 43 then 7 else 0) := by
            by_cases z : c = 43
            · rw [if_pos z, if_pos z]; exact oQ_0 a8 (h0 _)
            · rw [if_neg z, if_neg z]; exact oB_0
          simp only [tl_e0 (show (if c = 43 then oQ o (A - 48) else oB o (A - 48)) < 2 ^ 31 by omega), o0]
          by_cases e3 : oR o (A - 48) = (if c = 43 then 7 else 0)
          · rw [if_pos e3, if_neg (fun z => z.2.2.2 e3)]; rfl
          · rw [if_neg e3, if_pos (show p + 1 < tx.length ∧ 48 ≤ A ∧ A < 56 ∧ oR o (A - 48) ≠ (if c = 43 then 7 else 0) from ⟨e1, e2.1, e2.2, e3⟩), tl_bs, il_2, nI_add]
            simp only [nI_ltI (show p + 2 < 2 ^ 31 by omega) (show tx.length < 2 ^ 31 by omega)]
            by_cases e4 : p + 2 < tx.length
            · obtain ⟨b2, -, l2, -⟩ := tl_T2 X e4
              rw [if_pos e4, tl_bs, al_2 H (by omega), tl_bs, b2, t6_kn, tl_bs]
              rw [← il_48, tl_48 l2]
              generalize hB : tx.getD (p + 2) 0 = B at *
              by_cases e5 : 48 ≤ B ∧ B < 56
              · have b8 : B - 48 < 8 := by omega
                rw [if_pos (decide_eq_true e5), tl_bs, il_48, pk_sub e5.1, tl_bit (by omega) (by omega)]
                have tb : (if c = 43 then oQ o (A - 48) else oB o (A - 48)).testBit (B - 48) = decide (B ≠ A ∧ (o (A - 48) (B - 48) ≠ 0 ↔ c = 45)) := by
                  by_cases z : c = 43
                  · rw [if_pos z, oQ_tb b8]
                    apply decide_eq_decide.mpr
                    constructor
                    · rintro ⟨w1, w2⟩
                      exact ⟨by omega, fun w => absurd w2 w, fun w => by omega⟩
                    · rintro ⟨w1, w2⟩
                      refine ⟨by omega, ?_⟩
                      apply Classical.byContradiction
                      intro w
                      have := w2.mp w
                      omega
                  · have z45 : c = 45 := by omega
                    rw [if_neg z, oB_tb b8]
                    apply decide_eq_decide.mpr
                    constructor
                    · intro w
                      refine ⟨fun w2 => w (by rw [w2]; exact h0 _), fun _ => z45, fun _ => w⟩
                    · rintro ⟨-, w2⟩
                      exact w2.mpr z45
                rw [tb]
                by_cases e6 : B ≠ A ∧ (o (A - 48) (B - 48) ≠ 0 ↔ c = 45)
                · rw [decide_eq_true e6, if_pos rfl, if_neg (show ¬ nI 1 = 0 by decide), tl_bs, if_pos ⟨e4, e5.1, e5.2, e6.1, e6.2⟩]; rfl
                · rw [decide_eq_false e6, if_neg (show ¬ false = true by decide), if_pos (show nI 0 = 0 from rfl), tl_bs, if_neg (fun z => e6 ⟨z.2.2.2.1, z.2.2.2.2⟩)]; rfl
              · rw [if_neg (by rw [decide_eq_true_eq]; exact e5), tl_bs, if_neg (fun z => e5 ⟨z.2.1, z.2.2.1⟩)]; rfl
            · have : tx.length = p + 2 := by omega
              rw [if_neg e4, if_neg (fun z => e4 z.1), tl_bs, this]; rfl
        · rw [if_neg (by rw [decide_eq_true_eq]; exact e2), if_neg (fun z => e2 ⟨z.2.1, z.2.2.1⟩)]; rfl
      · have : tx.length = p + 1 := by omega
        rw [if_neg e1, if_neg (fun z => e1 z.1), tl_bs, this]; rfl
    · rw [if_neg (by rw [decide_eq_true_eq]; exact d), if_neg d]; rfl
end TC
