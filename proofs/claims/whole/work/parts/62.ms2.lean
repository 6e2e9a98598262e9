theorem tl_N_add {P : Nat → Bool} {x : Nat} : ∀ n, tl_N P (x + n) = tl_N P x + tl_N (fun k => P (x + k)) n
  | 0 => rfl
  | n + 1 => by
    have ih := tl_N_add (P := P) (x := x) n
    show tl_N P (x + n) + (if P (x + n) = true then 1 else 0) = tl_N P x + (tl_N (fun k => P (x + k)) n + (if P (x + n) = true then 1 else 0))
    omega
theorem tl_N_no {P : Nat → Bool} {x : Nat} : ∀ n, (∀ k, x ≤ k → k < x + n → P k = false) → tl_N P (x + n) = tl_N P x
  | 0, _ => rfl
  | n + 1, h => by
    have ih := tl_N_no n (fun k k1 k2 => h k k1 (by omega))
    show tl_N P (x + n) + (if P (x + n) = true then 1 else 0) = tl_N P x
    rw [h (x + n) (by omega) (by omega), if_neg (by decide), ih]
    rfl
theorem tl_N_z {P : Nat → Bool} : ∀ n, tl_N P n = 0 → ∀ k, k < n → P k = false
  | 0, _, k, h => by omega
  | n + 1, h, k, hk => by
    unfold tl_N at h
    by_cases c : P n = true
    · rw [if_pos c] at h; omega
    · by_cases e : k = n
      · subst e; exact Bool.eq_false_iff.mpr c
      · exact tl_N_z n (by omega) k (by omega)
theorem tl_pc_B (P : Nat → Bool) : tl_pc (tl_B P 16) = tl_N P 16 := by
  unfold tl_pc
  exact tl_N_ex 16 (fun k hk => by rw [tl_B_tb, decide_eq_true hk, Bool.true_and])
/-- a span that may be the missing one -/
def gd (l : List Nat) (sn : List tl_N4) (v : Nat) : Bool := decide (sL v < sH v) && (decide (sF v ≤ sT v) && (tl_fe l (-9) (sL v) (sH v) (sF v) (sT v) l.length && mA l sn v))
section ME
variable {h : am_H} {l : List Nat} {sn : List tl_N4}
theorem gd_C {a b f g : Nat} (hab : a < b) (hb : b < 8) (hf : f < 16) (hg : g < 16) : gd l sn (sC a b f g) = (decide (f ≤ g) && (tl_fe l (-9) a b f g l.length && mA l sn (sC a b f g))) := by
  unfold gd
  rw [sC_L hb hf hg, sC_H hb hf hg, sC_F hf hg, sC_T hg, decide_eq_true hab, Bool.true_and]
theorem sC_0 (a b f k : Nat) : sC a b f 0 + k = sC a b f k := by unfold sC; omega
theorem tl_B_no {P : Nat → Bool} {j : Nat} : ∀ n, j ≤ n → (∀ k, j ≤ k → k < n → P k = false) → tl_B P n = tl_B P j := by
  intro n
  induction n with
  | zero =>
    intro h _
    have : j = 0 := by omega
    subst this; rfl
  | succ n ih =>
    intro h q
    by_cases e : j = n + 1
    · subst e; rfl
    · have i := ih (by omega) (fun k k1 k2 => q k k1 (by omega))
      show tl_B P n ||| (if P n = true then 2 ^ n else 0) = _
      rw [i, q n (by omega) (by omega), if_neg (by decide), Nat.or_zero]
theorem t6_meL (H : tl_Sh h) (hw : tl_wf l) (hl : l.length < 16) (N : tl_PN h sn) (P : tl_Pt h l sn sn.length) {a b f : Nat} (hab : a < b) (hb : b < 8) (hf : f < 16) : ∀ n j, f ≤ j → j ≤ 16 → 16 - j < n → (∀ k, f ≤ k → k < j → (tl_to l (-9) a b l.length).testBit k = false) → lo_X6_missingEnds_6 am_f h 0 (nI a) (nI b) (nI f) (nI (tl_to l (-9) a b l.length)) n (nI (tl_B (fun k => gd l sn (sC a b f k)) j)) (nI j) = some (nI (tl_B (fun k => gd l sn (sC a b f k)) 16)) := by
  have tl := tl_to_lt (l := l) (bt := -9) (lo := a) (hi := b) l.length
  intro n
  induction n with
  | zero => intro j _ _ q; omega
  | succ n ih =>
    intro j hfj hj hjn nb
    rw [lo_X6_missingEnds_6.eq_2]
    simp only [il_16, nI_leI (show 16 < 2 ^ 31 by decide) (show j < 2 ^ 31 by omega)]
    by_cases h1 : 16 ≤ j
    · rw [if_pos h1, show j = 16 by omega]
    · have j16 : j < 16 := by omega
      rw [if_neg h1, tl_bit (by omega) (by omega)]
      by_cases c : (tl_to l (-9) a b l.length).testBit j = true
      · rw [if_pos c, if_neg (show ¬ nI 1 = 0 by decide)]
        rw [tl_B_no 16 (by omega) (fun k k1 k2 => by
          rw [gd_C hab hb hf k2]
          have e : tl_fe l (-9) a b f k l.length = false := by
            rw [Bool.eq_false_iff]
            intro z
            rw [← tl_fe_to (by omega) k2 hw] at z
            have z2 : (tl_to l (-9) a b l.length &&& sX f k).testBit j = true := by
              rw [Nat.testBit_and, c, Bool.true_and, sX_tb]
              omega
            rw [z, Nat.zero_testBit] at z2
            cases z2
          rw [e, Bool.false_and, Bool.and_false])]
      · have c0 : (tl_to l (-9) a b l.length).testBit j = false := Bool.eq_false_iff.mpr c
        have nb2 : ∀ k, f ≤ k → k < j + 1 → (tl_to l (-9) a b l.length).testBit k = false := fun k k1 k2 => by
          by_cases e : k = j
          · subst e; exact c0
          · exact nb k k1 (by omega)
        have fe : tl_fe l (-9) a b f j l.length = true := by
          rw [← tl_fe_to hfj j16 hw]
          apply Nat.eq_of_testBit_eq
          intro k
          rw [Nat.zero_testBit, Nat.testBit_and, Bool.and_eq_false_iff]
          by_cases q : (sX f j).testBit k = true
          · rw [sX_tb] at q
            exact Or.inl (nb2 k q.2.1 (by omega))
          · exact Or.inr (Bool.eq_false_iff.mpr q)
        have ge : gd l sn (sC a b f j) = mA l sn (sC a b f j) := by
          rw [gd_C hab hb hf j16, decide_eq_true hfj, fe, Bool.true_and, Bool.true_and]
        rw [if_neg c, if_pos (show nI 0 = 0 from rfl), or_0_6 H, tl_bs, t6_st am_f h hf j16, tl_bs, t4_as H hw hl N P (by omega) hb hf j16, tl_bs, tl_sh1 j (by omega), fa_or, nI_1]
        have key : ((if mA l sn (sC a b f j) = true then some (nI (tl_B (fun k => gd l sn (sC a b f k)) j ||| 2 ^ j)) else some (nI (tl_B (fun k => gd l sn (sC a b f k)) j))) : Option Int32) = some (nI (tl_B (fun k => gd l sn (sC a b f k)) (j + 1))) := by
          show _ = some (nI (tl_B (fun k => gd l sn (sC a b f k)) j ||| (if gd l sn (sC a b f j) = true then 2 ^ j else 0)))
          rw [ge]
          by_cases q : mA l sn (sC a b f j) = true
          · rw [if_pos q, if_pos q]
          · rw [if_neg q, if_neg q, Nat.or_zero]
        rw [key, tl_bs]
        exact ih (j + 1) (by omega) (by omega) (by omega) nb2
theorem t6_me (H : tl_Sh h) (hw : tl_wf l) (hl : l.length < 16) (N : tl_PN h sn) (P : tl_Pt h l sn sn.length) {a b f : Nat} (hab : a < b) (hb : b < 8) (hf : f < 16) : mi_X6_missingEnds am_f h 0 (nI a) (nI b) (nI f) (nI (tl_to l (-9) a b l.length)) = some (nI (tl_B (fun k => gd l sn (sC a b f k)) 16)) := by
  unfold mi_X6_missingEnds
  have e := t6_meL H hw hl N P hab hb hf am_f f (Nat.le_refl _) (by omega) (by unfold am_f; omega) (fun k k1 k2 => by omega)
  have z : tl_B (fun k => gd l sn (sC a b f k)) f = 0 := tl_B_0.mpr (fun k hk => by
    rw [gd_C hab hb hf (by omega), decide_eq_false (by omega), Bool.false_and])
  rw [z] at e
  rw [oc_0 H, tl_bs, show lo_X6_missingEnds_6 am_f h 0 (nI a) (nI b) (nI f) (nI (tl_to l (-9) a b l.length)) am_f 0 (nI f) = _ from e, tl_bs]
theorem t6_to (H : tl_Sh h) (S : tl_Sp h 7 l) (hw : tl_wf l) {a b : Nat} (hab : a < b) (hb : b < 8) : mi_X5_timesOf am_f h 7 (nI a) (nI b) (-9) = some (nI (tl_to l (-9) a b l.length)) := by
  have e := t5_to H tl_sps7 S hw (-9) (show a < 8 by omega) hb
  rw [Nat.min_eq_left (by omega), Nat.max_eq_right (by omega)] at e
  exact e
theorem gd_pc (a b f : Nat) : tl_N (gd l sn) (sC a b (f + 1) 0) = tl_N (gd l sn) (sC a b f 0) + tl_N (fun k => gd l sn (sC a b f k)) 16 := by
  have e : sC a b (f + 1) 0 = sC a b f 0 + 16 := by unfold sC; omega
  rw [e, tl_N_add]
  congr 1
theorem t6_h36 (H : tl_Sh h) (hw : tl_wf l) (hl : l.length < 16) (N : tl_PN h sn) (P : tl_Pt h l sn sn.length) {a b : Nat} (hab : a < b) (hb : b < 8) : ∀ n f, f ≤ 16 → 16 - f < n → lo_X6_howManyMissing_36 am_f h 0 (nI a) (nI b) (nI (tl_to l (-9) a b l.length)) n (nI (tl_N (gd l sn) (sC a b f 0))) (nI f) = some (nI (tl_N (gd l sn) (sC a (b + 1) 0 0))) := by
  intro n
  induction n with
  | zero => intro f _ q; omega
  | succ n ih =>
    intro f hf hfn
    rw [lo_X6_howManyMissing_36.eq_2]
    simp only [il_16, nI_leI (show 16 < 2 ^ 31 by decide) (show f < 2 ^ 31 by omega)]
    by_cases h1 : 16 ≤ f
    · rw [if_pos h1, show f = 16 by omega, show sC a b 16 0 = sC a (b + 1) 0 0 by unfold sC; omega]
    · rw [if_neg h1, t6_me H hw hl N P hab hb (by omega), tl_bs, tj_bc am_f h (tl_B_16 _ (Nat.le_refl _)), tl_bs, tl_pc_B, nI_add, ← gd_pc, nI_1]
      exact ih (f + 1) (by omega) (by omega)
theorem t6_h14 (H : tl_Sh h) (S : tl_Sp h 7 l) (hw : tl_wf l) (hl : l.length < 16) (N : tl_PN h sn) (P : tl_Pt h l sn sn.length) {a : Nat} : ∀ n b, a < b → b ≤ 8 → 8 - b < n → lo_X6_howManyMissing_14 am_f h 0 (nI a) n (nI (tl_N (gd l sn) (sC a b 0 0))) (nI b) = some (nI (tl_N (gd l sn) (sC (a + 1) 0 0 0))) := by
  intro n
  induction n with
  | zero => intro b _ _ q; omega
  | succ n ih =>
    intro b hab hb hbn
    rw [lo_X6_howManyMissing_14.eq_2]
    simp only [il_8, nI_leI (show 8 < 2 ^ 31 by decide) (show b < 2 ^ 31 by omega)]
    by_cases h1 : 8 ≤ b
    · rw [if_pos h1, show b = 8 by omega, show sC a 8 0 0 = sC (a + 1) 0 0 0 by unfold sC; omega]
    · have e := t6_h36 H hw hl N P hab (show b < 8 by omega) am_f 0 (by omega) (by decide)
      rw [if_neg h1, or_0_1 H, tl_bs, t6_to H S hw hab (by omega), tl_bs, show lo_X6_howManyMissing_36 am_f h 0 (nI a) (nI b) (nI (tl_to l (-9) a b l.length)) am_f (nI (tl_N (gd l sn) (sC a b 0 0))) 0 = _ from e, tl_bs, nI_1]
      exact ih (b + 1) (by omega) (by omega) (by omega)
theorem gd_low {a v : Nat} (h1 : sC a 0 0 0 ≤ v) (h2 : v < sC a (a + 1) 0 0) (ha : a < 8) : gd l sn v = false := by
  unfold gd
  rw [decide_eq_false, Bool.false_and]
  unfold sC at h1 h2
  unfold sL sH
  omega
theorem t6_h4 (H : tl_Sh h) (S : tl_Sp h 7 l) (hw : tl_wf l) (hl : l.length < 16) (N : tl_PN h sn) (P : tl_Pt h l sn sn.length) : ∀ n a, a ≤ 8 → 8 - a < n → lo_X6_howManyMissing_4 am_f h 0 n (nI (tl_N (gd l sn) (sC a 0 0 0))) (nI a) = some (nI (tl_N (gd l sn) 16384)) := by
  intro n
  induction n with
  | zero => intro b _ q; omega
  | succ n ih =>
    intro a ha han
    rw [lo_X6_howManyMissing_4.eq_2]
    simp only [il_8, nI_leI (show 8 < 2 ^ 31 by decide) (show a < 2 ^ 31 by omega)]
    by_cases h1 : 8 ≤ a
    · rw [if_pos h1, show a = 8 by omega]
      rfl
    · have e := t6_h14 H S hw hl N P am_f (a + 1) (show a < a + 1 by omega) (by omega) (by unfold am_f; omega)
      have z : tl_N (gd l sn) (sC a (a + 1) 0 0) = tl_N (gd l sn) (sC a 0 0 0) := by
        have q : sC a (a + 1) 0 0 = sC a 0 0 0 + (a + 1) * 256 := by unfold sC; omega
        rw [q]
        exact tl_N_no _ (fun k k1 k2 => gd_low k1 (by omega) (by omega))
      rw [z] at e
      rw [if_neg h1, nI_1, e, tl_bs]
      exact ih (a + 1) (by omega) (by omega)
def dcd (v : Nat) : Nat := 100000 * sL v + 10000 * sH v + 100 * sF v + sT v
theorem t6_lbL (h : am_H) {s : Nat} (hs : s < 65536) : ∀ n j, j ≤ 16 → 16 - j < n → (∀ k, k < j → s.testBit k = false) → s ≠ 0 → ∃ k, lo_X6_lowestBit_2 am_f h (nI s) n (nI j) = some (.inr (nI k)) ∧ k < 16 ∧ s.testBit k = true ∧ ∀ i, i < k → s.testBit i = false := by
  intro n
  induction n with
  | zero => intro j _ q; omega
  | succ n ih =>
    intro j hj hjn nb nz
    rw [lo_X6_lowestBit_2.eq_2]
    simp only [il_16, nI_leI (show 16 < 2 ^ 31 by decide) (show j < 2 ^ 31 by omega)]
    by_cases h1 : 16 ≤ j
    · exfalso
      apply nz
      apply Nat.eq_of_testBit_eq
      intro k
      rw [Nat.zero_testBit]
      by_cases c : k < 16
      · exact nb k (by omega)
      · exact tl_tb0 hs (by omega)
    · rw [if_neg h1, tl_bit (by omega) (by omega)]
      by_cases c : s.testBit j = true
      · rw [if_pos c, if_neg (show ¬ nI 1 = 0 by decide)]
        exact ⟨j, rfl, by omega, c, nb⟩
      · rw [if_neg c, if_pos (show nI 0 = 0 from rfl), nI_1]
        exact ih (j + 1) (by omega) (by omega) (fun k hk => by
          by_cases e : k = j
          · subst e; exact Bool.eq_false_iff.mpr c
          · exact nb k (by omega)) nz
theorem t6_lb (h : am_H) {s : Nat} (hs : s < 65536) (nz : s ≠ 0) : ∃ k, mi_X6_lowestBit am_f h (nI s) = some (nI k) ∧ k < 16 ∧ s.testBit k = true ∧ ∀ i, i < k → s.testBit i = false := by
  obtain ⟨k, e, r⟩ := t6_lbL h hs am_f 0 (by omega) (by decide) (fun k hk => by omega) nz
  refine ⟨k, ?_, r⟩
  unfold mi_X6_lowestBit
  rw [show lo_X6_lowestBit_2 am_f h (nI s) am_f 0 = _ from e, tl_bs]
/-- none in between, or the first of them -/
def fst_ (g : Nat → Bool) (x y : Nat) (w : Unit ⊕ Int32) : Prop := (w = .inl () ∧ ∀ k, x ≤ k → k < y → g k = false) ∨ ∃ v, w = .inr (nI (dcd v)) ∧ x ≤ v ∧ v < y ∧ g v = true ∧ ∀ k, x ≤ k → k < v → g k = false
theorem fst_sk {g : Nat → Bool} {x y z : Nat} {w : Unit ⊕ Int32} (hxy : x ≤ y) (h : ∀ k, x ≤ k → k < y → g k = false) (hw : fst_ g y z w) : fst_ g x z w := by
  rcases hw with ⟨rfl, q⟩ | ⟨v, rfl, v1, v2, v3, v4⟩
  · exact Or.inl ⟨rfl, fun k k1 k2 => if c : k < y then h k k1 c else q k (by omega) k2⟩
  · exact Or.inr ⟨v, rfl, by omega, v2, v3, fun k k1 k2 => if c : k < y then h k k1 c else v4 k (by omega) k2⟩
theorem fst_wk {g : Nat → Bool} {x y z : Nat} {r : Int32} (hyz : y ≤ z) (hw : fst_ g x y (.inr r)) : fst_ g x z (.inr r) := by
  rcases hw with ⟨q, -⟩ | ⟨v, q, v1, v2, v3, v4⟩
  · cases q
  · exact Or.inr ⟨v, q, v1, by omega, v3, v4⟩
theorem t6_f33 (H : tl_Sh h) (hw : tl_wf l) (hl : l.length < 16) (N : tl_PN h sn) (P : tl_Pt h l sn sn.length) {a b : Nat} (hab : a < b) (hb : b < 8) : ∀ n f, f ≤ 16 → 16 - f < n → ∃ w, lo_X6_firstMissing_33 am_f h 0 (nI a) (nI b) (nI (tl_to l (-9) a b l.length)) n (nI f) = some w ∧ fst_ (gd l sn) (sC a b f 0) (sC a (b + 1) 0 0) w := by
  intro n
  induction n with
  | zero => intro f _ q; omega
  | succ n ih =>
    intro f hf hfn
    rw [lo_X6_firstMissing_33.eq_2]
    simp only [il_16, nI_leI (show 16 < 2 ^ 31 by decide) (show f < 2 ^ 31 by omega)]
    by_cases h1 : 16 ≤ f
    · rw [if_pos h1]
      refine ⟨_, rfl, Or.inl ⟨rfl, fun k k1 k2 => ?_⟩⟩
      exfalso
      have : f = 16 := by omega
      subst this
      unfold sC at k1 k2
      omega
    · have bl := tl_B_16 (fun k => gd l sn (sC a b f k)) (Nat.le_refl 16)
      have st : sC a b (f + 1) 0 = sC a b f 0 + 16 := by unfold sC; omega
      rw [if_neg h1, t6_me H hw hl N P hab hb (by omega), tl_bs]
      simp only [tl_e0 (show tl_B (fun k => gd l sn (sC a b f k)) 16 < 2 ^ 31 by omega)]
      by_cases c : tl_B (fun k => gd l sn (sC a b f k)) 16 = 0
      · rw [if_pos c, nI_1]
        obtain ⟨w, w1, w2⟩ := ih (f + 1) (by omega) (by omega)
        refine ⟨w, w1, fst_sk (by omega) (fun k k1 k2 => ?_) w2⟩
        have q := tl_B_0.mp c (k - sC a b f 0) (by omega)
        rw [← sC_0 a b f (k - sC a b f 0), show sC a b f 0 + (k - sC a b f 0) = k by omega] at q
        exact q
      · obtain ⟨k, e1, e2, e3, e4⟩ := t6_lb h bl c
        rw [if_neg c, e1, tl_bs]
        rw [tl_B_tb, Bool.and_eq_true] at e3
        have f16 : f < 16 := by omega
        refine ⟨_, rfl, Or.inr ⟨sC a b f k, ?_, by rw [← sC_0 a b f k]; omega, ?_, e3.2, fun i i1 i2 => ?_⟩⟩
        · rw [il_100000, il_10000, il_100, pk_mul, pk_mul, pk_mul, nI_add, nI_add, nI_add]
          unfold dcd
          rw [sC_L hb f16 e2, sC_H hb f16 e2, sC_F f16 e2, sC_T e2]
        · unfold sC
          omega
        · rw [← sC_0 a b f k] at i2
          have q := e4 (i - sC a b f 0) (by omega)
          rw [tl_B_tb, decide_eq_true (by omega), Bool.true_and, ← sC_0 a b f (i - sC a b f 0), show sC a b f 0 + (i - sC a b f 0) = i by omega] at q
          exact q
theorem t6_f12 (H : tl_Sh h) (S : tl_Sp h 7 l) (hw : tl_wf l) (hl : l.length < 16) (N : tl_PN h sn) (P : tl_Pt h l sn sn.length) {a : Nat} : ∀ n b, a < b → b ≤ 8 → 8 - b < n → ∃ w, lo_X6_firstMissing_12 am_f h 0 (nI a) n (nI b) = some w ∧ fst_ (gd l sn) (sC a b 0 0) (sC (a + 1) 0 0 0) w := by
  intro n
  induction n with
  | zero => intro b _ _ q; omega
  | succ n ih =>
    intro b hab hb hbn
    rw [lo_X6_firstMissing_12.eq_2]
    simp only [il_8, nI_leI (show 8 < 2 ^ 31 by decide) (show b < 2 ^ 31 by omega)]
    by_cases h1 : 8 ≤ b
    · rw [if_pos h1]
      refine ⟨_, rfl, Or.inl ⟨rfl, fun k k1 k2 => ?_⟩⟩
      exfalso
      have : b = 8 := by omega
      subst this
      unfold sC at k1 k2
      omega
    · obtain ⟨w, w1, w2⟩ := t6_f33 H hw hl N P hab (show b < 8 by omega) am_f 0 (by omega) (by decide)
      rw [if_neg h1, or_0_1 H, tl_bs, t6_to H S hw hab (by omega), tl_bs, show lo_X6_firstMissing_33 am_f h 0 (nI a) (nI b) (nI (tl_to l (-9) a b l.length)) am_f 0 = some w from w1, tl_bs]
      have o1 : sC a b 0 0 ≤ sC a (b + 1) 0 0 := by unfold sC; omega
      have o2 : sC a (b + 1) 0 0 ≤ sC (a + 1) 0 0 0 := by unfold sC; omega
      cases w with
      | inl u =>
        dsimp only
        rw [nI_1]
        rcases w2 with ⟨-, q⟩ | ⟨v, q, -⟩
        · obtain ⟨w, z1, z2⟩ := ih (b + 1) (by omega) (by omega) (by omega)
          exact ⟨w, z1, fst_sk o1 q z2⟩
        · cases q
      | inr r => exact ⟨_, rfl, fst_wk o2 w2⟩
theorem t6_f2 (H : tl_Sh h) (S : tl_Sp h 7 l) (hw : tl_wf l) (hl : l.length < 16) (N : tl_PN h sn) (P : tl_Pt h l sn sn.length) : ∀ n a, a ≤ 8 → 8 - a < n → ∃ w, lo_X6_firstMissing_2 am_f h 0 n (nI a) = some w ∧ fst_ (gd l sn) (sC a 0 0 0) 16384 w := by
  intro n
  induction n with
  | zero => intro b _ q; omega
  | succ n ih =>
    intro a ha han
    rw [lo_X6_firstMissing_2.eq_2]
    simp only [il_8, nI_leI (show 8 < 2 ^ 31 by decide) (show a < 2 ^ 31 by omega)]
    by_cases h1 : 8 ≤ a
    · rw [if_pos h1]
      refine ⟨_, rfl, Or.inl ⟨rfl, fun k k1 k2 => ?_⟩⟩
      exfalso
      have : a = 8 := by omega
      subst this
      unfold sC at k1
      omega
    · obtain ⟨w, w1, w2⟩ := t6_f12 H S hw hl N P am_f (a + 1) (show a < a + 1 by omega) (by omega) (by unfold am_f; omega)
      rw [if_neg h1, nI_1, w1, tl_bs]
      have w3 : fst_ (gd l sn) (sC a 0 0 0) (sC (a + 1) 0 0 0) w := fst_sk (by unfold sC; omega) (fun k k1 k2 => gd_low k1 k2 (by omega)) w2
      have o1 : sC a 0 0 0 ≤ sC (a + 1) 0 0 0 := by unfold sC; omega
      have o2 : sC (a + 1) 0 0 0 ≤ 16384 := by unfold sC; omega
      cases w with
      | inl u =>
        dsimp only
        rcases w3 with ⟨-, q⟩ | ⟨v, q, -⟩
        · obtain ⟨w, z1, z2⟩ := ih (a + 1) (by omega) (by omega)
          exact ⟨w, z1, fst_sk o1 q z2⟩
        · cases q
      | inr r => exact ⟨_, rfl, fst_wk o2 w3⟩
end ME
