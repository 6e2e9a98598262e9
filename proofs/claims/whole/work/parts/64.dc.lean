-- the double cover
def dcE (E : Nat → Nat → Prop) : Nat → Nat → Prop := fun p q => ∃ x y, E x y ∧ ((p = 2 * x ∧ q = 2 * y + 1) ∨ (p = 2 * x + 1 ∧ q = 2 * y))
abbrev dC (E : Nat → Nat → Prop) : Nat → Nat → Prop := uf_C (dcE E)
def dfl (p : Nat) : Nat := if p % 2 = 0 then p + 1 else p - 1
section DC
variable {E E2 : Nat → Nat → Prop}
theorem dC_fl {p q : Nat} (h : dC E p q) : dC E (dfl p) (dfl q) := h (fun p q => dC E (dfl p) (dfl q)) (fun _ => uf_C_rf) (fun _ _ z => uf_C_sy z) (fun _ _ _ z1 z2 => uf_C_tr z1 z2) (fun p q z => by
  obtain ⟨x, y, e, c⟩ := z
  refine uf_C_in ⟨x, y, e, ?_⟩
  unfold dfl
  rcases c with ⟨rfl, rfl⟩ | ⟨rfl, rfl⟩
  · right
    rw [if_pos (by omega), if_neg (by omega)]
    omega
  · left
    rw [if_neg (by omega), if_pos (by omega)]
    omega)
theorem dC_f {x y i j : Nat} (hi : i ≤ 1) (hj : j ≤ 1) (h : dC E (2 * x + i) (2 * y + j)) : dC E (2 * x + (1 - i)) (2 * y + (1 - j)) := by
  have z := dC_fl h
  have e : ∀ x i, i ≤ 1 → dfl (2 * x + i) = 2 * x + (1 - i) := fun x i hi => by
    unfold dfl
    by_cases c : i = 0
    · subst c; rw [if_pos (by omega)]
    · rw [if_neg (by omega)]; omega
  rw [e x i hi, e y j hj] at z
  exact z
/-- the same, both turned alike -/
theorem dC_t {x y i j i2 j2 : Nat} (hi : i ≤ 1) (hj : j ≤ 1) (hi2 : i2 ≤ 1) (hj2 : j2 ≤ 1) (h : dC E (2 * x + i) (2 * y + j)) (he : (i + j) % 2 = (i2 + j2) % 2) : dC E (2 * x + i2) (2 * y + j2) := by
  by_cases c : i2 = i
  · have : j2 = j := by omega
    rw [c, this]; exact h
  · have e1 : i2 = 1 - i := by omega
    have e2 : j2 = 1 - j := by omega
    rw [e1, e2]
    exact dC_f hi hj h
theorem dC_e {x y i j : Nat} (hi : i ≤ 1) (hj : j ≤ 1) (he : (i + j) % 2 = 1) (h : E x y) : dC E (2 * x + i) (2 * y + j) := by
  refine uf_C_in ⟨x, y, h, ?_⟩
  omega
theorem dC_mo (hE : ∀ a b, E a b → E2 a b) {p q : Nat} (h : dC E p q) : dC E2 p q := uf_C_mono (fun p q z => by
  obtain ⟨x, y, e, c⟩ := z
  exact uf_C_in ⟨x, y, hE x y e, c⟩) h
end DC
theorem fo_x2 : ∀ a, a ≤ 1 → ∀ b, b ≤ 1 → a ^^^ b = (a + b) % 2 := by decide
theorem fo_o2 : ∀ a, a ≤ 1 → ∀ b, b ≤ 1 → (a ||| b = 1 ↔ a = 1 ∨ b = 1) := by decide
section FT
variable {ov sz tn : Nat → Nat}
theorem fo_tp_st (H : uf_I ov sz) : ∀ n k, k < 8 → 8 - sz k ≤ n → fo_tp ov tn (n + 1) k = fo_tp ov tn n k := by
  intro n
  induction n with
  | zero =>
    intro k hk h
    have he : ov k = k := uf_fix H 0 k hk h
    simp [fo_tp, he]
  | succ n ih =>
    intro k hk h
    by_cases he : ov k = k
    · simp [fo_tp, he]
    · have h1 := (H.1 k hk).2.2 he
      have h2 := ih (ov k) (H.1 k hk).1 (by omega)
      show (if ov k = k then 0 else tn k ^^^ fo_tp ov tn (n + 1) (ov k)) = (if ov k = k then 0 else tn k ^^^ fo_tp ov tn n (ov k))
      rw [h2]
theorem fo_tp_r (H : uf_I ov sz) {k : Nat} (hk : k < 8) : fo_tp ov tn 8 k = if ov k = k then 0 else tn k ^^^ fo_tp ov tn 8 (ov k) := by
  by_cases he : ov k = k
  · rw [if_pos he]
    simp [fo_tp, he]
  · have h1 := (H.1 k hk).2.2 he
    have h0 := (H.1 k hk).2.1
    rw [fo_tp_st H 7 (ov k) (H.1 k hk).1 (by omega)]
    rfl
theorem fo_tp_h (H : uf_I ov sz) {d u c : Nat} (hd : d < 8) (hu : u < 8) (rd : ov d = d) (ru : ov u = u) (hn : d ≠ u) (hs : sz d ≤ sz u) : ∀ n k, k < 8 → 8 - sz k ≤ n → fo_tp (uf_up ov d u) (uf_up tn d c) 8 k = if uf_rt ov k = d then fo_tp ov tn 8 k ^^^ c else fo_tp ov tn 8 k := by
  have H2 := uf_hang H hd hu rd ru hn hs
  have base : ∀ k, k < 8 → ov k = k → fo_tp (uf_up ov d u) (uf_up tn d c) 8 k = if uf_rt ov k = d then fo_tp ov tn 8 k ^^^ c else fo_tp ov tn 8 k := by
    intro k hk he
    rw [uf_rt_root he, fo_tp_r H hk, if_pos he, fo_tp_r H2 hk]
    by_cases c1 : k = d
    · subst c1
      have ru2 : uf_up ov k u u = u := by rw [uf_up_ne (Ne.symm hn)]; exact ru
      rw [uf_up_at, if_neg (Ne.symm hn), uf_up_at, if_pos rfl, fo_tp_r H2 hu, if_pos ru2, Nat.xor_zero, Nat.zero_xor]
    · rw [uf_up_ne c1, if_pos he, if_neg c1]
  intro n
  induction n with
  | zero =>
    intro k hk h
    exact base k hk (uf_fix H 0 k hk h)
  | succ n ih =>
    intro k hk h
    by_cases he : ov k = k
    · exact base k hk he
    · have h1 := (H.1 k hk).2.2 he
      have kd : k ≠ d := fun z => he (by rw [z]; exact rd)
      have i := ih (ov k) (H.1 k hk).1 (by omega)
      rw [uf_rt_ov H hk] at i
      rw [fo_tp_r H2 hk, uf_up_ne kd, if_neg he, uf_up_ne kd, i, fo_tp_r H hk, if_neg he]
      by_cases q : uf_rt ov k = d
      · rw [if_pos q, if_pos q, Nat.xor_assoc]
      · rw [if_neg q, if_neg q]
end FT
/-- turns and odd marks are right -/
def fo_T (E : Nat → Nat → Prop) (F : fo_S) : Prop := (∀ k, k < 8 → dC E (2 * k) (2 * uf_rt F.1.1 k + fo_t F k)) ∧ (∀ r, r < 8 → F.2.2 r = 1 → dC E (2 * r) (2 * r + 1)) ∧ ∀ x y, E x y → x < 8 ∧ y < 8 ∧ uf_rt F.1.1 x = uf_rt F.1.1 y ∧ (F.2.2 (uf_rt F.1.1 x) = 1 ∨ (fo_t F x + fo_t F y) % 2 = 1)
theorem fo_T_0 : fo_T (fun _ _ => False) fo_0 := by
  refine ⟨fun k _ => ?_, fun r _ h => ?_, fun _ _ h => h.elim⟩
  · have e : fo_t fo_0 k = 0 := by
      show fo_tp (fun k => k) (fun _ => 0) 8 k = 0
      simp [fo_tp]
    rw [e]
    have e2 : uf_rt fo_0.1.1 k = k := uf_rt_root rfl
    rw [e2]
    exact uf_C_rf
  · cases h
theorem fo_T_ex {E E2 : Nat → Nat → Prop} {F : fo_S} (h : ∀ a b, E a b ↔ E2 a b) (T : fo_T E F) : fo_T E2 F := ⟨fun k hk => dC_mo (fun a b q => (h a b).mp q) (T.1 k hk), fun r hr q => dC_mo (fun a b q => (h a b).mp q) (T.2.1 r hr q), fun x y q => T.2.2 x y ((h x y).mpr q)⟩
section FJ
variable {E : Nat → Nat → Prop} {F : fo_S}
theorem fo_T_h (I : uf_I F.1.1 F.1.2) (Z : fo_01 F) (T : fo_T E F) {a b d u : Nat} (ha : a < 8) (hb : b < 8) (hd : d < 8) (hu : u < 8) (rd : F.1.1 d = d) (ru : F.1.1 u = u) (hn : d ≠ u) (hs : F.1.2 d ≤ F.1.2 u) (hab : (uf_rt F.1.1 a = d ∧ uf_rt F.1.1 b = u) ∨ (uf_rt F.1.1 a = u ∧ uf_rt F.1.1 b = d)) : fo_T (uf_J E a b) (fo_h F d u (fo_bt F a b)) := by
  have ta := fo_t_1 I Z ha
  have tb := fo_t_1 I Z hb
  have ec : fo_bt F a b = (fo_t F a + fo_t F b + 1) % 2 := by
    unfold fo_bt
    rw [fo_x2 _ ta _ tb, fo_x2 _ (by omega) _ (Nat.le_refl 1)]
    omega
  have c1 : fo_bt F a b ≤ 1 := by omega
  have rt : ∀ k, k < 8 → uf_rt (fo_h F d u (fo_bt F a b)).1.1 k = if uf_rt F.1.1 k = d then u else uf_rt F.1.1 k := fun k hk => uf_hang_rt I hd hu rd ru hn hs hk
  have tt : ∀ k, k < 8 → fo_t (fo_h F d u (fo_bt F a b)) k = if uf_rt F.1.1 k = d then (fo_t F k + fo_bt F a b) % 2 else fo_t F k := fun k hk => by
    have := fo_tp_h (tn := F.2.1) (c := fo_bt F a b) I hd hu rd ru hn hs 8 k hk (by omega)
    show fo_tp (uf_up F.1.1 d u) (uf_up F.2.1 d (fo_bt F a b)) 8 k = _
    rw [this]
    have tk := fo_t_1 I Z hk
    by_cases q : uf_rt F.1.1 k = d
    · rw [if_pos q, if_pos q]
      exact fo_x2 _ tk _ c1
    · rw [if_neg q, if_neg q]
      rfl
  have od : ∀ r, (fo_h F d u (fo_bt F a b)).2.2 r = if r = u then F.2.2 u ||| F.2.2 d else F.2.2 r := fun r => rfl
  have up : ∀ p q, dC E p q → dC (uf_J E a b) p q := fun p q z => dC_mo (fun _ _ w => Or.inl w) z
  have pa := up _ _ (T.1 a ha)
  have pb := up _ _ (T.1 b hb)
  have ed : dC (uf_J E a b) (2 * a + 0) (2 * b + 1) := dC_e (by omega) (by omega) rfl (Or.inr ⟨rfl, rfl⟩)
  have pb2 : dC (uf_J E a b) (2 * b + 1) (2 * uf_rt F.1.1 b + (1 - fo_t F b)) := dC_f (i := 0) (by omega) tb pb
  have rr : dC (uf_J E a b) (2 * uf_rt F.1.1 a + fo_t F a) (2 * uf_rt F.1.1 b + (1 - fo_t F b)) := uf_C_tr (uf_C_sy pa) (uf_C_tr ed pb2)
  have du : dC (uf_J E a b) (2 * d + 0) (2 * u + fo_bt F a b) := by
    rcases hab with ⟨e1, e2⟩ | ⟨e1, e2⟩
    · rw [e1, e2] at rr
      exact dC_t ta (by omega) (by omega) c1 rr (by omega)
    · rw [e1, e2] at rr
      exact dC_t (i := 1 - fo_t F b) (j := fo_t F a) (by omega) ta (by omega) c1 (uf_C_sy rr) (by omega)
  refine ⟨fun k hk => ?_, fun r hr q => ?_, fun x y q => ?_⟩
  · have tk := fo_t_1 I Z hk
    have pk := up _ _ (T.1 k hk)
    rw [rt k hk, tt k hk]
    by_cases q : uf_rt F.1.1 k = d
    · rw [if_pos q, if_pos q]
      rw [q] at pk
      exact uf_C_tr pk (dC_t (by omega) c1 tk (by omega) du (by omega))
    · rw [if_neg q, if_neg q]
      exact pk
  · rw [od r] at q
    by_cases e : r = u
    · subst e
      rw [if_pos rfl] at q
      rcases (fo_o2 _ (Z r hr).2 _ (Z d hd).2).mp q with q | q
      · exact up _ _ (T.2.1 r hr q)
      · have z := up _ _ (T.2.1 d hd q)
        have w := uf_C_tr (uf_C_sy du) (uf_C_tr z (dC_f (i := 0) (by omega) c1 du))
        exact dC_t (i2 := 0) c1 (by omega) (by omega) (by omega) w (by omega)
    · rw [if_neg e] at q
      exact up _ _ (T.2.1 r hr q)
  · rcases q with q | ⟨rfl, rfl⟩
    · obtain ⟨x8, y8, e, o⟩ := T.2.2 x y q
      have tx := fo_t_1 I Z x8
      have ty := fo_t_1 I Z y8
      refine ⟨x8, y8, by rw [rt x x8, rt y y8, e], ?_⟩
      rw [rt x x8, tt x x8, tt y y8, od, ← e]
      rcases o with o | o
      · left
        by_cases q : uf_rt F.1.1 x = d
        · rw [q] at o
          rw [if_pos q, if_pos rfl]
          exact (fo_o2 _ (Z u hu).2 _ (Z d hd).2).mpr (Or.inr o)
        · rw [if_neg q]
          by_cases q2 : uf_rt F.1.1 x = u
          · rw [if_pos q2]
            rw [q2] at o
            exact (fo_o2 _ (Z u hu).2 _ (Z d hd).2).mpr (Or.inl o)
          · rw [if_neg q2]; exact o
      · right
        by_cases q : uf_rt F.1.1 x = d
        · rw [if_pos q, if_pos q]; omega
        · rw [if_neg q, if_neg q]; exact o
    · refine ⟨ha, hb, ?_, ?_⟩
      · rw [rt x ha, rt y hb]
        rcases hab with ⟨e1, e2⟩ | ⟨e1, e2⟩
        · rw [e1, e2, if_pos rfl, if_neg (Ne.symm hn)]
        · rw [e1, e2, if_pos rfl, if_neg (Ne.symm hn)]
      · right
        rw [tt x ha, tt y hb]
        rcases hab with ⟨e1, e2⟩ | ⟨e1, e2⟩
        · rw [e1, e2, if_pos rfl, if_neg (Ne.symm hn)]; omega
        · rw [e1, e2, if_pos rfl, if_neg (Ne.symm hn)]; omega
theorem fo_T_j (I : uf_I F.1.1 F.1.2) (Z : fo_01 F) (T : fo_T E F) {a b : Nat} (ha : a < 8) (hb : b < 8) : fo_T (uf_J E a b) (fo_j F a b).2 := by
  have ta := fo_t_1 I Z ha
  have tb := fo_t_1 I Z hb
  have ec : fo_bt F a b = (fo_t F a + fo_t F b + 1) % 2 := by
    unfold fo_bt
    rw [fo_x2 _ ta _ tb, fo_x2 _ (by omega) _ (Nat.le_refl 1)]
    omega
  have fa := uf_rt_fix I ha
  have fb := uf_rt_fix I hb
  have la := uf_rt_lt I ha
  have lb := uf_rt_lt I hb
  unfold fo_j
  by_cases h : uf_rt F.1.1 a = uf_rt F.1.1 b
  · rw [if_pos h]
    dsimp only
    have up : ∀ p q, dC E p q → dC (uf_J E a b) p q := fun p q z => dC_mo (fun _ _ w => Or.inl w) z
    have od : ∀ r, uf_up F.2.2 (uf_rt F.1.1 a) (F.2.2 (uf_rt F.1.1 a) ||| (if fo_bt F a b = 1 then 1 else 0)) r = if r = uf_rt F.1.1 a then F.2.2 (uf_rt F.1.1 a) ||| (if fo_bt F a b = 1 then 1 else 0) else F.2.2 r := fun r => rfl
    have o1 : (if fo_bt F a b = 1 then 1 else 0) ≤ 1 := by split <;> omega
    refine ⟨fun k hk => up _ _ (T.1 k hk), fun r hr q => ?_, fun x y q => ?_⟩
    · dsimp only at q
      rw [od r] at q
      by_cases e : r = uf_rt F.1.1 a
      · rw [if_pos e] at q
        rcases (fo_o2 _ (Z _ la).2 _ o1).mp q with q | q
        · rw [e]; exact up _ _ (T.2.1 _ la q)
        · have q : fo_bt F a b = 1 := by
            apply Classical.byContradiction
            intro z
            rw [if_neg z] at q
            cases q
          have pa := up _ _ (T.1 a ha)
          have pb := up _ _ (T.1 b hb)
          have ed : dC (uf_J E a b) (2 * a + 0) (2 * b + 1) := dC_e (by omega) (by omega) rfl (Or.inr ⟨rfl, rfl⟩)
          have pb2 : dC (uf_J E a b) (2 * b + 1) (2 * uf_rt F.1.1 b + (1 - fo_t F b)) := dC_f (i := 0) (by omega) tb pb
          have rr := uf_C_tr (uf_C_sy pa) (uf_C_tr ed pb2)
          rw [← h, ← e] at rr
          exact dC_t (i2 := 0) ta (by omega) (by omega) (by omega) rr (by omega)
      · rw [if_neg e] at q
        exact up _ _ (T.2.1 r hr q)
    · rcases q with q | ⟨rfl, rfl⟩
      · obtain ⟨x8, y8, e, o⟩ := T.2.2 x y q
        refine ⟨x8, y8, e, ?_⟩
        rcases o with o | o
        · left
          dsimp only
          rw [od]
          by_cases z : uf_rt F.1.1 x = uf_rt F.1.1 a
          · rw [if_pos z]
            rw [z] at o
            exact (fo_o2 _ (Z _ la).2 _ o1).mpr (Or.inl o)
          · rw [if_neg z]; exact o
        · exact Or.inr o
      · refine ⟨ha, hb, h, ?_⟩
        by_cases z : fo_bt F x y = 1
        · left
          dsimp only
          rw [od, if_pos rfl, if_pos z]
          exact (fo_o2 _ (Z _ la).2 _ (Nat.le_refl 1)).mpr (Or.inr rfl)
        · right
          show (fo_t F x + fo_t F y) % 2 = 1
          omega
  · rw [if_neg h]
    dsimp only
    by_cases h2 : F.1.2 (uf_rt F.1.1 b) < F.1.2 (uf_rt F.1.1 a) ∨ (F.1.2 (uf_rt F.1.1 a) = F.1.2 (uf_rt F.1.1 b) ∧ uf_rt F.1.1 a < uf_rt F.1.1 b)
    · rw [if_pos h2]
      exact fo_T_h I Z T ha hb lb la fb fa (Ne.symm h) (by omega) (Or.inr ⟨rfl, rfl⟩)
    · rw [if_neg h2]
      exact fo_T_h I Z T ha hb la lb fa fb h (by omega) (Or.inl ⟨rfl, rfl⟩)
end FJ
def fo_V (E : Nat → Nat → Prop) (F : fo_S) : Prop := uf_I F.1.1 F.1.2 ∧ uf_R E F.1.1 ∧ fo_01 F ∧ fo_T E F
theorem fo_V_ex {E E2 : Nat → Nat → Prop} {F : fo_S} (h : ∀ a b, E a b ↔ E2 a b) (V : fo_V E F) : fo_V E2 F := ⟨V.1, uf_R_ex h V.2.1, V.2.2.1, fo_T_ex h V.2.2.2⟩
theorem fo_V_j {E : Nat → Nat → Prop} {F : fo_S} (V : fo_V E F) {a b : Nat} (ha : a < 8) (hb : b < 8) : fo_V (uf_J E a b) (fo_j F a b).2 := by
  obtain ⟨I, R, Z, T⟩ := V
  have e := (fo_j_1 F a b).2
  have ok := uf_j_ok I R ha hb
  refine ⟨?_, ?_, fo_j_01 I Z ha hb, fo_T_j I Z T ha hb⟩
  · rw [e]; exact ok.1
  · rw [e]; exact ok.2.1
theorem fo_V_fd {l : List Nat} {Q : Nat → Bool} {F : fo_S} {E : Nat → Nat → Prop} (hw : tl_wf l) (V : fo_V E F) : ∀ n, n ≤ l.length → fo_V (uf_E E l Q n) (fo_fd l Q F n).2 := by
  intro n
  induction n with
  | zero =>
    intro _
    refine fo_V_ex (fun a b => ?_) V
    constructor
    · intro q; exact Or.inl q
    · rintro (q | ⟨i, hi, -⟩)
      · exact q
      · omega
  | succ n ih =>
    intro hn
    have i := ih (by omega)
    have hv := tl_wf_at hw (tl_gd (l := l) (i := n) (by omega))
    by_cases hQ : Q n = true
    · rw [fo_fd_t hQ]
      refine fo_V_ex (fun a b => ?_) (fo_V_j i (sL_lt hv.2.1) (sH_lt _))
      constructor
      · rintro ((q | ⟨i, a1, a2, a3⟩) | ⟨rfl, rfl⟩)
        · exact Or.inl q
        · exact Or.inr ⟨i, by omega, a2, a3⟩
        · exact Or.inr ⟨n, by omega, hQ, rfl, rfl⟩
      · rintro (q | ⟨i, a1, a2, a3, a4⟩)
        · exact Or.inl (Or.inl q)
        · by_cases e : i = n
          · subst e; exact Or.inr ⟨a3, a4⟩
          · exact Or.inl (Or.inr ⟨i, by omega, a2, a3, a4⟩)
    · rw [fo_fd_f (Bool.eq_false_iff.mpr hQ)]
      refine fo_V_ex (fun a b => ?_) i
      constructor
      · rintro (q | ⟨i, a1, a2, a3⟩)
        · exact Or.inl q
        · exact Or.inr ⟨i, by omega, a2, a3⟩
      · rintro (q | ⟨i, a1, a2, a3, a4⟩)
        · exact Or.inl q
        · by_cases e : i = n
          · subst e; exact absurd a2 hQ
          · exact Or.inr ⟨i, by omega, a2, a3, a4⟩
theorem fo_V_pa {l : List Nat} (hw : tl_wf l) (node : Nat) : ∀ d F E, fo_V E F → fo_V (fun x y => E x y ∨ ∃ i, i < l.length ∧ (∃ k, k ≤ d ∧ qN l (node / 2 ^ k) i = true) ∧ x = sL (l.getD i 0) ∧ y = sH (l.getD i 0)) (fo_pa l node d F).2 := by
  intro d
  induction d with
  | zero =>
    intro F E V
    refine fo_V_ex (fun a b => ?_) (fo_V_fd (Q := qN l node) hw V l.length (Nat.le_refl _))
    constructor
    · rintro (q | ⟨i, a1, a2, a3⟩)
      · exact Or.inl q
      · exact Or.inr ⟨i, a1, ⟨0, Nat.le_refl _, by rw [Nat.pow_zero, Nat.div_one]; exact a2⟩, a3⟩
    · rintro (q | ⟨i, a1, ⟨k, k1, k2⟩, a3⟩)
      · exact Or.inl q
      · have : k = 0 := by omega
        subst this
        rw [Nat.pow_zero, Nat.div_one] at k2
        exact Or.inr ⟨i, a1, k2, a3⟩
  | succ d ih =>
    intro F E V
    have ok := fo_V_fd (Q := qN l (node / 2 ^ (d + 1))) hw V l.length (Nat.le_refl _)
    refine fo_V_ex (fun a b => ?_) (ih _ _ ok)
    constructor
    · rintro ((q | ⟨i, a1, a2, a3⟩) | ⟨i, a1, ⟨k, k1, k2⟩, a3⟩)
      · exact Or.inl q
      · exact Or.inr ⟨i, a1, ⟨d + 1, Nat.le_refl _, a2⟩, a3⟩
      · exact Or.inr ⟨i, a1, ⟨k, by omega, k2⟩, a3⟩
    · rintro (q | ⟨i, a1, ⟨k, k1, k2⟩, a3⟩)
      · exact Or.inl (Or.inl q)
      · by_cases e : k = d + 1
        · subst e; exact Or.inl (Or.inr ⟨i, a1, k2, a3⟩)
        · exact Or.inr ⟨i, a1, ⟨k, by omega, k2⟩, a3⟩
theorem qF_V {l : List Nat} (hw : tl_wf l) {t : Nat} (ht : t < 16) : fo_V (qE l t) (qF l (16 + t)).2 := by
  have V0 : fo_V (fun _ _ => False) fo_0 := ⟨uf_0_I, uf_0_R, fun k _ => ⟨Nat.zero_le _, Nat.zero_le _⟩, fo_T_0⟩
  refine fo_V_ex (fun a b => ?_) (fo_V_pa hw (16 + t) 4 fo_0 _ V0)
  constructor
  · rintro (q | ⟨i, a1, a2, a3⟩)
    · exact q.elim
    · exact ⟨i, a1, (nW_iff (tl_wf_at hw (tl_gd a1)).2.2.2 ht).mp a2, a3⟩
  · rintro ⟨i, a1, a2, a3⟩
    exact Or.inr ⟨i, a1, (nW_iff (tl_wf_at hw (tl_gd a1)).2.2.2 ht).mpr a2, a3⟩
section CC
variable {E : Nat → Nat → Prop} {F : fo_S}
theorem fo_C2 (V : fo_V E F) {p q : Nat} (h : dC E p q) : p = q ∨ (p < 16 ∧ q < 16 ∧ uf_rt F.1.1 (p / 2) = uf_rt F.1.1 (q / 2) ∧ (F.2.2 (uf_rt F.1.1 (p / 2)) = 1 ∨ (fo_t F (p / 2) + p) % 2 = (fo_t F (q / 2) + q) % 2)) := by
  refine h (fun p q => p = q ∨ (p < 16 ∧ q < 16 ∧ uf_rt F.1.1 (p / 2) = uf_rt F.1.1 (q / 2) ∧ (F.2.2 (uf_rt F.1.1 (p / 2)) = 1 ∨ (fo_t F (p / 2) + p) % 2 = (fo_t F (q / 2) + q) % 2))) (fun _ => Or.inl rfl) ?_ ?_ ?_
  · rintro a b (rfl | ⟨h1, h2, h3, h4⟩)
    · exact Or.inl rfl
    · exact Or.inr ⟨h2, h1, h3.symm, by rw [← h3]; exact h4.imp id Eq.symm⟩
  · rintro a b c (rfl | ⟨h1, h2, h3, h4⟩) z
    · exact z
    · rcases z with rfl | ⟨k1, k2, k3, k4⟩
      · exact Or.inr ⟨h1, h2, h3, h4⟩
      · refine Or.inr ⟨h1, k2, h3.trans k3, ?_⟩
        rcases h4 with h4 | h4
        · exact Or.inl h4
        · rcases k4 with k4 | k4
          · left; rw [h3]; exact k4
          · exact Or.inr (h4.trans k4)
  · rintro p q ⟨x, y, e, c⟩
    obtain ⟨x8, y8, e1, e2⟩ := V.2.2.2.2.2 x y e
    right
    rcases c with ⟨rfl, rfl⟩ | ⟨rfl, rfl⟩
    · rw [show 2 * x / 2 = x by omega, show (2 * y + 1) / 2 = y by omega]
      exact ⟨by omega, by omega, e1, e2.imp id (fun z => by omega)⟩
    · rw [show (2 * x + 1) / 2 = x by omega, show 2 * y / 2 = y by omega]
      exact ⟨by omega, by omega, e1, e2.imp id (fun z => by omega)⟩
theorem fo_odd (V : fo_V E F) {x : Nat} (hx : x < 8) : F.2.2 (uf_rt F.1.1 x) = 1 ↔ dC E (2 * x) (2 * x + 1) := by
  obtain ⟨I, R, Z, T⟩ := id V
  have tx := fo_t_1 I Z hx
  constructor
  · intro q
    have a := T.2.1 _ (uf_rt_lt I hx) q
    have b := T.1 x hx
    have b2 : dC E (2 * x + 1) (2 * uf_rt F.1.1 x + (1 - fo_t F x)) := dC_f (i := 0) (by omega) tx b
    have c : dC E (2 * uf_rt F.1.1 x + fo_t F x) (2 * uf_rt F.1.1 x + (1 - fo_t F x)) := dC_t (i := 0) (j := 1) (by omega) (by omega) tx (by omega) a (by omega)
    exact uf_C_tr b (uf_C_tr c (uf_C_sy b2))
  · intro h
    rcases fo_C2 V h with z | ⟨-, -, -, z⟩
    · omega
    · rw [show 2 * x / 2 = x by omega, show (2 * x + 1) / 2 = x by omega] at z
      rcases z with z | z
      · exact z
      · omega
theorem fo_side (V : fo_V E F) {x y : Nat} (hx : x < 8) (hy : y < 8) (e : uf_rt F.1.1 x = uf_rt F.1.1 y) (o : ¬ F.2.2 (uf_rt F.1.1 x) = 1) : fo_t F x = fo_t F y ↔ dC E (2 * x) (2 * y) := by
  obtain ⟨I, R, Z, T⟩ := id V
  have tx := fo_t_1 I Z hx
  have ty := fo_t_1 I Z hy
  constructor
  · intro q
    have a := T.1 x hx
    rw [e, q] at a
    exact uf_C_tr a (uf_C_sy (T.1 y hy))
  · intro h
    rcases fo_C2 V h with z | ⟨-, -, -, z⟩
    · have : x = y := by omega
      rw [this]
    · rw [show 2 * x / 2 = x by omega, show 2 * y / 2 = y by omega] at z
      rcases z with z | z
      · exact absurd z o
      · omega
end CC
