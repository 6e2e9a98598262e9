def fo_fd (l : List Nat) (Q : Nat → Bool) (F : fo_S) : Nat → Nat × fo_S
  | 0 => (0, F)
  | n + 1 => if Q n = true then ((fo_fd l Q F n).1 + (if (fo_j (fo_fd l Q F n).2 (sL (l.getD n 0)) (sH (l.getD n 0))).1 = true then 1 else 0), (fo_j (fo_fd l Q F n).2 (sL (l.getD n 0)) (sH (l.getD n 0))).2) else fo_fd l Q F n
theorem fo_fd_t {l : List Nat} {Q : Nat → Bool} {F : fo_S} {n : Nat} (h : Q n = true) : fo_fd l Q F (n + 1) = ((fo_fd l Q F n).1 + (if (fo_j (fo_fd l Q F n).2 (sL (l.getD n 0)) (sH (l.getD n 0))).1 = true then 1 else 0), (fo_j (fo_fd l Q F n).2 (sL (l.getD n 0)) (sH (l.getD n 0))).2) := by
  show (if Q n = true then _ else _) = _
  rw [if_pos h]
theorem fo_fd_f {l : List Nat} {Q : Nat → Bool} {F : fo_S} {n : Nat} (h : Q n = false) : fo_fd l Q F (n + 1) = fo_fd l Q F n := by
  show (if Q n = true then _ else _) = _
  rw [if_neg (by rw [h]; decide)]
theorem fo_fd_1 (l : List Nat) (Q : Nat → Bool) (F : fo_S) : ∀ n, (fo_fd l Q F n).1 = (uf_fd l Q F.1 n).1 ∧ (fo_fd l Q F n).2.1 = (uf_fd l Q F.1 n).2
  | 0 => ⟨rfl, rfl⟩
  | n + 1 => by
    obtain ⟨i1, i2⟩ := fo_fd_1 l Q F n
    by_cases h : Q n = true
    · obtain ⟨j1, j2⟩ := fo_j_1 (fo_fd l Q F n).2 (sL (l.getD n 0)) (sH (l.getD n 0))
      rw [fo_fd_t h, uf_fd_t h]
      dsimp only
      rw [j1, j2, i1, i2]
      exact ⟨rfl, rfl⟩
    · have h0 : Q n = false := by simpa using h
      rw [fo_fd_f h0, uf_fd_f h0]
      exact ⟨i1, i2⟩
def fo_pa (l : List Nat) (node : Nat) : Nat → fo_S → Nat × fo_S
  | 0, F => fo_fd l (qN l node) F l.length
  | d + 1, F => fo_pa l node d (fo_fd l (qN l (node / 2 ^ (d + 1))) F l.length).2
theorem fo_pa_1 (l : List Nat) (node : Nat) : ∀ d F, (fo_pa l node d F).1 = (uf_pa l node d F.1).1 ∧ (fo_pa l node d F).2.1 = (uf_pa l node d F.1).2
  | 0, F => fo_fd_1 l _ F _
  | d + 1, F => by
    have h := fo_fd_1 l (qN l (node / 2 ^ (d + 1))) F l.length
    have ih := fo_pa_1 l node d (fo_fd l (qN l (node / 2 ^ (d + 1))) F l.length).2
    show (fo_pa l node d _).1 = (uf_pa l node d _).1 ∧ (fo_pa l node d _).2.1 = (uf_pa l node d _).2
    rw [← h.2]
    exact ih
def qF (l : List Nat) (node : Nat) : Nat × fo_S := fo_pa l node 4 fo_0
theorem sp_fs : ∀ p ∈ am_sps, ∀ k, k < 5 → p + k ∉ tl_fs := by decide +kernel
section FW
variable {l : List Nat} {p : Nat}
theorem t2_jaL (hp : p ∈ am_sps) (hw : tl_wf l) {nd : Nat} (hn : nd < 32) {F0 : fo_S} {E0 : Nat → Nat → Prop} (I0 : uf_I F0.1.1 F0.1.2) (R0 : uf_R E0 F0.1.1) : ∀ n j h, tl_Sh h → tl_Sp h p l → tl_Fo h (fo_fd l (qN l nd) F0 j).2 → fo_01 (fo_fd l (qN l nd) F0 j).2 → j ≤ l.length → l.length - j < n →
    ∃ h2, lo_X2_joinAllOn_5 am_f 89 p (nI nd) n (nI (fo_fd l (qN l nd) F0 j).1) (nI j) h = some (nI (fo_fd l (qN l nd) F0 l.length).1, h2) ∧ tl_Fo h2 (fo_fd l (qN l nd) F0 l.length).2 ∧ fo_01 (fo_fd l (qN l nd) F0 l.length).2 ∧ tl_on tl_fs h h2 := by
  have h16 := hw.1
  intro n
  induction n with
  | zero => intro j h _ _ _ _ _ q; omega
  | succ n ih =>
    intro j h H S U Z hj hjn
    rw [lo_X2_joinAllOn_5.eq_2, n5 H hp S, tl_bs]
    simp only [nI_leI (show l.length < 2 ^ 31 by omega) (show j < 2 ^ 31 by omega)]
    by_cases h1 : l.length ≤ j
    · rw [if_pos h1, show j = l.length by omega]
      rw [show j = l.length by omega] at U Z
      exact ⟨h, rfl, U, Z, tl_on_rf⟩
    · rw [if_neg h1]
      have hg := tl_gd (l := l) (i := j) (by omega)
      have hv := (tl_wf_at hw hg).2.1
      have ok := uf_fd_ok (Q := qN l nd) hw I0 R0 j (by omega)
      rw [← (fo_fd_1 l (qN l nd) F0 j).2] at ok
      simp only [t5_li H hp S hw hg hn, tl_bs]
      by_cases c : qN l nd j = true
      · have c1 : sLi (l.getD j 0) nd = true := c
        obtain ⟨h2, e1, e2, e3⟩ := t2_join H U ok.1 Z (sL_lt hv) (sH_lt (l.getD j 0))
        have Z2 := fo_j_01 ok.1 Z (sL_lt hv) (sH_lt (l.getD j 0))
        simp only [c1, if_true, r5_0 H hp, r5_1 H hp, s5_0 H hp S hg (show j < 16 by omega), s5_1 H hp S hg (show j < 16 by omega), tl_bs, e1]
        have key : ((if (fo_j (fo_fd l (qN l nd) F0 j).2 (sL (l.getD j 0)) (sH (l.getD j 0))).1 = true then some (nI (fo_fd l (qN l nd) F0 j).1 + 1, h2) else some (nI (fo_fd l (qN l nd) F0 j).1, h2)) : Option (Int32 × am_H)) = some (nI (fo_fd l (qN l nd) F0 (j + 1)).1, h2) := by
          rw [fo_fd_t c]
          dsimp only
          by_cases q : (fo_j (fo_fd l (qN l nd) F0 j).2 (sL (l.getD j 0)) (sH (l.getD j 0))).1 = true
          · rw [if_pos q, if_pos q, nI_1]
          · rw [if_neg q, if_neg q, Nat.add_zero]
        rw [key, tl_bs]
        dsimp only
        rw [nI_1]
        obtain ⟨h3, f1, f2, f3, f4⟩ := ih (j + 1) h2 (tl_on_Sh H e3) (tl_on_Sp (fun k hk => sp_fs p hp k (by omega)) e3 S) (by rw [fo_fd_t c]; exact e2) (by rw [fo_fd_t c]; exact Z2) (by omega) (by omega)
        exact ⟨h3, f1, f2, f3, tl_on_tr e3 f4⟩
      · have c0 : qN l nd j = false := by simpa using c
        have c1 : ¬ sLi (l.getD j 0) nd = true := c
        rw [if_neg c1, tl_bs]
        dsimp only
        rw [← fo_fd_f c0, nI_1]
        exact ih (j + 1) h H S (by rw [fo_fd_f c0]; exact U) (by rw [fo_fd_f c0]; exact Z) (by omega) (by omega)
theorem t2_ja (hp : p ∈ am_sps) (hw : tl_wf l) {nd : Nat} (hn : nd < 32) {F : fo_S} {E0 : Nat → Nat → Prop} (I0 : uf_I F.1.1 F.1.2) (R0 : uf_R E0 F.1.1) (Z : fo_01 F) {h : am_H} (H : tl_Sh h) (S : tl_Sp h p l) (U : tl_Fo h F) :
    ∃ h2, mi_X2_joinAllOn am_f h 89 p (nI nd) = some (nI (fo_fd l (qN l nd) F l.length).1, h2) ∧ tl_Fo h2 (fo_fd l (qN l nd) F l.length).2 ∧ fo_01 (fo_fd l (qN l nd) F l.length).2 ∧ tl_on tl_fs h h2 := by
  have h16 := hw.1
  obtain ⟨h2, e1, e2, e3, e4⟩ := t2_jaL hp hw hn I0 R0 am_f 0 h H S U Z (Nat.zero_le _) (by unfold am_f; omega)
  refine ⟨h2, ?_, e2, e3, e4⟩
  unfold mi_X2_joinAllOn
  rw [oc_89 H, tl_bs]
  exact (congrArg (fun z => Option.bind z fun (q : Int32 × am_H) => some (q.1, q.2)) e1).trans rfl
theorem t2_pwL (hp : p ∈ am_sps) (hw : tl_wf l) {node : Nat} (hn : node < 32) : ∀ d n c F E h, d < n → d < 5 → uf_I F.1.1 F.1.2 → uf_R E F.1.1 → fo_01 F → tl_Sh h → tl_Sp h p l → tl_Fo h F →
    ∃ h2, lo_X2_walkToNode_9 am_f 89 p (nI node) (n + 1) c (nI d) h = some (nI (fo_pa l node d F).1, h2) ∧ tl_Fo h2 (fo_pa l node d F).2 ∧ fo_01 (fo_pa l node d F).2 ∧ tl_on tl_fs h h2 := by
  have h16 := hw.1
  intro d
  induction d with
  | zero =>
    intro n c F E h hdn _ I R Z H S U
    rw [lo_X2_walkToNode_9.eq_2, if_neg (nI_pos (by decide)), tl_shr (by omega) (by decide), Nat.pow_zero, Nat.div_one]
    obtain ⟨h2, a1, a2, a3, a4⟩ := t2_ja hp hw hn I R Z H S U
    rw [a1, tl_bs]
    dsimp only
    obtain ⟨m, rfl⟩ : ∃ m, n = m + 1 := ⟨n - 1, by omega⟩
    rw [lo_X2_walkToNode_9.eq_2, if_pos (by decide)]
    exact ⟨h2, rfl, a2, a3, a4⟩
  | succ d ih =>
    intro n c F E h hdn hd5 I R Z H S U
    rw [lo_X2_walkToNode_9.eq_2, if_neg (nI_pos (by omega)), tl_shr (by omega) (by omega)]
    have hlt : node / 2 ^ (d + 1) < 32 := Nat.lt_of_le_of_lt (Nat.div_le_self _ _) hn
    obtain ⟨h2, a1, a2, a3, a4⟩ := t2_ja hp hw hlt I R Z H S U
    have ok := uf_fd_ok (Q := qN l (node / 2 ^ (d + 1))) hw I R l.length (Nat.le_refl _)
    rw [← (fo_fd_1 l (qN l (node / 2 ^ (d + 1))) F l.length).2] at ok
    rw [a1, tl_bs]
    dsimp only
    rw [pk_m1]
    obtain ⟨m, rfl⟩ : ∃ m, n = m + 1 := ⟨n - 1, by omega⟩
    obtain ⟨h3, b1, b2, b3, b4⟩ := ih m _ _ _ h2 (by omega) (by omega) ok.1 ok.2.1 a3 (tl_on_Sh H a4) (tl_on_Sp (fun k hk => sp_fs p hp k (by omega)) a4 S) a2
    exact ⟨h3, b1, b2, b3, tl_on_tr a4 b4⟩
theorem t2_walk (hp : p ∈ am_sps) (hw : tl_wf l) {h : am_H} (H : tl_Sh h) (S : tl_Sp h p l) {node : Nat} (hn : node < 32) : ∃ h2, mi_X2_walkToNode am_f h 89 p (nI node) = some (nI (qF l node).1, h2) ∧ tl_Fo h2 (qF l node).2 ∧ fo_01 (qF l node).2 ∧ tl_on tl_fs h h2 := by
  obtain ⟨h1, a1, a2, a3⟩ := t2_ta H
  obtain ⟨h2, b1, b2, b3, b4⟩ := t2_pwL hp hw hn 4 99999 0 fo_0 _ h1 (by omega) (by omega) uf_0_I uf_0_R (fun k _ => ⟨Nat.zero_le _, Nat.zero_le _⟩) (tl_on_Sh H a3) (tl_on_Sp (fun k hk => sp_fs p hp k (by omega)) a3 S) a2
  refine ⟨h2, ?_, b2, b3, tl_on_tr a3 b4⟩
  unfold mi_X2_walkToNode
  rw [oc_89 H, tl_bs, a1, tl_bs]
  exact (congrArg (fun z => Option.bind z fun (q : Int32 × am_H) => some (q.1, q.2)) b1).trans rfl
theorem t2_walkT (hp : p ∈ am_sps) (hw : tl_wf l) {h : am_H} (H : tl_Sh h) (S : tl_Sp h p l) {t : Nat} (ht : t < 16) : ∃ h2, mi_X2_walkToTime am_f h 89 p (nI t) = some h2 ∧ tl_Fo h2 (qF l (16 + t)).2 ∧ fo_01 (qF l (16 + t)).2 ∧ tl_on tl_fs h h2 := by
  obtain ⟨h2, a1, a2, a3, a4⟩ := t2_walk hp hw H S (show 16 + t < 32 by omega)
  refine ⟨h2, ?_, a2, a3, a4⟩
  unfold mi_X2_walkToTime
  rw [oc_89 H, tl_bs, il_16, nI_add, a1, tl_bs]
-- the same forest on both sides
theorem qN_0 : qN l 0 = fun _ => false := by
  funext i
  simp [qN, sLi, sFl]
theorem uf_fd_no {Q : Nat → Bool} {u : uf_S} (hQ : ∀ i, Q i = false) : ∀ n, uf_fd l Q u n = (0, u)
  | 0 => rfl
  | n + 1 => by rw [uf_fd_f (hQ n)]; exact uf_fd_no hQ n
theorem uf_pa_skip {node d : Nat} {u : uf_S} (h : node / 2 ^ (d + 1) = 0) : uf_pa l node (d + 1) u = uf_pa l node d u := by
  show uf_pa l node d (uf_fd l (qN l (node / 2 ^ (d + 1))) u l.length).2 = _
  rw [h, qN_0, uf_fd_no (fun _ => rfl)]
theorem nD_big : ∀ n, n < 32 → ∀ d, d < 5 → nD n < d → n / 2 ^ d = 0 := by decide +kernel
theorem uf_pa_4 {node : Nat} (hn : node < 32) {u : uf_S} : uf_pa l node 4 u = uf_pa l node (nD node) u := by
  have hd := nD_lt node hn
  have key : ∀ k, nD node + k ≤ 4 → uf_pa l node (nD node + k) u = uf_pa l node (nD node) u := by
    intro k
    induction k with
    | zero => intro _; rfl
    | succ k ih =>
      intro hk
      rw [← ih (by omega)]
      exact uf_pa_skip (nD_big node hn (nD node + k + 1) (by omega) (by omega))
  have := key (4 - nD node) (by omega)
  rwa [show nD node + (4 - nD node) = 4 by omega] at this
theorem qF_W {node : Nat} (hn : node < 32) : (qF l node).1 = (qW l node).1 ∧ (qF l node).2.1 = (qW l node).2 := by
  have h := fo_pa_1 l node 4 fo_0
  unfold qF qW
  rw [← uf_pa_4 hn]
  exact h
/-- what the way's spans join -/
theorem uf_pa_R (hw : tl_wf l) (node : Nat) : ∀ d u E, uf_I u.1 u.2 → uf_R E u.1 → uf_I (uf_pa l node d u).2.1 (uf_pa l node d u).2.2 ∧ uf_R (fun x y => E x y ∨ ∃ i, i < l.length ∧ (∃ k, k ≤ d ∧ qN l (node / 2 ^ k) i = true) ∧ x = sL (l.getD i 0) ∧ y = sH (l.getD i 0)) (uf_pa l node d u).2.1 := by
  intro d
  induction d with
  | zero =>
    intro u E I R
    have ok := uf_fd_ok (Q := qN l node) hw I R l.length (Nat.le_refl _)
    refine ⟨ok.1, uf_R_ex (fun a b => ?_) ok.2.1⟩
    constructor
    · rintro (q | ⟨i, a1, a2, a3⟩)
      · exact Or.inl q
      · exact Or.inr ⟨i, a1, ⟨0, Nat.le_refl _, by rw [Nat.pow_zero, Nat.div_one]; exact a2⟩, a3⟩
    · rintro (q | ⟨i, a1, ⟨k, k1, k2⟩, a3⟩)
      · exact Or.inl q
      · have : k = 0 := by omega
        subst this
        rw [Nat.pow_zero, Nat.div_one] at k2
        exact Or.inr ⟨i, a1, k2, a3⟩
  | succ d ih =>
    intro u E I R
    have ok := uf_fd_ok (Q := qN l (node / 2 ^ (d + 1))) hw I R l.length (Nat.le_refl _)
    obtain ⟨i1, i2⟩ := ih _ _ ok.1 ok.2.1
    refine ⟨i1, uf_R_ex (fun a b => ?_) i2⟩
    constructor
    · rintro ((q | ⟨i, a1, a2, a3⟩) | ⟨i, a1, ⟨k, k1, k2⟩, a3⟩)
      · exact Or.inl q
      · exact Or.inr ⟨i, a1, ⟨d + 1, Nat.le_refl _, a2⟩, a3⟩
      · exact Or.inr ⟨i, a1, ⟨k, by omega, k2⟩, a3⟩
    · rintro (q | ⟨i, a1, ⟨k, k1, k2⟩, a3⟩)
      · exact Or.inl (Or.inl q)
      · by_cases e : k = d + 1
        · subst e; exact Or.inl (Or.inr ⟨i, a1, k2, a3⟩)
        · exact Or.inr ⟨i, a1, ⟨k, by omega, k2⟩, a3⟩
def nF2 (s e n : Nat) : Bool := decide (1 ≤ n ∧ s ≤ nLo n ∧ nHi n ≤ e)
theorem nW_all : ∀ s, s < 16 → ∀ e, e < 16 → s ≤ e → ∀ t, t < 16 → ((List.range 5).any (fun k => nF2 s e ((16 + t) / 2 ^ k) && !nF2 s e ((16 + t) / 2 ^ k / 2))) = decide (s ≤ t ∧ t ≤ e) := by decide +kernel
theorem nW_iff {v t : Nat} (h : sF v ≤ sT v) (ht : t < 16) : (∃ k, k ≤ 4 ∧ sLi v ((16 + t) / 2 ^ k) = true) ↔ sV v t = true := by
  have := nW_all (sF v) (sF_lt v) (sT v) (sT_lt v) h t ht
  unfold sV
  rw [← this, List.any_eq_true]
  constructor
  · rintro ⟨k, k1, k2⟩
    exact ⟨k, List.mem_range.mpr (by omega), k2⟩
  · rintro ⟨k, k1, k2⟩
    exact ⟨k, by have := List.mem_range.mp k1; omega, k2⟩
/-- at a time: the spans that live then -/
def qE (l : List Nat) (t : Nat) : Nat → Nat → Prop := fun x y => ∃ i, i < l.length ∧ sV (l.getD i 0) t = true ∧ x = sL (l.getD i 0) ∧ y = sH (l.getD i 0)
theorem qW_R (hw : tl_wf l) {t : Nat} (ht : t < 16) : uf_I (qW l (16 + t)).2.1 (qW l (16 + t)).2.2 ∧ uf_R (qE l t) (qW l (16 + t)).2.1 := by
  have h := uf_pa_R hw (16 + t) 4 uf_0 _ uf_0_I uf_0_R
  have e : qW l (16 + t) = uf_pa l (16 + t) 4 uf_0 := (uf_pa_4 (by omega)).symm
  rw [e]
  refine ⟨h.1, uf_R_ex (fun a b => ?_) h.2⟩
  constructor
  · rintro (q | ⟨i, a1, a2, a3⟩)
    · exact q.elim
    · exact ⟨i, a1, (nW_iff (tl_wf_at hw (tl_gd a1)).2.2.2 ht).mp a2, a3⟩
  · rintro ⟨i, a1, a2, a3⟩
    exact Or.inr ⟨i, a1, (nW_iff (tl_wf_at hw (tl_gd a1)).2.2.2 ht).mpr a2, a3⟩
theorem tl_all : ∀ k, k < 16 → Nat.testBit 65535 k = true := by decide
theorem qA_R (hw : tl_wf l) (t : Nat) : uf_R (qE l t) (qA l 65535 t).1 := by
  have h16 := hw.1
  refine uf_R_ex (fun a b => ?_) (qA_ok hw 65535 t).2
  constructor
  · rintro (q | ⟨i, a1, a2, a3⟩)
    · exact q.elim
    · have : sV (l.getD i 0) t = true := by
        have := a2
        simp only [qP, Bool.and_eq_true] at this
        exact this.2
      exact ⟨i, a1, this, a3⟩
  · rintro ⟨i, a1, a2, a3⟩
    exact Or.inr ⟨i, a1, by simp only [qP, tl_all i (by omega), a2, Bool.and_self], a3⟩
theorem qJ_eq (hw : tl_wf l) {t : Nat} (ht : t < 16) {a b : Nat} (ha : a < 8) (hb : b < 8) : uf_rt (qF l (16 + t)).2.1.1 a = uf_rt (qF l (16 + t)).2.1.1 b ↔ uf_rt (qA l 65535 t).1 a = uf_rt (qA l 65535 t).1 b := by
  rw [(qF_W (show 16 + t < 32 by omega)).2, uf_R_iff (qW_R hw ht).1 (qW_R hw ht).2 ha hb, uf_R_iff (qA_ok hw 65535 t).1 (qA_R hw t) ha hb]
theorem qP_eq (hw : tl_wf l) {t : Nat} (ht : t < 16) : uf_n (qF l (16 + t)).2.1.1 = uf_n (qA l 65535 t).1 := by
  rw [(qF_W (show 16 + t < 32 by omega)).2]
  exact uf_n_eq (qW_R hw ht).1 (qA_ok hw 65535 t).1 (qW_R hw ht).2 (qA_R hw t) (fun _ _ q => uf_C_in q) (fun _ _ q => uf_C_in q)
theorem qF_I (hw : tl_wf l) {t : Nat} (ht : t < 16) : uf_I (qF l (16 + t)).2.1.1 (qF l (16 + t)).2.1.2 := by
  rw [(qF_W (show 16 + t < 32 by omega)).2]
  exact (qW_R hw ht).1
end FW
