def tl_Ac (h : am_H) (ac : List (List Nat)) (q : Nat → Nat) : Prop := h.2.1 17 1 = nI ac.length ∧ (∀ i, i < 14 → h.2.2.2 18 i = some (q i) ∧ q i ∈ am_acp) ∧ (∀ i j, i < 14 → j < 14 → q i = q j → i = j) ∧ ∀ i l, ac[i]? = some l → tl_Sp h (q i) l
def tl_Am (h : am_H) (ac : List (List Nat)) (nx : Nat) : Prop := h.2.1 118 4 = nI ac.length ∧ nx < 14 ∧ h.2.1 118 5 = nI nx ∧ ∀ i l, ac[i]? = some l → tl_Ro h 122 ((nx + 14 - ac.length + i) % 14) l
def tl_wfs (ac : List (List Nat)) : Prop := ac.length ≤ 14 ∧ ∀ (i : Nat) (l : List Nat), ac[i]? = some l → tl_wf l
theorem tl_PA_of {h : am_H} {ac : List (List Nat)} (w : tl_wfs ac) {q : Nat → Nat} (a : tl_Ac h ac q) {nx : Nat} (b : tl_Am h ac nx) : tl_PA h ac := ⟨w.1, a.1, b.1, nx, q, b.2.1, b.2.2.1, a.2.1, a.2.2.1, fun i l hi => ⟨w.2 i l hi, a.2.2.2 i l hi, b.2.2.2 i l hi⟩⟩
theorem tl_PA_to {h : am_H} {ac : List (List Nat)} (A : tl_PA h ac) : tl_wfs ac ∧ (∃ q, tl_Ac h ac q) ∧ ∃ nx, tl_Am h ac nx := by
  obtain ⟨s1, s2, s3, nx, q, s4, s5, s6, s7, s8⟩ := A
  exact ⟨⟨s1, fun i l hi => (s8 i l hi).1⟩, ⟨q, s2, s6, s7, fun i l hi => (s8 i l hi).2.1⟩, nx, s3, s4, s5, fun i l hi => (s8 i l hi).2.2⟩
def tl_acn (ac : List (List Nat)) (l : List Nat) : List (List Nat) := (if ac.length < 14 then ac else ac.tail) ++ [l]
theorem tl_appA {α : Type} {l : List α} {x c : α} {i : Nat} (h : (l ++ [x])[i]? = some c) : l[i]? = some c ∨ (i = l.length ∧ c = x) := by
  by_cases q : i < l.length
  · rw [List.getElem?_append_left q] at h
    exact Or.inl h
  · rw [List.getElem?_append_right (by omega)] at h
    have : i - l.length < 1 := (List.getElem?_eq_some_iff.mp h).1
    have e : i = l.length := by omega
    subst e
    rw [Nat.sub_self] at h
    exact Or.inr ⟨rfl, (Option.some.inj h).symm⟩
theorem tl_acn_w {ac : List (List Nat)} {l : List Nat} (w : tl_wfs ac) (hw : tl_wf l) : tl_wfs (tl_acn ac l) := by
  have h1 := w.1
  unfold tl_acn
  by_cases c : ac.length < 14
  · rw [if_pos c]
    refine ⟨by rw [List.length_append]; simp; omega, fun i x hi => ?_⟩
    rcases tl_appA hi with z | ⟨-, rfl⟩
    · exact w.2 i x z
    · exact hw
  · rw [if_neg c]
    refine ⟨by rw [List.length_append, List.length_tail]; simp; omega, fun i x hi => ?_⟩
    rcases tl_appA hi with z | ⟨-, rfl⟩
    · rw [List.getElem?_tail] at z
      exact w.2 _ x z
    · exact hw
theorem acp_sps : ∀ p ∈ am_acp, p ∈ am_sps ∧ 19 ≤ p ∧ p + 4 ≤ 88 ∧ p ≠ 7 ∧ p ≠ 12 := by decide
/-- places that acts may change, of the class -/
def tl_rX (p j : Nat) : Bool := (decide (7 ≤ p) && decide (p ≤ 16)) || (decide (p = 17) && decide (j = 1)) || (decide (19 ≤ p) && decide (p ≤ 88))
/-- and of the reference -/
def tl_rY (p j : Nat) : Bool := (decide (p = 118) && (decide (j = 4) || decide (j = 5))) || decide (p = 119) || decide (p = 122)
def tl_ch (r : Nat → Nat → Bool) (h h2 : am_H) : Prop := (∀ p j, r p j = false → h2.2.1 p j = h.2.1 p j) ∧ h2.2.2.1 = h.2.2.1
theorem tl_ch_rf {r : Nat → Nat → Bool} {h : am_H} : tl_ch r h h := ⟨fun _ _ _ => rfl, rfl⟩
theorem tl_ch_tr {r : Nat → Nat → Bool} {a b c : am_H} (h1 : tl_ch r a b) (h2 : tl_ch r b c) : tl_ch r a c := ⟨fun p j q => (h2.1 p j q).trans (h1.1 p j q), h2.2.trans h1.2⟩
theorem tl_ch_on {r : Nat → Nat → Bool} {ps : List Nat} {h h2 : am_H} (hs : ∀ p ∈ ps, ∀ j, r p j = true) (k : tl_on ps h h2) : tl_ch r h h2 := ⟨fun p j q => k.2.2.2 p (fun hp => by rw [hs p hp j] at q; cases q) j, k.2.1⟩
theorem tl_ch_oB {r : Nat → Nat → Bool} {P o : Nat} {h h2 : am_H} (hs : ∀ j, o ≤ j → j < o + 17 → r P j = true) (k : tl_oB P o h h2) : tl_ch r h h2 := ⟨fun p j q => k.2.2.2 p j (fun e => by rw [e.1, hs j e.2.1 e.2.2] at q; cases q), k.2.1⟩
theorem tl_ch_I {r : Nat → Nat → Bool} {h : am_H} {p i : Nat} {x : Int32} (hr : r p i = true) : tl_ch r h (am_I h p i x) := ⟨fun q j hq => tl_I_nj (fun e => by rw [e.1, e.2, hr] at hq; cases hq), rfl⟩
theorem tl_ch_w {r r2 : Nat → Nat → Bool} {h h2 : am_H} (hs : ∀ p j, r p j = true → r2 p j = true) (k : tl_ch r h h2) : tl_ch r2 h h2 := ⟨fun p j q => k.1 p j (Bool.eq_false_iff.mpr (fun z => by rw [hs p j z] at q; cases q)), k.2⟩
theorem tl_ch_kp {r r2 : Nat → Nat → Bool} {h h2 : am_H} (k : tl_ch r h h2) (hd : ∀ p j, r2 p j = true → r p j = false) : tl_kp r2 h h2 := fun p j q => k.1 p j (hd p j q)
def tl_rZ (p j : Nat) : Bool := tl_rX p j || tl_rY p j
theorem rZ_T : ∀ p j, rT p j = true → tl_rZ p j = false := by intro p j; simp [rT, tl_rZ, tl_rX, tl_rY]; omega
theorem rZ_K : ∀ p j, rK p j = true → tl_rZ p j = false := by intro p j; simp [rK, tl_rZ, tl_rX, tl_rY]; omega
theorem rZ_N : ∀ p j, rN p j = true → tl_rZ p j = false := by intro p j; simp [rN, tl_rZ, tl_rX, tl_rY]; omega
theorem tl_act {h h2 : am_H} (I : tl_I h) (H2 : tl_Sh h2) (k : tl_ch tl_rZ h h2) {l2 : List Nat} (S2 : tl_PS h2 l2) {ac2 : List (List Nat)} (A2 : tl_PA h2 ac2) : tl_I h2 := by
  obtain ⟨H, -, ⟨tx, X⟩, -, ⟨kp, K⟩, ⟨sn, N⟩, D⟩ := I
  exact ⟨H2, ⟨l2, S2⟩, ⟨tx, kT (tl_ch_kp k rZ_T) X⟩, ⟨ac2, A2⟩, ⟨kp, kK (tl_ch_kp k rZ_K) K⟩, ⟨sn, kN (tl_ch_kp k rZ_N) N⟩, by unfold tl_PD; rw [k.2]; exact D⟩
theorem P5_rX {p : Nat} (hp : p ∈ am_acp ++ [7, 12]) : ∀ x ∈ tl_P5 p, ∀ j, tl_rX x j = true := by
  intro x hx j
  obtain ⟨k, hk, rfl⟩ := tl_P5_m hx
  have : (7 ≤ p ∧ p + 4 ≤ 16) ∨ (19 ≤ p ∧ p + 4 ≤ 88) := by
    rcases List.mem_append.mp hp with z | z
    · have := acp_sps p z; omega
    · simp at z; omega
  simp [tl_rX]; omega
def tl_rR (p j : Nat) : Bool := (decide (p = 17) && decide (j = 1)) || (decide (19 ≤ p) && decide (p ≤ 88))
theorem rR_X : ∀ p j, tl_rR p j = true → tl_rX p j = true := by intro p j; simp [tl_rR, tl_rX]; omega
theorem P5_rR {p : Nat} (hp : p ∈ am_acp) : ∀ x ∈ tl_P5 p, ∀ j, tl_rR x j = true := by
  intro x hx j
  obtain ⟨k, hk, rfl⟩ := tl_P5_m hx
  have := acp_sps p hp
  simp [tl_rR]; omega
section AC
variable {h : am_H} {ac : List (List Nat)} {l : List Nat}
theorem tl_sr (H : tl_Sh h) {j x : Nat} (hj : j < 14) (hx : x ∈ am_acp) : am_sr h 18 (nI j) x = some (am_F h 18 j (some x)) := by
  have h31 : j < 2 ^ 31 := by omega
  have s1 : am_sh[18]? = some (11, 14) := by decide +kernel
  have s2 := (am_sps_ok x (acp_sps x hx).1).1
  simp only [am_sr, H.1, s1, s2, nI_toInt h31, nI_clamp h31]
  rw [if_pos ⟨by simp, by omega, by omega⟩]
theorem tl_F_18 {h : am_H} {i j : Nat} {x : Option Nat} : (am_F h 18 i x).2.2.2 18 j = if j = i then x else h.2.2.2 18 j := by
  show am_u h.2.2.2 18 i x 18 j = _
  rw [am_u_eq]
theorem tl_l18 (H : tl_Sh h) {j x : Nat} (hj : j < 14) (hx : h.2.2.2 18 j = some x) : am_lr h 18 (nI j) = some x := tl_lr H (n := 14) (by decide +kernel) hj (by decide) hx
theorem t0_ffL (w : Nat) : ∀ n j h, tl_Sh h → (∀ i, i < 14 → ∃ x, h.2.2.2 18 i = some x ∧ x ∈ am_acp) → 1 ≤ j → j ≤ 14 → 14 - j < n → ∃ h2, lo_X0_forgetFirst_9 am_f 17 w n (nI j) h = some h2 ∧ tl_Sh h2 ∧ h2.2.1 = h.2.1 ∧ h2.2.2.1 = h.2.2.1 ∧ ∀ i, i < 14 → h2.2.2.2 18 i = if j ≤ i + 1 ∧ i < 13 then h.2.2.2 18 (i + 1) else h.2.2.2 18 i := by
  intro n
  induction n with
  | zero => intro j h _ _ _ _ q; omega
  | succ n ih =>
    intro j h H Q h0 hj hjn
    rw [lo_X0_forgetFirst_9.eq_2]
    simp only [il_14, nI_leI (show 14 < 2 ^ 31 by decide) (show j < 2 ^ 31 by omega)]
    by_cases h1 : 14 ≤ j
    · rw [if_pos h1]
      exact ⟨h, rfl, H, rfl, rfl, fun i hi => by rw [if_neg (by omega)]⟩
    · obtain ⟨x, x1, x2⟩ := Q j (by omega)
      rw [if_neg h1]
      simp only [or_17_0 H, tl_bs, tl_l18 H (show j < 14 by omega) x1, il_1, pk_sub h0, tl_sr H (show j - 1 < 14 by omega) x2, nI_add]
      have H1 : tl_Sh (am_F h 18 (j - 1) (some x)) := tl_Sh_F H
      obtain ⟨h2, a1, a2, a3, a4, a5⟩ := ih (j + 1) _ H1 (fun i hi => by
        rw [tl_F_18]
        by_cases e : i = j - 1
        · rw [if_pos e]; exact ⟨x, rfl, x2⟩
        · rw [if_neg e]; exact Q i hi) (by omega) (by omega) (by omega)
      refine ⟨h2, a1, a2, a3, a4, fun i hi => ?_⟩
      rw [a5 i hi, tl_F_18, tl_F_18]
      by_cases e1 : i + 1 = j
      · rw [if_neg (by omega), if_pos (by omega), if_pos (by omega), e1, x1]
      · by_cases e2 : j ≤ i + 1 ∧ i < 13
        · rw [if_pos (by omega), if_neg (by omega), if_pos e2]
        · rw [if_neg (by omega), if_neg (by omega), if_neg e2]
theorem t0_ff (H : tl_Sh h) {q : Nat → Nat} (A : tl_Ac h ac q) (hl : ac.length = 14) : ∃ h2 q2, mi_X0_forgetFirst am_f h 17 = some h2 ∧ tl_Sh h2 ∧ tl_Ac h2 ac.tail q2 ∧ (∀ p j, ¬ (p = 17 ∧ j = 1) → h2.2.1 p j = h.2.1 p j) ∧ h2.2.2.1 = h.2.2.1 := by
  obtain ⟨b1, b2, b3, b4⟩ := A
  obtain ⟨g, a1, a2, a3, a4, a5⟩ := t0_ffL (q 0) am_f 1 h H (fun i hi => ⟨q i, b2 i hi⟩) (by omega) (by omega) (by decide)
  have q0 := (b2 0 (by omega)).2
  have H3 : tl_Sh (am_F g 18 13 (some (q 0))) := tl_Sh_F a2
  have er : ∀ i, i < 14 → (am_I (am_F g 18 13 (some (q 0))) 17 1 13).2.2.2 18 i = some (if i < 13 then q (i + 1) else q 0) := by
    intro i hi
    show (am_F g 18 13 (some (q 0))).2.2.2 18 i = _
    rw [tl_F_18]
    by_cases e : i = 13
    · rw [if_pos e, if_neg (by omega)]
    · rw [if_neg e, a5 i hi, if_pos (by omega), if_pos (by omega)]
      exact (b2 (i + 1) (by omega)).1
  have ei : ∀ p j, ¬ (p = 17 ∧ j = 1) → (am_I (am_F g 18 13 (some (q 0))) 17 1 13).2.1 p j = h.2.1 p j := by
    intro p j hn
    rw [tl_I_nj hn]
    show g.2.1 p j = _
    rw [a3]
  refine ⟨am_I (am_F g 18 13 (some (q 0))) 17 1 13, fun i => if i < 13 then q (i + 1) else q 0, ?_, tl_Sh_I H3, ⟨?_, fun i hi => ⟨er i hi, ?_⟩, fun i j hi hj e => ?_, fun i x hi => ?_⟩, ei, ?_⟩
  · unfold mi_X0_forgetFirst
    rw [oc_17 H, tl_bs, or_17_0 H, tl_bs, il_0, tl_l18 H (by decide) (b2 0 (by omega)).1, tl_bs, il_1, a1, tl_bs, or_17_0 a2, tl_bs, il_13, tl_sr a2 (by decide) q0, tl_bs, ow_17 H3, tl_bs]
  · rw [tl_I_at, if_pos rfl, List.length_tail, hl]; rfl
  · dsimp only
    split
    · exact (b2 (i + 1) (by omega)).2
    · exact q0
  · dsimp only at e
    by_cases c1 : i < 13
    · by_cases c2 : j < 13
      · rw [if_pos c1, if_pos c2] at e
        have := b3 (i + 1) (j + 1) (by omega) (by omega) e
        omega
      · rw [if_pos c1, if_neg c2] at e
        have := b3 (i + 1) 0 (by omega) (by omega) e
        omega
    · by_cases c2 : j < 13
      · rw [if_neg c1, if_pos c2] at e
        have := b3 0 (j + 1) (by omega) (by omega) e
        omega
      · omega
  · rw [List.getElem?_tail] at hi
    have il := tl_lt_of hi
    have z := b4 (i + 1) x hi
    dsimp only
    rw [if_pos (by omega)]
    have r := acp_sps _ (b2 (i + 1) (by omega)).2
    exact tl_Sp_of (by rw [ei _ _ (by omega)]; exact z.1) (fun i2 v hi2 k hk => by rw [ei _ _ (by omega)]; exact tl_Sp_k z hi2 hk)
  · exact a4
theorem sps12 : 12 ∈ am_sps := by decide
theorem t0_rs (H : tl_Sh h) {q : Nat → Nat} (A : tl_Ac h ac q) (hl : ac.length < 14) (S : tl_Sp h 12 l) (hw : l.length ≤ 16) : ∃ h2, (Option.bind (am_gr h 0 17 0) fun xq3 => Option.bind (am_gi h 0 17 1) fun xq4 => Option.bind (am_lr h xq3 xq4) fun xq5 => Option.bind (mi_X5_copyOf am_f h xq5 12) fun hq7 => Option.bind (am_gi hq7 0 17 1) fun xq8 => Option.bind (am_pi hq7 0 17 1 (xq8 + 1)) fun hq9 => some hq9) = some h2 ∧ tl_Sh h2 ∧ tl_Ac h2 (ac ++ [l]) q ∧ tl_ch tl_rR h h2 := by
  obtain ⟨b1, b2, b3, b4⟩ := A
  obtain ⟨c1, c2⟩ := b2 ac.length hl
  have r := acp_sps _ c2
  obtain ⟨g, a1, a2, a3⟩ := t5_cp H r.1 sps12 r.2.2.2.2 S hw
  have HG := tl_on_Sh H a3
  have o17 : 17 ∉ tl_P5 (q ac.length) := fun z => by
    obtain ⟨k, k1, k2⟩ := tl_P5_m z
    omega
  have e17 : g.2.1 17 1 = nI ac.length := by rw [a3.2.2.2 _ o17]; exact b1
  refine ⟨am_I g 17 1 (nI (ac.length + 1)), ?_, tl_Sh_I HG, ⟨?_, fun i hi => ?_, b3, fun i x hi => ?_⟩, tl_ch_tr (tl_ch_on (P5_rR c2) a3) (tl_ch_I (by decide))⟩
  · rw [or_17_0 H, tl_bs, oi_17 H, tl_bs, b1, tl_l18 H hl c1, tl_bs, a1, tl_bs, oi_17 HG, tl_bs, e17, nI_1, ow_17 HG, tl_bs]
  · rw [tl_I_at, if_pos rfl, List.length_append]; rfl
  · show g.2.2.2 18 i = _ ∧ _
    rw [a3.2.2.1]
    exact b2 i hi
  · have o : tl_on [17] g (am_I g 17 1 (nI (ac.length + 1))) := tl_on_I (by decide)
    rcases tl_appA hi with z | ⟨rfl, rfl⟩
    · have il := tl_lt_of z
      have r2 := acp_sps _ (b2 i (by omega)).2
      refine tl_on_Sp (fun k hk => by simp; omega) o (tl_on_Sp (tl_P5_off r.1 r2.1 (fun e => ?_)) a3 (b4 i x z))
      have := b3 _ _ hl (by omega) e
      omega
    · exact tl_on_Sp (fun k hk => by simp; omega) o a2
theorem t0_rem (H : tl_Sh h) {q : Nat → Nat} (A : tl_Ac h ac q) (hl : ac.length ≤ 14) (S : tl_Sp h 12 l) (hw : l.length ≤ 16) : ∃ h2 q2, mi_X0_remember am_f h 17 12 = some h2 ∧ tl_Sh h2 ∧ tl_Ac h2 (tl_acn ac l) q2 ∧ tl_ch tl_rR h h2 := by
  unfold mi_X0_remember tl_acn
  simp only [oc_17 H, tl_bs, oi_17 H, A.1, il_14, nI_ltI (show ac.length < 2 ^ 31 by omega) (show 14 < 2 ^ 31 by decide)]
  by_cases c : ac.length < 14
  · rw [if_pos c, if_pos c, tl_bs]
    obtain ⟨h2, a1, a2, a3, a4⟩ := t0_rs H A c S hw
    exact ⟨h2, q, a1, a2, a3, a4⟩
  · rw [if_neg c, if_neg c]
    obtain ⟨g, q2, b1, b2, b3, b4, b5⟩ := t0_ff H A (by omega)
    have S2 : tl_Sp g 12 l := tl_Sp_of (by rw [b4 _ _ (by omega)]; exact S.1) (fun i v hi k hk => by rw [b4 _ _ (by omega)]; exact tl_Sp_k S hi hk)
    have hl2 : ac.tail.length < 14 := by rw [List.length_tail]; omega
    obtain ⟨h2, a1, a2, a3, a4⟩ := t0_rs b2 b3 hl2 S2 hw
    rw [b1, tl_bs, tl_bs]
    exact ⟨h2, q2, a1, a2, a3, tl_ch_tr ⟨fun p j z => b4 p j (fun e => by rw [e.1, e.2] at z; cases z), b5⟩ a4⟩
-- the reference's row
theorem t7_ka (H : tl_Sh h) {nx : Nat} (A : tl_Am h ac nx) (w : tl_wfs ac) (M : tl_Mo h 0 l) (hw : l.length ≤ 16) : ∃ h2 nx2, mi_X7_keepAct am_f h 118 = some h2 ∧ tl_Sh h2 ∧ tl_Am h2 (tl_acn ac l) nx2 ∧ tl_Mo h2 0 l ∧ tl_ch tl_rY h h2 ∧ h2.2.2.2 = h.2.2.2 := by
  obtain ⟨b1, b2, b3, b4⟩ := A
  have w1 := w.1
  obtain ⟨g, a1, a2, a3⟩ := t7_kaL b2 am_f 0 h H b3 (by omega) (by decide)
  have HG := tl_oB_Sh H a2
  have g5 : g.2.1 118 5 = nI nx := by rw [a2.2.2.2 _ _ (by omega)]; exact b3
  have g4 : g.2.1 118 4 = nI ac.length := by rw [a2.2.2.2 _ _ (by omega)]; exact b1
  have Bn : tl_Ro g 122 nx l := tl_cp_Bk (P := 122) (o := 17 * nx) (Q := 119) (q := 0) (fun x hx => by rw [a3 x hx, if_neg (by omega)]) hw M
  have Bo : ∀ r x, r < 14 → r ≠ nx → x.length ≤ 16 → tl_Ro h 122 r x → tl_Ro g 122 r x := fun r x hr hn hx B => tl_oB_Bk a2 hx (by omega) B
  have H1 : tl_Sh (am_I g 118 5 (nI ((nx + 1) % 14))) := tl_Sh_I HG
  have f4 : (am_I g 118 5 (nI ((nx + 1) % 14))).2.1 118 4 = nI ac.length := by rw [tl_I_nj (by omega)]; exact g4
  have ee : ∀ y r x, tl_Ro g 122 r x → tl_Ro (am_I (am_I g 118 5 (nI ((nx + 1) % 14))) 118 4 y) 122 r x := fun y r x B => ⟨by rw [tl_I_ne (by decide), tl_I_ne (by decide)]; exact B.1, fun i v hi => by rw [tl_I_ne (by decide), tl_I_ne (by decide)]; exact B.2 i v hi⟩
  have cf : ∀ y, tl_ch tl_rY h (am_I (am_I g 118 5 (nI ((nx + 1) % 14))) 118 4 y) := fun y => tl_ch_tr (tl_ch_tr (tl_ch_oB (fun j _ _ => by simp [tl_rY]) a2) (tl_ch_I (by decide))) (tl_ch_I (by decide))
  have mf : ∀ y, tl_Mo (am_I (am_I g 118 5 (nI ((nx + 1) % 14))) 118 4 y) 0 l := fun y => by
    have z : tl_Mo g 0 l := tl_oB_Bk a2 hw (Or.inl (by decide)) M
    exact ⟨by rw [tl_I_ne (by decide), tl_I_ne (by decide)]; exact z.1, fun i v hi => by rw [tl_I_ne (by decide), tl_I_ne (by decide)]; exact z.2 i v hi⟩
  have run : ∀ y, ((if 14 ≤ ac.length then some 14 else some (nI (ac.length + 1))) : Option Int32) = some y → mi_X7_keepAct am_f h 118 = some (am_I (am_I g 118 5 (nI ((nx + 1) % 14))) 118 4 y) := fun y hy => by
    unfold mi_X7_keepAct
    rw [oc_118 H, tl_bs, il_0, a1, tl_bs, oi_118 HG, tl_bs, g5, nI_1, il_14, pk_rem (by omega) (by decide) (by decide), ow_118 HG, tl_bs, oi_118 H1, tl_bs, f4, tl_bs, nI_1]
    simp only [nI_leI (show 14 < 2 ^ 31 by decide) (show ac.length < 2 ^ 31 by omega)]
    rw [← il_14, hy, tl_bs, ow_118 H1, tl_bs]
  unfold tl_acn
  by_cases c : ac.length < 14
  · rw [if_pos c]
    refine ⟨_, (nx + 1) % 14, run (nI (ac.length + 1)) (by rw [if_neg (by omega)]), tl_Sh_I H1, ⟨by rw [tl_I_at, if_pos rfl, List.length_append]; rfl, by omega, by rw [tl_I_nj (by omega), tl_I_at, if_pos rfl], fun i x hi => ?_⟩, mf _, cf _, a2.2.2.1⟩
    rw [List.length_append]
    rcases tl_appA hi with z | ⟨rfl, rfl⟩
    · have il := tl_lt_of z
      have e : ((nx + 1) % 14 + 14 - (ac.length + [l].length) + i) % 14 = (nx + 14 - ac.length + i) % 14 := by simp; omega
      rw [e]
      exact ee _ _ _ (Bo _ _ (by omega) (by omega) (w.2 i x z).1 (b4 i x z))
    · have e : ((nx + 1) % 14 + 14 - (ac.length + [x].length) + ac.length) % 14 = nx := by simp; omega
      rw [e]
      exact ee _ _ _ Bn
  · rw [if_neg c]
    have tl13 : ac.tail.length = 13 := by rw [List.length_tail]; omega
    refine ⟨_, (nx + 1) % 14, run 14 (by rw [if_pos (by omega)]), tl_Sh_I H1, ⟨by rw [tl_I_at, if_pos rfl, List.length_append, tl13]; rfl, by omega, by rw [tl_I_nj (by omega), tl_I_at, if_pos rfl], fun i x hi => ?_⟩, mf _, cf _, a2.2.2.1⟩
    rw [List.length_append, tl13]
    rcases tl_appA hi with z | ⟨rfl, rfl⟩
    · rw [List.getElem?_tail] at z
      have il := tl_lt_of z
      have e : ((nx + 1) % 14 + 14 - (13 + [l].length) + i) % 14 = (nx + 14 - ac.length + (i + 1)) % 14 := by simp; omega
      rw [e]
      exact ee _ _ _ (Bo _ _ (by omega) (by omega) (w.2 _ x z).1 (b4 _ x z))
    · have e : ((nx + 1) % 14 + 14 - (13 + [x].length) + ac.tail.length) % 14 = nx := by rw [tl13]; simp; omega
      rw [e]
      exact ee _ _ _ Bn
theorem tl_ch_Mo {h2 : am_H} (k : tl_ch tl_rX h h2) {e : Nat} (M : tl_Mo h e l) : tl_Mo h2 e l := ⟨by rw [k.1 _ _ (by simp [tl_rX])]; exact M.1, fun i v hi => by rw [k.1 _ _ (by simp [tl_rX])]; exact M.2 i v hi⟩
theorem tl_ch_Am {h2 : am_H} {nx : Nat} (k : tl_ch tl_rX h h2) (M : tl_Am h ac nx) : tl_Am h2 ac nx := ⟨by rw [k.1 _ _ (by simp [tl_rX])]; exact M.1, M.2.1, by rw [k.1 _ _ (by simp [tl_rX])]; exact M.2.2.1, fun i x hi => ⟨by rw [k.1 _ _ (by simp [tl_rX])]; exact (M.2.2.2 i x hi).1, fun j v hj => by rw [k.1 _ _ (by simp [tl_rX])]; exact (M.2.2.2 i x hi).2 j v hj⟩⟩
theorem tl_ch_Sp {h2 : am_H} {p : Nat} (k : tl_ch tl_rY h h2) (hp : p + 4 < 118) (M : tl_Sp h p l) : tl_Sp h2 p l := tl_Sp_of (by rw [k.1 _ _ (by simp [tl_rY]; omega)]; exact M.1) (fun i v hi m hm => by rw [k.1 _ _ (by simp [tl_rY]; omega)]; exact tl_Sp_k M hi hm)
theorem tl_ch_Ac {h2 : am_H} {q : Nat → Nat} (k : tl_ch tl_rY h h2) (hr : h2.2.2.2 = h.2.2.2) (hl : ac.length ≤ 14) (M : tl_Ac h ac q) : tl_Ac h2 ac q := ⟨by rw [k.1 _ _ (by simp [tl_rY])]; exact M.1, fun i hi => by rw [hr]; exact M.2.1 i hi, M.2.2.1, fun i x hi => by
  have := (acp_sps _ (M.2.1 i (by have := tl_lt_of hi; omega)).2)
  exact tl_ch_Sp k (by omega) (M.2.2.2 i x hi)⟩
/-- an act: the class copies, does, remembers; the reference keeps, does -/
theorem e_act (I : tl_I h) {op : am_H → Nat → Option (Int32 × am_H)} {mo : am_H → Option (Int32 × am_H)} (res : List Nat → Int32 × List Nat)
    (hop : ∀ h l, tl_Sh h → tl_Sp h 7 l → tl_wf l → ∃ h2, op h 7 = some ((res l).1, h2) ∧ tl_Sp h2 7 (res l).2 ∧ tl_wf (res l).2 ∧ tl_on (tl_P5 7) h h2)
    (hmo : ∀ h l ac nx, tl_Sh h → tl_Mo h 0 l → tl_wf l → tl_wfs ac → tl_Am h ac nx → ∃ h2, mo h = some ((res l).1, h2) ∧ (((res l).1 < 0 ∧ h2 = h) ∨ (¬ (res l).1 < 0 ∧ tl_Sh h2 ∧ tl_Mo h2 0 (res l).2 ∧ (∃ nx2, tl_Am h2 (tl_acn ac l) nx2) ∧ tl_ch tl_rY h h2 ∧ h2.2.2.2 = h.2.2.2)))
    (hng : ∀ l, tl_wf l → (res l).1 < 0 → (res l).2 = l) :
    tl_st (Option.bind (am_cls h 6 0) fun _n => Option.bind (am_gr h 6 0 2) fun xq1 => Option.bind (am_gr h 6 0 1) fun xq2 => Option.bind (mi_X5_copyOf am_f h xq1 xq2) fun hq4 => Option.bind (am_gr hq4 6 0 1) fun xq5 => Option.bind (op hq4 xq5) fun (xq6, hq7) => Option.bind (mi_X6_rememberIfDone am_f hq7 0 xq6) fun (xq9, hq10) => some (xq9, hq10)) mo := by
  obtain ⟨H, ⟨l, S⟩, -, ⟨ac, A⟩, -⟩ := id I
  obtain ⟨w, ⟨q, AC⟩, nx, AM⟩ := tl_PA_to A
  have h16 := S.1.1
  obtain ⟨g1, a1, a2, a3⟩ := t5_cp H sps12 tl_sps7 (by decide) S.2.1 h16
  have G1 := tl_on_Sh H a3
  obtain ⟨g2, b1, b2, b3, b4⟩ := hop g1 l G1 (tl_on_Sp (tl_P5_off sps12 tl_sps7 (by decide)) a3 S.2.1) S.1
  have G2 := tl_on_Sh G1 b4
  have k12 : tl_ch tl_rX h g2 := tl_ch_tr (tl_ch_on (P5_rX (by decide)) a3) (tl_ch_on (P5_rX (by decide)) b4)
  have AC2 : tl_Ac g2 ac q := by
    have off : ∀ p ∈ tl_P5 12 ++ tl_P5 7, p ≠ 17 ∧ p < 19 := by decide
    have ii : ∀ p j, (p = 17 ∨ 19 ≤ p) → g2.2.1 p j = h.2.1 p j := fun p j hp => by
      rw [b4.2.2.2 p (fun z => by have := off p (List.mem_append_right _ z); omega), a3.2.2.2 p (fun z => by have := off p (List.mem_append_left _ z); omega)]
    refine ⟨by rw [ii _ _ (by omega)]; exact AC.1, fun i hi => by rw [b4.2.2.1, a3.2.2.1]; exact AC.2.1 i hi, AC.2.2.1, fun i x hi => ?_⟩
    have := (acp_sps _ (AC.2.1 i (by have := tl_lt_of hi; have := w.1; omega)).2)
    exact tl_Sp_of (by rw [ii _ _ (by omega)]; exact (AC.2.2.2 i x hi).1) (fun i2 v hi2 m hm => by rw [ii _ _ (by omega)]; exact tl_Sp_k (AC.2.2.2 i x hi) hi2 hm)
  rw [oc_0 H, tl_bs, or_0_2 H, tl_bs, or_0_1 H, tl_bs, a1, tl_bs, or_0_1 G1, tl_bs, b1, tl_bs]
  dsimp only
  unfold mi_X6_rememberIfDone
  rw [oc_0 G2, tl_bs]
  by_cases c : (res l).1 < 0
  · rw [if_pos c, tl_bs, tl_bs]
    obtain ⟨h2, m1, m2⟩ := hmo g2 l ac nx G2 (tl_ch_Mo k12 S.2.2) S.1 w (tl_ch_Am k12 AM)
    rcases m2 with ⟨-, rfl⟩ | ⟨z, -⟩
    · refine ⟨_, _, _, rfl, m1, tl_act I G2 (tl_ch_w (fun p j z => by simp [tl_rZ, z]) k12) (l2 := l) ⟨S.1, ?_, tl_ch_Mo k12 S.2.2⟩ (tl_PA_of w AC2 (tl_ch_Am k12 AM))⟩
      rw [hng l S.1 c] at b2
      exact b2
    · exact absurd c z
  · rw [if_neg c, or_0_3 G2, tl_bs, or_0_2 G2, tl_bs]
    have S12 : tl_Sp g2 12 l := tl_on_Sp (tl_P5_off tl_sps7 sps12 (by decide)) b4 a2
    obtain ⟨g3, q3, d1, d2, d3, d4⟩ := t0_rem G2 AC2 w.1 S12 h16
    rw [d1, tl_bs, tl_bs, tl_bs]
    have k13 := tl_ch_tr k12 (tl_ch_w rR_X d4)
    obtain ⟨h2, m1, m2⟩ := hmo g3 l ac nx d2 (tl_ch_Mo k13 S.2.2) S.1 w (tl_ch_Am k13 AM)
    rcases m2 with ⟨z, -⟩ | ⟨-, n1, n2, ⟨nx2, n3⟩, n4, n5⟩
    · exact absurd z c
    · have w2 := tl_acn_w w S.1
      refine ⟨_, _, _, rfl, m1, tl_act I n1 (tl_ch_tr (tl_ch_w (fun p j z => by simp [tl_rZ, z]) k13) (tl_ch_w (fun p j z => by simp [tl_rZ, z]) n4)) (l2 := (res l).2) ⟨b3, tl_ch_Sp n4 (by omega) ?_, n2⟩ (tl_PA_of w2 (tl_ch_Ac n4 n5 w2.1 d3) n3)⟩
      exact tl_Sp_of (by rw [d4.1 _ _ (by simp [tl_rR])]; exact b2.1) (fun i v hi m hm => by rw [d4.1 _ _ (by simp [tl_rR]; omega)]; exact tl_Sp_k b2 hi hm)
end AC
