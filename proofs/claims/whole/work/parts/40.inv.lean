/-- places that hold nothing between two calls -/
def tl_scp (p : Nat) : Bool := (decide (3 ≤ p) && decide (p ≤ 6)) || (decide (12 ≤ p) && decide (p ≤ 16)) || (decide (90 ≤ p) && decide (p ≤ 98)) || decide (p = 104) || decide (p = 105) || decide (p = 121) || (decide (123 ≤ p) && decide (p ≤ 126)) || decide (p = 131)
def tl_sc (p j : Nat) : Bool := tl_scp p || (decide (p = 1) && (decide (j = 3) || decide (j = 7))) || (decide (p = 119) && decide (17 ≤ j))
theorem tl_sc_p {p j : Nat} (h : tl_scp p = false) (h1 : p ≠ 1) (h2 : p ≠ 119) : tl_sc p j = false := by simp [tl_sc, h, h1, h2]
theorem tl_sc_t {p j : Nat} (h : tl_scp p = true) : tl_sc p j = true := by simp [tl_sc, h]
def tl_fr (h h2 : am_H) : Prop := h2.1 = h.1 ∧ h2.2.2.1 = h.2.2.1 ∧ h2.2.2.2 = h.2.2.2 ∧ ∀ p j, tl_sc p j = false → h2.2.1 p j = h.2.1 p j
theorem tl_fr_rf {h : am_H} : tl_fr h h := ⟨rfl, rfl, rfl, fun _ _ _ => rfl⟩
theorem tl_fr_tr {a b c : am_H} (h1 : tl_fr a b) (h2 : tl_fr b c) : tl_fr a c := ⟨h2.1.trans h1.1, h2.2.1.trans h1.2.1, h2.2.2.1.trans h1.2.2.1, fun p j q => (h2.2.2.2 p j q).trans (h1.2.2.2 p j q)⟩
theorem tl_on_fr {ps : List Nat} {h h2 : am_H} (hs : ∀ p ∈ ps, tl_scp p = true) (k : tl_on ps h h2) : tl_fr h h2 := ⟨k.1, k.2.1, k.2.2.1, fun p j q => k.2.2.2 p (fun hp => by rw [tl_sc_t (hs p hp)] at q; cases q) j⟩
theorem tl_fr_I {h : am_H} {p i : Nat} {x : Int32} (hs : tl_sc p i = true) : tl_fr h (am_I h p i x) := ⟨rfl, rfl, rfl, fun q j hq => by
  show am_u h.2.1 p i x q j = _
  unfold am_u
  split
  · rename_i e
    rw [e.1, e.2, hs] at hq
    cases hq
  · rfl⟩
/-- a block of seventeen in a row of the reference -/
def tl_Ro (h : am_H) (P r : Nat) (l : List Nat) : Prop := h.2.1 P (17 * r) = nI l.length ∧ ∀ i v, l[i]? = some v → h.2.1 P (17 * r + 1 + i) = nI v
def am_acp : List Nat := [19, 24, 29, 34, 39, 44, 49, 54, 59, 64, 69, 74, 79, 84]
def tl_PS (h : am_H) (l : List Nat) : Prop := tl_wf l ∧ tl_Sp h 7 l ∧ tl_Mo h 0 l
def tl_PT (h : am_H) (tx : List Nat) : Prop := tx.length ≤ 64 ∧ (∀ c ∈ tx, c < 256) ∧ h.2.1 1 1 = nI tx.length ∧ h.2.1 118 2 = nI tx.length ∧ ∀ i c, tx[i]? = some c → h.2.1 2 i = nI c ∧ h.2.1 120 i = nI c
def tl_PA (h : am_H) (ac : List (List Nat)) : Prop := ac.length ≤ 14 ∧ h.2.1 17 1 = nI ac.length ∧ h.2.1 118 4 = nI ac.length ∧ ∃ (nx : Nat) (q : Nat → Nat), nx < 14 ∧ h.2.1 118 5 = nI nx ∧ (∀ i, i < 14 → h.2.2.2 18 i = some (q i) ∧ q i ∈ am_acp) ∧ (∀ i j, i < 14 → j < 14 → q i = q j → i = j) ∧ ∀ i l, ac[i]? = some l → tl_wf l ∧ tl_Sp h (q i) l ∧ tl_Ro h 122 ((nx + 14 - ac.length + i) % 14) l
def tl_PK (h : am_H) (kp : Nat → Option (List Nat)) : Prop := ∀ s, s < 2 → h.2.1 107 s = nI (if (kp s).isSome = true then 1 else 0) ∧ h.2.1 132 s = nI (if (kp s).isSome = true then 1 else 0) ∧ ∀ l, kp s = some l → tl_wf l ∧ tl_Sp h (108 + 5 * s) l ∧ tl_Ro h 133 s l
abbrev tl_N4 : Type := Nat × Nat × Nat × Nat
def tl_PN (h : am_H) (sn : List tl_N4) : Prop := sn.length ≤ 6 ∧ h.2.1 99 6 = nI sn.length ∧ h.2.1 118 11 = nI sn.length ∧ ∀ i x, sn[i]? = some x → (x.1 < 16 ∧ x.2.1 < 8 ∧ x.2.2.1 < 8 ∧ x.2.2.2 ≤ 1) ∧ (h.2.1 100 i = nI x.1 ∧ h.2.1 101 i = nI x.2.1 ∧ h.2.1 102 i = nI x.2.2.1 ∧ h.2.1 103 i = nI x.2.2.2) ∧ (h.2.1 127 i = nI x.1 ∧ h.2.1 128 i = nI x.2.1 ∧ h.2.1 129 i = nI x.2.2.1 ∧ h.2.1 130 i = nI x.2.2.2)
def tl_PD (h : am_H) : Prop := h.2.2.1 0 9 = h.2.2.1 118 17
/-- what holds between two calls of the law -/
def tl_I (h : am_H) : Prop := tl_Sh h ∧ (∃ l, tl_PS h l) ∧ (∃ tx, tl_PT h tx) ∧ (∃ ac, tl_PA h ac) ∧ (∃ kp, tl_PK h kp) ∧ (∃ sn, tl_PN h sn) ∧ tl_PD h
theorem tl_fr_Sh {h h2 : am_H} (k : tl_fr h h2) (H : tl_Sh h) : tl_Sh h2 := ⟨k.1.trans H.1, fun p j hp => by rw [k.2.2.1]; exact H.2 p j hp⟩
theorem tl_sps_sc : ∀ p ∈ am_acp ++ [7, 108, 113], ∀ k, k < 5 → tl_scp (p + k) = false ∧ p + k ≠ 1 ∧ p + k ≠ 119 := by decide +kernel
theorem tl_fr_Sp {h h2 : am_H} {p : Nat} {l : List Nat} (k : tl_fr h h2) (hp : p ∈ am_acp ++ [7, 108, 113]) (S : tl_Sp h p l) : tl_Sp h2 p l := by
  have e : ∀ d, d < 5 → ∀ j, h2.2.1 (p + d) j = h.2.1 (p + d) j := fun d hd j => by
    obtain ⟨a, b, c⟩ := tl_sps_sc p hp d hd
    exact k.2.2.2 _ _ (tl_sc_p a b c)
  refine ⟨(e 0 (by omega) 4).trans S.1, fun i v hi => ?_⟩
  obtain ⟨s1, s2, s3, s4⟩ := S.2 i v hi
  exact ⟨(e 1 (by omega) i).trans s1, (e 2 (by omega) i).trans s2, (e 3 (by omega) i).trans s3, (e 4 (by omega) i).trans s4⟩
theorem tl_fr_Ro {h h2 : am_H} {P r : Nat} {l : List Nat} (k : tl_fr h h2) (hP : tl_scp P = false) (h1 : P ≠ 1) (h9 : P ≠ 119) (S : tl_Ro h P r l) : tl_Ro h2 P r l := ⟨(k.2.2.2 _ _ (tl_sc_p hP h1 h9)).trans S.1, fun i v hi => (k.2.2.2 _ _ (tl_sc_p hP h1 h9)).trans (S.2 i v hi)⟩
theorem tl_fr_PS {h h2 : am_H} {l : List Nat} (k : tl_fr h h2) (S : tl_PS h l) : tl_PS h2 l := by
  obtain ⟨s1, s2, s3, s4⟩ := S
  refine ⟨s1, tl_fr_Sp k (by decide) s2, ?_, fun i v hi => ?_⟩
  · rw [k.2.2.2 119 _ (by decide)]; exact s3
  · have := (tl_wf_at s1 hi).1
    rw [k.2.2.2 119 _ (by simp [tl_sc, tl_scp]; omega)]; exact s4 i v hi
theorem tl_fr_PT {h h2 : am_H} {tx : List Nat} (k : tl_fr h h2) (S : tl_PT h tx) : tl_PT h2 tx := by
  obtain ⟨s1, s2, s3, s4, s5⟩ := S
  refine ⟨s1, s2, by rw [k.2.2.2 1 1 (by decide)]; exact s3, by rw [k.2.2.2 118 2 (by decide)]; exact s4, fun i c hi => ?_⟩
  rw [k.2.2.2 2 i (tl_sc_p (by decide) (by decide) (by decide)), k.2.2.2 120 i (tl_sc_p (by decide) (by decide) (by decide))]
  exact s5 i c hi
theorem tl_fr_PA {h h2 : am_H} {ac : List (List Nat)} (k : tl_fr h h2) (S : tl_PA h ac) : tl_PA h2 ac := by
  obtain ⟨s1, s2, s3, nx, q, s4, s5, s6, s7, s8⟩ := S
  refine ⟨s1, by rw [k.2.2.2 17 1 (by decide)]; exact s2, by rw [k.2.2.2 118 4 (by decide)]; exact s3, nx, q, s4, by rw [k.2.2.2 118 5 (by decide)]; exact s5, fun i hi => by rw [k.2.2.1]; exact s6 i hi, s7, fun i l hi => ?_⟩
  obtain ⟨a1, a2, a3⟩ := s8 i l hi
  have hi14 : i < 14 := by have := (List.getElem?_eq_some_iff.mp hi).1; omega
  exact ⟨a1, tl_fr_Sp k (List.mem_append_left _ (s6 i hi14).2) a2, tl_fr_Ro k (by decide) (by decide) (by decide) a3⟩
theorem tl_fr_PK {h h2 : am_H} {kp : Nat → Option (List Nat)} (k : tl_fr h h2) (S : tl_PK h kp) : tl_PK h2 kp := by
  intro s hs
  obtain ⟨s1, s2, s3⟩ := S s hs
  refine ⟨by rw [k.2.2.2 107 s (tl_sc_p (by decide) (by decide) (by decide))]; exact s1, by rw [k.2.2.2 132 s (tl_sc_p (by decide) (by decide) (by decide))]; exact s2, fun l hl => ?_⟩
  obtain ⟨a1, a2, a3⟩ := s3 l hl
  refine ⟨a1, tl_fr_Sp k ?_ a2, tl_fr_Ro k (by decide) (by decide) (by decide) a3⟩
  rcases (show s = 0 ∨ s = 1 by omega) with rfl | rfl <;> decide
theorem tl_fr_PN {h h2 : am_H} {sn : List tl_N4} (k : tl_fr h h2) (S : tl_PN h sn) : tl_PN h2 sn := by
  obtain ⟨s1, s2, s3, s4⟩ := S
  refine ⟨s1, by rw [k.2.2.2 99 6 (by decide)]; exact s2, by rw [k.2.2.2 118 11 (by decide)]; exact s3, fun i x hi => ?_⟩
  obtain ⟨a1, a2, a3⟩ := s4 i x hi
  have e : ∀ p, tl_scp p = false → p ≠ 1 → p ≠ 119 → h2.2.1 p i = h.2.1 p i := fun p e1 e2 e3 => k.2.2.2 p i (tl_sc_p e1 e2 e3)
  rw [e 100 (by decide) (by decide) (by decide), e 101 (by decide) (by decide) (by decide), e 102 (by decide) (by decide) (by decide), e 103 (by decide) (by decide) (by decide), e 127 (by decide) (by decide) (by decide), e 128 (by decide) (by decide) (by decide), e 129 (by decide) (by decide) (by decide), e 130 (by decide) (by decide) (by decide)]
  exact ⟨a1, a2, a3⟩
theorem tl_fr_PD {h h2 : am_H} (k : tl_fr h h2) (S : tl_PD h) : tl_PD h2 := by
  unfold tl_PD
  rw [k.2.1]
  exact S
theorem tl_fr_Iv {h h2 : am_H} (k : tl_fr h h2) (S : tl_I h) : tl_I h2 := by
  obtain ⟨s1, ⟨l, s2⟩, ⟨tx, s3⟩, ⟨ac, s4⟩, ⟨kp, s5⟩, ⟨sn, s6⟩, s7⟩ := S
  exact ⟨tl_fr_Sh k s1, ⟨l, tl_fr_PS k s2⟩, ⟨tx, tl_fr_PT k s3⟩, ⟨ac, tl_fr_PA k s4⟩, ⟨kp, tl_fr_PK k s5⟩, ⟨sn, tl_fr_PN k s6⟩, tl_fr_PD k s7⟩
theorem tl_s_mu : ∀ p ∈ [123, 124], tl_scp p = true := by decide
theorem tl_s_fo : ∀ p ∈ tl_fs, tl_scp p = true := by decide
-- the start
theorem tl_acp_0 : ∀ i, i < 14 → am_hS.2.2.2 18 i = some (19 + 5 * i) ∧ 19 + 5 * i ∈ am_acp := by decide +kernel
theorem tl_I_0 {h : am_H} (h1 : h.1 = am_sh) (h2 : h.2.1 = fun _ _ => 0) (h3 : h.2.2.1 = fun _ _ => 0) (h4 : h.2.2.2 = am_hS.2.2.2) : tl_I h := by
  have z : ∀ p j, h.2.1 p j = nI 0 := fun p j => by rw [h2]; rfl
  refine ⟨⟨h1, fun p j _ => by rw [h4]⟩, ⟨[], ⟨Nat.zero_le _, fun _ h => by cases h⟩, ⟨z _ _, fun i v hi => by simp at hi⟩, z _ _, fun i v hi => by simp at hi⟩, ⟨[], Nat.zero_le _, (fun _ h => by cases h), z _ _, z _ _, fun i v hi => by simp at hi⟩, ⟨[], Nat.zero_le _, z _ _, z _ _, 0, fun i => 19 + 5 * i, by decide, z _ _, fun i hi => ?_, fun i j _ _ e => by dsimp only at e; omega, fun i v hi => by simp at hi⟩, ⟨fun _ => none, fun s _ => ⟨z _ _, z _ _, fun l hl => by cases hl⟩⟩, ⟨[], Nat.zero_le _, z _ _, z _ _, fun i v hi => by simp at hi⟩, ?_⟩
  · rw [h4]; exact tl_acp_0 i hi
  · unfold tl_PD
    rw [h3]
