-- what each part of the state reads
def rS (p j : Nat) : Bool := (decide (7 ≤ p) && decide (p ≤ 11)) || (decide (p = 119) && decide (j < 17))
def rT (p j : Nat) : Bool := decide (p = 2) || decide (p = 120) || (decide (p = 1) && decide (j = 1)) || (decide (p = 118) && decide (j = 2))
def rA (p j : Nat) : Bool := (decide (19 ≤ p) && decide (p ≤ 88)) || decide (p = 122) || (decide (p = 17) && decide (j = 1)) || (decide (p = 118) && (decide (j = 4) || decide (j = 5)))
def rK (p _j : Nat) : Bool := decide (p = 107) || decide (p = 132) || decide (p = 133) || (decide (108 ≤ p) && decide (p ≤ 117))
def rN (p j : Nat) : Bool := (decide (100 ≤ p) && decide (p ≤ 103)) || (decide (127 ≤ p) && decide (p ≤ 130)) || (decide (p = 99) && decide (j = 6)) || (decide (p = 118) && decide (j = 11))
def tl_kp (r : Nat → Nat → Bool) (h h2 : am_H) : Prop := ∀ p j, r p j = true → h2.2.1 p j = h.2.1 p j
theorem tl_kp_rf {r : Nat → Nat → Bool} {h : am_H} : tl_kp r h h := fun _ _ _ => rfl
theorem tl_kp_tr {r : Nat → Nat → Bool} {a b c : am_H} (h1 : tl_kp r a b) (h2 : tl_kp r b c) : tl_kp r a c := fun p j q => (h2 p j q).trans (h1 p j q)
theorem tl_kp_I {r : Nat → Nat → Bool} {h : am_H} {p i : Nat} {x : Int32} (hr : r p i = false) : tl_kp r h (am_I h p i x) := fun q j hq => by
  show am_u h.2.1 p i x q j = _
  unfold am_u
  split
  · rename_i e
    rw [e.1, e.2, hr] at hq
    cases hq
  · rfl
theorem tl_kp_fr {r : Nat → Nat → Bool} {h h2 : am_H} (k : tl_fr h h2) (hr : ∀ p j, r p j = true → tl_sc p j = false) : tl_kp r h h2 := fun p j q => k.2.2.2 p j (hr p j q)
theorem tl_kp_on {r : Nat → Nat → Bool} {ps : List Nat} {h h2 : am_H} (k : tl_on ps h h2) (hr : ∀ p ∈ ps, ∀ j, r p j = false) : tl_kp r h h2 := fun p j q => k.2.2.2 p (fun hp => by rw [hr p hp j] at q; cases q) j
theorem kS {h h2 : am_H} {l : List Nat} (k : tl_kp rS h h2) (S : tl_PS h l) : tl_PS h2 l := by
  obtain ⟨s1, ⟨s2, s2'⟩, s3, s4⟩ := S
  have e : ∀ d, d < 5 → ∀ j, h2.2.1 (7 + d) j = h.2.1 (7 + d) j := fun d hd j => k _ _ (by simp [rS]; omega)
  refine ⟨s1, ⟨(e 0 (by omega) 4).trans s2, fun i v hi => ?_⟩, (k _ _ (by decide)).trans s3, fun i v hi => ?_⟩
  · obtain ⟨a1, a2, a3, a4⟩ := s2' i v hi
    exact ⟨(e 1 (by omega) i).trans a1, (e 2 (by omega) i).trans a2, (e 3 (by omega) i).trans a3, (e 4 (by omega) i).trans a4⟩
  · have := (tl_wf_at s1 hi).1
    exact (k _ _ (by simp [rS]; omega)).trans (s4 i v hi)
theorem kT {h h2 : am_H} {tx : List Nat} (k : tl_kp rT h h2) (S : tl_PT h tx) : tl_PT h2 tx := by
  obtain ⟨s1, s2, s3, s4, s5⟩ := S
  refine ⟨s1, s2, (k _ _ (by decide)).trans s3, (k _ _ (by decide)).trans s4, fun i c hi => ?_⟩
  obtain ⟨a1, a2⟩ := s5 i c hi
  exact ⟨(k _ _ (by simp [rT])).trans a1, (k _ _ (by simp [rT])).trans a2⟩
theorem tl_acp_r : ∀ p ∈ am_acp, 19 ≤ p ∧ p ≤ 84 := by decide
theorem kA {h h2 : am_H} {ac : List (List Nat)} (k : tl_kp rA h h2) (hr : h2.2.2.2 = h.2.2.2) (S : tl_PA h ac) : tl_PA h2 ac := by
  obtain ⟨s1, s2, s3, nx, q, s4, s5, s6, s7, s8⟩ := S
  refine ⟨s1, (k _ _ (by decide)).trans s2, (k _ _ (by decide)).trans s3, nx, q, s4, (k _ _ (by decide)).trans s5, fun i hi => by rw [hr]; exact s6 i hi, s7, fun i l hi => ?_⟩
  obtain ⟨a1, ⟨a2, a2'⟩, a3, a4⟩ := s8 i l hi
  have hi14 : i < 14 := by have := (List.getElem?_eq_some_iff.mp hi).1; omega
  have hq := tl_acp_r _ (s6 i hi14).2
  have e : ∀ d, d < 5 → ∀ j, h2.2.1 (q i + d) j = h.2.1 (q i + d) j := fun d hd j => k _ _ (by simp [rA]; omega)
  refine ⟨a1, ⟨(e 0 (by omega) 4).trans a2, fun i2 v hi2 => ?_⟩, (k _ _ (by simp [rA])).trans a3, fun i2 v hi2 => (k _ _ (by simp [rA])).trans (a4 i2 v hi2)⟩
  obtain ⟨b1, b2, b3, b4⟩ := a2' i2 v hi2
  exact ⟨(e 1 (by omega) i2).trans b1, (e 2 (by omega) i2).trans b2, (e 3 (by omega) i2).trans b3, (e 4 (by omega) i2).trans b4⟩
theorem kK {h h2 : am_H} {kp : Nat → Option (List Nat)} (k : tl_kp rK h h2) (S : tl_PK h kp) : tl_PK h2 kp := by
  intro s hs
  obtain ⟨s1, s2, s3⟩ := S s hs
  refine ⟨(k _ _ (by simp [rK])).trans s1, (k _ _ (by simp [rK])).trans s2, fun l hl => ?_⟩
  obtain ⟨a1, ⟨a2, a2'⟩, a3, a4⟩ := s3 l hl
  have e : ∀ d, d < 5 → ∀ j, h2.2.1 (108 + 5 * s + d) j = h.2.1 (108 + 5 * s + d) j := fun d hd j => k _ _ (by simp [rK]; omega)
  refine ⟨a1, ⟨(e 0 (by omega) 4).trans a2, fun i2 v hi2 => ?_⟩, (k _ _ (by simp [rK])).trans a3, fun i2 v hi2 => (k _ _ (by simp [rK])).trans (a4 i2 v hi2)⟩
  obtain ⟨b1, b2, b3, b4⟩ := a2' i2 v hi2
  exact ⟨(e 1 (by omega) i2).trans b1, (e 2 (by omega) i2).trans b2, (e 3 (by omega) i2).trans b3, (e 4 (by omega) i2).trans b4⟩
theorem kN {h h2 : am_H} {sn : List tl_N4} (k : tl_kp rN h h2) (S : tl_PN h sn) : tl_PN h2 sn := by
  obtain ⟨s1, s2, s3, s4⟩ := S
  refine ⟨s1, (k _ _ (by decide)).trans s2, (k _ _ (by decide)).trans s3, fun i x hi => ?_⟩
  obtain ⟨a0, ⟨a1, a2, a3, a4⟩, b1, b2, b3, b4⟩ := s4 i x hi
  exact ⟨a0, ⟨(k _ _ (by simp [rN])).trans a1, (k _ _ (by simp [rN])).trans a2, (k _ _ (by simp [rN])).trans a3, (k _ _ (by simp [rN])).trans a4⟩, (k _ _ (by simp [rN])).trans b1, (k _ _ (by simp [rN])).trans b2, (k _ _ (by simp [rN])).trans b3, (k _ _ (by simp [rN])).trans b4⟩
-- text
theorem tl_chr : ∀ c, c < 256 → vp_nar .char (((nI c).toUInt32 % 65536).toInt32) = nI c := by decide +kernel
theorem tl_app {l : List Nat} {x i c : Nat} (h : (l ++ [x])[i]? = some c) : l[i]? = some c ∨ (i = l.length ∧ c = x) := by
  by_cases q : i < l.length
  · rw [List.getElem?_append_left q] at h
    exact Or.inl h
  · rw [List.getElem?_append_right (by omega)] at h
    have : i - l.length < 1 := (List.getElem?_eq_some_iff.mp h).1
    have e : i = l.length := by omega
    subst e
    rw [Nat.sub_self] at h
    exact Or.inr ⟨rfl, (Option.some.inj h).symm⟩
theorem tl_lt_of {α : Type} {l : List α} {i : Nat} {x : α} (h : l[i]? = some x) : i < l.length := (List.getElem?_eq_some_iff.mp h).1
section KP
variable {h : am_H}
theorem e_wipe (I : tl_I h) : tl_st (mi_X6_wipe am_f h 0) (fun h1 => mi_X7_wipe am_f h1 118) := by
  obtain ⟨H, ⟨l, S⟩, ⟨tx, X⟩, ⟨ac, A⟩, ⟨kp, K⟩, ⟨sn, N⟩, D⟩ := I
  have H1 : tl_Sh (am_I h 1 1 0) := tl_Sh_I H
  refine ⟨nI tx.length, am_I h 1 1 0, am_I (am_I h 1 1 0) 118 2 0, ?_, ?_, tl_Sh_I H1, ⟨l, kS (tl_kp_tr (tl_kp_I (by decide)) (tl_kp_I (by decide))) S⟩, ⟨[], Nat.zero_le _, (fun _ h => by cases h), ?_, ?_, fun i c hi => by simp at hi⟩, ⟨ac, kA (tl_kp_tr (tl_kp_I (by decide)) (tl_kp_I (by decide))) rfl A⟩, ⟨kp, kK (tl_kp_tr (tl_kp_I (by decide)) (tl_kp_I (by decide))) K⟩, ⟨sn, kN (tl_kp_tr (tl_kp_I (by decide)) (tl_kp_I (by decide))) N⟩, D⟩
  · unfold mi_X6_wipe
    simp only [oc_0 H, tl_bs, or_0_0 H, oi_1 H, ow_1 H, X.2.2.1]
  · show mi_X7_wipe am_f _ 118 = _
    unfold mi_X7_wipe
    simp only [oc_118 H1, tl_bs, oi_118 H1, ow_118 H1, tl_I_ne (show (118 : Nat) ≠ 1 by decide), X.2.2.2.1]
  · rw [tl_I_ne (by decide), tl_I_at, if_pos rfl]; rfl
  · rw [tl_I_at, if_pos rfl]; rfl
theorem e_write (I : tl_I h) (a : Int32) : tl_st (mi_X6_write am_f h 0 a) (fun h1 => mi_X7_write am_f h1 118 a) := by
  obtain ⟨H, ⟨l, S⟩, ⟨tx, X⟩, ⟨ac, A⟩, ⟨kp, K⟩, ⟨sn, N⟩, D⟩ := id I
  have hl := X.1
  have hin : ∀ h1 : am_H, mi_X7_in am_f h1 a.toInt64 0 255 = some (decide (0 ≤ a.toInt ∧ a.toInt ≤ 255)) := fun h1 => by rw [t7_in, Int32.toInt_toInt64]; rfl
  unfold mi_X6_write mi_X7_write tl_st
  simp only [oc_0 H, tl_bs, hin, show (a < 0) = (a.toInt < 0) from propext Int32.lt_iff_toInt_lt, show (a ≤ 255) = (a.toInt ≤ 255) from propext Int32.le_iff_toInt_le]
  by_cases c1 : a.toInt < 0
  · refine ⟨-2, h, h, by rw [if_pos c1], ?_, I⟩
    simp only [oc_118 H, tl_bs]
    rw [decide_eq_false (by omega), if_neg (by decide)]
  · by_cases c2 : a.toInt ≤ 255
    · obtain ⟨c, c256, rfl⟩ := tl_rg (a := a) (n := 255) (by decide) (decide_eq_true ⟨by omega, c2⟩)
      rw [if_neg c1, if_pos c2, or_0_0 H, tl_bs, decide_eq_true ⟨by omega, c2⟩]
      unfold mi_X3_append
      simp only [oc_1 H, tl_bs, oi_1 H, X.2.2.1, il_64, nI_ltI (show tx.length < 2 ^ 31 by omega) (show 64 < 2 ^ 31 by decide)]
      by_cases c3 : tx.length < 64
      · have H1 : tl_Sh (am_I h 2 tx.length (nI c)) := tl_Sh_I H
        have H2 : tl_Sh (am_I (am_I h 2 tx.length (nI c)) 1 1 (nI (tx.length + 1))) := tl_Sh_I H1
        have H3 : tl_Sh (am_I (am_I (am_I h 2 tx.length (nI c)) 1 1 (nI (tx.length + 1))) 120 tx.length (nI c)) := tl_Sh_I H2
        have H4 : tl_Sh (am_I (am_I (am_I (am_I h 2 tx.length (nI c)) 1 1 (nI (tx.length + 1))) 120 tx.length (nI c)) 118 2 (nI (tx.length + 1))) := tl_Sh_I H3
        have kp4 : ∀ r : Nat → Nat → Bool, r 2 tx.length = false → r 1 1 = false → r 120 tx.length = false → r 118 2 = false → tl_kp r h (am_I (am_I (am_I (am_I h 2 tx.length (nI c)) 1 1 (nI (tx.length + 1))) 120 tx.length (nI c)) 118 2 (nI (tx.length + 1))) := fun r r1 r2 r3 r4 => tl_kp_tr (tl_kp_tr (tl_kp_tr (tl_kp_I r1) (tl_kp_I r2)) (tl_kp_I r3)) (tl_kp_I r4)
        refine ⟨nI (tx.length + 1), am_I (am_I h 2 tx.length (nI c)) 1 1 (nI (tx.length + 1)), am_I (am_I (am_I (am_I h 2 tx.length (nI c)) 1 1 (nI (tx.length + 1))) 120 tx.length (nI c)) 118 2 (nI (tx.length + 1)), ?_, ?_, H4, ⟨l, kS (kp4 rS (by simp [rS]) (by decide) (by simp [rS]) (by decide)) S⟩, ⟨tx ++ [c], ?_, ?_, ?_, ?_, ?_⟩, ⟨ac, kA (kp4 rA (by simp [rA]) (by decide) (by simp [rA]) (by decide)) rfl A⟩, ⟨kp, kK (kp4 rK (by simp [rK]) (by decide) (by simp [rK]) (by decide)) K⟩, ⟨sn, kN (kp4 rN (by simp [rN]) (by decide) (by simp [rN]) (by decide)) N⟩, D⟩
        · simp only [if_pos c3, or_1_0 H, tl_bs, tl_chr c (by omega), as_2 H c3, oi_1 H1, tl_I_ne (show (1 : Nat) ≠ 2 by decide), X.2.2.1, nI_1, ow_1 H1, oi_1 H2, tl_I_at, if_true]
        · have r1 : (am_I (am_I h 2 tx.length (nI c)) 1 1 (nI (tx.length + 1))).2.1 118 2 = nI tx.length := by
            rw [tl_I_ne (by decide), tl_I_ne (by decide)]; exact X.2.2.2.1
          have r2 : (am_I (am_I (am_I h 2 tx.length (nI c)) 1 1 (nI (tx.length + 1))) 120 tx.length (nI c)).2.1 118 2 = nI tx.length := by
            rw [tl_I_ne (by decide)]; exact r1
          simp only [oc_118 H2, tl_bs, if_true, oi_118 H2, r1, nI_eq (show tx.length < 2 ^ 31 by omega) (show 64 < 2 ^ 31 by decide), if_neg (show ¬ tx.length = 64 by omega), or_118_1 H2, as_120 H2 c3, oi_118 H3, r2, nI_1, ow_118 H3, oi_118 H4, tl_I_at]
        · rw [List.length_append]; simp; omega
        · intro x hx
          rcases List.mem_append.mp hx with hx | hx
          · exact X.2.1 x hx
          · have : x = c := by simpa using hx
            omega
        · rw [tl_I_ne (by decide), tl_I_ne (by decide), tl_I_at, if_pos rfl, List.length_append]; rfl
        · rw [tl_I_at, if_pos rfl, List.length_append]; rfl
        · intro i x hi
          have e2 : (am_I (am_I (am_I (am_I h 2 tx.length (nI c)) 1 1 (nI (tx.length + 1))) 120 tx.length (nI c)) 118 2 (nI (tx.length + 1))).2.1 2 i = if i = tx.length then nI c else h.2.1 2 i := by
            rw [tl_I_ne (by decide), tl_I_ne (by decide), tl_I_ne (by decide), tl_I_at]
          have e3 : (am_I (am_I (am_I (am_I h 2 tx.length (nI c)) 1 1 (nI (tx.length + 1))) 120 tx.length (nI c)) 118 2 (nI (tx.length + 1))).2.1 120 i = if i = tx.length then nI c else h.2.1 120 i := by
            rw [tl_I_ne (by decide), tl_I_at, tl_I_ne (by decide), tl_I_ne (by decide)]
          rw [e2, e3]
          rcases tl_app hi with q | ⟨rfl, rfl⟩
          · have := tl_lt_of q
            rw [if_neg (by omega), if_neg (by omega)]
            exact X.2.2.2.2 i x q
          · rw [if_pos rfl, if_pos rfl]
            exact ⟨rfl, rfl⟩
      · refine ⟨-4, h, h, by rw [if_neg c3]; rfl, ?_, I⟩
        simp only [oc_118 H, tl_bs, if_true, oi_118 H, X.2.2.2.1, nI_eq (show tx.length < 2 ^ 31 by omega) (show 64 < 2 ^ 31 by decide), if_pos (show tx.length = 64 by omega)]
    · refine ⟨-2, h, h, by rw [if_neg c1, if_neg c2], ?_, I⟩
      simp only [oc_118 H, tl_bs]
      rw [decide_eq_false (by omega), if_neg (by decide)]
theorem e_seed (I : tl_I h) (a : Int64) : ∃ r h1 h2, mi_X6_seed am_f h 0 a = some (r, h1) ∧ mi_X7_seed am_f h1 118 a = some (r, h2) ∧ tl_I h2 := by
  obtain ⟨H, ⟨l, S⟩, ⟨tx, X⟩, ⟨ac, A⟩, ⟨kp, K⟩, ⟨sn, N⟩, D⟩ := I
  have H1 : tl_Sh (am_L h 0 9 a) := tl_Sh_L H
  refine ⟨h.2.2.1 0 9, am_L h 0 9 a, am_L (am_L h 0 9 a) 118 17 a, ?_, ?_, tl_Sh_L H1, ⟨l, kS tl_kp_rf S⟩, ⟨tx, kT tl_kp_rf X⟩, ⟨ac, kA tl_kp_rf rfl A⟩, ⟨kp, kK tl_kp_rf K⟩, ⟨sn, kN tl_kp_rf N⟩, ?_⟩
  · unfold mi_X6_seed
    simp only [oc_0 H, tl_bs, oL_0 H, oM_0 H]
  · unfold mi_X7_seed
    have e : (am_L h 0 9 a).2.2.1 118 17 = h.2.2.1 118 17 := by
      show am_u h.2.2.1 0 9 a 118 17 = _
      rw [am_u_ne (by decide)]
    simp only [oc_118 H1, tl_bs, oL_118 H1, oM_118 H1, e]
    rw [show h.2.2.1 0 9 = h.2.2.1 118 17 from D]
  · show am_u (am_u h.2.2.1 0 9 a) 118 17 a 0 9 = am_u (am_u h.2.2.1 0 9 a) 118 17 a 118 17
    rw [am_u_ne (by decide), am_u_eq, am_u_eq]
    simp
theorem e_unsee (I : tl_I h) : tl_st (mi_X6_unsee am_f h 0) (fun h1 => mi_X7_unsee am_f h1 118) := by
  obtain ⟨H, ⟨l, S⟩, ⟨tx, X⟩, ⟨ac, A⟩, ⟨kp, K⟩, ⟨sn, N⟩, D⟩ := I
  have H1 : tl_Sh (am_I h 99 6 0) := tl_Sh_I H
  refine ⟨nI sn.length, am_I h 99 6 0, am_I (am_I h 99 6 0) 118 11 0, ?_, ?_, tl_Sh_I H1, ⟨l, kS (tl_kp_tr (tl_kp_I (by decide)) (tl_kp_I (by decide))) S⟩, ⟨tx, kT (tl_kp_tr (tl_kp_I (by decide)) (tl_kp_I (by decide))) X⟩, ⟨ac, kA (tl_kp_tr (tl_kp_I (by decide)) (tl_kp_I (by decide))) rfl A⟩, ⟨kp, kK (tl_kp_tr (tl_kp_I (by decide)) (tl_kp_I (by decide))) K⟩, ⟨[], Nat.zero_le _, ?_, ?_, fun i c hi => by simp at hi⟩, D⟩
  · unfold mi_X6_unsee
    simp only [oc_0 H, tl_bs, or_0_6 H, oi_99 H, ow_99 H, N.2.1]
  · show mi_X7_unsee am_f _ 118 = _
    unfold mi_X7_unsee
    simp only [oc_118 H1, tl_bs, oi_118 H1, ow_118 H1, tl_I_ne (show (118 : Nat) ≠ 99 by decide), N.2.2.1]
  · rw [tl_I_ne (by decide), tl_I_at, if_pos rfl]; rfl
  · rw [tl_I_at, if_pos rfl]; rfl
end KP
