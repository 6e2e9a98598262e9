-- one span more
section AP
variable {l : List Nat} {v s t : Nat}
theorem tl_gda {i : Nat} (hi : i < l.length) : (l ++ [v]).getD i 0 = l.getD i 0 := by
  rw [List.getD_eq_getElem?_getD, List.getD_eq_getElem?_getD, List.getElem?_append_left hi]
theorem tl_gdz : (l ++ [v]).getD l.length 0 = v := by
  rw [List.getD_eq_getElem?_getD, List.getElem?_append_right (Nat.le_refl _), Nat.sub_self]
  rfl
theorem qP_app {i : Nat} (hi : i < l.length) : qP (l ++ [v]) s t i = qP l s t i := by
  unfold qP
  rw [tl_gda hi]
theorem uf_fd_app {u : uf_S} : ∀ n, n ≤ l.length → uf_fd (l ++ [v]) (qP (l ++ [v]) s t) u n = uf_fd l (qP l s t) u n
  | 0, _ => rfl
  | n + 1, h => by
    have ih := uf_fd_app (u := u) n (by omega)
    have e := qP_app (v := v) (s := s) (t := t) (l := l) (i := n) (by omega)
    by_cases c : qP l s t n = true
    · rw [uf_fd_t (e.trans c), uf_fd_t c, ih, tl_gda (by omega)]
    · have c0 : qP l s t n = false := Bool.eq_false_iff.mpr c
      rw [uf_fd_f (e.trans c0), uf_fd_f c0, ih]
theorem uf_j_rt {u : uf_S} {a b x y : Nat} (I : uf_I u.1 u.2) (ha : a < 8) (hb : b < 8) (hx : x < 8) (hy : y < 8) : uf_rt (uf_j u a b).2.1 x = uf_rt (uf_j u a b).2.1 y ↔ uf_rt u.1 x = uf_rt u.1 y ∨ (uf_rt u.1 x = uf_rt u.1 a ∧ uf_rt u.1 y = uf_rt u.1 b) ∨ (uf_rt u.1 x = uf_rt u.1 b ∧ uf_rt u.1 y = uf_rt u.1 a) := by
  have fa := uf_rt_fix I ha
  have fb := uf_rt_fix I hb
  have la := uf_rt_lt I ha
  have lb := uf_rt_lt I hb
  unfold uf_j
  by_cases h : uf_rt u.1 a = uf_rt u.1 b
  · rw [if_pos h]
    constructor
    · intro q; exact Or.inl q
    · rintro (q | ⟨q1, q2⟩ | ⟨q1, q2⟩)
      · exact q
      · exact q1.trans (h.trans q2.symm)
      · exact q1.trans (h.symm.trans q2.symm)
  · rw [if_neg h]
    dsimp only
    unfold uf_jr
    by_cases h2 : u.2 (uf_rt u.1 b) < u.2 (uf_rt u.1 a) ∨ (u.2 (uf_rt u.1 a) = u.2 (uf_rt u.1 b) ∧ uf_rt u.1 a < uf_rt u.1 b)
    · rw [if_pos h2]
      dsimp only
      rw [uf_hang_rt I lb la fb fa (Ne.symm h) (by omega) hx, uf_hang_rt I lb la fb fa (Ne.symm h) (by omega) hy]
      generalize uf_rt u.1 x = X
      generalize uf_rt u.1 y = Y
      generalize uf_rt u.1 a = A at h ⊢
      generalize uf_rt u.1 b = B at h ⊢
      by_cases c1 : X = B <;> by_cases c2 : Y = B
      · rw [if_pos c1, if_pos c2]; omega
      · rw [if_pos c1, if_neg c2]; omega
      · rw [if_neg c1, if_pos c2]; omega
      · rw [if_neg c1, if_neg c2]; omega
    · rw [if_neg h2]
      dsimp only
      rw [uf_hang_rt I la lb fa fb h (by omega) hx, uf_hang_rt I la lb fa fb h (by omega) hy]
      generalize uf_rt u.1 x = X
      generalize uf_rt u.1 y = Y
      generalize uf_rt u.1 a = A at h ⊢
      generalize uf_rt u.1 b = B at h ⊢
      by_cases c1 : X = A <;> by_cases c2 : Y = A
      · rw [if_pos c1, if_pos c2]; omega
      · rw [if_pos c1, if_neg c2]; omega
      · rw [if_neg c1, if_pos c2]; omega
      · rw [if_neg c1, if_neg c2]; omega
theorem qA_app_rt (hw : tl_wf l) (hl : l.length < 16) (hv : v < 16384) {x y : Nat} (hx : x < 8) (hy : y < 8) : uf_rt (qA (l ++ [v]) 65535 t).1 x = uf_rt (qA (l ++ [v]) 65535 t).1 y ↔ uf_rt (qA l 65535 t).1 x = uf_rt (qA l 65535 t).1 y ∨ (sV v t = true ∧ ((uf_rt (qA l 65535 t).1 x = uf_rt (qA l 65535 t).1 (sL v) ∧ uf_rt (qA l 65535 t).1 y = uf_rt (qA l 65535 t).1 (sH v)) ∨ (uf_rt (qA l 65535 t).1 x = uf_rt (qA l 65535 t).1 (sH v) ∧ uf_rt (qA l 65535 t).1 y = uf_rt (qA l 65535 t).1 (sL v)))) := by
  have I := (qA_ok hw 65535 t).1
  have e0 : (l ++ [v]).length = l.length + 1 := by rw [List.length_append]; rfl
  have q : qP (l ++ [v]) 65535 t l.length = sV v t := by
    unfold qP
    rw [tl_gdz, tl_all _ hl, Bool.true_and]
  by_cases c : sV v t = true
  · have e : qA (l ++ [v]) 65535 t = (uf_j (qA l 65535 t) (sL v) (sH v)).2 := by
      show (uf_fd (l ++ [v]) (qP (l ++ [v]) 65535 t) uf_0 (l ++ [v]).length).2 = _
      rw [e0, uf_fd_t (q.trans c), uf_fd_app _ (Nat.le_refl _), tl_gdz]
      rfl
    rw [e, uf_j_rt I (sL_lt hv) (sH_lt v) hx hy]
    simp only [c, true_and]
  · have e : qA (l ++ [v]) 65535 t = qA l 65535 t := by
      show (uf_fd (l ++ [v]) (qP (l ++ [v]) 65535 t) uf_0 (l ++ [v]).length).2 = _
      rw [e0, uf_fd_f (q.trans (Bool.eq_false_iff.mpr c)), uf_fd_app _ (Nat.le_refl _)]
      rfl
    rw [e]
    constructor
    · intro z; exact Or.inl z
    · rintro (z | z)
      · exact z
      · exact absurd z.1 c
end AP
/-- the part of a knot, as bits -/
def qT (l : List Nat) (t a : Nat) : Nat := qRe l (qL l t l.length) (2 ^ (qL l t l.length).length - 1) a
section PT
variable {l : List Nat} {t : Nat}
theorem qT_tb (hw : tl_wf l) {a b : Nat} (ha : a < 8) (hb : b < 8) : (qT l t a).testBit b = true ↔ uf_rt (qA l 65535 t).1 a = uf_rt (qA l 65535 t).1 b := by
  have h16 := hw.1
  exact qRe_iff hw (fun j v hj => by
    have q := qL_at _ _ _ hj
    rw [tl_all1, decide_eq_true (tl_lt_of hj), tl_all v (by omega)]) ha hb
theorem qT_lt (hw : tl_wf l) {a : Nat} (ha : a < 8) : qT l t a < 256 := qRe_lt hw ha
theorem qT_eq (hw : tl_wf l) {a b : Nat} (ha : a < 8) (hb : b < 8) : qT l t a = qT l t b ↔ uf_rt (qA l 65535 t).1 a = uf_rt (qA l 65535 t).1 b := by
  constructor
  · intro e
    rw [← qT_tb hw ha hb, e, qT_tb hw hb hb]
  · intro e
    apply Nat.eq_of_testBit_eq
    intro k
    by_cases k8 : k < 8
    · rw [Bool.eq_iff_iff, qT_tb hw ha k8, qT_tb hw hb k8, e]
    · have p : 2 ^ 8 ≤ 2 ^ k := Nat.pow_le_pow_right (by decide) (by omega)
      rw [Nat.testBit_lt_two_pow (Nat.lt_of_lt_of_le (qT_lt hw ha) p), Nat.testBit_lt_two_pow (Nat.lt_of_lt_of_le (qT_lt hw hb) p)]
end PT
def mJ (l : List Nat) (v : Nat) (x : tl_N4) : Bool := decide (uf_rt (qA (l ++ [v]) 65535 x.1).1 x.2.1 = uf_rt (qA (l ++ [v]) 65535 x.1).1 x.2.2.1)
def mA (l : List Nat) (sn : List tl_N4) (v : Nat) : Bool := decide (∀ i, i < sn.length → ∀ x, sn[i]? = some x → mJ l v x = decide (x.2.2.2 = 1))
abbrev tl_la : List Nat := [94, 95, 96, 97, 98, 104, 105]
theorem tl_s_la : ∀ p ∈ tl_la, tl_scp p = true := by decide
def tl_Pt (h : am_H) (l : List Nat) (sn : List tl_N4) (m : Nat) : Prop := ∀ i x, i < m → sn[i]? = some x → h.2.1 104 i = nI (qT l x.1 x.2.1) ∧ h.2.1 105 i = nI (qT l x.1 x.2.2.1)
theorem tl_on_Al {ps : List Nat} {h h2 : am_H} {l A : List Nat} (hp : ∀ p ∈ tl_as, p ∉ ps) (k : tl_on ps h h2) (G : tl_Al h l A) : tl_Al h2 l A := by
  refine ⟨by rw [k.2.2.2 94 (hp 94 (by decide))]; exact G.1, fun i v hi => ?_⟩
  rw [k.2.2.2 95 (hp 95 (by decide)), k.2.2.2 96 (hp 96 (by decide)), k.2.2.2 97 (hp 97 (by decide)), k.2.2.2 98 (hp 98 (by decide))]
  exact G.2 i v hi
theorem tl_sn_gd {sn : List tl_N4} {j : Nat} (hj : j < sn.length) : ∃ x, sn[j]? = some x := ⟨sn[j], List.getElem?_eq_getElem hj⟩
section LA
variable {l : List Nat} {sn : List tl_N4}
theorem t4_laL (hw : tl_wf l) : ∀ n j h, tl_Sh h → tl_Sp h 7 l → tl_PN h sn → tl_Pt h l sn j → j ≤ sn.length → sn.length - j < n → ∃ h2, lo_X4_lookAt_2 am_f 99 7 94 n (nI j) h = some h2 ∧ tl_Pt h2 l sn sn.length ∧ tl_on tl_la h h2 := by
  have h16 := hw.1
  intro n
  induction n with
  | zero => intro j h _ _ _ _ _ q; omega
  | succ n ih =>
    intro j h H S N P hj hjn
    have n6 := N.1
    rw [lo_X4_lookAt_2.eq_2, oi_99 H, tl_bs, N.2.1]
    simp only [nI_leI (show sn.length < 2 ^ 31 by omega) (show j < 2 ^ 31 by omega)]
    by_cases h1 : sn.length ≤ j
    · rw [if_pos h1]
      have e : j = sn.length := by omega
      subst e
      exact ⟨h, rfl, P, tl_on_rf⟩
    · obtain ⟨x, hx⟩ := tl_sn_gd (show j < sn.length by omega)
      have j6 : j < 6 := by omega
      obtain ⟨⟨x1, x2, x3, x4⟩, ⟨y1, y2, y3, y4⟩, -⟩ := N.2.2.2 j x hx
      obtain ⟨h2, a1, a2, a3⟩ := t1_ga (h := h) tl_sps7 H S hw x1
      have H2 := tl_on_Sh H a3
      have hA : (qL l x.1 l.length).length ≤ 16 := Nat.le_trans (qL_le l x.1 _) h16
      have al : 2 ^ (qL l x.1 l.length).length - 1 < 65536 := by have := tl_p16 hA; have := Nat.two_pow_pos (qL l x.1 l.length).length; omega
      have z2 : h2.2.1 101 j = nI x.2.1 := by rw [a3.2.2.2 101 (by decide)]; exact y2
      have o3 : tl_on tl_la h2 (am_I h2 104 j (nI (qT l x.1 x.2.1))) := tl_on_I (by decide)
      have G3 : tl_Al (am_I h2 104 j (nI (qT l x.1 x.2.1))) l (qL l x.1 l.length) := tl_on_Al (ps := [104]) (by decide) (tl_on_I (by decide)) a2
      have H3 := tl_on_Sh H2 o3
      have z3 : (am_I h2 104 j (nI (qT l x.1 x.2.1))).2.1 102 j = nI x.2.2.1 := by rw [tl_I_ne (by decide), a3.2.2.2 102 (by decide)]; exact y3
      have r2 : mi_X1_reach am_f h2 94 (nI x.2.1) (nI (2 ^ (qL l x.1 l.length).length - 1)) = some (nI (qT l x.1 x.2.1)) := t1_re H2 a2 hw hA al x2
      have r3 : mi_X1_reach am_f (am_I h2 104 j (nI (qT l x.1 x.2.1))) 94 (nI x.2.2.1) (nI (2 ^ (qL l x.1 l.length).length - 1)) = some (nI (qT l x.1 x.2.2.1)) := t1_re H3 G3 hw hA al x3
      rw [if_neg h1, or_99_0 H, tl_bs, al_100 H j6, tl_bs, y1, a1, tl_bs, or_99_4 H2, tl_bs, or_99_1 H2, tl_bs, al_101 H2 j6, tl_bs, z2, t1_all H2 a2 hA, tl_bs, r2, tl_bs, as_104 H2 j6, tl_bs, or_99_5 H3, tl_bs, or_99_2 H3, tl_bs, al_102 H3 j6, tl_bs, z3, t1_all H3 G3 hA, tl_bs, r3, tl_bs, as_105 H3 j6, tl_bs, nI_1]
      have o4 : tl_on tl_la (am_I h2 104 j (nI (qT l x.1 x.2.1))) (am_I (am_I h2 104 j (nI (qT l x.1 x.2.1))) 105 j (nI (qT l x.1 x.2.2.1))) := tl_on_I (by decide)
      have o2 : tl_on tl_la h h2 := tl_on_w (by decide) a3
      have oo := tl_on_tr (tl_on_tr o2 o3) o4
      obtain ⟨h5, b1, b2, b3⟩ := ih (j + 1) _ (tl_on_Sh H oo) (tl_on_Sp (by decide) oo S) (tl_fr_PN (tl_on_fr tl_s_la oo) N) (fun i w i1 i2 => by
        rw [tl_I_ne (by decide), tl_I_at, tl_I_at, tl_I_ne (by decide), a3.2.2.2 104 (by decide), a3.2.2.2 105 (by decide)]
        by_cases c : i = j
        · subst c
          rw [hx] at i2
          cases i2
          rw [if_pos rfl, if_pos rfl]
          exact ⟨rfl, rfl⟩
        · rw [if_neg c, if_neg c]
          exact P i w (by omega) i2) (by omega) (by omega)
      exact ⟨h5, b1, b2, tl_on_tr oo b3⟩
theorem t4_la {h : am_H} (H : tl_Sh h) (S : tl_Sp h 7 l) (hw : tl_wf l) (N : tl_PN h sn) : ∃ h2, mi_X4_lookAt am_f h 99 7 94 = some h2 ∧ tl_Pt h2 l sn sn.length ∧ tl_on tl_la h h2 := by
  have n6 := N.1
  obtain ⟨h2, a1, a2, a3⟩ := t4_laL hw am_f 0 h H S N (fun i x hi => by omega) (Nat.zero_le _) (by unfold am_f; omega)
  refine ⟨h2, ?_, a2, a3⟩
  unfold mi_X4_lookAt
  rw [oc_99 H, tl_bs, show lo_X4_lookAt_2 am_f 99 7 94 am_f 0 h = _ from a1, tl_bs]
variable {h : am_H}
theorem t4_ld (H : tl_Sh h) (hw : tl_wf l) (P : tl_Pt h l sn sn.length) {i : Nat} {x : tl_N4} (hi : sn[i]? = some x) (i6 : i < 6) (x2 : x.2.1 < 8) (x3 : x.2.2.1 < 8) {a b : Nat} (ha : a < 8) (hb : b < 8) : mi_X4_leads am_f h 99 (nI i) (nI a) (nI b) = some (decide (uf_rt (qA l 65535 x.1).1 x.2.1 = uf_rt (qA l 65535 x.1).1 a ∧ uf_rt (qA l 65535 x.1).1 x.2.2.1 = uf_rt (qA l 65535 x.1).1 b)) := by
  obtain ⟨p1, p2⟩ := P i x (tl_lt_of hi) hi
  have l1 := qT_lt (t := x.1) hw x2
  have l2 := qT_lt (t := x.1) hw x3
  unfold mi_X4_leads
  rw [oc_99 H, tl_bs, or_99_4 H, tl_bs, al_104 H i6, tl_bs, p1, tl_bit (by omega) (by omega), or_99_5 H, tl_bs, al_105 H i6, tl_bs, p2, tl_bit (by omega) (by omega)]
  by_cases c1 : (qT l x.1 x.2.1).testBit a = true
  · have d1 := (qT_tb hw x2 ha).mp c1
    rw [if_pos c1, if_neg (show ¬ nI 1 = 0 by decide)]
    by_cases c2 : (qT l x.1 x.2.2.1).testBit b = true
    · have d2 := (qT_tb hw x3 hb).mp c2
      rw [if_pos c2, if_neg (show ¬ nI 1 = 0 by decide), tl_bs]
      exact tl_dt ⟨d1, d2⟩
    · rw [if_neg c2, if_pos (show nI 0 = 0 from rfl), tl_bs]
      exact tl_df (fun z => c2 ((qT_tb hw x3 hb).mpr z.2))
  · rw [if_neg c1, if_pos (show nI 0 = 0 from rfl), tl_bs]
    exact tl_df (fun z => c1 ((qT_tb hw x2 ha).mpr z.1))
theorem t4_jw (H : tl_Sh h) (hw : tl_wf l) (hl : l.length < 16) (N : tl_PN h sn) (P : tl_Pt h l sn sn.length) {i : Nat} {x : tl_N4} (hi : sn[i]? = some x) {a b f g : Nat} (ha : a < 8) (hb : b < 8) (hf : f < 16) (hg : g < 16) : mi_X4_joinedWith am_f h 99 (nI i) (nI a) (nI b) (nI (sX f g)) = some (mJ l (sC a b f g) x) := by
  have i6 : i < 6 := by have := tl_lt_of hi; have := N.1; omega
  obtain ⟨⟨x1, x2, x3, x4⟩, ⟨y1, y2, y3, y4⟩, -⟩ := N.2.2.2 i x hi
  obtain ⟨p1, p2⟩ := P i x (tl_lt_of hi) hi
  have l1 := qT_lt (t := x.1) hw x2
  have l2 := qT_lt (t := x.1) hw x3
  have lx := sX_lt f g
  have ap := qA_app_rt (t := x.1) hw hl (sC_lt ha hb hf hg) x2 x3
  rw [sC_L hb hf hg, sC_H hb hf hg] at ap
  have vs : sV (sC a b f g) x.1 = true ↔ (sX f g).testBit x.1 = true := by
    rw [sX_tb]
    unfold sV
    rw [sC_F hf hg, sC_T hg, decide_eq_true_eq]
    omega
  unfold mi_X4_joinedWith mJ
  rw [oc_99 H, tl_bs, or_99_4 H, tl_bs, al_104 H i6, tl_bs, p1, or_99_5 H, tl_bs, al_105 H i6, tl_bs, p2, or_99_0 H, tl_bs, al_100 H i6, tl_bs, y1, tl_bit (by omega) (by omega), t4_ld H hw P hi i6 x2 x3 ha hb, tl_bs, t4_ld H hw P hi i6 x2 x3 hb ha, tl_bs]
  simp only [nI_eq (show qT l x.1 x.2.1 < 2 ^ 31 by omega) (show qT l x.1 x.2.2.1 < 2 ^ 31 by omega), qT_eq hw x2 x3]
  by_cases c1 : uf_rt (qA l 65535 x.1).1 x.2.1 = uf_rt (qA l 65535 x.1).1 x.2.2.1
  · rw [if_pos c1]
    exact tl_dt (ap.mpr (Or.inl c1))
  · rw [if_neg c1]
    by_cases c2 : (sX f g).testBit x.1 = true
    · rw [if_pos c2, if_neg (show ¬ nI 1 = 0 by decide), tl_iteB]
      by_cases c3 : uf_rt (qA l 65535 x.1).1 x.2.1 = uf_rt (qA l 65535 x.1).1 a ∧ uf_rt (qA l 65535 x.1).1 x.2.2.1 = uf_rt (qA l 65535 x.1).1 b
      · rw [if_pos (decide_eq_true c3), tl_bs]
        exact tl_dt (ap.mpr (Or.inr ⟨vs.mpr c2, Or.inl c3⟩))
      · rw [if_neg (by rw [decide_eq_true_eq]; exact c3), tl_bs]
        by_cases c4 : uf_rt (qA l 65535 x.1).1 x.2.1 = uf_rt (qA l 65535 x.1).1 b ∧ uf_rt (qA l 65535 x.1).1 x.2.2.1 = uf_rt (qA l 65535 x.1).1 a
        · rw [decide_eq_true c4]
          exact tl_dt (ap.mpr (Or.inr ⟨vs.mpr c2, Or.inr c4⟩))
        · rw [decide_eq_false c4]
          refine tl_df (fun z => ?_)
          rcases ap.mp z with q | ⟨-, q | q⟩
          · exact c1 q
          · exact c3 q
          · exact c4 q
    · rw [if_neg c2, if_pos (show nI 0 = 0 from rfl)]
      refine tl_df (fun z => ?_)
      rcases ap.mp z with q | ⟨q, -⟩
      · exact c1 q
      · exact c2 (vs.mp q)
theorem mJ_c {b : Bool} {k : Nat} (hk : k ≤ 1) : (am_b b = nI k) ↔ b = decide (k = 1) := by
  rcases (show k = 0 ∨ k = 1 by omega) with rfl | rfl <;> cases b <;> decide
theorem t4_asL (H : tl_Sh h) (hw : tl_wf l) (hl : l.length < 16) (N : tl_PN h sn) (P : tl_Pt h l sn sn.length) {a b f g : Nat} (ha : a < 8) (hb : b < 8) (hf : f < 16) (hg : g < 16) : ∀ n j, j ≤ sn.length → sn.length - j < n → ∃ w, lo_X4_allSoWith_3 am_f h 99 (nI a) (nI b) (nI (sX f g)) n (nI j) = some w ∧ ((w = .inl () ∧ ∀ (i : Nat) (x : tl_N4), j ≤ i → sn[i]? = some x → mJ l (sC a b f g) x = decide (x.2.2.2 = 1)) ∨ (w = .inr false ∧ ∃ (i : Nat) (x : tl_N4), sn[i]? = some x ∧ ¬ mJ l (sC a b f g) x = decide (x.2.2.2 = 1))) := by
  have n6 := N.1
  intro n
  induction n with
  | zero => intro j _ q; omega
  | succ n ih =>
    intro j hj hjn
    rw [lo_X4_allSoWith_3.eq_2, oi_99 H, tl_bs, N.2.1]
    simp only [nI_leI (show sn.length < 2 ^ 31 by omega) (show j < 2 ^ 31 by omega)]
    by_cases h1 : sn.length ≤ j
    · rw [if_pos h1]
      exact ⟨_, rfl, Or.inl ⟨rfl, fun i x hi e => by have := tl_lt_of e; omega⟩⟩
    · obtain ⟨x, hx⟩ := tl_sn_gd (show j < sn.length by omega)
      obtain ⟨⟨x1, x2, x3, x4⟩, ⟨y1, y2, y3, y4⟩, -⟩ := N.2.2.2 j x hx
      rw [if_neg h1, t4_jw H hw hl N P hx ha hb hf hg, tl_bs, or_99_3 H, tl_bs, al_103 H (by omega), tl_bs, y4]
      simp only [mJ_c x4]
      by_cases c : mJ l (sC a b f g) x = decide (x.2.2.2 = 1)
      · rw [if_pos c, nI_1]
        obtain ⟨w, w1, w2⟩ := ih (j + 1) (by omega) (by omega)
        refine ⟨w, w1, ?_⟩
        rcases w2 with ⟨rfl, w3⟩ | w3
        · refine Or.inl ⟨rfl, fun i y hi e => ?_⟩
          by_cases z : i = j
          · subst z
            rw [hx] at e
            cases e
            exact c
          · exact w3 i y (by omega) e
        · exact Or.inr w3
      · rw [if_neg c]
        exact ⟨_, rfl, Or.inr ⟨rfl, j, x, hx, c⟩⟩
theorem t4_as (H : tl_Sh h) (hw : tl_wf l) (hl : l.length < 16) (N : tl_PN h sn) (P : tl_Pt h l sn sn.length) {a b f g : Nat} (ha : a < 8) (hb : b < 8) (hf : f < 16) (hg : g < 16) : mi_X4_allSoWith am_f h 99 (nI a) (nI b) (nI (sX f g)) = some (mA l sn (sC a b f g)) := by
  have n6 := N.1
  obtain ⟨w, w1, w2⟩ := t4_asL H hw hl N P ha hb hf hg am_f 0 (Nat.zero_le _) (by unfold am_f; omega)
  unfold mi_X4_allSoWith mA
  rw [oc_99 H, tl_bs, show lo_X4_allSoWith_3 am_f h 99 (nI a) (nI b) (nI (sX f g)) am_f 0 = some w from w1, tl_bs]
  rcases w2 with ⟨rfl, w3⟩ | ⟨rfl, i, x, w3, w4⟩
  · exact tl_dt (fun i _ x hx => w3 i x (Nat.zero_le _) hx)
  · exact tl_df (fun z => w4 (z i (tl_lt_of w3) x w3))
end LA
