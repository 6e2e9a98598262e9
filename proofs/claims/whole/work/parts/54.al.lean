-- the living, by places
def qL (l : List Nat) (t : Nat) : Nat → List Nat
  | 0 => []
  | n + 1 => if sV (l.getD n 0) t = true then qL l t n ++ [n] else qL l t n
theorem qL_t {l : List Nat} {t n : Nat} (h : sV (l.getD n 0) t = true) : qL l t (n + 1) = qL l t n ++ [n] := by
  show (if _ then _ else _) = _
  rw [if_pos h]
theorem qL_f {l : List Nat} {t n : Nat} (h : ¬ sV (l.getD n 0) t = true) : qL l t (n + 1) = qL l t n := by
  show (if _ then _ else _) = _
  rw [if_neg h]
theorem qL_le (l : List Nat) (t : Nat) : ∀ n, (qL l t n).length ≤ n
  | 0 => Nat.le_refl _
  | n + 1 => by
    have := qL_le l t n
    by_cases h : sV (l.getD n 0) t = true
    · rw [qL_t h, List.length_append]; simp; omega
    · rw [qL_f h]; omega
theorem qL_at {l : List Nat} {t : Nat} : ∀ (n j v : Nat), (qL l t n)[j]? = some v → v < n ∧ sV (l.getD v 0) t = true
  | 0, j, v, h => by simp [qL] at h
  | n + 1, j, v, h => by
    by_cases c : sV (l.getD n 0) t = true
    · rw [qL_t c] at h
      rcases tl_appA h with z | ⟨-, rfl⟩
      · have := qL_at n j v z
        exact ⟨by omega, this.2⟩
      · exact ⟨by omega, c⟩
    · rw [qL_f c] at h
      have := qL_at n j v h
      exact ⟨by omega, this.2⟩
theorem qL_of {l : List Nat} {t : Nat} : ∀ (n v : Nat), v < n → sV (l.getD v 0) t = true → ∃ j : Nat, (qL l t n)[j]? = some v
  | 0, v, h, _ => by omega
  | n + 1, v, h, c => by
    by_cases e : v = n
    · subst e
      refine ⟨(qL l t v).length, ?_⟩
      rw [qL_t c, List.getElem?_append_right (Nat.le_refl _), Nat.sub_self]
      rfl
    · obtain ⟨j, hj⟩ := qL_of n v (by omega) c
      by_cases d : sV (l.getD n 0) t = true
      · refine ⟨j, ?_⟩
        rw [qL_t d, List.getElem?_append_left (tl_lt_of hj)]
        exact hj
      · rw [qL_f d]; exact ⟨j, hj⟩
theorem qL_mo {l : List Nat} {t : Nat} : ∀ (n i j u v : Nat), (qL l t n)[i]? = some u → (qL l t n)[j]? = some v → i < j → u < v
  | 0, i, j, u, v, h, _, _ => by simp [qL] at h
  | n + 1, i, j, u, v, h1, h2, hij => by
    by_cases c : sV (l.getD n 0) t = true
    · rw [qL_t c] at h1 h2
      rcases tl_appA h1 with z1 | ⟨e1, rfl⟩
      · rcases tl_appA h2 with z2 | ⟨e2, rfl⟩
        · exact qL_mo _ i j u v z1 z2 hij
        · exact (qL_at _ i u z1).1
      · rcases tl_appA h2 with z2 | ⟨e2, rfl⟩
        · have := tl_lt_of z2; omega
        · omega
    · rw [qL_f c] at h1 h2
      exact qL_mo _ i j u v h1 h2 hij
theorem qL_inj {l : List Nat} {t n i j v : Nat} (h1 : (qL l t n)[i]? = some v) (h2 : (qL l t n)[j]? = some v) : i = j := by
  rcases Nat.lt_trichotomy i j with h | h | h
  · have := qL_mo n i j v v h1 h2 h; omega
  · exact h
  · have := qL_mo n j i v v h2 h1 h; omega
def tl_e (v : Nat) : Nat := 2 ^ sL v ||| 2 ^ sH v
theorem tl_e_tb {v k : Nat} : (tl_e v).testBit k = true ↔ k = sL v ∨ k = sH v := by
  unfold tl_e
  rw [Nat.testBit_or, Bool.or_eq_true, Nat.testBit_two_pow, Nat.testBit_two_pow, decide_eq_true_eq, decide_eq_true_eq]
  omega
theorem tl_e_lt {v : Nat} (hv : v < 16384) : tl_e v < 256 := Nat.or_lt_two_pow (n := 8) (Nat.pow_lt_pow_right (by decide) (sL_lt hv)) (Nat.pow_lt_pow_right (by decide) (sH_lt v))
def tl_Al (h : am_H) (l A : List Nat) : Prop := h.2.1 94 4 = nI A.length ∧ ∀ i v, A[i]? = some v → h.2.1 95 i = nI v ∧ h.2.1 96 i = nI (sL (l.getD v 0)) ∧ h.2.1 97 i = nI (sH (l.getD v 0)) ∧ h.2.1 98 i = nI (tl_e (l.getD v 0))
abbrev tl_as : List Nat := [94, 95, 96, 97, 98]
theorem sp_as : ∀ p ∈ am_sps, ∀ k, k ≤ 4 → p + k ∉ tl_as := by
  have h : ∀ p ∈ am_sps, ∀ k, k < 5 → p + k ∉ tl_as := by decide +kernel
  exact fun p hp k hk => h p hp k (by omega)
theorem tl_s_al : ∀ p ∈ tl_as, tl_scp p = true := by decide
section GA
variable {l : List Nat} {p : Nat}
theorem t1_gaL (hp : p ∈ am_sps) (hw : tl_wf l) {t : Nat} (ht : t < 16) : ∀ n j h, tl_Sh h → tl_Sp h p l → tl_Al h l (qL l t j) → j ≤ l.length → l.length - j < n → ∃ h2, lo_X1_gather_7 am_f 94 p (nI t) n (nI j) h = some h2 ∧ tl_Al h2 l (qL l t l.length) ∧ tl_on tl_as h h2 := by
  have h16 := hw.1
  intro n
  induction n with
  | zero => intro j h _ _ _ _ q; omega
  | succ n ih =>
    intro j h H S A hj hjn
    rw [lo_X1_gather_7.eq_2, n5 H hp S, tl_bs]
    simp only [nI_leI (show l.length < 2 ^ 31 by omega) (show j < 2 ^ 31 by omega)]
    by_cases h1 : l.length ≤ j
    · rw [if_pos h1]
      rw [show j = l.length by omega] at A
      exact ⟨h, rfl, A, tl_on_rf⟩
    · have hg := tl_gd (l := l) (i := j) (by omega)
      have j16 : j < 16 := by omega
      obtain ⟨-, hv, -, -⟩ := tl_wf_at hw hg
      rw [if_neg h1, t5_V H hp S hw hg ht, tl_bs, nI_1]
      by_cases c : sV (l.getD j 0) t = true
      · rw [if_pos c]
        have ml := qL_le l t j
        have m16 : (qL l t j).length < 16 := by omega
        have a4 := A.1
        generalize hm : (qL l t j).length = m at a4 m16 ml
        have o1 : tl_on tl_as h (am_I h 95 m (nI j)) := tl_on_I (by decide)
        have H1 := tl_on_Sh H o1
        have S1 := tl_on_Sp (sp_as p hp) o1 S
        have o2 : tl_on tl_as (am_I h 95 m (nI j)) (am_I (am_I h 95 m (nI j)) 96 m (nI (sL (l.getD j 0)))) := tl_on_I (by decide)
        have H2 := tl_on_Sh H1 o2
        have S2 := tl_on_Sp (sp_as p hp) o2 S1
        have o3 : tl_on tl_as (am_I (am_I h 95 m (nI j)) 96 m (nI (sL (l.getD j 0)))) (am_I (am_I (am_I h 95 m (nI j)) 96 m (nI (sL (l.getD j 0)))) 97 m (nI (sH (l.getD j 0)))) := tl_on_I (by decide)
        have H3 := tl_on_Sh H2 o3
        have S3 := tl_on_Sp (sp_as p hp) o3 S2
        have o4 : tl_on tl_as (am_I (am_I (am_I h 95 m (nI j)) 96 m (nI (sL (l.getD j 0)))) 97 m (nI (sH (l.getD j 0)))) (am_I (am_I (am_I (am_I h 95 m (nI j)) 96 m (nI (sL (l.getD j 0)))) 97 m (nI (sH (l.getD j 0)))) 98 m (nI (tl_e (l.getD j 0)))) := tl_on_I (by decide)
        have H4 := tl_on_Sh H3 o4
        have S4 := tl_on_Sp (sp_as p hp) o4 S3
        have o5 : tl_on tl_as (am_I (am_I (am_I (am_I h 95 m (nI j)) 96 m (nI (sL (l.getD j 0)))) 97 m (nI (sH (l.getD j 0)))) 98 m (nI (tl_e (l.getD j 0)))) (am_I (am_I (am_I (am_I (am_I h 95 m (nI j)) 96 m (nI (sL (l.getD j 0)))) 97 m (nI (sH (l.getD j 0)))) 98 m (nI (tl_e (l.getD j 0)))) 94 4 (nI (m + 1))) := tl_on_I (by decide)
        have H5 := tl_on_Sh H4 o5
        have S5 := tl_on_Sp (sp_as p hp) o5 S4
        have i1 : (am_I h 95 m (nI j)).2.1 94 4 = nI m := by rw [tl_I_ne (by decide)]; exact a4
        have i2 : (am_I (am_I h 95 m (nI j)) 96 m (nI (sL (l.getD j 0)))).2.1 94 4 = nI m := by rw [tl_I_ne (by decide)]; exact i1
        have i3 : (am_I (am_I (am_I h 95 m (nI j)) 96 m (nI (sL (l.getD j 0)))) 97 m (nI (sH (l.getD j 0)))).2.1 94 4 = nI m := by rw [tl_I_ne (by decide)]; exact i2
        have i4 : (am_I (am_I (am_I (am_I h 95 m (nI j)) 96 m (nI (sL (l.getD j 0)))) 97 m (nI (sH (l.getD j 0)))) 98 m (nI (tl_e (l.getD j 0)))).2.1 94 4 = nI m := by rw [tl_I_ne (by decide)]; exact i3
        have ev : ((1 : Int32) <<< (nI (sL (l.getD j 0)) &&& 31)) ||| ((1 : Int32) <<< (nI (sH (l.getD j 0)) &&& 31)) = nI (tl_e (l.getD j 0)) := by
          rw [tl_sh1 _ (Nat.lt_of_lt_of_le (sL_lt hv) (by decide)), tl_sh1 _ (Nat.lt_of_lt_of_le (sH_lt _) (by decide)), fa_or]
          rfl
        rw [or_94_0 H, tl_bs, oi_94 H, tl_bs, a4, as_95 H m16, tl_bs]
        rw [or_94_1 H1, tl_bs, oi_94 H1, tl_bs, i1, r5_0 H1 hp, tl_bs, s5_0 H1 hp S1 hg j16, tl_bs, as_96 H1 m16, tl_bs]
        rw [or_94_2 H2, tl_bs, oi_94 H2, tl_bs, i2, r5_1 H2 hp, tl_bs, s5_1 H2 hp S2 hg j16, tl_bs, as_97 H2 m16, tl_bs]
        rw [or_94_3 H3, tl_bs, oi_94 H3, tl_bs, i3, r5_0 H3 hp, tl_bs, s5_0 H3 hp S3 hg j16, tl_bs, r5_1 H3 hp, tl_bs, s5_1 H3 hp S3 hg j16, tl_bs, ev, as_98 H3 m16, tl_bs]
        rw [oi_94 H4, tl_bs, i4, nI_1, ow_94 H4, tl_bs, tl_bs]
        have A5 : tl_Al (am_I (am_I (am_I (am_I (am_I h 95 m (nI j)) 96 m (nI (sL (l.getD j 0)))) 97 m (nI (sH (l.getD j 0)))) 98 m (nI (tl_e (l.getD j 0)))) 94 4 (nI (m + 1))) l (qL l t (j + 1)) := by
          rw [qL_t c]
          refine ⟨by rw [tl_I_at, if_pos rfl, List.length_append, hm]; rfl, fun i v hi => ?_⟩
          have e95 : (am_I (am_I (am_I (am_I (am_I h 95 m (nI j)) 96 m (nI (sL (l.getD j 0)))) 97 m (nI (sH (l.getD j 0)))) 98 m (nI (tl_e (l.getD j 0)))) 94 4 (nI (m + 1))).2.1 95 i = if i = m then nI j else h.2.1 95 i := by
            rw [tl_I_ne (by decide), tl_I_ne (by decide), tl_I_ne (by decide), tl_I_ne (by decide), tl_I_at]
          have e96 : (am_I (am_I (am_I (am_I (am_I h 95 m (nI j)) 96 m (nI (sL (l.getD j 0)))) 97 m (nI (sH (l.getD j 0)))) 98 m (nI (tl_e (l.getD j 0)))) 94 4 (nI (m + 1))).2.1 96 i = if i = m then nI (sL (l.getD j 0)) else h.2.1 96 i := by
            rw [tl_I_ne (by decide), tl_I_ne (by decide), tl_I_ne (by decide), tl_I_at, tl_I_ne (by decide)]
          have e97 : (am_I (am_I (am_I (am_I (am_I h 95 m (nI j)) 96 m (nI (sL (l.getD j 0)))) 97 m (nI (sH (l.getD j 0)))) 98 m (nI (tl_e (l.getD j 0)))) 94 4 (nI (m + 1))).2.1 97 i = if i = m then nI (sH (l.getD j 0)) else h.2.1 97 i := by
            rw [tl_I_ne (by decide), tl_I_ne (by decide), tl_I_at, tl_I_ne (by decide), tl_I_ne (by decide)]
          have e98 : (am_I (am_I (am_I (am_I (am_I h 95 m (nI j)) 96 m (nI (sL (l.getD j 0)))) 97 m (nI (sH (l.getD j 0)))) 98 m (nI (tl_e (l.getD j 0)))) 94 4 (nI (m + 1))).2.1 98 i = if i = m then nI (tl_e (l.getD j 0)) else h.2.1 98 i := by
            rw [tl_I_ne (by decide), tl_I_at, tl_I_ne (by decide), tl_I_ne (by decide), tl_I_ne (by decide)]
          rw [e95, e96, e97, e98]
          rcases tl_appA hi with z | ⟨e, rfl⟩
          · have := tl_lt_of z
            simp only [if_neg (show ¬ i = m by omega)]
            exact A.2 i v z
          · simp only [if_pos (show i = m by omega)]
            exact ⟨trivial, trivial, trivial, trivial⟩
        obtain ⟨h2, y1, y2, y3⟩ := ih (j + 1) _ H5 S5 A5 (by omega) (by omega)
        exact ⟨h2, y1, y2, tl_on_tr (tl_on_tr (tl_on_tr (tl_on_tr (tl_on_tr o1 o2) o3) o4) o5) y3⟩
      · rw [if_neg c, tl_bs]
        rw [← qL_f c] at A
        exact ih (j + 1) h H S A (by omega) (by omega)
theorem t1_ga {h : am_H} (hp : p ∈ am_sps) (H : tl_Sh h) (S : tl_Sp h p l) (hw : tl_wf l) {t : Nat} (ht : t < 16) : ∃ h2, mi_X1_gather am_f h 94 p (nI t) = some h2 ∧ tl_Al h2 l (qL l t l.length) ∧ tl_on tl_as h h2 := by
  have h16 := hw.1
  have o1 : tl_on tl_as h (am_I h 94 4 0) := tl_on_I (by decide)
  obtain ⟨h2, a1, a2, a3⟩ := t1_gaL hp hw ht am_f 0 _ (tl_on_Sh H o1) (tl_on_Sp (sp_as p hp) o1 S) ⟨by rw [tl_I_at, if_pos rfl]; rfl, fun i v hi => by simp [qL] at hi⟩ (Nat.zero_le _) (by unfold am_f; omega)
  refine ⟨h2, ?_, a2, tl_on_tr o1 a3⟩
  unfold mi_X1_gather
  rw [oc_94 H, tl_bs, ow_94 H, tl_bs]
  exact (congrArg (fun z => Option.bind z fun x => some x) a1).trans rfl
end GA
-- what is reached
def rc1 (e : Nat → Nat) (P : Nat → Bool) (S : Nat) : Nat → Nat
  | 0 => S
  | i + 1 => if P i = true ∧ e i &&& rc1 e P S i ≠ 0 then rc1 e P S i ||| e i else rc1 e P S i
def rcR (pass : Nat → Nat) : Nat → Nat → Nat
  | 0, S => S
  | k + 1, S => if pass S = S then S else rcR pass k (pass S)
section RC
variable {e : Nat → Nat} {P : Nat → Bool}
theorem rc1_up {S k : Nat} (h : S.testBit k = true) : ∀ n, (rc1 e P S n).testBit k = true
  | 0 => h
  | n + 1 => by
    have ih := rc1_up h n
    unfold rc1
    split
    · rw [Nat.testBit_or, ih]; rfl
    · exact ih
theorem rc1_lt {S : Nat} (hS : S < 256) (he : ∀ i, e i < 256) : ∀ n, rc1 e P S n < 256
  | 0 => hS
  | n + 1 => by
    have ih := rc1_lt hS he n
    unfold rc1
    split
    · exact Nat.or_lt_two_pow (n := 8) ih (he n)
    · exact ih
theorem rc1_mo {S n k i : Nat} (h : (rc1 e P S n).testBit k = true) : (rc1 e P S (n + i)).testBit k = true := by
  induction i with
  | zero => exact h
  | succ i ih =>
    show (rc1 e P S (n + i + 1)).testBit k = true
    unfold rc1
    split
    · rw [Nat.testBit_or, ih]; rfl
    · exact ih
theorem tl_sub_eq {S T : Nat} (h1 : ∀ k, S.testBit k = true → T.testBit k = true) (h2 : ∀ k, T.testBit k = true → S.testBit k = true) : S = T := by
  apply Nat.eq_of_testBit_eq
  intro k
  cases h : S.testBit k with
  | true => exact (h1 k h).symm
  | false =>
    cases q : T.testBit k with
    | false => rfl
    | true => rw [h2 k q] at h; cases h
theorem tl_nz {S : Nat} (h : S ≠ 0) : ∃ k, S.testBit k = true := by
  apply Classical.byContradiction
  intro hn
  apply h
  apply Nat.eq_of_testBit_eq
  intro k
  rw [Nat.zero_testBit, Bool.eq_false_iff]
  exact fun z => hn ⟨k, z⟩
theorem tl_nz_of {S k : Nat} (h : S.testBit k = true) : S ≠ 0 := fun z => by rw [z, Nat.zero_testBit] at h; cases h
theorem rc1_cl {S m : Nat} (h : rc1 e P S m = S) {i : Nat} (hi : i < m) (hP : P i = true) {k k2 : Nat} (h1 : (e i).testBit k = true) (h2 : S.testBit k = true) (h3 : (e i).testBit k2 = true) : S.testBit k2 = true := by
  have c : P i = true ∧ e i &&& rc1 e P S i ≠ 0 := ⟨hP, tl_nz_of (k := k) (by rw [Nat.testBit_and, h1, rc1_up h2]; rfl)⟩
  have s : (rc1 e P S (i + 1)).testBit k2 = true := by
    unfold rc1
    rw [if_pos c, Nat.testBit_or, h3, Bool.or_true]
  have := rc1_mo (i := m - (i + 1)) s
  rw [show i + 1 + (m - (i + 1)) = m by omega, h] at this
  exact this
theorem tl_N_mo {P Q : Nat → Bool} : ∀ n, (∀ k, k < n → P k = true → Q k = true) → tl_N P n ≤ tl_N Q n
  | 0, _ => Nat.le_refl _
  | n + 1, h => by
    have ih := tl_N_mo n (fun k hk => h k (by omega))
    have := h n (by omega)
    unfold tl_N
    by_cases c : P n = true
    · rw [if_pos c, if_pos (this c)]; omega
    · rw [if_neg c]; omega
theorem tl_N_st {P Q : Nat → Bool} : ∀ n k, k < n → (∀ k, k < n → P k = true → Q k = true) → P k = false → Q k = true → tl_N P n < tl_N Q n
  | 0, k, h, _, _, _ => by omega
  | n + 1, k, hk, h, hp, hq => by
    unfold tl_N
    by_cases c : k = n
    · subst c
      have := tl_N_mo k (fun j hj => h j (by omega))
      rw [hp, hq, if_neg (by decide), if_pos rfl]
      omega
    · have ih := tl_N_st n k (by omega) (fun j hj => h j (by omega)) hp hq
      have := h n (by omega)
      by_cases c2 : P n = true
      · rw [if_pos c2, if_pos (this c2)]; omega
      · rw [if_neg c2]; omega
theorem tl_N_full {P : Nat → Bool} : ∀ n, n ≤ tl_N P n → ∀ k, k < n → P k = true
  | 0, _, k, h => by omega
  | n + 1, h, k, hk => by
    have l := tl_N_le P n
    unfold tl_N at h
    by_cases c : P n = true
    · rw [if_pos c] at h
      by_cases q : k = n
      · subst q; exact c
      · exact tl_N_full n (by omega) k (by omega)
    · rw [if_neg c] at h; omega
def rcE (L H : Nat → Nat) (P : Nat → Bool) (m : Nat) : Nat → Nat → Prop := fun x y => ∃ i, i < m ∧ P i = true ∧ x = L i ∧ y = H i
variable {L Hh : Nat → Nat} {m : Nat}
theorem rc1_so (he : ∀ i k, (e i).testBit k = true → k = L i ∨ k = Hh i) {a S : Nat} (hS : ∀ k, S.testBit k = true → uf_C (rcE L Hh P m) a k) : ∀ n, n ≤ m → ∀ k, (rc1 e P S n).testBit k = true → uf_C (rcE L Hh P m) a k
  | 0, _, k, h => hS k h
  | n + 1, hn, k, h => by
    have ih := rc1_so he hS n (by omega)
    unfold rc1 at h
    by_cases c : P n = true ∧ e n &&& rc1 e P S n ≠ 0
    · rw [if_pos c, Nat.testBit_or, Bool.or_eq_true] at h
      rcases h with h | h
      · exact ih k h
      · obtain ⟨j, hj⟩ := tl_nz c.2
        rw [Nat.testBit_and, Bool.and_eq_true] at hj
        have cj := ih j hj.2
        have ed : uf_C (rcE L Hh P m) (L n) (Hh n) := uf_C_in ⟨n, by omega, c.1, rfl, rfl⟩
        have lr : ∀ x y, (x = L n ∨ x = Hh n) → (y = L n ∨ y = Hh n) → uf_C (rcE L Hh P m) x y := by
          rintro x y (rfl | rfl) (rfl | rfl)
          · exact uf_C_rf
          · exact ed
          · exact uf_C_sy ed
          · exact uf_C_rf
        exact uf_C_tr cj (lr j k (he n j hj.1) (he n k h))
    · rw [if_neg c] at h
      exact ih k h
theorem rcR_ok (he : ∀ i k, (e i).testBit k = true → k = L i ∨ k = Hh i) (hl : ∀ i, (e i).testBit (L i) = true ∧ (e i).testBit (Hh i) = true) (hb : ∀ i, e i < 256) (h8 : ∀ i, L i < 8 ∧ Hh i < 8) {a : Nat} : ∀ k S, S < 256 → 8 - k ≤ tl_N (fun j => S.testBit j) 8 → (∀ j, S.testBit j = true → uf_C (rcE L Hh P m) a j) →
    (∀ j, S.testBit j = true → (rcR (fun S => rc1 e P S m) k S).testBit j = true) ∧ rcR (fun S => rc1 e P S m) k S < 256 ∧ (∀ j, (rcR (fun S => rc1 e P S m) k S).testBit j = true → uf_C (rcE L Hh P m) a j) ∧ ∀ x y, rcE L Hh P m x y → (rcR (fun S => rc1 e P S m) k S).testBit x = (rcR (fun S => rc1 e P S m) k S).testBit y := by
  intro k
  induction k with
  | zero =>
    intro S hS hc so
    refine ⟨fun j h => h, hS, so, ?_⟩
    rintro x y ⟨i, i1, i2, rfl, rfl⟩
    show S.testBit (L i) = S.testBit (Hh i)
    have f := tl_N_full 8 (show 8 ≤ tl_N (fun j => S.testBit j) 8 by omega)
    rw [f _ (h8 i).1, f _ (h8 i).2]
  | succ k ih =>
    intro S hS hc so
    unfold rcR
    by_cases c : rc1 e P S m = S
    · rw [if_pos c]
      refine ⟨fun j h => h, hS, so, ?_⟩
      rintro x y ⟨i, i1, i2, rfl, rfl⟩
      cases q : S.testBit (L i) with
      | true => exact (rc1_cl c i1 i2 (hl i).1 q (hl i).2).symm
      | false =>
        cases q2 : S.testBit (Hh i) with
        | false => rfl
        | true => rw [rc1_cl c i1 i2 (hl i).2 q2 (hl i).1] at q; cases q
    · rw [if_neg c]
      have lt := rc1_lt (P := P) hS hb m
      obtain ⟨x, x1, x2⟩ : ∃ x, S.testBit x = false ∧ (rc1 e P S m).testBit x = true := by
        apply Classical.byContradiction
        intro hn
        apply c
        refine tl_sub_eq (fun j hj => ?_) (fun j hj => rc1_up hj m)
        cases q : S.testBit j with
        | true => rfl
        | false => exact absurd ⟨j, q, hj⟩ hn
      have x8 : x < 8 := by
        apply Classical.byContradiction
        intro hn
        have : (rc1 e P S m).testBit x = false := Nat.testBit_lt_two_pow (Nat.lt_of_lt_of_le lt (Nat.pow_le_pow_right (n := 2) (by decide) (show 8 ≤ x by omega)))
        rw [this] at x2
        cases x2
      have gr := tl_N_st (P := fun j => S.testBit j) (Q := fun j => (rc1 e P S m).testBit j) 8 x x8 (fun j _ hj => rc1_up hj m) x1 x2
      obtain ⟨a1, a2, a3, a4⟩ := ih (rc1 e P S m) lt (by omega) (rc1_so he so m (Nat.le_refl _))
      exact ⟨fun j hj => a1 j (rc1_up hj m), a2, a3, a4⟩
theorem rcR_iff (he : ∀ i k, (e i).testBit k = true → k = L i ∨ k = Hh i) (hl : ∀ i, (e i).testBit (L i) = true ∧ (e i).testBit (Hh i) = true) (hb : ∀ i, e i < 256) (h8 : ∀ i, L i < 8 ∧ Hh i < 8) {a b : Nat} (ha : a < 8) : (rcR (fun S => rc1 e P S m) 7 (2 ^ a)).testBit b = true ↔ uf_C (rcE L Hh P m) a b := by
  have s0 : (2 ^ a).testBit a = true := by rw [Nat.testBit_two_pow]; exact decide_eq_true rfl
  have one : 1 ≤ tl_N (fun j => (2 ^ a).testBit j) 8 := by
    have := tl_N_st (P := fun _ => false) (Q := fun j => (2 ^ a).testBit j) 8 a ha (fun j _ hj => by cases hj) rfl s0
    omega
  obtain ⟨a1, a2, a3, a4⟩ := rcR_ok (P := P) (m := m) he hl hb h8 (a := a) 7 (2 ^ a) (Nat.pow_lt_pow_right (n := 8) (by decide) ha) (by omega) (fun j hj => by
    rw [Nat.testBit_two_pow, decide_eq_true_eq] at hj
    subst hj
    exact uf_C_rf)
  constructor
  · exact a3 b
  · intro h
    have := h (fun x y => (rcR (fun S => rc1 e P S m) 7 (2 ^ a)).testBit x = (rcR (fun S => rc1 e P S m) 7 (2 ^ a)).testBit y) (fun _ => rfl) (fun _ _ z => z.symm) (fun _ _ _ z1 z2 => z1.trans z2) a4
    rw [← this]
    exact a1 a s0
end RC
section RE
variable {h : am_H} {l A : List Nat}
theorem t1_rpL (H : tl_Sh h) (G : tl_Al h l A) (hA : A.length ≤ 16) {s : Nat} (hs : s < 65536) (hb : ∀ i, tl_e (l.getD (A.getD i 0) 0) < 256) {S : Nat} (hS : S < 256) (x y : Int32) : ∀ n j, j ≤ A.length → A.length - j < n → lo_X1_reach_20 am_f h 94 (nI s) x y n (nI (rc1 (fun i => tl_e (l.getD (A.getD i 0) 0)) (fun i => s.testBit i) S j)) (nI j) = some (nI (rc1 (fun i => tl_e (l.getD (A.getD i 0) 0)) (fun i => s.testBit i) S A.length)) := by
  intro n
  induction n with
  | zero => intro j _ q; omega
  | succ n ih =>
    intro j hj hjn
    rw [lo_X1_reach_20.eq_2, oi_94 H, tl_bs, G.1]
    simp only [nI_leI (show A.length < 2 ^ 31 by omega) (show j < 2 ^ 31 by omega)]
    by_cases h1 : A.length ≤ j
    · rw [if_pos h1, show j = A.length by omega]
    · have hg := tl_gd (l := A) (i := j) (by omega)
      have g98 := (G.2 j _ hg).2.2.2
      have lt := rc1_lt (P := fun i => s.testBit i) hS hb j
      rw [if_neg h1, tl_bit (by omega) (by omega)]
      simp only [or_94_3 H, tl_bs, al_98 H (show j < 16 by omega), g98, nI_1]
      have key : ((if nI (if s.testBit j = true then 1 else 0) = 0 then some (nI (rc1 (fun i => tl_e (l.getD (A.getD i 0) 0)) (fun i => s.testBit i) S j)) else if nI (tl_e (l.getD (A.getD j 0) 0)) &&& nI (rc1 (fun i => tl_e (l.getD (A.getD i 0) 0)) (fun i => s.testBit i) S j) = 0 then some (nI (rc1 (fun i => tl_e (l.getD (A.getD i 0) 0)) (fun i => s.testBit i) S j)) else some (nI (rc1 (fun i => tl_e (l.getD (A.getD i 0) 0)) (fun i => s.testBit i) S j) ||| nI (tl_e (l.getD (A.getD j 0) 0)))) : Option Int32) = some (nI (rc1 (fun i => tl_e (l.getD (A.getD i 0) 0)) (fun i => s.testBit i) S (j + 1))) := by
        have hb' := hb j
        have an := tl_and0 (a := tl_e (l.getD (A.getD j 0) 0)) (b := rc1 (fun i => tl_e (l.getD (A.getD i 0) 0)) (fun i => s.testBit i) S j) (by omega)
        show _ = some (nI (if s.testBit j = true ∧ tl_e (l.getD (A.getD j 0) 0) &&& rc1 (fun i => tl_e (l.getD (A.getD i 0) 0)) (fun i => s.testBit i) S j ≠ 0 then _ else _))
        by_cases c1 : s.testBit j = true
        · rw [if_pos c1, if_neg (show ¬ nI 1 = 0 by decide)]
          by_cases c2 : tl_e (l.getD (A.getD j 0) 0) &&& rc1 (fun i => tl_e (l.getD (A.getD i 0) 0)) (fun i => s.testBit i) S j = 0
          · rw [if_pos (an.mpr c2), if_neg (fun z => z.2 c2)]
          · rw [if_neg (fun z => c2 (an.mp z)), if_pos ⟨c1, c2⟩, fa_or]
        · rw [if_neg c1, if_pos (show nI 0 = 0 by decide), if_neg (fun z => c1 z.1)]
      rw [key, tl_bs]
      exact ih (j + 1) (by omega) (by omega)
theorem t1_rrL (H : tl_Sh h) (G : tl_Al h l A) (hA : A.length ≤ 16) {s : Nat} (hs : s < 65536) (hb : ∀ i, tl_e (l.getD (A.getD i 0) 0) < 256) : ∀ k n S r, S < 256 → r + k = 8 → k < n → lo_X1_reach_7 am_f h 94 (nI s) n (nI S) (nI r) = some (nI (rcR (fun S => rc1 (fun i => tl_e (l.getD (A.getD i 0) 0)) (fun i => s.testBit i) S A.length) k S)) := by
  intro k
  induction k with
  | zero =>
    intro n S r hS hr hn
    obtain ⟨n, rfl⟩ : ∃ q, n = q + 1 := ⟨n - 1, by omega⟩
    rw [lo_X1_reach_7.eq_2, if_pos (by rw [show r = 8 by omega]; decide)]
    rfl
  | succ k ih =>
    intro n S r hS hr hn
    obtain ⟨n, rfl⟩ : ∃ q, n = q + 1 := ⟨n - 1, by omega⟩
    have lt := rc1_lt (P := fun i => s.testBit i) hS hb A.length
    have e := t1_rpL H G hA hs hb hS (nI r) (nI S) am_f 0 (Nat.zero_le _) (by unfold am_f; omega)
    rw [lo_X1_reach_7.eq_2]
    simp only [il_8, nI_leI (show 8 < 2 ^ 31 by decide) (show r < 2 ^ 31 by omega)]
    rw [if_neg (by omega), show lo_X1_reach_20 am_f h 94 (nI s) (nI r) (nI S) am_f (nI S) 0 = _ from e, tl_bs]
    simp only [nI_eq (show rc1 (fun i => tl_e (l.getD (A.getD i 0) 0)) (fun i => s.testBit i) S A.length < 2 ^ 31 by omega) (show S < 2 ^ 31 by omega)]
    show _ = some (nI (if rc1 (fun i => tl_e (l.getD (A.getD i 0) 0)) (fun i => s.testBit i) S A.length = S then S else _))
    by_cases c : rc1 (fun i => tl_e (l.getD (A.getD i 0) 0)) (fun i => s.testBit i) S A.length = S
    · rw [if_pos c, if_pos c, c]
    · rw [if_neg c, if_neg c, nI_1]
      exact ih n _ (r + 1) lt (by omega) (by omega)
def qRe (l A : List Nat) (s a : Nat) : Nat := rcR (fun S => rc1 (fun i => tl_e (l.getD (A.getD i 0) 0)) (fun i => s.testBit i) S A.length) 7 (2 ^ a)
theorem qG_lt (hw : tl_wf l) (i : Nat) : l.getD i 0 < 16384 := by
  by_cases c : i < l.length
  · exact (tl_wf_at hw (tl_gd c)).2.1
  · rw [List.getD_eq_getElem?_getD, List.getElem?_eq_none (by omega)]; decide
theorem t1_re (H : tl_Sh h) (G : tl_Al h l A) (hw : tl_wf l) (hA : A.length ≤ 16) {s a : Nat} (hs : s < 65536) (ha : a < 8) : mi_X1_reach am_f h 94 (nI a) (nI s) = some (nI (qRe l A s a)) := by
  have hb : ∀ i, tl_e (l.getD (A.getD i 0) 0) < 256 := fun i => tl_e_lt (qG_lt hw _)
  unfold mi_X1_reach qRe
  rw [oc_94 H, tl_bs, tl_sh1 a (by omega), il_1, t1_rrL H G hA hs hb 7 am_f (2 ^ a) 1 (Nat.pow_lt_pow_right (n := 8) (by decide) ha) (by omega) (by decide), tl_bs]
/-- reached is joined, where a set of places is a set of numbers -/
theorem qRe_iff (hw : tl_wf l) {t : Nat} {s s2 : Nat} (hs : ∀ (j v : Nat), (qL l t l.length)[j]? = some v → s.testBit j = s2.testBit v) {a b : Nat} (ha : a < 8) (hb : b < 8) : (qRe l (qL l t l.length) s a).testBit b = true ↔ uf_rt (qA l s2 t).1 a = uf_rt (qA l s2 t).1 b := by
  have ok := qA_ok hw s2 t
  rw [uf_R_iff ok.1 ok.2 ha hb]
  have z := rcR_iff (e := fun i => tl_e (l.getD ((qL l t l.length).getD i 0) 0)) (P := fun i => s.testBit i) (L := fun i => sL (l.getD ((qL l t l.length).getD i 0) 0)) (Hh := fun i => sH (l.getD ((qL l t l.length).getD i 0) 0)) (m := (qL l t l.length).length) (fun i k q => tl_e_tb.mp q) (fun i => ⟨tl_e_tb.mpr (Or.inl rfl), tl_e_tb.mpr (Or.inr rfl)⟩) (fun i => tl_e_lt (qG_lt hw _)) (fun i => ⟨sL_lt (qG_lt hw _), sH_lt _⟩) (b := b) ha
  unfold qRe
  rw [z]
  constructor
  · refine uf_C_mono ?_
    rintro x y ⟨i, i1, i2, rfl, rfl⟩
    have hg := tl_gd (l := qL l t l.length) (i := i) i1
    have q := qL_at _ _ _ hg
    refine uf_C_in (Or.inr ⟨_, q.1, ?_, rfl, rfl⟩)
    unfold qP
    rw [← hs _ _ hg, Bool.and_eq_true]
    exact ⟨i2, q.2⟩
  · refine uf_C_mono ?_
    rintro x y (q | ⟨v, v1, v2, rfl, rfl⟩)
    · exact q.elim
    · unfold qP at v2
      rw [Bool.and_eq_true] at v2
      obtain ⟨j, hj⟩ := qL_of l.length v v1 v2.2
      refine uf_C_in ⟨j, tl_lt_of hj, ?_, ?_, ?_⟩
      · dsimp only
        rw [hs j v hj]; exact v2.1
      · dsimp only
        rw [List.getD_eq_getElem?_getD (l := qL l t l.length), hj]; rfl
      · dsimp only
        rw [List.getD_eq_getElem?_getD (l := qL l t l.length), hj]; rfl
theorem qRe_lt (hw : tl_wf l) {s a : Nat} (ha : a < 8) : qRe l A s a < 256 := by
  have s0 : (2 ^ a).testBit a = true := by rw [Nat.testBit_two_pow]; exact decide_eq_true rfl
  have one : 1 ≤ tl_N (fun j => (2 ^ a).testBit j) 8 := by
    have := tl_N_st (P := fun _ => false) (Q := fun j => (2 ^ a).testBit j) 8 a ha (fun j _ hj => by cases hj) rfl s0
    omega
  exact (rcR_ok (e := fun i => tl_e (l.getD (A.getD i 0) 0)) (P := fun i => s.testBit i) (L := fun i => sL (l.getD (A.getD i 0) 0)) (Hh := fun i => sH (l.getD (A.getD i 0) 0)) (m := A.length) (fun i k q => tl_e_tb.mp q) (fun i => ⟨tl_e_tb.mpr (Or.inl rfl), tl_e_tb.mpr (Or.inr rfl)⟩) (fun i => tl_e_lt (qG_lt hw _)) (fun i => ⟨sL_lt (qG_lt hw _), sH_lt _⟩) (a := a) 7 (2 ^ a) (Nat.pow_lt_pow_right (n := 8) (by decide) ha) (by omega) (fun j hj => by
    rw [Nat.testBit_two_pow, decide_eq_true_eq] at hj
    subst hj
    exact uf_C_rf)).2.1
theorem t1_aj (H : tl_Sh h) {t : Nat} (G : tl_Al h l (qL l t l.length)) (hw : tl_wf l) {s s2 : Nat} (hs : s < 65536) (hs2 : ∀ (j v : Nat), (qL l t l.length)[j]? = some v → s.testBit j = s2.testBit v) {a b : Nat} (ha : a < 8) (hb : b < 8) : mi_X1_areJoined am_f h 94 (nI a) (nI b) (nI s) = some (decide (uf_rt (qA l s2 t).1 a = uf_rt (qA l s2 t).1 b)) := by
  have hA : (qL l t l.length).length ≤ 16 := Nat.le_trans (qL_le l t _) hw.1
  have lt := qRe_lt (A := qL l t l.length) (s := s) hw ha
  unfold mi_X1_areJoined
  rw [oc_94 H, tl_bs, t1_re H G hw hA hs ha, tl_bs, tl_bit (by omega) (by omega)]
  by_cases c : (qRe l (qL l t l.length) s a).testBit b = true
  · rw [if_pos c, if_neg (show ¬ nI 1 = 0 by decide), tl_bs, decide_eq_true ((qRe_iff hw hs2 ha hb).mp c)]
  · rw [if_neg c, if_pos (show nI 0 = 0 by decide), tl_bs, decide_eq_false (fun z => c ((qRe_iff hw hs2 ha hb).mpr z))]
end RE
