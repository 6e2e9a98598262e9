theorem tl_s31 : ∀ n, n < 32 → ((nI n &&& 31).toBitVec.smod 32).toNat = n := by decide +kernel
theorem tl_shr {n k : Nat} (h : n < 2 ^ 31) (hk : k < 32) : nI n >>> (nI k &&& 31) = nI (n / 2 ^ k) := pk_shrN h _ k (tl_s31 k hk)
theorem tl_tb (n k : Nat) : n.testBit k = decide (n / 2 ^ k % 2 = 1) := Nat.testBit_eq_decide_div_mod_eq
theorem tl_bit {n k : Nat} (h : n < 2 ^ 31) (hk : k < 32) : (nI n >>> (nI k &&& 31)) &&& 1 = nI (if n.testBit k = true then 1 else 0) := by
  rw [tl_shr h hk, il_1, fa_and, Nat.and_one_is_mod, tl_tb]
  by_cases q : n / 2 ^ k % 2 = 1
  · rw [q]; simp
  · have : n / 2 ^ k % 2 = 0 := by omega
    rw [this]; simp
theorem t7_has (f : Nat) (h : am_H) {s k : Nat} (hs : s < 2 ^ 31) (hk : k < 32) : mi_X7_has f h (nI s) (nI k) = some (s.testBit k) := by
  unfold mi_X7_has
  rw [tl_bit hs hk]
  cases s.testBit k
  · rw [if_neg (by decide)]; rfl
  · rw [if_pos (by decide)]; rfl
theorem tl_ite2 {b : Bool} {x : am_H} : ((if b = true then some (true, x) else some (false, x)) : Option (Bool × am_H)) = some (b, x) := by cases b <;> rfl
def qP (l : List Nat) (s t : Nat) : Nat → Bool := fun i => s.testBit i && sV (l.getD i 0) t
def qN (l : List Nat) (n : Nat) : Nat → Bool := fun i => sLi (l.getD i 0) n
theorem uf_fd_t {l : List Nat} {Q : Nat → Bool} {u : uf_S} {n : Nat} (h : Q n = true) : uf_fd l Q u (n + 1) = ((uf_fd l Q u n).1 + (if (uf_j (uf_fd l Q u n).2 (sL (l.getD n 0)) (sH (l.getD n 0))).1 = true then 1 else 0), (uf_j (uf_fd l Q u n).2 (sL (l.getD n 0)) (sH (l.getD n 0))).2) := by
  show (if Q n = true then _ else _) = _
  rw [if_pos h]
theorem uf_fd_f {l : List Nat} {Q : Nat → Bool} {u : uf_S} {n : Nat} (h : Q n = false) : uf_fd l Q u (n + 1) = uf_fd l Q u n := by
  show (if Q n = true then _ else _) = _
  rw [if_neg (by rw [h]; decide)]
theorem uf_n8 (ov : Nat → Nat) : uf_n ov ≤ 8 := tl_N_le _ 8
section MW
variable {l : List Nat} {e t s : Nat}
theorem t7_paL (hw : tl_wf l) (he : e < 2) (ht : t < 16) (hs : s < 65536) {u0 : uf_S} {E0 : Nat → Nat → Prop} (I0 : uf_I u0.1 u0.2) (R0 : uf_R E0 u0.1) : ∀ n j h, tl_Sh h → tl_Mo h e l → tl_Uo h (uf_fd l (qP l s t) u0 j).2 → j ≤ l.length → l.length - j < n →
    ∃ h2, lo_X7_partsBy_11 am_f 118 (nI e) (nI t) (nI s) n (nI (uf_n (uf_fd l (qP l s t) u0 j).2.1)) (nI j) h = some (nI (uf_n (uf_fd l (qP l s t) u0 l.length).2.1), h2) ∧ tl_Uo h2 (uf_fd l (qP l s t) u0 l.length).2 ∧ tl_on [123, 124] h h2 := by
  have h16 := hw.1
  intro n
  induction n with
  | zero => intro j h _ _ _ _ q; omega
  | succ n ih =>
    intro j h H M U hj hn
    rw [lo_X7_partsBy_11.eq_2, t7_many H he M, tl_bs]
    simp only [nI_leI (show l.length < 2 ^ 31 by omega) (show j < 2 ^ 31 by omega)]
    by_cases h1 : l.length ≤ j
    · rw [if_pos h1, show j = l.length by omega]
      rw [show j = l.length by omega] at U
      exact ⟨h, rfl, U, tl_on_rf⟩
    · rw [if_neg h1]
      have hg := tl_gd (l := l) (i := j) (by omega)
      have hv := (tl_wf_at hw hg).2.1
      have ok := uf_fd_ok (Q := qP l s t) hw I0 R0 j (by omega)
      have ok2 := uf_fd_ok (Q := qP l s t) hw I0 R0 (j + 1) (by omega)
      have b1 := uf_n8 (uf_fd l (qP l s t) u0 j).2.1
      simp only [t7_has am_f h (show s < 2 ^ 31 by omega) (show j < 32 by omega), tl_bs, t7_span H he M hg (show j < 16 by omega), t7_V am_f h hv ht]
      by_cases c : qP l s t j = true
      · have c1 : s.testBit j = true ∧ sV (l.getD j 0) t = true := by simpa [qP] using c
        obtain ⟨h2, e1, e2, e3⟩ := t7_join H U ok.1 hv
        simp only [c1.1, c1.2, if_true, e1, tl_bs, tl_ite2]
        have H2 := tl_on_Sh H e3
        have M2 := tl_on_Mo (by decide) e3 M
        rw [uf_fd_t c] at ok2
        have eq : nI (uf_n (uf_fd l (qP l s t) u0 j).2.1) - am_b (uf_j (uf_fd l (qP l s t) u0 j).2 (sL (l.getD j 0)) (sH (l.getD j 0))).1 = nI (uf_n (uf_fd l (qP l s t) u0 (j + 1)).2.1) := by
          have o1 := ok.2.2
          have o2 := ok2.2.2
          rw [uf_fd_t c]
          dsimp only at o2 ⊢
          rw [tl_b, pk_sub (by omega)]
          congr 1
          omega
        rw [eq, il_1, nI_add]
        obtain ⟨h3, f1, f2, f3⟩ := ih (j + 1) h2 H2 M2 (by rw [uf_fd_t c]; exact e2) (by omega) (by omega)
        exact ⟨h3, f1, f2, tl_on_tr e3 f3⟩
      · have c0 : qP l s t j = false := by simpa using c
        have eq : ((if s.testBit j = true then (if sV (l.getD j 0) t = true then Option.bind (mi_X7_joins am_f h 118 (nI (l.getD j 0))) fun (xq8, hq9) => (if xq8 = true then some (true, hq9) else some (false, hq9)) else some (false, h)) else some (false, h)) : Option (Bool × am_H)) = some (false, h) := by
          by_cases d1 : s.testBit j = true
          · rw [if_pos d1]
            by_cases d2 : sV (l.getD j 0) t = true
            · exact absurd (by simp only [qP, d1, d2, Bool.and_self]) c
            · rw [if_neg d2]
          · rw [if_neg d1]
        rw [eq, tl_bs]
        dsimp only
        have e0 : nI (uf_n (uf_fd l (qP l s t) u0 j).2.1) - am_b false = nI (uf_n (uf_fd l (qP l s t) u0 (j + 1)).2.1) := by
          rw [uf_fd_f c0, tl_b, pk_sub (by simp)]
          simp
        rw [e0, il_1, nI_add]
        exact ih (j + 1) h H M (by rw [uf_fd_f c0]; exact U) (by omega) (by omega)
def qA (l : List Nat) (s t : Nat) : uf_S := (uf_fd l (qP l s t) uf_0 l.length).2
theorem qA_ok (hw : tl_wf l) (s t : Nat) : uf_I (qA l s t).1 (qA l s t).2 ∧ uf_R (uf_E (fun _ _ => False) l (qP l s t) l.length) (qA l s t).1 := by
  have := uf_fd_ok (Q := qP l s t) hw uf_0_I uf_0_R l.length (Nat.le_refl _)
  exact ⟨this.1, this.2.1⟩
theorem t7_parts {h : am_H} (H : tl_Sh h) (hw : tl_wf l) (he : e < 2) (M : tl_Mo h e l) (ht : t < 16) (hs : s < 65536) : ∃ h2, mi_X7_partsBy am_f h 118 (nI e) (nI t) (nI s) = some (nI (uf_n (qA l s t).1), h2) ∧ tl_Uo h2 (qA l s t) ∧ tl_on [123, 124] h h2 := by
  obtain ⟨h1, a1, a2, a3⟩ := t7_cl H
  have H1 := tl_on_Sh H a3
  have M1 := tl_on_Mo (by decide) a3 M
  have h16 := hw.1
  obtain ⟨h2, b1, b2, b3⟩ := t7_paL hw he ht hs uf_0_I uf_0_R am_f 0 h1 H1 M1 a2 (Nat.zero_le _) (by unfold am_f; omega)
  refine ⟨h2, ?_, b2, tl_on_tr a3 b3⟩
  unfold mi_X7_partsBy
  rw [oc_118 H, tl_bs, a1, tl_bs]
  exact (congrArg (fun z => Option.bind z fun (q : Int32 × am_H) => some (q.1, q.2)) b1).trans rfl
theorem t7_joined {h : am_H} (H : tl_Sh h) (hw : tl_wf l) (he : e < 2) (M : tl_Mo h e l) (ht : t < 16) (hs : s < 65536) {a b : Nat} (ha : a < 8) (hb : b < 8) : ∃ h2, mi_X7_areJoined am_f h 118 (nI e) (nI a) (nI b) (nI t) (nI s) = some (decide (uf_rt (qA l s t).1 a = uf_rt (qA l s t).1 b), h2) ∧ tl_on [123, 124] h h2 := by
  obtain ⟨h2, b1, b2, b3⟩ := t7_parts H hw he M ht hs
  have H2 := tl_on_Sh H b3
  have I := (qA_ok hw s t).1
  refine ⟨h2, ?_, b3⟩
  unfold mi_X7_areJoined
  have ra := uf_rt_lt I ha
  have rb := uf_rt_lt I hb
  simp only [oc_118 H, tl_bs, b1, t7_rt H2 b2 I ha, t7_rt H2 b2 I hb, nI_eq (show uf_rt (qA l s t).1 a < 2 ^ 31 by omega) (show uf_rt (qA l s t).1 b < 2 ^ 31 by omega)]
  by_cases c : uf_rt (qA l s t).1 a = uf_rt (qA l s t).1 b
  · rw [if_pos c, tl_bs, decide_eq_true c]
  · rw [if_neg c, tl_bs, decide_eq_false c]
end MW
/-- down a node's way: d steps above it first -/
def uf_pa (l : List Nat) (node : Nat) : Nat → uf_S → Nat × uf_S
  | 0, u => uf_fd l (qN l node) u l.length
  | d + 1, u => uf_pa l node d (uf_fd l (qN l (node / 2 ^ (d + 1))) u l.length).2
section MP
variable {l : List Nat}
theorem t7_wnL (hw : tl_wf l) {nd : Nat} (hn : nd < 32) (h1n : 1 ≤ nd) (A : Int32) (B : Int32) {u0 : uf_S} {E0 : Nat → Nat → Prop} (I0 : uf_I u0.1 u0.2) (R0 : uf_R E0 u0.1) : ∀ n j h, tl_Sh h → tl_Mo h 0 l → tl_Uo h (uf_fd l (qN l nd) u0 j).2 → j ≤ l.length → l.length - j < n →
    ∃ h2, lo_X7_walkTo_25 am_f 118 A B (nI nd) n (nI (uf_fd l (qN l nd) u0 j).1) (nI j) h = some (nI (uf_fd l (qN l nd) u0 l.length).1, h2) ∧ tl_Uo h2 (uf_fd l (qN l nd) u0 l.length).2 ∧ tl_on [123, 124] h h2 := by
  have h16 := hw.1
  intro n
  induction n with
  | zero => intro j h _ _ _ _ q; omega
  | succ n ih =>
    intro j h H M U hj hjn
    rw [lo_X7_walkTo_25.eq_2, il_0, t7_many H (by decide) M, tl_bs]
    simp only [nI_leI (show l.length < 2 ^ 31 by omega) (show j < 2 ^ 31 by omega)]
    by_cases h1 : l.length ≤ j
    · rw [if_pos h1, show j = l.length by omega]
      rw [show j = l.length by omega] at U
      exact ⟨h, rfl, U, tl_on_rf⟩
    · rw [if_neg h1]
      have hg := tl_gd (l := l) (i := j) (by omega)
      have hv := (tl_wf_at hw hg).2.1
      have ok := uf_fd_ok (Q := qN l nd) hw I0 R0 j (by omega)
      simp only [tl_bs, t7_span H (show 0 < 2 by decide) M hg (show j < 16 by omega), t7_li h hv hn h1n]
      by_cases c : qN l nd j = true
      · have c1 : sLi (l.getD j 0) nd = true := c
        obtain ⟨h2, e1, e2, e3⟩ := t7_join H U ok.1 hv
        simp only [c1, if_true, e1, tl_bs, tl_ite2]
        have H2 := tl_on_Sh H e3
        have M2 := tl_on_Mo (by decide) e3 M
        have eq : nI (uf_fd l (qN l nd) u0 j).1 + am_b (uf_j (uf_fd l (qN l nd) u0 j).2 (sL (l.getD j 0)) (sH (l.getD j 0))).1 = nI (uf_fd l (qN l nd) u0 (j + 1)).1 := by
          rw [uf_fd_t c, tl_b, nI_add]
        rw [eq, il_1, nI_add]
        obtain ⟨h3, f1, f2, f3⟩ := ih (j + 1) h2 H2 M2 (by rw [uf_fd_t c]; exact e2) (by omega) (by omega)
        exact ⟨h3, f1, f2, tl_on_tr e3 f3⟩
      · have c0 : qN l nd j = false := by simpa using c
        have c1 : ¬ sLi (l.getD j 0) nd = true := c
        rw [if_neg c1, tl_bs]
        dsimp only
        have e0 : nI (uf_fd l (qN l nd) u0 j).1 + am_b false = nI (uf_fd l (qN l nd) u0 (j + 1)).1 := by
          rw [uf_fd_f c0, tl_b, nI_add]
          simp
        rw [e0, il_1, nI_add]
        exact ih (j + 1) h H M (by rw [uf_fd_f c0]; exact U) (by omega) (by omega)
theorem t7_pwL (hw : tl_wf l) {node : Nat} (hn : node < 32) : ∀ d n c u E h, d < n → node / 2 ^ d ≠ 0 → d < 5 → uf_I u.1 u.2 → uf_R E u.1 → tl_Sh h → tl_Mo h 0 l → tl_Uo h u →
    ∃ h2 E2, lo_X7_walkTo_11 am_f 118 (nI node) (n + 1) c (nI d) h = some (nI (uf_pa l node d u).1, h2) ∧ tl_Uo h2 (uf_pa l node d u).2 ∧ tl_on [123, 124] h h2 ∧ uf_I (uf_pa l node d u).2.1 (uf_pa l node d u).2.2 ∧ uf_R E2 (uf_pa l node d u).2.1 := by
  have h16 := hw.1
  intro d
  induction d with
  | zero =>
    intro n c u E h hdn hnz _ I R H M U
    rw [lo_X7_walkTo_11.eq_2]
    rw [if_neg (nI_pos (by decide)), tl_shr (by omega) (by decide)]
    simp only [Nat.pow_zero, Nat.div_one] at hnz ⊢
    obtain ⟨h2, a1, a2, a3⟩ := t7_wnL hw hn (by omega) (nI node) (nI 0) I R am_f 0 h H M U (Nat.zero_le _) (by unfold am_f; omega)
    have ok := uf_fd_ok (Q := qN l node) hw I R l.length (Nat.le_refl _)
    have a1' : lo_X7_walkTo_25 am_f 118 (nI node) (nI 0) (nI node) am_f 0 0 h = some (nI (uf_fd l (qN l node) u l.length).1, h2) := a1
    rw [a1', tl_bs]
    dsimp only
    obtain ⟨m, rfl⟩ : ∃ m, n = m + 1 := ⟨n - 1, by omega⟩
    rw [lo_X7_walkTo_11.eq_2, if_pos (by decide)]
    exact ⟨h2, _, rfl, a2, a3, ok.1, ok.2.1⟩
  | succ d ih =>
    intro n c u E h hdn hnz hd5 I R H M U
    rw [lo_X7_walkTo_11.eq_2]
    rw [if_neg (nI_pos (by omega)), tl_shr (by omega) (by omega)]
    have hlt : node / 2 ^ (d + 1) < 32 := Nat.lt_of_le_of_lt (Nat.div_le_self _ _) hn
    obtain ⟨h2, a1, a2, a3⟩ := t7_wnL hw hlt (Nat.one_le_iff_ne_zero.mpr hnz) (nI node) (nI (d + 1)) I R am_f 0 h H M U (Nat.zero_le _) (by unfold am_f; omega)
    have ok := uf_fd_ok (Q := qN l (node / 2 ^ (d + 1))) hw I R l.length (Nat.le_refl _)
    have a1' : lo_X7_walkTo_25 am_f 118 (nI node) (nI (d + 1)) (nI (node / 2 ^ (d + 1))) am_f 0 0 h = some (nI (uf_fd l (qN l (node / 2 ^ (d + 1))) u l.length).1, h2) := a1
    rw [a1', tl_bs]
    dsimp only
    rw [pk_m1]
    obtain ⟨m, rfl⟩ : ∃ m, n = m + 1 := ⟨n - 1, by omega⟩
    have hnz2 : node / 2 ^ d ≠ 0 := by
      intro q
      apply hnz
      rw [Nat.pow_succ, ← Nat.div_div_eq_div_mul, q]
    obtain ⟨h3, E3, b1, b2, b3, b4, b5⟩ := ih m _ _ _ h2 (by omega) hnz2 (by omega) ok.1 ok.2.1 (tl_on_Sh H a3) (tl_on_Mo (by decide) a3 M) a2
    exact ⟨h3, E3, b1, b2, tl_on_tr a3 b3, b4, b5⟩
theorem nD_lt : ∀ n, n < 32 → nD n < 5 := by decide +kernel
theorem nD_nz : ∀ n, n < 32 → 1 ≤ n → n / 2 ^ nD n ≠ 0 := by decide +kernel
def qW (l : List Nat) (node : Nat) : Nat × uf_S := uf_pa l node (nD node) uf_0
theorem t7_walk {h : am_H} (H : tl_Sh h) (hw : tl_wf l) (M : tl_Mo h 0 l) {node : Nat} (hn : node < 32) (h1 : 1 ≤ node) : ∃ h2, mi_X7_walkTo am_f h 118 (nI node) = some (nI (qW l node).1, h2) ∧ tl_Uo h2 (qW l node).2 ∧ tl_on [123, 124] h h2 ∧ uf_I (qW l node).2.1 (qW l node).2.2 := by
  obtain ⟨h1', a1, a2, a3⟩ := t7_cl H
  obtain ⟨h2, E2, b1, b2, b3, b4, -⟩ := t7_pwL hw hn (nD node) 99999 0 uf_0 _ h1' (by have := nD_lt node hn; omega) (nD_nz node hn h1) (nD_lt node hn) uf_0_I uf_0_R (tl_on_Sh H a3) (tl_on_Mo (by decide) a3 M) a2
  refine ⟨h2, ?_, b2, tl_on_tr a3 b3, b4⟩
  unfold mi_X7_walkTo
  rw [oc_118 H, tl_bs, a1, tl_bs, t7_D h1' hn, tl_bs]
  exact (congrArg (fun z => Option.bind z fun (q : Int32 × am_H) => some (q.1, q.2)) b1).trans rfl
end MP
