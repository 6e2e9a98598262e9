-- sides as the reference finds them: 2 is none yet
theorem uf_up_id {g : Nat → Nat} {a : Nat} : uf_up g a (g a) = g := by
  funext k
  unfold uf_up
  split
  · rename_i e; rw [e]
  · rfl
def sd_sp (σ : Nat → Nat) (a b : Nat) : Nat → Nat := if σ a ≠ 2 ∧ σ b = 2 then uf_up σ b (1 - σ a) else if σ b ≠ 2 ∧ σ a = 2 then uf_up σ a (1 - σ b) else σ
def sd_I (E : Nat → Nat → Prop) (σ : Nat → Nat) : Prop := (∀ k, σ k ≤ 2) ∧ ∀ x y, x < 8 → y < 8 → σ x ≠ 2 → σ y ≠ 2 → uf_C E x y → dC E (2 * x + σ x) (2 * y + σ y)
section SP
variable {E : Nat → Nat → Prop} {σ : Nat → Nat} {a b : Nat}
theorem sd_up (I : sd_I E σ) {c d : Nat} (hd : d < 8) (h2 : σ d ≠ 2) (hc : σ c = 2) (ec : uf_C E d c) (ed : dC E (2 * d + σ d) (2 * c + (1 - σ d))) : sd_I E (uf_up σ c (1 - σ d)) := by
  refine ⟨fun k => ?_, fun x y hx hy x2 y2 xy => ?_⟩
  · unfold uf_up
    split
    · omega
    · exact I.1 k
  · by_cases e1 : x = c
    · subst e1
      rw [uf_up_at]
      by_cases e2 : y = x
      · subst e2
        rw [uf_up_at]
        exact uf_C_rf
      · rw [uf_up_ne e2] at y2 ⊢
        exact uf_C_tr (uf_C_sy ed) (I.2 d y hd hy h2 y2 (uf_C_tr ec xy))
    · rw [uf_up_ne e1] at x2 ⊢
      by_cases e2 : y = c
      · subst e2
        rw [uf_up_at]
        exact uf_C_tr (I.2 x d hx hd x2 h2 (uf_C_tr xy (uf_C_sy ec))) ed
      · rw [uf_up_ne e2] at y2 ⊢
        exact I.2 x y hx hy x2 y2 xy
theorem sp_I (I : sd_I E σ) (ha : a < 8) (hb : b < 8) (e : E a b) : sd_I E (sd_sp σ a b) := by
  have la := I.1 a
  have lb := I.1 b
  unfold sd_sp
  by_cases c1 : σ a ≠ 2 ∧ σ b = 2
  · rw [if_pos c1]
    exact sd_up I ha c1.1 c1.2 (uf_C_in e) (dC_e (by omega) (by omega) (by omega) e)
  · rw [if_neg c1]
    by_cases c2 : σ b ≠ 2 ∧ σ a = 2
    · rw [if_pos c2]
      exact sd_up I hb c2.1 c2.2 (uf_C_sy (uf_C_in e)) (uf_C_sy (dC_e (by omega) (by omega) (by omega) e))
    · rw [if_neg c2]
      exact I
theorem sp_m (h : ∀ k, σ k ≤ 2) {k : Nat} (hk : σ k ≠ 2) : sd_sp σ a b k ≠ 2 := by
  have la := h a
  have lb := h b
  unfold sd_sp
  split
  · unfold uf_up
    split <;> omega
  · split
    · unfold uf_up
      split <;> omega
    · exact hk
theorem sp_le (h : ∀ k, σ k ≤ 2) (k : Nat) : sd_sp σ a b k ≤ 2 := by
  have := h k
  unfold sd_sp
  split
  · unfold uf_up
    split <;> omega
  · split
    · unfold uf_up
      split <;> omega
    · exact h k
theorem sp_b (h : ∀ k, σ k ≤ 2) : sd_sp σ a b a ≠ 2 ↔ sd_sp σ a b b ≠ 2 := by
  have la := h a
  have lb := h b
  unfold sd_sp
  by_cases c1 : σ a ≠ 2 ∧ σ b = 2
  · rw [if_pos c1]
    have : a ≠ b := fun z => by rw [z] at c1; exact c1.1 c1.2
    rw [uf_up_ne this, uf_up_at]
    omega
  · rw [if_neg c1]
    by_cases c2 : σ b ≠ 2 ∧ σ a = 2
    · rw [if_pos c2]
      have : b ≠ a := fun z => by rw [z] at c2; exact c2.1 c2.2
      rw [uf_up_ne this, uf_up_at]
      omega
    · rw [if_neg c2]
      omega
theorem sp_id (h : σ a ≠ 2 ↔ σ b ≠ 2) : sd_sp σ a b = σ := by
  unfold sd_sp
  rw [if_neg (by omega), if_neg (by omega)]
end SP
def spP (l : List Nat) (t : Nat) (σ : Nat → Nat) : Nat → Nat → Nat
  | 0 => σ
  | n + 1 => if sV (l.getD n 0) t = true then sd_sp (spP l t σ n) (sL (l.getD n 0)) (sH (l.getD n 0)) else spP l t σ n
def spR (l : List Nat) (t : Nat) (σ : Nat → Nat) : Nat → Nat → Nat
  | 0 => σ
  | r + 1 => spP l t (spR l t σ r) l.length
def sd_so (l : List Nat) (t : Nat) : Nat → Nat → Nat
  | 0 => fun _ => 2
  | k + 1 => spR l t (uf_up (sd_so l t k) k (if sd_so l t k k = 2 then 0 else sd_so l t k k)) 8
def sd_c (l : List Nat) (t : Nat) (σ : Nat → Nat) : Prop := ∀ i, i < l.length → sV (l.getD i 0) t = true → (σ (sL (l.getD i 0)) ≠ 2 ↔ σ (sH (l.getD i 0)) ≠ 2)
section SR
variable {l : List Nat} {t : Nat} {σ : Nat → Nat}
theorem spP_t {n : Nat} (c : sV (l.getD n 0) t = true) : spP l t σ (n + 1) = sd_sp (spP l t σ n) (sL (l.getD n 0)) (sH (l.getD n 0)) := by
  show (if _ then _ else _) = _
  rw [if_pos c]
theorem spP_f {n : Nat} (c : ¬ sV (l.getD n 0) t = true) : spP l t σ (n + 1) = spP l t σ n := by
  show (if _ then _ else _) = _
  rw [if_neg c]
theorem spP_le (h : ∀ k, σ k ≤ 2) : ∀ n k, spP l t σ n k ≤ 2
  | 0, k => h k
  | n + 1, k => by
    have ih := spP_le h n
    by_cases c : sV (l.getD n 0) t = true
    · rw [spP_t c]; exact sp_le ih k
    · rw [spP_f c]; exact ih k
theorem spP_m (h : ∀ k, σ k ≤ 2) {i : Nat} : ∀ n k, spP l t σ i k ≠ 2 → spP l t σ (i + n) k ≠ 2
  | 0, k, q => q
  | n + 1, k, q => by
    have ih := spP_m h n k q
    show spP l t σ (i + n + 1) k ≠ 2
    by_cases c : sV (l.getD (i + n) 0) t = true
    · rw [spP_t c]; exact sp_m (spP_le h _) ih
    · rw [spP_f c]; exact ih
theorem spP_I (hw : tl_wf l) (I : sd_I (qE l t) σ) : ∀ n, n ≤ l.length → sd_I (qE l t) (spP l t σ n)
  | 0, _ => I
  | n + 1, hn => by
    have ih := spP_I hw I n (by omega)
    have hv := (tl_wf_at hw (tl_gd (l := l) (i := n) (by omega))).2.1
    by_cases c : sV (l.getD n 0) t = true
    · rw [spP_t c]; exact sp_I ih (sL_lt hv) (sH_lt _) ⟨n, by omega, c, rfl, rfl⟩
    · rw [spP_f c]; exact ih
theorem spP_id (h : sd_c l t σ) : ∀ n, n ≤ l.length → spP l t σ n = σ
  | 0, _ => rfl
  | n + 1, hn => by
    have ih := spP_id h n (by omega)
    by_cases c : sV (l.getD n 0) t = true
    · rw [spP_t c, ih]; exact sp_id (h n (by omega) c)
    · rw [spP_f c]; exact ih
theorem spP_gr (hw : tl_wf l) (h : ∀ k, σ k ≤ 2) (hc : ¬ sd_c l t σ) : ∃ k, k < 8 ∧ σ k = 2 ∧ spP l t σ l.length k ≠ 2 := by
  apply Classical.byContradiction
  intro hn
  have hn : ∀ k, k < 8 → spP l t σ l.length k ≠ 2 → σ k ≠ 2 := fun k k1 k2 k3 => hn ⟨k, k1, k3, k2⟩
  apply hc
  intro i hi c
  have hv := (tl_wf_at hw (tl_gd (l := l) (i := i) hi)).2.1
  have b := sp_b (a := sL (l.getD i 0)) (b := sH (l.getD i 0)) (spP_le (l := l) (t := t) h i)
  rw [← spP_t c] at b
  have m0 : ∀ k, σ k ≠ 2 → spP l t σ (i + 1) k ≠ 2 := fun k q => by
    have := spP_m (l := l) (t := t) h (i := 0) (i + 1) k q
    rw [Nat.zero_add] at this
    exact this
  have m1 : ∀ k, spP l t σ (i + 1) k ≠ 2 → spP l t σ l.length k ≠ 2 := fun k q => by
    have := spP_m (l := l) (t := t) h (i := i + 1) (l.length - (i + 1)) k q
    rw [show i + 1 + (l.length - (i + 1)) = l.length by omega] at this
    exact this
  constructor
  · intro q
    exact hn _ (sH_lt _) (m1 _ (b.mp (m0 _ q)))
  · intro q
    exact hn _ (sL_lt hv) (m1 _ (b.mpr (m0 _ q)))
def sd_n (σ : Nat → Nat) : Nat := tl_N (fun k => decide (σ k ≠ 2)) 8
theorem spR_le (h : ∀ k, σ k ≤ 2) : ∀ r k, spR l t σ r k ≤ 2
  | 0, k => h k
  | r + 1, k => spP_le (spR_le h r) l.length k
theorem spR_I (hw : tl_wf l) (I : sd_I (qE l t) σ) : ∀ r, sd_I (qE l t) (spR l t σ r)
  | 0 => I
  | r + 1 => spP_I hw (spR_I hw I r) _ (Nat.le_refl _)
theorem spR_m (h : ∀ k, σ k ≤ 2) : ∀ r k, σ k ≠ 2 → spR l t σ r k ≠ 2
  | 0, k, q => q
  | r + 1, k, q => by
    have ih := spR_m h r k q
    have := spP_m (l := l) (t := t) (spR_le (l := l) (t := t) h r) (i := 0) l.length k ih
    rw [Nat.zero_add] at this
    exact this
theorem spR_c (hw : tl_wf l) (h : ∀ k, σ k ≤ 2) : ∀ r, sd_c l t (spR l t σ r) ∨ sd_n σ + r ≤ sd_n (spR l t σ r)
  | 0 => Or.inr (Nat.le_refl _)
  | r + 1 => by
    have ih := spR_c hw h r
    by_cases c : sd_c l t (spR l t σ r)
    · left
      show sd_c l t (spP l t (spR l t σ r) l.length)
      rw [spP_id c _ (Nat.le_refl _)]
      exact c
    · right
      have ih := ih.resolve_left c
      obtain ⟨k, k8, k2, k3⟩ := spP_gr hw (spR_le (l := l) (t := t) h r) c
      have g := tl_N_st (P := fun k => decide (spR l t σ r k ≠ 2)) (Q := fun k => decide (spR l t σ (r + 1) k ≠ 2)) 8 k k8 (fun j _ hj => by
        rw [decide_eq_true_eq] at hj ⊢
        have := spP_m (l := l) (t := t) (spR_le (l := l) (t := t) h r) (i := 0) l.length j hj
        rw [Nat.zero_add] at this
        exact this) (decide_eq_false (fun z => z k2)) (decide_eq_true k3)
      have g2 : sd_n (spR l t σ r) < sd_n (spR l t σ (r + 1)) := g
      omega
theorem spR_8 (hw : tl_wf l) (h : ∀ k, σ k ≤ 2) {k : Nat} (hk : k < 8) (h2 : σ k ≠ 2) : sd_c l t (spR l t σ 8) := by
  rcases spR_c (t := t) hw h 8 with c | c
  · exact c
  · have g := tl_N_st (P := fun _ => false) (Q := fun k => decide (σ k ≠ 2)) 8 k hk (fun j _ hj => by cases hj) rfl (decide_eq_true h2)
    have g2 : 0 < sd_n σ := Nat.lt_of_le_of_lt (Nat.zero_le _) g
    have le : sd_n (spR l t σ 8) ≤ 8 := tl_N_le _ 8
    omega
theorem so_ok (hw : tl_wf l) : ∀ k, k ≤ 8 → sd_I (qE l t) (sd_so l t k) ∧ sd_c l t (sd_so l t k) ∧ ∀ j, j < k → sd_so l t k j ≠ 2
  | 0, _ => ⟨⟨fun _ => Nat.le_refl _, fun x y _ _ hx => absurd rfl hx⟩, fun _ _ _ => Iff.rfl, fun j hj => by omega⟩
  | k + 1, hk => by
    obtain ⟨i1, i2, i3⟩ := so_ok hw k (by omega)
    have J : sd_I (qE l t) (uf_up (sd_so l t k) k (if sd_so l t k k = 2 then 0 else sd_so l t k k)) := by
      by_cases c : sd_so l t k k = 2
      · rw [if_pos c]
        have cl : ∀ x, uf_C (qE l t) x k → sd_so l t k x = 2 := fun x hx => by
          have z := hx (fun x y => sd_so l t k x ≠ 2 ↔ sd_so l t k y ≠ 2) (fun _ => Iff.rfl) (fun _ _ w => w.symm) (fun _ _ _ w1 w2 => w1.trans w2) (fun a b w => by
            obtain ⟨i, w1, w2, rfl, rfl⟩ := w
            exact i2 i w1 w2)
          apply Classical.byContradiction
          intro q
          exact z.mp q c
        refine ⟨fun j => ?_, fun x y hx hy x2 y2 xy => ?_⟩
        · unfold uf_up
          split
          · exact Nat.zero_le _
          · exact i1.1 j
        · by_cases e1 : x = k
          · by_cases e2 : y = k
            · rw [e1, e2]; exact uf_C_rf
            · rw [uf_up_ne e2] at y2
              rw [e1] at xy
              exact absurd (cl y (uf_C_sy xy)) y2
          · rw [uf_up_ne e1] at x2 ⊢
            by_cases e2 : y = k
            · rw [e2] at xy
              exact absurd (cl x xy) x2
            · rw [uf_up_ne e2] at y2 ⊢
              exact i1.2 x y hx hy x2 y2 xy
      · rw [if_neg c, uf_up_id]
        exact i1
    have d : (uf_up (sd_so l t k) k (if sd_so l t k k = 2 then 0 else sd_so l t k k)) k ≠ 2 := by
      rw [uf_up_at]
      split
      · decide
      · assumption
    refine ⟨spR_I hw J 8, spR_8 hw J.1 (by omega) d, fun j hj => ?_⟩
    apply spR_m J.1
    by_cases e : j = k
    · rw [e]; exact d
    · rw [uf_up_ne e]
      exact i3 j (by omega)
end SR
/-- marks of odd parts -/
def sd_mk (l : List Nat) (t : Nat) (σ : Nat → Nat) (ov : Nat → Nat) : Nat → Nat → Nat
  | 0 => fun _ => 0
  | n + 1 => if sV (l.getD n 0) t = true ∧ σ (sL (l.getD n 0)) = σ (sH (l.getD n 0)) then uf_up (sd_mk l t σ ov n) (uf_rt ov (sL (l.getD n 0))) 1 else sd_mk l t σ ov n
section MK
variable {l : List Nat} {t : Nat} {σ ov : Nat → Nat}
theorem mk_t {n : Nat} (c : sV (l.getD n 0) t = true ∧ σ (sL (l.getD n 0)) = σ (sH (l.getD n 0))) : sd_mk l t σ ov (n + 1) = uf_up (sd_mk l t σ ov n) (uf_rt ov (sL (l.getD n 0))) 1 := by
  show (if _ then _ else _) = _
  rw [if_pos c]
theorem mk_f {n : Nat} (c : ¬ (sV (l.getD n 0) t = true ∧ σ (sL (l.getD n 0)) = σ (sH (l.getD n 0)))) : sd_mk l t σ ov (n + 1) = sd_mk l t σ ov n := by
  show (if _ then _ else _) = _
  rw [if_neg c]
theorem mk_le : ∀ n r, sd_mk l t σ ov n r ≤ 1
  | 0, _ => Nat.zero_le _
  | n + 1, r => by
    have ih := mk_le n r
    by_cases c : sV (l.getD n 0) t = true ∧ σ (sL (l.getD n 0)) = σ (sH (l.getD n 0))
    · rw [mk_t c]
      unfold uf_up
      split
      · exact Nat.le_refl _
      · exact ih
    · rw [mk_f c]; exact ih
theorem mk_iff : ∀ n r, sd_mk l t σ ov n r = 1 ↔ ∃ i, i < n ∧ sV (l.getD i 0) t = true ∧ σ (sL (l.getD i 0)) = σ (sH (l.getD i 0)) ∧ uf_rt ov (sL (l.getD i 0)) = r
  | 0, r => by
    constructor
    · intro h; cases h
    · rintro ⟨i, hi, -⟩; omega
  | n + 1, r => by
    have ih := mk_iff n r
    by_cases c : sV (l.getD n 0) t = true ∧ σ (sL (l.getD n 0)) = σ (sH (l.getD n 0))
    · rw [mk_t c]
      by_cases e : r = uf_rt ov (sL (l.getD n 0))
      · rw [e, uf_up_at]
        constructor
        · intro _; exact ⟨n, by omega, c.1, c.2, rfl⟩
        · intro _; rfl
      · rw [uf_up_ne e, ih]
        constructor
        · rintro ⟨i, h1, h2⟩; exact ⟨i, by omega, h2⟩
        · rintro ⟨i, h1, h2, h3, h4⟩
          by_cases q : i = n
          · subst q; exact absurd h4.symm e
          · exact ⟨i, by omega, h2, h3, h4⟩
    · rw [mk_f c, ih]
      constructor
      · rintro ⟨i, h1, h2⟩; exact ⟨i, by omega, h2⟩
      · rintro ⟨i, h1, h2, h3, h4⟩
        by_cases q : i = n
        · subst q; exact absurd ⟨h2, h3⟩ c
        · exact ⟨i, by omega, h2, h3, h4⟩
variable {sz : Nat → Nat}
theorem mk_odd (hw : tl_wf l) (I : uf_I ov sz) (R : uf_R (qE l t) ov) {σ : Nat → Nat} (S : sd_I (qE l t) σ) (D : ∀ j, j < 8 → σ j ≠ 2) {x : Nat} (hx : x < 8) : sd_mk l t σ ov l.length (uf_rt ov x) = 1 ↔ dC (qE l t) (2 * x) (2 * x + 1) := by
  rw [mk_iff]
  have lx := S.1 x
  have dx := D x hx
  constructor
  · rintro ⟨i, i1, i2, i3, i4⟩
    have hv := (tl_wf_at hw (tl_gd (l := l) (i := i) i1)).2.1
    have L8 := sL_lt hv
    have H8 := sH_lt (l.getD i 0)
    have eE : qE l t (sL (l.getD i 0)) (sH (l.getD i 0)) := ⟨i, i1, i2, rfl, rfl⟩
    have lL := S.1 (sL (l.getD i 0))
    have dL := D _ L8
    have dH := D _ H8
    have Lx : uf_C (qE l t) (sL (l.getD i 0)) x := (uf_R_iff I R L8 hx).mp i4
    have e1 : dC (qE l t) (2 * sL (l.getD i 0) + σ (sL (l.getD i 0))) (2 * sH (l.getD i 0) + (1 - σ (sL (l.getD i 0)))) := dC_e (by omega) (by omega) (by omega) eE
    have e2 := S.2 _ _ L8 H8 dL dH (uf_C_in eE)
    have e3 := S.2 _ _ L8 hx dL dx Lx
    have e4 := S.2 _ _ H8 hx dH dx (uf_C_tr (uf_C_sy (uf_C_in eE)) Lx)
    rw [← i3] at e2 e4
    have e5 : dC (qE l t) (2 * sH (l.getD i 0) + (1 - σ (sL (l.getD i 0)))) (2 * x + (1 - σ x)) := dC_f (by omega) (by omega) e4
    have e6 := uf_C_tr (uf_C_sy e3) (uf_C_tr e1 e5)
    exact dC_t (i2 := 0) (by omega) (by omega) (by omega) (by omega) e6 (by omega)
  · intro h
    apply Classical.byContradiction
    intro hn
    have z := h (fun p q => p = q ∨ (p < 16 ∧ q < 16 ∧ uf_rt ov (p / 2) = uf_rt ov (q / 2) ∧ (uf_rt ov (p / 2) = uf_rt ov x → (σ (p / 2) + p) % 2 = (σ (q / 2) + q) % 2))) (fun _ => Or.inl rfl)
      (by
        rintro a b (rfl | ⟨h1, h2, h3, h4⟩)
        · exact Or.inl rfl
        · exact Or.inr ⟨h2, h1, h3.symm, fun w => (h4 (h3.trans w)).symm⟩)
      (by
        rintro a b c (rfl | ⟨h1, h2, h3, h4⟩) z
        · exact z
        · rcases z with rfl | ⟨k1, k2, k3, k4⟩
          · exact Or.inr ⟨h1, h2, h3, h4⟩
          · exact Or.inr ⟨h1, k2, h3.trans k3, fun w => (h4 w).trans (k4 (h3.symm.trans w))⟩)
      (by
        rintro p q ⟨a, b, e, c⟩
        obtain ⟨a8, b8, e1⟩ := R.2 a b e
        have la := S.1 a
        have lb := S.1 b
        have da := D a a8
        have db := D b b8
        have ne : uf_rt ov a = uf_rt ov x → σ a ≠ σ b := fun w w2 => by
          obtain ⟨i, i1, i2, rfl, rfl⟩ := e
          exact hn ⟨i, i1, i2, w2, w⟩
        right
        rcases c with ⟨rfl, rfl⟩ | ⟨rfl, rfl⟩
        · rw [show 2 * a / 2 = a by omega, show (2 * b + 1) / 2 = b by omega]
          exact ⟨by omega, by omega, e1, fun w => by have := ne w; omega⟩
        · rw [show (2 * a + 1) / 2 = a by omega, show 2 * b / 2 = b by omega]
          exact ⟨by omega, by omega, e1, fun w => by have := ne w; omega⟩)
    rcases z with z | ⟨-, -, -, z⟩
    · omega
    · rw [show 2 * x / 2 = x by omega, show (2 * x + 1) / 2 = x by omega] at z
      have := z rfl
      omega
theorem sd_side {σ : Nat → Nat} {E : Nat → Nat → Prop} (S : sd_I E σ) (D : ∀ j, j < 8 → σ j ≠ 2) {x y : Nat} (hx : x < 8) (hy : y < 8) (xy : uf_C E x y) (no : ¬ dC E (2 * x) (2 * x + 1)) : σ x = σ y ↔ dC E (2 * x) (2 * y) := by
  have lx := S.1 x
  have ly := S.1 y
  have dx := D x hx
  have dy := D y hy
  have e := S.2 x y hx hy dx dy xy
  constructor
  · intro q
    exact dC_t (i := σ x) (j := σ y) (i2 := 0) (j2 := 0) (by omega) (by omega) (by omega) (by omega) e (by omega)
  · intro h
    apply Classical.byContradiction
    intro q
    apply no
    have e2 : dC E (2 * x + 0) (2 * y + 1) := dC_t (i := σ x) (j := σ y) (by omega) (by omega) (by omega) (by omega) e (by omega)
    have e3 : dC E (2 * x + 1) (2 * y + 1) := dC_f (i := 0) (j := 0) (by omega) (by omega) h
    exact uf_C_tr e2 (uf_C_sy e3)
end MK
