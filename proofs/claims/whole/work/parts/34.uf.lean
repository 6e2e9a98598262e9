/-- the smallest equivalence that holds the pairs of E -/
def uf_C (E : Nat → Nat → Prop) (x y : Nat) : Prop := ∀ P : Nat → Nat → Prop, (∀ a, P a a) → (∀ a b, P a b → P b a) → (∀ a b c, P a b → P b c → P a c) → (∀ a b, E a b → P a b) → P x y
section UFC
variable {E E2 : Nat → Nat → Prop} {x y z : Nat}
theorem uf_C_rf : uf_C E x x := fun _ h1 _ _ _ => h1 x
theorem uf_C_sy (h : uf_C E x y) : uf_C E y x := fun P h1 h2 h3 h4 => h2 _ _ (h P h1 h2 h3 h4)
theorem uf_C_tr (h : uf_C E x y) (k : uf_C E y z) : uf_C E x z := fun P h1 h2 h3 h4 => h3 _ _ _ (h P h1 h2 h3 h4) (k P h1 h2 h3 h4)
theorem uf_C_in (h : E x y) : uf_C E x y := fun P _ _ _ h4 => h4 _ _ h
theorem uf_C_mono (hE : ∀ a b, E a b → uf_C E2 a b) (h : uf_C E x y) : uf_C E2 x y := h (uf_C E2) (fun _ => uf_C_rf) (fun _ _ => uf_C_sy) (fun _ _ _ => uf_C_tr) hE
end UFC
def uf_it (ov : Nat → Nat) : Nat → Nat → Nat
  | 0, k => k
  | n + 1, k => uf_it ov n (ov k)
def uf_rt (ov : Nat → Nat) (k : Nat) : Nat := uf_it ov 8 k
def uf_sm (g : Nat → Nat) : Nat → Nat
  | 0 => 0
  | n + 1 => uf_sm g n + g n
def uf_up (g : Nat → Nat) (a x : Nat) : Nat → Nat := fun k => if k = a then x else g k
theorem uf_up_at {g : Nat → Nat} {a x : Nat} : uf_up g a x a = x := by simp [uf_up]
theorem uf_up_ne {g : Nat → Nat} {a x k : Nat} (h : k ≠ a) : uf_up g a x k = g k := by simp [uf_up, h]
theorem uf_sm_up (g : Nat → Nat) (a x : Nat) : ∀ n, uf_sm (uf_up g a x) n + (if a < n then g a else 0) = uf_sm g n + (if a < n then x else 0)
  | 0 => by simp [uf_sm]
  | n + 1 => by
    have ih := uf_sm_up g a x n
    unfold uf_sm
    by_cases h1 : a < n
    · rw [if_pos h1, if_pos h1] at ih
      rw [if_pos (by omega), if_pos (by omega), uf_up_ne (by omega)]
      omega
    · rw [if_neg h1, if_neg h1] at ih
      by_cases h2 : a = n
      · subst h2
        rw [if_pos (by omega), if_pos (by omega), uf_up_at]
        omega
      · rw [if_neg (by omega), if_neg (by omega), uf_up_ne (by omega)]
        omega
theorem uf_sm_le (g : Nat → Nat) : ∀ n k, k < n → g k ≤ uf_sm g n
  | 0, k, h => by omega
  | n + 1, k, h => by
    unfold uf_sm
    by_cases h1 : k = n
    · subst h1; omega
    · have := uf_sm_le g n k (by omega)
      omega
theorem uf_sm_ex {g g2 : Nat → Nat} : ∀ n, (∀ k, k < n → g k = g2 k) → uf_sm g n = uf_sm g2 n
  | 0, _ => rfl
  | n + 1, h => by
    unfold uf_sm
    rw [uf_sm_ex n (fun k hk => h k (by omega)), h n (by omega)]
/-- a root's size, else nothing -/
def uf_w (ov sz : Nat → Nat) : Nat → Nat := fun k => if ov k = k then sz k else 0
/-- a forest over eight knots, by sizes -/
def uf_I (ov sz : Nat → Nat) : Prop := (∀ k, k < 8 → ov k < 8 ∧ 1 ≤ sz k ∧ (ov k ≠ k → sz k < sz (ov k))) ∧ uf_sm (uf_w ov sz) 8 = 8
theorem uf_it_fix {ov : Nat → Nat} {k : Nat} (h : ov k = k) : ∀ n, uf_it ov n k = k
  | 0 => rfl
  | n + 1 => by
    show uf_it ov n (ov k) = k
    rw [h]
    exact uf_it_fix h n
theorem uf_it_lt {ov : Nat → Nat} (h : ∀ k, k < 8 → ov k < 8) : ∀ n k, k < 8 → uf_it ov n k < 8
  | 0, k, hk => hk
  | n + 1, k, hk => uf_it_lt h n (ov k) (h k hk)
section UFI
variable {ov sz : Nat → Nat}
theorem uf_sz8 (H : uf_I ov sz) : ∀ n k, k < 8 → n = 8 - sz k → sz k ≤ 8 := by
  have key : ∀ k, k < 8 → ov k = k → sz k ≤ 8 := by
    intro k hk he
    have := uf_sm_le (uf_w ov sz) 8 k hk
    rw [H.2] at this
    simpa [uf_w, he] using this
  -- a chain of more than eight
  have up : ∀ m k, k < 8 → 8 < sz k → 8 + m < sz (uf_it ov m k) ∨ ∃ j, j < 8 ∧ 8 < sz j ∧ ov j = j := by
    intro m
    induction m with
    | zero => intro k hk h; exact Or.inl (by simpa [uf_it] using h)
    | succ m ih =>
      intro k hk h
      by_cases he : ov k = k
      · exact Or.inr ⟨k, hk, h, he⟩
      · have h1 := (H.1 k hk).2.2 he
        have h2 : ∀ m k, k < 8 → sz k + m ≤ sz (uf_it ov m k) ∨ ∃ j, j < 8 ∧ sz k ≤ sz j ∧ ov j = j := by
          intro m
          induction m with
          | zero => intro k _; exact Or.inl (by simp [uf_it])
          | succ m ih2 =>
            intro k hk
            by_cases he : ov k = k
            · exact Or.inr ⟨k, hk, Nat.le_refl _, he⟩
            · have h3 := (H.1 k hk).2.2 he
              rcases ih2 (ov k) (H.1 k hk).1 with h4 | ⟨j, j1, j2, j3⟩
              · exact Or.inl (by show sz k + (m + 1) ≤ sz (uf_it ov m (ov k)); omega)
              · exact Or.inr ⟨j, j1, by omega, j3⟩
        rcases h2 (m + 1) k hk with h4 | ⟨j, j1, j2, j3⟩
        · exact Or.inl (by omega)
        · exact Or.inr ⟨j, j1, by omega, j3⟩
  intro n k hk _
  apply Nat.le_of_not_lt
  intro h
  -- sizes over all knots are bounded, a long chain isn't
  have big := up (uf_sm sz 8) k hk h
  rcases big with h1 | ⟨j, j1, j2, j3⟩
  · have h2 := uf_sm_le sz 8 (uf_it ov (uf_sm sz 8) k) (uf_it_lt (fun k hk => (H.1 k hk).1) _ k hk)
    omega
  · have := key j j1 j3
    omega
theorem uf_s8 (H : uf_I ov sz) {k : Nat} (hk : k < 8) : sz k ≤ 8 := uf_sz8 H _ k hk rfl
theorem uf_fix (H : uf_I ov sz) : ∀ n k, k < 8 → 8 - sz k ≤ n → ov (uf_it ov n k) = uf_it ov n k := by
  intro n
  induction n with
  | zero =>
    intro k hk h
    show ov k = k
    apply Classical.byContradiction
    intro he
    have h1 := (H.1 k hk).2.2 he
    have h2 := uf_s8 H (H.1 k hk).1
    omega
  | succ n ih =>
    intro k hk h
    by_cases he : ov k = k
    · rw [uf_it_fix he]; exact he
    · have h1 := (H.1 k hk).2.2 he
      exact ih (ov k) (H.1 k hk).1 (by omega)
theorem uf_rt_fix (H : uf_I ov sz) {k : Nat} (hk : k < 8) : ov (uf_rt ov k) = uf_rt ov k := uf_fix H 8 k hk (by omega)
theorem uf_rt_lt (H : uf_I ov sz) {k : Nat} (hk : k < 8) : uf_rt ov k < 8 := uf_it_lt (fun k hk => (H.1 k hk).1) 8 k hk
theorem uf_it_add (ov : Nat → Nat) : ∀ n m k, uf_it ov (n + m) k = uf_it ov m (uf_it ov n k)
  | 0, m, k => by rw [Nat.zero_add]; rfl
  | n + 1, m, k => by
    rw [show n + 1 + m = (n + m) + 1 by omega]
    exact uf_it_add ov n m (ov k)
/-- any number of steps that ends at a root gives the root -/
theorem uf_rt_of (H : uf_I ov sz) {k r n : Nat} (hk : k < 8) (h : uf_it ov n k = r) (hr : ov r = r) : uf_rt ov k = r := by
  have h1 : uf_it ov (8 + n) k = uf_rt ov k := by
    rw [uf_it_add]
    exact uf_it_fix (uf_rt_fix H hk) n
  have h2 : uf_it ov (n + 8) k = r := by
    rw [uf_it_add, h]
    exact uf_it_fix hr 8
  rw [← h1, Nat.add_comm, h2]
theorem uf_rt_ov (H : uf_I ov sz) {k : Nat} (hk : k < 8) : uf_rt ov (ov k) = uf_rt ov k := by
  refine (uf_rt_of H hk (n := 9) rfl ?_).symm
  exact uf_rt_fix H (H.1 k hk).1
theorem uf_rt_root {k : Nat} (h : ov k = k) : uf_rt ov k = k := uf_it_fix h 8
/-- a root's size is the greatest of its tree -/
theorem uf_rt_sz (H : uf_I ov sz) : ∀ n k, k < 8 → sz k ≤ sz (uf_it ov n k) := by
  intro n
  induction n with
  | zero => intro k _; exact Nat.le_refl _
  | succ n ih =>
    intro k hk
    by_cases he : ov k = k
    · show sz k ≤ sz (uf_it ov n (ov k))
      rw [he]; exact ih k hk
    · have h1 := (H.1 k hk).2.2 he
      have h2 := ih (ov k) (H.1 k hk).1
      show sz k ≤ sz (uf_it ov n (ov k))
      omega
/-- one root is hung from another that isn't smaller -/
theorem uf_hang (H : uf_I ov sz) {b a : Nat} (hb : b < 8) (ha : a < 8) (rb : ov b = b) (ra : ov a = a) (hn : b ≠ a) (hs : sz b ≤ sz a) : uf_I (uf_up ov b a) (uf_up sz a (sz a + sz b)) := by
  refine ⟨fun k hk => ?_, ?_⟩
  · by_cases h1 : k = b
    · subst h1
      rw [uf_up_at, uf_up_ne hn, uf_up_at]
      have := (H.1 a ha).2.1
      exact ⟨ha, (H.1 k hk).2.1, fun _ => by omega⟩
    · rw [uf_up_ne h1]
      obtain ⟨q1, q2, q3⟩ := H.1 k hk
      by_cases h2 : k = a
      · subst h2
        rw [uf_up_at]
        exact ⟨q1, by omega, fun q => absurd ra q⟩
      · rw [uf_up_ne h2]
        refine ⟨q1, q2, fun q => ?_⟩
        have q4 := q3 q
        by_cases h3 : ov k = a
        · rw [h3, uf_up_at]; rw [h3] at q4; omega
        · rw [uf_up_ne h3]; exact q4
  · have e1 : uf_sm (uf_w (uf_up ov b a) (uf_up sz a (sz a + sz b))) 8 = uf_sm (uf_up (uf_up (uf_w ov sz) b 0) a (sz a + sz b)) 8 := by
      apply uf_sm_ex
      intro k hk
      by_cases h1 : k = a
      · subst h1
        rw [uf_up_at]
        simp [uf_w, uf_up_ne (Ne.symm hn), ra, uf_up_at]
      · rw [uf_up_ne h1]
        by_cases h2 : k = b
        · subst h2
          rw [uf_up_at]
          simp [uf_w, uf_up_at, Ne.symm hn]
        · rw [uf_up_ne h2]
          simp [uf_w, uf_up_ne h2, uf_up_ne h1]
    have e2 := uf_sm_up (uf_up (uf_w ov sz) b 0) a (sz a + sz b) 8
    have e3 := uf_sm_up (uf_w ov sz) b 0 8
    rw [if_pos ha, if_pos ha, uf_up_ne (Ne.symm hn)] at e2
    rw [if_pos hb, if_pos hb] at e3
    have e4 : uf_w ov sz a = sz a := by simp [uf_w, ra]
    have e5 : uf_w ov sz b = sz b := by simp [uf_w, rb]
    rw [e1]
    have e6 := H.2
    rw [e4] at e2
    rw [e5] at e3
    omega
theorem uf_hang_it {b a : Nat} (rb : ov b = b) : ∀ n k, uf_it ov n k ≠ b → uf_it (uf_up ov b a) n k = uf_it ov n k := by
  intro n
  induction n with
  | zero => intro k _; rfl
  | succ n ih =>
    intro k h
    have hk : k ≠ b := by
      intro e
      subst e
      exact h (by show uf_it ov n (ov k) = k; rw [rb]; exact uf_it_fix rb n)
    show uf_it (uf_up ov b a) n (uf_up ov b a k) = uf_it ov n (ov k)
    rw [uf_up_ne hk]
    exact ih (ov k) h
theorem uf_hang_b {b a : Nat} (rb : ov b = b) (ra : ov a = a) (hn : b ≠ a) : ∀ n k, uf_it ov n k = b → ∃ m, uf_it (uf_up ov b a) m k = a := by
  intro n
  induction n with
  | zero => intro k h; exact ⟨1, by show uf_up ov b a k = a; rw [show k = b from h, uf_up_at]⟩
  | succ n ih =>
    intro k h
    by_cases hk : k = b
    · exact ⟨1, by show uf_up ov b a k = a; rw [hk, uf_up_at]⟩
    · obtain ⟨m, hm⟩ := ih (ov k) h
      exact ⟨m + 1, by show uf_it (uf_up ov b a) m (uf_up ov b a k) = a; rw [uf_up_ne hk]; exact hm⟩
theorem uf_hang_rt (H : uf_I ov sz) {b a : Nat} (hb : b < 8) (ha : a < 8) (rb : ov b = b) (ra : ov a = a) (hn : b ≠ a) (hs : sz b ≤ sz a) {k : Nat} (hk : k < 8) : uf_rt (uf_up ov b a) k = if uf_rt ov k = b then a else uf_rt ov k := by
  have H2 := uf_hang H hb ha rb ra hn hs
  have ra2 : uf_up ov b a a = a := by rw [uf_up_ne (Ne.symm hn)]; exact ra
  by_cases h1 : uf_rt ov k = b
  · rw [if_pos h1]
    obtain ⟨m, hm⟩ := uf_hang_b rb ra hn 8 k h1
    exact uf_rt_of H2 hk hm ra2
  · rw [if_neg h1]
    exact uf_hang_it rb 8 k h1
end UFI
