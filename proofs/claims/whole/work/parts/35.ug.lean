/-- the forest's trees are the parts of E -/
def uf_R (E : Nat → Nat → Prop) (ov : Nat → Nat) : Prop := (∀ k, k < 8 → uf_C E k (ov k)) ∧ ∀ a b, E a b → a < 8 ∧ b < 8 ∧ uf_rt ov a = uf_rt ov b
def uf_J (E : Nat → Nat → Prop) (a b : Nat) : Nat → Nat → Prop := fun x y => E x y ∨ (x = a ∧ y = b)
section UFR
variable {ov sz : Nat → Nat} {E : Nat → Nat → Prop}
theorem uf_C_it (H : uf_I ov sz) (R : uf_R E ov) : ∀ n k, k < 8 → uf_C E k (uf_it ov n k)
  | 0, k, _ => uf_C_rf
  | n + 1, k, hk => uf_C_tr (R.1 k hk) (uf_C_it H R n (ov k) (H.1 k hk).1)
theorem uf_R_iff (H : uf_I ov sz) (R : uf_R E ov) {x y : Nat} (hx : x < 8) (hy : y < 8) : uf_rt ov x = uf_rt ov y ↔ uf_C E x y := by
  constructor
  · intro h
    have h1 : uf_C E x (uf_rt ov x) := uf_C_it H R 8 x hx
    have h2 : uf_C E y (uf_rt ov y) := uf_C_it H R 8 y hy
    rw [h] at h1
    exact uf_C_tr h1 (uf_C_sy h2)
  · intro h
    have := h (fun x y => x = y ∨ (x < 8 ∧ y < 8 ∧ uf_rt ov x = uf_rt ov y)) (fun _ => Or.inl rfl) (fun a b q => q.imp Eq.symm (fun q => ⟨q.2.1, q.1, q.2.2.symm⟩))
      (fun a b c q1 q2 => by
        rcases q1 with rfl | ⟨a1, a2, a3⟩
        · exact q2
        · rcases q2 with rfl | ⟨b1, b2, b3⟩
          · exact Or.inr ⟨a1, a2, a3⟩
          · exact Or.inr ⟨a1, b2, a3.trans b3⟩)
      (fun a b q => Or.inr (R.2 a b q))
    rcases this with rfl | ⟨-, -, q⟩
    · rfl
    · exact q
theorem uf_C_J {a b x y : Nat} (h : uf_C E x y) : uf_C (uf_J E a b) x y := uf_C_mono (fun _ _ q => uf_C_in (Or.inl q)) h
theorem uf_R_same (R : uf_R E ov) {a b : Nat} (ha : a < 8) (hb : b < 8) (h : uf_rt ov a = uf_rt ov b) : uf_R (uf_J E a b) ov := by
  refine ⟨fun k hk => uf_C_J (R.1 k hk), fun x y q => ?_⟩
  rcases q with q | ⟨rfl, rfl⟩
  · exact R.2 x y q
  · exact ⟨ha, hb, h⟩
theorem uf_R_hang (H : uf_I ov sz) (R : uf_R E ov) {a b u d : Nat} (ha : a < 8) (hb : b < 8) (hd : d < 8) (hu : u < 8) (rd : ov d = d) (ru : ov u = u) (hn : d ≠ u) (hs : sz d ≤ sz u) (hab : (uf_rt ov a = d ∧ uf_rt ov b = u) ∨ (uf_rt ov a = u ∧ uf_rt ov b = d)) : uf_R (uf_J E a b) (uf_up ov d u) := by
  have ca : uf_C (uf_J E a b) a (uf_rt ov a) := uf_C_J (uf_C_it H R 8 a ha)
  have cb : uf_C (uf_J E a b) b (uf_rt ov b) := uf_C_J (uf_C_it H R 8 b hb)
  have cab : uf_C (uf_J E a b) a b := uf_C_in (Or.inr ⟨rfl, rfl⟩)
  refine ⟨fun k hk => ?_, fun x y q => ?_⟩
  · by_cases h1 : k = d
    · subst h1
      rw [uf_up_at]
      rcases hab with ⟨e1, e2⟩ | ⟨e1, e2⟩
      · rw [e1] at ca; rw [e2] at cb
        exact uf_C_tr (uf_C_sy ca) (uf_C_tr cab cb)
      · rw [e1] at ca; rw [e2] at cb
        exact uf_C_tr (uf_C_sy cb) (uf_C_tr (uf_C_sy cab) ca)
    · rw [uf_up_ne h1]
      exact uf_C_J (R.1 k hk)
  · rcases q with q | ⟨rfl, rfl⟩
    · obtain ⟨q1, q2, q3⟩ := R.2 x y q
      refine ⟨q1, q2, ?_⟩
      rw [uf_hang_rt H hd hu rd ru hn hs q1, uf_hang_rt H hd hu rd ru hn hs q2, q3]
    · refine ⟨ha, hb, ?_⟩
      rw [uf_hang_rt H hd hu rd ru hn hs ha, uf_hang_rt H hd hu rd ru hn hs hb]
      rcases hab with ⟨e1, e2⟩ | ⟨e1, e2⟩
      · rw [e1, e2, if_pos rfl, if_neg (Ne.symm hn)]
      · rw [e1, e2, if_pos rfl, if_neg (Ne.symm hn)]
-- how many trees
def uf_n (ov : Nat → Nat) : Nat := tl_N (fun k => decide (ov k = k)) 8
theorem tl_N_ex {P Q : Nat → Bool} : ∀ n, (∀ k, k < n → P k = Q k) → tl_N P n = tl_N Q n
  | 0, _ => rfl
  | n + 1, h => by
    unfold tl_N
    rw [tl_N_ex n (fun k hk => h k (by omega)), h n (by omega)]
theorem tl_N_off {P Q : Nat → Bool} {b : Nat} (hP : P b = true) (hQ : Q b = false) (ho : ∀ k, k ≠ b → P k = Q k) : ∀ n, tl_N Q n + (if b < n then 1 else 0) = tl_N P n
  | 0 => by simp [tl_N]
  | n + 1 => by
    have ih := tl_N_off hP hQ ho n
    unfold tl_N
    by_cases h1 : b = n
    · subst h1
      rw [if_neg (by omega)] at ih
      rw [hP, hQ, if_pos (show b < b + 1 by omega)]
      simp
      omega
    · rw [ho n (Ne.symm h1)]
      by_cases h2 : b < n
      · rw [if_pos h2] at ih
        rw [if_pos (show b < n + 1 by omega)]
        omega
      · rw [if_neg h2] at ih
        rw [if_neg (show ¬ b < n + 1 by omega)]
        omega
theorem uf_n_hang {d u : Nat} (hd : d < 8) (rd : ov d = d) (hn : d ≠ u) : uf_n (uf_up ov d u) + 1 = uf_n ov := by
  have := tl_N_off (P := fun k => decide (ov k = k)) (Q := fun k => decide (uf_up ov d u k = k)) (b := d) (by simp [rd]) (by simp [uf_up_at, Ne.symm hn]) (fun k hk => by simp [uf_up_ne hk]) 8
  rw [if_pos hd] at this
  exact this
theorem tl_pig : ∀ (B C : List Nat), B.Nodup → (∀ x ∈ B, x ∈ C) → B.length ≤ C.length
  | [], _, _, _ => Nat.zero_le _
  | b :: B, C, hn, hs => by
    obtain ⟨h1, h2⟩ := List.nodup_cons.mp hn
    have hb := hs b List.mem_cons_self
    have ih := tl_pig B (C.erase b) h2 (fun x hx => (List.mem_erase_of_ne (show x ≠ b from fun e => h1 (by rw [← e]; exact hx))).mpr (hs x (List.mem_cons_of_mem _ hx)))
    have hl := List.length_erase_of_mem hb
    have hp := List.length_pos_of_mem hb
    simp only [List.length_cons]
    omega
theorem tl_N_len (P : Nat → Bool) : ∀ n, tl_N P n = ((List.range n).filter P).length
  | 0 => rfl
  | n + 1 => by
    rw [List.range_succ, List.filter_append, List.length_append, ← tl_N_len P n]
    show tl_N P n + (if P n = true then 1 else 0) = _
    by_cases h : P n = true
    · simp [h]
    · simp [h]
theorem tl_nodf (Q : Nat → Bool) : ∀ A : List Nat, A.Nodup → (A.filter Q).Nodup
  | [], _ => List.nodup_nil
  | a :: t, h => by
    obtain ⟨h1, h2⟩ := List.nodup_cons.mp h
    have ih := tl_nodf Q t h2
    rw [List.filter_cons]
    split
    · exact List.nodup_cons.mpr ⟨fun q => h1 (List.mem_filter.mp q).1, ih⟩
    · exact ih
theorem tl_inj {A : List Nat} {g : Nat → Nat} (hn : A.Nodup) (hg : ∀ x ∈ A, ∀ y ∈ A, g x = g y → x = y) : (A.map g).Nodup := by
  induction A with
  | nil => exact List.nodup_nil
  | cons a t ih =>
    obtain ⟨h1, h2⟩ := List.nodup_cons.mp hn
    rw [List.map_cons, List.nodup_cons]
    refine ⟨fun hm => ?_, ih h2 (fun x hx y hy => hg x (List.mem_cons_of_mem _ hx) y (List.mem_cons_of_mem _ hy))⟩
    obtain ⟨x, hx, e⟩ := List.mem_map.mp hm
    have := hg x (List.mem_cons_of_mem _ hx) a List.mem_cons_self e
    exact h1 (this ▸ hx)
theorem uf_n_le {ov2 sz2 : Nat → Nat} (H1 : uf_I ov sz) (H2 : uf_I ov2 sz2) (hx : ∀ x y, x < 8 → y < 8 → uf_rt ov2 x = uf_rt ov2 y → uf_rt ov x = uf_rt ov y) : uf_n ov ≤ uf_n ov2 := by
  unfold uf_n
  rw [tl_N_len, tl_N_len]
  have hA : ((List.range 8).filter (fun k => decide (ov k = k))).Nodup := tl_nodf _ _ List.nodup_range
  rw [← List.length_map (f := uf_rt ov2)]
  refine tl_pig _ _ (tl_inj hA (fun x hx1 y hy1 e => ?_)) (fun x hx1 => ?_)
  · have a1 := List.mem_filter.mp hx1
    have a2 := List.mem_filter.mp hy1
    have b1 := List.mem_range.mp a1.1
    have b2 := List.mem_range.mp a2.1
    have := hx x y b1 b2 e
    rwa [uf_rt_root (of_decide_eq_true a1.2), uf_rt_root (of_decide_eq_true a2.2)] at this
  · obtain ⟨z, hz, rfl⟩ := List.mem_map.mp hx1
    have a1 := List.mem_filter.mp hz
    have b1 := List.mem_range.mp a1.1
    exact List.mem_filter.mpr ⟨List.mem_range.mpr (uf_rt_lt H2 b1), decide_eq_true (uf_rt_fix H2 b1)⟩
theorem uf_n_eq {ov2 sz2 : Nat → Nat} {E2 : Nat → Nat → Prop} (H1 : uf_I ov sz) (H2 : uf_I ov2 sz2) (R1 : uf_R E ov) (R2 : uf_R E2 ov2) (hE : ∀ a b, E a b → uf_C E2 a b) (hE2 : ∀ a b, E2 a b → uf_C E a b) : uf_n ov = uf_n ov2 := by
  apply Nat.le_antisymm
  · exact uf_n_le H1 H2 (fun x y hx hy e => (uf_R_iff H1 R1 hx hy).mpr (uf_C_mono hE2 ((uf_R_iff H2 R2 hx hy).mp e)))
  · exact uf_n_le H2 H1 (fun x y hx hy e => (uf_R_iff H2 R2 hx hy).mpr (uf_C_mono hE ((uf_R_iff H1 R1 hx hy).mp e)))
end UFR
-- a join of two knots, as both sides do it
abbrev uf_S : Type := (Nat → Nat) × (Nat → Nat)
def uf_0 : uf_S := (fun k => k, fun _ => 1)
def uf_lt (u : uf_S) (a b : Nat) : Prop := u.2 b < u.2 a ∨ (u.2 a = u.2 b ∧ a < b)
/-- the roots a and b joined: b below a if it is the smaller one, or as great and behind -/
def uf_jr (u : uf_S) (a b : Nat) : uf_S := if u.2 b < u.2 a ∨ (u.2 a = u.2 b ∧ a < b) then (uf_up u.1 b a, uf_up u.2 a (u.2 a + u.2 b)) else (uf_up u.1 a b, uf_up u.2 b (u.2 b + u.2 a))
def uf_j (u : uf_S) (a b : Nat) : Bool × uf_S := if uf_rt u.1 a = uf_rt u.1 b then (false, u) else (true, uf_jr u (uf_rt u.1 a) (uf_rt u.1 b))
theorem uf_0_I : uf_I uf_0.1 uf_0.2 := ⟨fun k hk => ⟨hk, Nat.le_refl _, fun h => absurd rfl h⟩, by decide⟩
theorem uf_0_R : uf_R (fun _ _ => False) uf_0.1 := ⟨fun _ _ => uf_C_rf, fun _ _ h => h.elim⟩
theorem uf_0_n : uf_n uf_0.1 = 8 := by decide
theorem uf_j_ok {u : uf_S} {E : Nat → Nat → Prop} {a b : Nat} (H : uf_I u.1 u.2) (R : uf_R E u.1) (ha : a < 8) (hb : b < 8) : uf_I (uf_j u a b).2.1 (uf_j u a b).2.2 ∧ uf_R (uf_J E a b) (uf_j u a b).2.1 ∧ uf_n (uf_j u a b).2.1 + (if (uf_j u a b).1 = true then 1 else 0) = uf_n u.1 := by
  unfold uf_j
  by_cases h : uf_rt u.1 a = uf_rt u.1 b
  · rw [if_pos h]
    exact ⟨H, uf_R_same R ha hb h, by simp⟩
  · rw [if_neg h]
    have fa := uf_rt_fix H ha
    have fb := uf_rt_fix H hb
    have la := uf_rt_lt H ha
    have lb := uf_rt_lt H hb
    dsimp only
    unfold uf_jr
    by_cases h2 : u.2 (uf_rt u.1 b) < u.2 (uf_rt u.1 a) ∨ (u.2 (uf_rt u.1 a) = u.2 (uf_rt u.1 b) ∧ uf_rt u.1 a < uf_rt u.1 b)
    · rw [if_pos h2]
      have hs : u.2 (uf_rt u.1 b) ≤ u.2 (uf_rt u.1 a) := by omega
      exact ⟨uf_hang H lb la fb fa (Ne.symm h) hs, uf_R_hang H R ha hb lb la fb fa (Ne.symm h) hs (Or.inr ⟨rfl, rfl⟩), by simpa using uf_n_hang lb fb (Ne.symm h)⟩
    · rw [if_neg h2]
      have hs : u.2 (uf_rt u.1 a) ≤ u.2 (uf_rt u.1 b) := by omega
      exact ⟨uf_hang H la lb fa fb h hs, uf_R_hang H R ha hb la lb fa fb h hs (Or.inl ⟨rfl, rfl⟩), by simpa using uf_n_hang la fa h⟩
