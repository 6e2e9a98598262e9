def am_h0 : am_H := ([], fun _ _ => 0, fun _ _ => 0, fun _ _ => none)
theorem am_law {L : Nat} (xs : Nat → Int32) (hL : L ≤ 3072) : ∃ (f : Nat) (h2 : am_H), mi_L_law f L xs am_h0 = some (true, h2) := sorry
