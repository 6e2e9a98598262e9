theorem pc_us {n : Nat} (hn : n < 2 ^ 32) (s : Int32) (k : Nat) (hs : ((s.toUInt32 &&& Int32.toUInt32 31).toBitVec % 32).toNat = k) : ((nI n).toUInt32 >>> (s.toUInt32 &&& Int32.toUInt32 31)).toInt32 = nI (n / 2 ^ k) := pk_ushrN hn s k hs
theorem tj_bc0 (f : Nat) (h : am_H) {n : Nat} (hn : n < 65536) : mi_J6_bitCount_0f7a4 f h (nI n) = some (nI (pc_f n)) := by
  unfold mi_J6_bitCount_0f7a4
  have b1 : pc_1 n < 65536 := by unfold pc_1; omega
  have b2 : pc_2 (pc_1 n) < 131072 := by
    have h1 : pc_1 n &&& 858993459 ≤ pc_1 n := Nat.and_le_left
    have h2 : pc_1 n / 4 &&& 858993459 ≤ pc_1 n / 4 := Nat.and_le_left
    unfold pc_2
    omega
  generalize hx1 : pc_1 n = x1 at b1 b2
  generalize hx2 : pc_2 x1 = x2 at b2
  have b3 : pc_3 x2 < 262144 := by
    have h1 : (x2 + x2 / 16) &&& 252645135 ≤ x2 + x2 / 16 := Nat.and_le_left
    unfold pc_3
    omega
  generalize hx3 : pc_3 x2 = x3 at b3
  have b4 : pc_4 x3 < 524288 := by unfold pc_4; omega
  generalize hx4 : pc_4 x3 = x4 at b4
  have e1 : nI n - ((((nI n).toUInt32 >>> ((1 : Int32).toUInt32 &&& Int32.toUInt32 31)).toInt32) &&& 1431655765) = nI x1 := by
    have h1 : n / 2 &&& 1431655765 ≤ n / 2 := Nat.and_le_left
    rw [pc_us (by omega) 1 1 (by decide), show (1431655765 : Int32) = nI 1431655765 from rfl, fa_and, pk_sub (by simp only [Nat.pow_one]; omega), ← hx1]
    rfl
  have e2 : (nI x1 &&& 858993459) + ((((nI x1).toUInt32 >>> ((2 : Int32).toUInt32 &&& Int32.toUInt32 31)).toInt32) &&& 858993459) = nI x2 := by
    rw [pc_us (by omega) 2 2 (by decide), show (858993459 : Int32) = nI 858993459 from rfl, fa_and, fa_and, nI_add, ← hx2]
    rfl
  have e3 : ((nI x2 + ((nI x2).toUInt32 >>> ((4 : Int32).toUInt32 &&& Int32.toUInt32 31)).toInt32) &&& 252645135) = nI x3 := by
    rw [pc_us (by omega) 4 4 (by decide), show (252645135 : Int32) = nI 252645135 from rfl, nI_add, fa_and, ← hx3]
    rfl
  have e4 : nI x3 + ((nI x3).toUInt32 >>> ((8 : Int32).toUInt32 &&& Int32.toUInt32 31)).toInt32 = nI x4 := by
    rw [pc_us (by omega) 8 8 (by decide), nI_add, ← hx4]
    rfl
  have e5 : (nI x4 + ((nI x4).toUInt32 >>> ((16 : Int32).toUInt32 &&& Int32.toUInt32 31)).toInt32) &&& 63 = nI (pc_f n) := by
    rw [pc_us (by omega) 16 16 (by decide), nI_add, il_63, fa_and]
    unfold pc_f
    rw [hx1, hx2, hx3, hx4]
    rfl
  rw [e1, e2, e3, e4, e5]
theorem pc_all {n : Nat} (hn : n < 65536) : pc_f n = tl_pc n := by
  have hb : n % 1024 < 1024 := by omega
  have hk : n / 1024 < 64 := by omega
  have e : n = 1024 * (n / 1024) + n % 1024 := by omega
  rw [e]
  generalize n % 1024 = b at hb
  generalize n / 1024 = k at hk
  have hk2 : k = 0 ∨ k = 1 ∨ k = 2 ∨ k = 3 ∨ k = 4 ∨ k = 5 ∨ k = 6 ∨ k = 7 ∨ k = 8 ∨ k = 9 ∨ k = 10 ∨ k = 11 ∨ k = 12 ∨ k = 13 ∨ k = 14 ∨ k = 15 ∨ k = 16 ∨ k = 17 ∨ k = 18 ∨ k = 19 ∨ k = 20 ∨ k = 21 ∨ k = 22 ∨ k = 23 ∨ k = 24 ∨ k = 25 ∨ k = 26 ∨ k = 27 ∨ k = 28 ∨ k = 29 ∨ k = 30 ∨ k = 31 ∨ k = 32 ∨ k = 33 ∨ k = 34 ∨ k = 35 ∨ k = 36 ∨ k = 37 ∨ k = 38 ∨ k = 39 ∨ k = 40 ∨ k = 41 ∨ k = 42 ∨ k = 43 ∨ k = 44 ∨ k = 45 ∨ k = 46 ∨ k = 47 ∨ k = 48 ∨ k = 49 ∨ k = 50 ∨ k = 51 ∨ k = 52 ∨ k = 53 ∨ k = 54 ∨ k = 55 ∨ k = 56 ∨ k = 57 ∨ k = 58 ∨ k = 59 ∨ k = 60 ∨ k = 61 ∨ k = 62 ∨ k = 63 := by omega
  rcases hk2 with rfl | rfl | rfl | rfl | rfl | rfl | rfl | rfl | rfl | rfl | rfl | rfl | rfl | rfl | rfl | rfl | rfl | rfl | rfl | rfl | rfl | rfl | rfl | rfl | rfl | rfl | rfl | rfl | rfl | rfl | rfl | rfl | rfl | rfl | rfl | rfl | rfl | rfl | rfl | rfl | rfl | rfl | rfl | rfl | rfl | rfl | rfl | rfl | rfl | rfl | rfl | rfl | rfl | rfl | rfl | rfl | rfl | rfl | rfl | rfl | rfl | rfl | rfl | rfl
  · exact pc_k0 b hb
  · exact pc_k1 b hb
  · exact pc_k2 b hb
  · exact pc_k3 b hb
  · exact pc_k4 b hb
  · exact pc_k5 b hb
  · exact pc_k6 b hb
  · exact pc_k7 b hb
  · exact pc_k8 b hb
  · exact pc_k9 b hb
  · exact pc_k10 b hb
  · exact pc_k11 b hb
  · exact pc_k12 b hb
  · exact pc_k13 b hb
  · exact pc_k14 b hb
  · exact pc_k15 b hb
  · exact pc_k16 b hb
  · exact pc_k17 b hb
  · exact pc_k18 b hb
  · exact pc_k19 b hb
  · exact pc_k20 b hb
  · exact pc_k21 b hb
  · exact pc_k22 b hb
  · exact pc_k23 b hb
  · exact pc_k24 b hb
  · exact pc_k25 b hb
  · exact pc_k26 b hb
  · exact pc_k27 b hb
  · exact pc_k28 b hb
  · exact pc_k29 b hb
  · exact pc_k30 b hb
  · exact pc_k31 b hb
  · exact pc_k32 b hb
  · exact pc_k33 b hb
  · exact pc_k34 b hb
  · exact pc_k35 b hb
  · exact pc_k36 b hb
  · exact pc_k37 b hb
  · exact pc_k38 b hb
  · exact pc_k39 b hb
  · exact pc_k40 b hb
  · exact pc_k41 b hb
  · exact pc_k42 b hb
  · exact pc_k43 b hb
  · exact pc_k44 b hb
  · exact pc_k45 b hb
  · exact pc_k46 b hb
  · exact pc_k47 b hb
  · exact pc_k48 b hb
  · exact pc_k49 b hb
  · exact pc_k50 b hb
  · exact pc_k51 b hb
  · exact pc_k52 b hb
  · exact pc_k53 b hb
  · exact pc_k54 b hb
  · exact pc_k55 b hb
  · exact pc_k56 b hb
  · exact pc_k57 b hb
  · exact pc_k58 b hb
  · exact pc_k59 b hb
  · exact pc_k60 b hb
  · exact pc_k61 b hb
  · exact pc_k62 b hb
  · exact pc_k63 b hb
theorem tj_bc (f : Nat) (h : am_H) {n : Nat} (hn : n < 65536) : mi_J6_bitCount_0f7a4 f h (nI n) = some (nI (tl_pc n)) := by
  rw [tj_bc0 f h hn]
  rw [pc_all hn]
