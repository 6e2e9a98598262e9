def tl_pc (n : Nat) : Nat := tl_N (fun k => n.testBit k) 16
theorem t7_onL (f : Nat) (h : am_H) {s : Nat} (hs : s < 65536) : ∀ n j, j ≤ 16 → 16 - j < n → lo_X7_ones_4 f h (nI s) n (nI (tl_N (fun k => s.testBit k) j)) (nI j) = some (nI (tl_pc s)) := by
  intro n
  induction n with
  | zero => intro j _ q; omega
  | succ n ih =>
    intro j hj hn
    rw [lo_X7_ones_4.eq_2]
    simp only [il_16, nI_leI (show 16 < 2 ^ 31 by decide) (show j < 2 ^ 31 by omega)]
    by_cases h1 : 16 ≤ j
    · rw [if_pos h1, show j = 16 by omega]; rfl
    · rw [if_neg h1, tl_bit (by omega) (by omega), nI_add, nI_1]
      exact ih (j + 1) (by omega) (by omega)
theorem t7_on (f : Nat) (h : am_H) {s : Nat} (hs : s < 65536) (hf : 17 ≤ f) : mi_X7_ones f h (nI s) = some (nI (tl_pc s)) := by
  unfold mi_X7_ones
  have := t7_onL f h hs f 0 (by omega) (by omega)
  exact (congrArg (fun z => Option.bind z fun x => some x) this).trans rfl
def pc_1 (n : Nat) : Nat := n - (n / 2 &&& 1431655765)
def pc_2 (n : Nat) : Nat := (n &&& 858993459) + (n / 4 &&& 858993459)
def pc_3 (n : Nat) : Nat := (n + n / 16) &&& 252645135
def pc_4 (n : Nat) : Nat := n + n / 256
def pc_5 (n : Nat) : Nat := n + n / 65536
def pc_f (n : Nat) : Nat := pc_5 (pc_4 (pc_3 (pc_2 (pc_1 n)))) &&& 63
theorem pc_k0 : ∀ b, b < 1024 → pc_f (0 + b) = tl_pc (0 + b) := by decide +kernel
theorem pc_k1 : ∀ b, b < 1024 → pc_f (1024 + b) = tl_pc (1024 + b) := by decide +kernel
theorem pc_k2 : ∀ b, b < 1024 → pc_f (2048 + b) = tl_pc (2048 + b) := by decide +kernel
theorem pc_k3 : ∀ b, b < 1024 → pc_f (3072 + b) = tl_pc (3072 + b) := by decide +kernel
theorem pc_k4 : ∀ b, b < 1024 → pc_f (4096 + b) = tl_pc (4096 + b) := by decide +kernel
theorem pc_k5 : ∀ b, b < 1024 → pc_f (5120 + b) = tl_pc (5120 + b) := by decide +kernel
theorem pc_k6 : ∀ b, b < 1024 → pc_f (6144 + b) = tl_pc (6144 + b) := by decide +kernel
theorem pc_k7 : ∀ b, b < 1024 → pc_f (7168 + b) = tl_pc (7168 + b) := by decide +kernel
theorem pc_k8 : ∀ b, b < 1024 → pc_f (8192 + b) = tl_pc (8192 + b) := by decide +kernel
theorem pc_k9 : ∀ b, b < 1024 → pc_f (9216 + b) = tl_pc (9216 + b) := by decide +kernel
theorem pc_k10 : ∀ b, b < 1024 → pc_f (10240 + b) = tl_pc (10240 + b) := by decide +kernel
theorem pc_k11 : ∀ b, b < 1024 → pc_f (11264 + b) = tl_pc (11264 + b) := by decide +kernel
theorem pc_k12 : ∀ b, b < 1024 → pc_f (12288 + b) = tl_pc (12288 + b) := by decide +kernel
theorem pc_k13 : ∀ b, b < 1024 → pc_f (13312 + b) = tl_pc (13312 + b) := by decide +kernel
theorem pc_k14 : ∀ b, b < 1024 → pc_f (14336 + b) = tl_pc (14336 + b) := by decide +kernel
theorem pc_k15 : ∀ b, b < 1024 → pc_f (15360 + b) = tl_pc (15360 + b) := by decide +kernel
theorem pc_k16 : ∀ b, b < 1024 → pc_f (16384 + b) = tl_pc (16384 + b) := by decide +kernel
theorem pc_k17 : ∀ b, b < 1024 → pc_f (17408 + b) = tl_pc (17408 + b) := by decide +kernel
theorem pc_k18 : ∀ b, b < 1024 → pc_f (18432 + b) = tl_pc (18432 + b) := by decide +kernel
theorem pc_k19 : ∀ b, b < 1024 → pc_f (19456 + b) = tl_pc (19456 + b) := by decide +kernel
theorem pc_k20 : ∀ b, b < 1024 → pc_f (20480 + b) = tl_pc (20480 + b) := by decide +kernel
theorem pc_k21 : ∀ b, b < 1024 → pc_f (21504 + b) = tl_pc (21504 + b) := by decide +kernel
theorem pc_k22 : ∀ b, b < 1024 → pc_f (22528 + b) = tl_pc (22528 + b) := by decide +kernel
theorem pc_k23 : ∀ b, b < 1024 → pc_f (23552 + b) = tl_pc (23552 + b) := by decide +kernel
theorem pc_k24 : ∀ b, b < 1024 → pc_f (24576 + b) = tl_pc (24576 + b) := by decide +kernel
theorem pc_k25 : ∀ b, b < 1024 → pc_f (25600 + b) = tl_pc (25600 + b) := by decide +kernel
theorem pc_k26 : ∀ b, b < 1024 → pc_f (26624 + b) = tl_pc (26624 + b) := by decide +kernel
theorem pc_k27 : ∀ b, b < 1024 → pc_f (27648 + b) = tl_pc (27648 + b) := by decide +kernel
theorem pc_k28 : ∀ b, b < 1024 → pc_f (28672 + b) = tl_pc (28672 + b) := by decide +kernel
theorem pc_k29 : ∀ b, b < 1024 → pc_f (29696 + b) = tl_pc (29696 + b) := by decide +kernel
theorem pc_k30 : ∀ b, b < 1024 → pc_f (30720 + b) = tl_pc (30720 + b) := by decide +kernel
theorem pc_k31 : ∀ b, b < 1024 → pc_f (31744 + b) = tl_pc (31744 + b) := by decide +kernel
theorem pc_k32 : ∀ b, b < 1024 → pc_f (32768 + b) = tl_pc (32768 + b) := by decide +kernel
theorem pc_k33 : ∀ b, b < 1024 → pc_f (33792 + b) = tl_pc (33792 + b) := by decide +kernel
theorem pc_k34 : ∀ b, b < 1024 → pc_f (34816 + b) = tl_pc (34816 + b) := by decide +kernel
theorem pc_k35 : ∀ b, b < 1024 → pc_f (35840 + b) = tl_pc (35840 + b) := by decide +kernel
theorem pc_k36 : ∀ b, b < 1024 → pc_f (36864 + b) = tl_pc (36864 + b) := by decide +kernel
theorem pc_k37 : ∀ b, b < 1024 → pc_f (37888 + b) = tl_pc (37888 + b) := by decide +kernel
theorem pc_k38 : ∀ b, b < 1024 → pc_f (38912 + b) = tl_pc (38912 + b) := by decide +kernel
theorem pc_k39 : ∀ b, b < 1024 → pc_f (39936 + b) = tl_pc (39936 + b) := by decide +kernel
theorem pc_k40 : ∀ b, b < 1024 → pc_f (40960 + b) = tl_pc (40960 + b) := by decide +kernel
theorem pc_k41 : ∀ b, b < 1024 → pc_f (41984 + b) = tl_pc (41984 + b) := by decide +kernel
theorem pc_k42 : ∀ b, b < 1024 → pc_f (43008 + b) = tl_pc (43008 + b) := by decide +kernel
theorem pc_k43 : ∀ b, b < 1024 → pc_f (44032 + b) = tl_pc (44032 + b) := by decide +kernel
theorem pc_k44 : ∀ b, b < 1024 → pc_f (45056 + b) = tl_pc (45056 + b) := by decide +kernel
theorem pc_k45 : ∀ b, b < 1024 → pc_f (46080 + b) = tl_pc (46080 + b) := by decide +kernel
theorem pc_k46 : ∀ b, b < 1024 → pc_f (47104 + b) = tl_pc (47104 + b) := by decide +kernel
theorem pc_k47 : ∀ b, b < 1024 → pc_f (48128 + b) = tl_pc (48128 + b) := by decide +kernel
theorem pc_k48 : ∀ b, b < 1024 → pc_f (49152 + b) = tl_pc (49152 + b) := by decide +kernel
theorem pc_k49 : ∀ b, b < 1024 → pc_f (50176 + b) = tl_pc (50176 + b) := by decide +kernel
theorem pc_k50 : ∀ b, b < 1024 → pc_f (51200 + b) = tl_pc (51200 + b) := by decide +kernel
theorem pc_k51 : ∀ b, b < 1024 → pc_f (52224 + b) = tl_pc (52224 + b) := by decide +kernel
theorem pc_k52 : ∀ b, b < 1024 → pc_f (53248 + b) = tl_pc (53248 + b) := by decide +kernel
theorem pc_k53 : ∀ b, b < 1024 → pc_f (54272 + b) = tl_pc (54272 + b) := by decide +kernel
theorem pc_k54 : ∀ b, b < 1024 → pc_f (55296 + b) = tl_pc (55296 + b) := by decide +kernel
theorem pc_k55 : ∀ b, b < 1024 → pc_f (56320 + b) = tl_pc (56320 + b) := by decide +kernel
theorem pc_k56 : ∀ b, b < 1024 → pc_f (57344 + b) = tl_pc (57344 + b) := by decide +kernel
theorem pc_k57 : ∀ b, b < 1024 → pc_f (58368 + b) = tl_pc (58368 + b) := by decide +kernel
theorem pc_k58 : ∀ b, b < 1024 → pc_f (59392 + b) = tl_pc (59392 + b) := by decide +kernel
theorem pc_k59 : ∀ b, b < 1024 → pc_f (60416 + b) = tl_pc (60416 + b) := by decide +kernel
theorem pc_k60 : ∀ b, b < 1024 → pc_f (61440 + b) = tl_pc (61440 + b) := by decide +kernel
theorem pc_k61 : ∀ b, b < 1024 → pc_f (62464 + b) = tl_pc (62464 + b) := by decide +kernel
theorem pc_k62 : ∀ b, b < 1024 → pc_f (63488 + b) = tl_pc (63488 + b) := by decide +kernel
theorem pc_k63 : ∀ b, b < 1024 → pc_f (64512 + b) = tl_pc (64512 + b) := by decide +kernel
