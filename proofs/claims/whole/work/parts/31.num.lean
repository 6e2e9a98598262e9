theorem il_0 : (0 : Int32) = nI 0 := rfl
theorem il_1 : (1 : Int32) = nI 1 := rfl
theorem il_2 : (2 : Int32) = nI 2 := rfl
theorem il_3 : (3 : Int32) = nI 3 := rfl
theorem il_4 : (4 : Int32) = nI 4 := rfl
theorem il_5 : (5 : Int32) = nI 5 := rfl
theorem il_6 : (6 : Int32) = nI 6 := rfl
theorem il_7 : (7 : Int32) = nI 7 := rfl
theorem il_8 : (8 : Int32) = nI 8 := rfl
theorem il_9 : (9 : Int32) = nI 9 := rfl
theorem il_10 : (10 : Int32) = nI 10 := rfl
theorem il_11 : (11 : Int32) = nI 11 := rfl
theorem il_12 : (12 : Int32) = nI 12 := rfl
theorem il_13 : (13 : Int32) = nI 13 := rfl
theorem il_14 : (14 : Int32) = nI 14 := rfl
theorem il_15 : (15 : Int32) = nI 15 := rfl
theorem il_16 : (16 : Int32) = nI 16 := rfl
theorem il_17 : (17 : Int32) = nI 17 := rfl
theorem il_18 : (18 : Int32) = nI 18 := rfl
theorem il_19 : (19 : Int32) = nI 19 := rfl
theorem il_20 : (20 : Int32) = nI 20 := rfl
theorem il_21 : (21 : Int32) = nI 21 := rfl
theorem il_22 : (22 : Int32) = nI 22 := rfl
theorem il_23 : (23 : Int32) = nI 23 := rfl
theorem il_24 : (24 : Int32) = nI 24 := rfl
theorem il_25 : (25 : Int32) = nI 25 := rfl
theorem il_26 : (26 : Int32) = nI 26 := rfl
theorem il_27 : (27 : Int32) = nI 27 := rfl
theorem il_28 : (28 : Int32) = nI 28 := rfl
theorem il_29 : (29 : Int32) = nI 29 := rfl
theorem il_30 : (30 : Int32) = nI 30 := rfl
theorem il_31 : (31 : Int32) = nI 31 := rfl
theorem il_32 : (32 : Int32) = nI 32 := rfl
theorem il_33 : (33 : Int32) = nI 33 := rfl
theorem il_34 : (34 : Int32) = nI 34 := rfl
theorem il_35 : (35 : Int32) = nI 35 := rfl
theorem il_36 : (36 : Int32) = nI 36 := rfl
theorem il_37 : (37 : Int32) = nI 37 := rfl
theorem il_38 : (38 : Int32) = nI 38 := rfl
theorem il_39 : (39 : Int32) = nI 39 := rfl
theorem il_40 : (40 : Int32) = nI 40 := rfl
theorem il_41 : (41 : Int32) = nI 41 := rfl
theorem il_42 : (42 : Int32) = nI 42 := rfl
theorem il_43 : (43 : Int32) = nI 43 := rfl
theorem il_44 : (44 : Int32) = nI 44 := rfl
theorem il_45 : (45 : Int32) = nI 45 := rfl
theorem il_46 : (46 : Int32) = nI 46 := rfl
theorem il_47 : (47 : Int32) = nI 47 := rfl
theorem il_48 : (48 : Int32) = nI 48 := rfl
theorem il_49 : (49 : Int32) = nI 49 := rfl
theorem il_50 : (50 : Int32) = nI 50 := rfl
theorem il_51 : (51 : Int32) = nI 51 := rfl
theorem il_52 : (52 : Int32) = nI 52 := rfl
theorem il_53 : (53 : Int32) = nI 53 := rfl
theorem il_54 : (54 : Int32) = nI 54 := rfl
theorem il_55 : (55 : Int32) = nI 55 := rfl
theorem il_56 : (56 : Int32) = nI 56 := rfl
theorem il_57 : (57 : Int32) = nI 57 := rfl
theorem il_58 : (58 : Int32) = nI 58 := rfl
theorem il_59 : (59 : Int32) = nI 59 := rfl
theorem il_60 : (60 : Int32) = nI 60 := rfl
theorem il_61 : (61 : Int32) = nI 61 := rfl
theorem il_62 : (62 : Int32) = nI 62 := rfl
theorem il_63 : (63 : Int32) = nI 63 := rfl
theorem il_64 : (64 : Int32) = nI 64 := rfl
theorem il_76 : (76 : Int32) = nI 76 := rfl
theorem il_100 : (100 : Int32) = nI 100 := rfl
theorem il_238 : (238 : Int32) = nI 238 := rfl
theorem il_255 : (255 : Int32) = nI 255 := rfl
theorem il_256 : (256 : Int32) = nI 256 := rfl
theorem il_1000 : (1000 : Int32) = nI 1000 := rfl
theorem il_2048 : (2048 : Int32) = nI 2048 := rfl
theorem il_10000 : (10000 : Int32) = nI 10000 := rfl
theorem il_65535 : (65535 : Int32) = nI 65535 := rfl
theorem il_16384 : (16384 : Int32) = nI 16384 := rfl
theorem il_100000 : (100000 : Int32) = nI 100000 := rfl
theorem il_1024 : (1024 : Int32) = nI 1024 := rfl
theorem in_1 : (-1 : Int32) = -nI 1 := rfl
theorem in_2 : (-2 : Int32) = -nI 2 := rfl
theorem in_3 : (-3 : Int32) = -nI 3 := rfl
theorem in_4 : (-4 : Int32) = -nI 4 := rfl
theorem in_9 : (-9 : Int32) = -nI 9 := rfl
def am_f : Nat := 100000
theorem tl_in {a b : Int32} {j : Nat} (h : j < 2 ^ 31) : (nI j).toNatClampNeg = j := nI_clamp h
/-- shapes as the constructors left them; references too, but for the row of acts -/
def tl_Sh (h : am_H) : Prop := h.1 = am_sh ∧ ∀ p j, p ≠ 18 → h.2.2.2 p j = am_hS.2.2.2 p j
theorem tl_Sh_I {h : am_H} {p i : Nat} {x : Int32} (H : tl_Sh h) : tl_Sh (am_I h p i x) := H
theorem tl_Sh_L {h : am_H} {p i : Nat} {x : Int64} (H : tl_Sh h) : tl_Sh (am_L h p i x) := H
theorem tl_Sh_F {h : am_H} {i : Nat} {x : Option Nat} (H : tl_Sh h) : tl_Sh (am_F h 18 i x) := ⟨H.1, fun p j hp => by
  show am_u h.2.2.2 18 i x p j = _
  rw [am_u_ne hp]
  exact H.2 p j hp⟩
theorem tl_cls {h : am_H} {c p n : Nat} (H : tl_Sh h) (hs : am_sh[p]? = some (c, n)) : am_cls h c p = some n := by
  simp [am_cls, H.1, hs]
theorem tl_gi {h : am_H} {c p n k : Nat} (H : tl_Sh h) (hs : am_sh[p]? = some (c, n)) : am_gi h c p k = some (h.2.1 p k) := by
  simp [am_gi, H.1, hs]
theorem tl_gl {h : am_H} {c p n k : Nat} (H : tl_Sh h) (hs : am_sh[p]? = some (c, n)) : am_gl h c p k = some (h.2.2.1 p k) := by
  simp [am_gl, H.1, hs]
theorem tl_gr {h : am_H} {c p n k q : Nat} (H : tl_Sh h) (hs : am_sh[p]? = some (c, n)) (hp : p ≠ 18) (hr : am_hS.2.2.2 p k = some q) : am_gr h c p k = some q := by
  simp [am_gr, H.1, hs, H.2 p k hp, hr]
theorem tl_pi {h : am_H} {c p n k : Nat} {x : Int32} (H : tl_Sh h) (hs : am_sh[p]? = some (c, n)) : am_pi h c p k x = some (am_I h p k x) := by
  simp [am_pi, H.1, hs]
theorem tl_pl {h : am_H} {c p n k : Nat} {x : Int64} (H : tl_Sh h) (hs : am_sh[p]? = some (c, n)) : am_pl h c p k x = some (am_L h p k x) := by
  simp [am_pl, H.1, hs]
theorem tl_li {h : am_H} {c p n j : Nat} (H : tl_Sh h) (hs : am_sh[p]? = some (c, n)) (hj : j < n) (hn : n < 1000) : am_li h c p (nI j) = some (h.2.1 p j) := by
  have h31 : j < 2 ^ 31 := by omega
  simp only [am_li, H.1, hs, nI_toInt h31, nI_clamp h31]
  rw [if_pos ⟨trivial, by omega, by omega⟩]
theorem tl_si {h : am_H} {c p n j : Nat} {x : Int32} (H : tl_Sh h) (hs : am_sh[p]? = some (c, n)) (hj : j < n) (hn : n < 1000) : am_si h c p (nI j) x = some (am_I h p j x) := by
  have h31 : j < 2 ^ 31 := by omega
  simp only [am_si, H.1, hs, nI_toInt h31, nI_clamp h31]
  rw [if_pos ⟨trivial, by omega, by omega⟩]
theorem tl_lr {h : am_H} {p n j q : Nat} (H : tl_Sh h) (hs : am_sh[p]? = some (11, n)) (hj : j < n) (hn : n < 1000) (hq : h.2.2.2 p j = some q) : am_lr h p (nI j) = some q := by
  have h31 : j < 2 ^ 31 := by omega
  simp only [am_lr, H.1, hs, nI_toInt h31, nI_clamp h31]
  rw [if_pos ⟨trivial, by omega, by omega⟩, hq]
theorem tl_I_ne {h : am_H} {p i q j : Nat} {x : Int32} (hn : q ≠ p) : (am_I h p i x).2.1 q j = h.2.1 q j := by
  show am_u h.2.1 p i x q j = _
  rw [am_u_ne hn]
theorem tl_I_at {h : am_H} {p i j : Nat} {x : Int32} : (am_I h p i x).2.1 p j = if j = i then x else h.2.1 p j := by
  show am_u h.2.1 p i x p j = _
  rw [am_u_eq]
theorem tl_I_L {h : am_H} {p i : Nat} {x : Int32} : (am_I h p i x).2.2.1 = h.2.2.1 := rfl
theorem tl_I_F {h : am_H} {p i : Nat} {x : Int32} : (am_I h p i x).2.2.2 = h.2.2.2 := rfl
theorem tl_b (b : Bool) : am_b b = nI (if b = true then 1 else 0) := by cases b <;> rfl
theorem tl_iteB {b : Bool} : ((if b = true then (some true) else (some false)) : Option Bool) = some b := by cases b <;> rfl
theorem oc_0 {h : am_H} (H : tl_Sh h) : am_cls h 6 0 = some 10 := tl_cls H (by decide +kernel)
theorem oi_0 {h : am_H} (H : tl_Sh h) (k : Nat) : am_gi h 6 0 k = some (h.2.1 0 k) := tl_gi H (n := 10) (by decide +kernel)
theorem ow_0 {h : am_H} (H : tl_Sh h) (k : Nat) (x : Int32) : am_pi h 6 0 k x = some (am_I h 0 k x) := tl_pi H (n := 10) (by decide +kernel)
theorem or_0_0 {h : am_H} (H : tl_Sh h) : am_gr h 6 0 0 = some 1 := tl_gr H (n := 10) (by decide +kernel) (by decide) (by decide +kernel)
theorem or_0_1 {h : am_H} (H : tl_Sh h) : am_gr h 6 0 1 = some 7 := tl_gr H (n := 10) (by decide +kernel) (by decide) (by decide +kernel)
theorem or_0_2 {h : am_H} (H : tl_Sh h) : am_gr h 6 0 2 = some 12 := tl_gr H (n := 10) (by decide +kernel) (by decide) (by decide +kernel)
theorem or_0_3 {h : am_H} (H : tl_Sh h) : am_gr h 6 0 3 = some 17 := tl_gr H (n := 10) (by decide +kernel) (by decide) (by decide +kernel)
theorem or_0_4 {h : am_H} (H : tl_Sh h) : am_gr h 6 0 4 = some 89 := tl_gr H (n := 10) (by decide +kernel) (by decide) (by decide +kernel)
theorem or_0_5 {h : am_H} (H : tl_Sh h) : am_gr h 6 0 5 = some 94 := tl_gr H (n := 10) (by decide +kernel) (by decide) (by decide +kernel)
theorem or_0_6 {h : am_H} (H : tl_Sh h) : am_gr h 6 0 6 = some 99 := tl_gr H (n := 10) (by decide +kernel) (by decide) (by decide +kernel)
theorem or_0_7 {h : am_H} (H : tl_Sh h) : am_gr h 6 0 7 = some 106 := tl_gr H (n := 10) (by decide +kernel) (by decide) (by decide +kernel)
theorem or_0_8 {h : am_H} (H : tl_Sh h) : am_gr h 6 0 8 = some 107 := tl_gr H (n := 10) (by decide +kernel) (by decide) (by decide +kernel)
theorem oc_1 {h : am_H} (H : tl_Sh h) : am_cls h 3 1 = some 8 := tl_cls H (by decide +kernel)
theorem oi_1 {h : am_H} (H : tl_Sh h) (k : Nat) : am_gi h 3 1 k = some (h.2.1 1 k) := tl_gi H (n := 8) (by decide +kernel)
theorem ow_1 {h : am_H} (H : tl_Sh h) (k : Nat) (x : Int32) : am_pi h 3 1 k x = some (am_I h 1 k x) := tl_pi H (n := 8) (by decide +kernel)
theorem or_1_0 {h : am_H} (H : tl_Sh h) : am_gr h 3 1 0 = some 2 := tl_gr H (n := 8) (by decide +kernel) (by decide) (by decide +kernel)
theorem or_1_2 {h : am_H} (H : tl_Sh h) : am_gr h 3 1 2 = some 3 := tl_gr H (n := 8) (by decide +kernel) (by decide) (by decide +kernel)
theorem or_1_4 {h : am_H} (H : tl_Sh h) : am_gr h 3 1 4 = some 4 := tl_gr H (n := 8) (by decide +kernel) (by decide) (by decide +kernel)
theorem or_1_5 {h : am_H} (H : tl_Sh h) : am_gr h 3 1 5 = some 5 := tl_gr H (n := 8) (by decide +kernel) (by decide) (by decide +kernel)
theorem or_1_6 {h : am_H} (H : tl_Sh h) : am_gr h 3 1 6 = some 6 := tl_gr H (n := 8) (by decide +kernel) (by decide) (by decide +kernel)
theorem oc_17 {h : am_H} (H : tl_Sh h) : am_cls h 0 17 = some 2 := tl_cls H (by decide +kernel)
theorem oi_17 {h : am_H} (H : tl_Sh h) (k : Nat) : am_gi h 0 17 k = some (h.2.1 17 k) := tl_gi H (n := 2) (by decide +kernel)
theorem ow_17 {h : am_H} (H : tl_Sh h) (k : Nat) (x : Int32) : am_pi h 0 17 k x = some (am_I h 17 k x) := tl_pi H (n := 2) (by decide +kernel)
theorem or_17_0 {h : am_H} (H : tl_Sh h) : am_gr h 0 17 0 = some 18 := tl_gr H (n := 2) (by decide +kernel) (by decide) (by decide +kernel)
theorem oc_89 {h : am_H} (H : tl_Sh h) : am_cls h 2 89 = some 4 := tl_cls H (by decide +kernel)
theorem oi_89 {h : am_H} (H : tl_Sh h) (k : Nat) : am_gi h 2 89 k = some (h.2.1 89 k) := tl_gi H (n := 4) (by decide +kernel)
theorem ow_89 {h : am_H} (H : tl_Sh h) (k : Nat) (x : Int32) : am_pi h 2 89 k x = some (am_I h 89 k x) := tl_pi H (n := 4) (by decide +kernel)
theorem or_89_0 {h : am_H} (H : tl_Sh h) : am_gr h 2 89 0 = some 90 := tl_gr H (n := 4) (by decide +kernel) (by decide) (by decide +kernel)
theorem or_89_1 {h : am_H} (H : tl_Sh h) : am_gr h 2 89 1 = some 91 := tl_gr H (n := 4) (by decide +kernel) (by decide) (by decide +kernel)
theorem or_89_2 {h : am_H} (H : tl_Sh h) : am_gr h 2 89 2 = some 92 := tl_gr H (n := 4) (by decide +kernel) (by decide) (by decide +kernel)
theorem or_89_3 {h : am_H} (H : tl_Sh h) : am_gr h 2 89 3 = some 93 := tl_gr H (n := 4) (by decide +kernel) (by decide) (by decide +kernel)
theorem oc_94 {h : am_H} (H : tl_Sh h) : am_cls h 1 94 = some 5 := tl_cls H (by decide +kernel)
theorem oi_94 {h : am_H} (H : tl_Sh h) (k : Nat) : am_gi h 1 94 k = some (h.2.1 94 k) := tl_gi H (n := 5) (by decide +kernel)
theorem ow_94 {h : am_H} (H : tl_Sh h) (k : Nat) (x : Int32) : am_pi h 1 94 k x = some (am_I h 94 k x) := tl_pi H (n := 5) (by decide +kernel)
theorem or_94_0 {h : am_H} (H : tl_Sh h) : am_gr h 1 94 0 = some 95 := tl_gr H (n := 5) (by decide +kernel) (by decide) (by decide +kernel)
theorem or_94_1 {h : am_H} (H : tl_Sh h) : am_gr h 1 94 1 = some 96 := tl_gr H (n := 5) (by decide +kernel) (by decide) (by decide +kernel)
theorem or_94_2 {h : am_H} (H : tl_Sh h) : am_gr h 1 94 2 = some 97 := tl_gr H (n := 5) (by decide +kernel) (by decide) (by decide +kernel)
theorem or_94_3 {h : am_H} (H : tl_Sh h) : am_gr h 1 94 3 = some 98 := tl_gr H (n := 5) (by decide +kernel) (by decide) (by decide +kernel)
theorem oc_99 {h : am_H} (H : tl_Sh h) : am_cls h 4 99 = some 7 := tl_cls H (by decide +kernel)
theorem oi_99 {h : am_H} (H : tl_Sh h) (k : Nat) : am_gi h 4 99 k = some (h.2.1 99 k) := tl_gi H (n := 7) (by decide +kernel)
theorem ow_99 {h : am_H} (H : tl_Sh h) (k : Nat) (x : Int32) : am_pi h 4 99 k x = some (am_I h 99 k x) := tl_pi H (n := 7) (by decide +kernel)
theorem or_99_0 {h : am_H} (H : tl_Sh h) : am_gr h 4 99 0 = some 100 := tl_gr H (n := 7) (by decide +kernel) (by decide) (by decide +kernel)
theorem or_99_1 {h : am_H} (H : tl_Sh h) : am_gr h 4 99 1 = some 101 := tl_gr H (n := 7) (by decide +kernel) (by decide) (by decide +kernel)
theorem or_99_2 {h : am_H} (H : tl_Sh h) : am_gr h 4 99 2 = some 102 := tl_gr H (n := 7) (by decide +kernel) (by decide) (by decide +kernel)
theorem or_99_3 {h : am_H} (H : tl_Sh h) : am_gr h 4 99 3 = some 103 := tl_gr H (n := 7) (by decide +kernel) (by decide) (by decide +kernel)
theorem or_99_4 {h : am_H} (H : tl_Sh h) : am_gr h 4 99 4 = some 104 := tl_gr H (n := 7) (by decide +kernel) (by decide) (by decide +kernel)
theorem or_99_5 {h : am_H} (H : tl_Sh h) : am_gr h 4 99 5 = some 105 := tl_gr H (n := 7) (by decide +kernel) (by decide) (by decide +kernel)
theorem oc_118 {h : am_H} (H : tl_Sh h) : am_cls h 7 118 = some 20 := tl_cls H (by decide +kernel)
theorem oi_118 {h : am_H} (H : tl_Sh h) (k : Nat) : am_gi h 7 118 k = some (h.2.1 118 k) := tl_gi H (n := 20) (by decide +kernel)
theorem ow_118 {h : am_H} (H : tl_Sh h) (k : Nat) (x : Int32) : am_pi h 7 118 k x = some (am_I h 118 k x) := tl_pi H (n := 20) (by decide +kernel)
theorem or_118_0 {h : am_H} (H : tl_Sh h) : am_gr h 7 118 0 = some 119 := tl_gr H (n := 20) (by decide +kernel) (by decide) (by decide +kernel)
theorem or_118_1 {h : am_H} (H : tl_Sh h) : am_gr h 7 118 1 = some 120 := tl_gr H (n := 20) (by decide +kernel) (by decide) (by decide +kernel)
theorem or_118_3 {h : am_H} (H : tl_Sh h) : am_gr h 7 118 3 = some 121 := tl_gr H (n := 20) (by decide +kernel) (by decide) (by decide +kernel)
theorem or_118_6 {h : am_H} (H : tl_Sh h) : am_gr h 7 118 6 = some 122 := tl_gr H (n := 20) (by decide +kernel) (by decide) (by decide +kernel)
theorem or_118_7 {h : am_H} (H : tl_Sh h) : am_gr h 7 118 7 = some 123 := tl_gr H (n := 20) (by decide +kernel) (by decide) (by decide +kernel)
theorem or_118_8 {h : am_H} (H : tl_Sh h) : am_gr h 7 118 8 = some 124 := tl_gr H (n := 20) (by decide +kernel) (by decide) (by decide +kernel)
theorem or_118_9 {h : am_H} (H : tl_Sh h) : am_gr h 7 118 9 = some 125 := tl_gr H (n := 20) (by decide +kernel) (by decide) (by decide +kernel)
theorem or_118_10 {h : am_H} (H : tl_Sh h) : am_gr h 7 118 10 = some 126 := tl_gr H (n := 20) (by decide +kernel) (by decide) (by decide +kernel)
theorem or_118_12 {h : am_H} (H : tl_Sh h) : am_gr h 7 118 12 = some 127 := tl_gr H (n := 20) (by decide +kernel) (by decide) (by decide +kernel)
theorem or_118_13 {h : am_H} (H : tl_Sh h) : am_gr h 7 118 13 = some 128 := tl_gr H (n := 20) (by decide +kernel) (by decide) (by decide +kernel)
theorem or_118_14 {h : am_H} (H : tl_Sh h) : am_gr h 7 118 14 = some 129 := tl_gr H (n := 20) (by decide +kernel) (by decide) (by decide +kernel)
theorem or_118_15 {h : am_H} (H : tl_Sh h) : am_gr h 7 118 15 = some 130 := tl_gr H (n := 20) (by decide +kernel) (by decide) (by decide +kernel)
theorem or_118_16 {h : am_H} (H : tl_Sh h) : am_gr h 7 118 16 = some 131 := tl_gr H (n := 20) (by decide +kernel) (by decide) (by decide +kernel)
theorem or_118_18 {h : am_H} (H : tl_Sh h) : am_gr h 7 118 18 = some 132 := tl_gr H (n := 20) (by decide +kernel) (by decide) (by decide +kernel)
theorem or_118_19 {h : am_H} (H : tl_Sh h) : am_gr h 7 118 19 = some 133 := tl_gr H (n := 20) (by decide +kernel) (by decide) (by decide +kernel)
theorem al_2 {h : am_H} (H : tl_Sh h) {j : Nat} (hj : j < 64) : am_li h 8 2 (nI j) = some (h.2.1 2 j) := tl_li H (n := 64) (by decide +kernel) hj (by decide)
theorem as_2 {h : am_H} (H : tl_Sh h) {j : Nat} {x : Int32} (hj : j < 64) : am_si h 8 2 (nI j) x = some (am_I h 2 j x) := tl_si H (n := 64) (by decide +kernel) hj (by decide)
theorem al_3 {h : am_H} (H : tl_Sh h) {j : Nat} (hj : j < 8) : am_li h 9 3 (nI j) = some (h.2.1 3 j) := tl_li H (n := 8) (by decide +kernel) hj (by decide)
theorem as_3 {h : am_H} (H : tl_Sh h) {j : Nat} {x : Int32} (hj : j < 8) : am_si h 9 3 (nI j) x = some (am_I h 3 j x) := tl_si H (n := 8) (by decide +kernel) hj (by decide)
theorem al_4 {h : am_H} (H : tl_Sh h) {j : Nat} (hj : j < 16) : am_li h 8 4 (nI j) = some (h.2.1 4 j) := tl_li H (n := 16) (by decide +kernel) hj (by decide)
theorem as_4 {h : am_H} (H : tl_Sh h) {j : Nat} {x : Int32} (hj : j < 16) : am_si h 8 4 (nI j) x = some (am_I h 4 j x) := tl_si H (n := 16) (by decide +kernel) hj (by decide)
theorem al_5 {h : am_H} (H : tl_Sh h) {j : Nat} (hj : j < 16) : am_li h 9 5 (nI j) = some (h.2.1 5 j) := tl_li H (n := 16) (by decide +kernel) hj (by decide)
theorem as_5 {h : am_H} (H : tl_Sh h) {j : Nat} {x : Int32} (hj : j < 16) : am_si h 9 5 (nI j) x = some (am_I h 5 j x) := tl_si H (n := 16) (by decide +kernel) hj (by decide)
theorem al_6 {h : am_H} (H : tl_Sh h) {j : Nat} (hj : j < 16) : am_li h 9 6 (nI j) = some (h.2.1 6 j) := tl_li H (n := 16) (by decide +kernel) hj (by decide)
theorem as_6 {h : am_H} (H : tl_Sh h) {j : Nat} {x : Int32} (hj : j < 16) : am_si h 9 6 (nI j) x = some (am_I h 6 j x) := tl_si H (n := 16) (by decide +kernel) hj (by decide)
theorem al_90 {h : am_H} (H : tl_Sh h) {j : Nat} (hj : j < 8) : am_li h 9 90 (nI j) = some (h.2.1 90 j) := tl_li H (n := 8) (by decide +kernel) hj (by decide)
theorem as_90 {h : am_H} (H : tl_Sh h) {j : Nat} {x : Int32} (hj : j < 8) : am_si h 9 90 (nI j) x = some (am_I h 90 j x) := tl_si H (n := 8) (by decide +kernel) hj (by decide)
theorem al_91 {h : am_H} (H : tl_Sh h) {j : Nat} (hj : j < 8) : am_li h 9 91 (nI j) = some (h.2.1 91 j) := tl_li H (n := 8) (by decide +kernel) hj (by decide)
theorem as_91 {h : am_H} (H : tl_Sh h) {j : Nat} {x : Int32} (hj : j < 8) : am_si h 9 91 (nI j) x = some (am_I h 91 j x) := tl_si H (n := 8) (by decide +kernel) hj (by decide)
theorem al_92 {h : am_H} (H : tl_Sh h) {j : Nat} (hj : j < 8) : am_li h 9 92 (nI j) = some (h.2.1 92 j) := tl_li H (n := 8) (by decide +kernel) hj (by decide)
theorem as_92 {h : am_H} (H : tl_Sh h) {j : Nat} {x : Int32} (hj : j < 8) : am_si h 9 92 (nI j) x = some (am_I h 92 j x) := tl_si H (n := 8) (by decide +kernel) hj (by decide)
theorem al_93 {h : am_H} (H : tl_Sh h) {j : Nat} (hj : j < 8) : am_li h 10 93 (nI j) = some (h.2.1 93 j) := tl_li H (n := 8) (by decide +kernel) hj (by decide)
theorem as_93 {h : am_H} (H : tl_Sh h) {j : Nat} {x : Int32} (hj : j < 8) : am_si h 10 93 (nI j) x = some (am_I h 93 j x) := tl_si H (n := 8) (by decide +kernel) hj (by decide)
theorem al_95 {h : am_H} (H : tl_Sh h) {j : Nat} (hj : j < 16) : am_li h 9 95 (nI j) = some (h.2.1 95 j) := tl_li H (n := 16) (by decide +kernel) hj (by decide)
theorem as_95 {h : am_H} (H : tl_Sh h) {j : Nat} {x : Int32} (hj : j < 16) : am_si h 9 95 (nI j) x = some (am_I h 95 j x) := tl_si H (n := 16) (by decide +kernel) hj (by decide)
theorem al_96 {h : am_H} (H : tl_Sh h) {j : Nat} (hj : j < 16) : am_li h 9 96 (nI j) = some (h.2.1 96 j) := tl_li H (n := 16) (by decide +kernel) hj (by decide)
theorem as_96 {h : am_H} (H : tl_Sh h) {j : Nat} {x : Int32} (hj : j < 16) : am_si h 9 96 (nI j) x = some (am_I h 96 j x) := tl_si H (n := 16) (by decide +kernel) hj (by decide)
theorem al_97 {h : am_H} (H : tl_Sh h) {j : Nat} (hj : j < 16) : am_li h 9 97 (nI j) = some (h.2.1 97 j) := tl_li H (n := 16) (by decide +kernel) hj (by decide)
theorem as_97 {h : am_H} (H : tl_Sh h) {j : Nat} {x : Int32} (hj : j < 16) : am_si h 9 97 (nI j) x = some (am_I h 97 j x) := tl_si H (n := 16) (by decide +kernel) hj (by decide)
theorem al_98 {h : am_H} (H : tl_Sh h) {j : Nat} (hj : j < 16) : am_li h 9 98 (nI j) = some (h.2.1 98 j) := tl_li H (n := 16) (by decide +kernel) hj (by decide)
theorem as_98 {h : am_H} (H : tl_Sh h) {j : Nat} {x : Int32} (hj : j < 16) : am_si h 9 98 (nI j) x = some (am_I h 98 j x) := tl_si H (n := 16) (by decide +kernel) hj (by decide)
theorem al_100 {h : am_H} (H : tl_Sh h) {j : Nat} (hj : j < 6) : am_li h 9 100 (nI j) = some (h.2.1 100 j) := tl_li H (n := 6) (by decide +kernel) hj (by decide)
theorem as_100 {h : am_H} (H : tl_Sh h) {j : Nat} {x : Int32} (hj : j < 6) : am_si h 9 100 (nI j) x = some (am_I h 100 j x) := tl_si H (n := 6) (by decide +kernel) hj (by decide)
theorem al_101 {h : am_H} (H : tl_Sh h) {j : Nat} (hj : j < 6) : am_li h 9 101 (nI j) = some (h.2.1 101 j) := tl_li H (n := 6) (by decide +kernel) hj (by decide)
theorem as_101 {h : am_H} (H : tl_Sh h) {j : Nat} {x : Int32} (hj : j < 6) : am_si h 9 101 (nI j) x = some (am_I h 101 j x) := tl_si H (n := 6) (by decide +kernel) hj (by decide)
theorem al_102 {h : am_H} (H : tl_Sh h) {j : Nat} (hj : j < 6) : am_li h 9 102 (nI j) = some (h.2.1 102 j) := tl_li H (n := 6) (by decide +kernel) hj (by decide)
theorem as_102 {h : am_H} (H : tl_Sh h) {j : Nat} {x : Int32} (hj : j < 6) : am_si h 9 102 (nI j) x = some (am_I h 102 j x) := tl_si H (n := 6) (by decide +kernel) hj (by decide)
theorem al_103 {h : am_H} (H : tl_Sh h) {j : Nat} (hj : j < 6) : am_li h 10 103 (nI j) = some (h.2.1 103 j) := tl_li H (n := 6) (by decide +kernel) hj (by decide)
theorem as_103 {h : am_H} (H : tl_Sh h) {j : Nat} {x : Int32} (hj : j < 6) : am_si h 10 103 (nI j) x = some (am_I h 103 j x) := tl_si H (n := 6) (by decide +kernel) hj (by decide)
theorem al_104 {h : am_H} (H : tl_Sh h) {j : Nat} (hj : j < 6) : am_li h 9 104 (nI j) = some (h.2.1 104 j) := tl_li H (n := 6) (by decide +kernel) hj (by decide)
theorem as_104 {h : am_H} (H : tl_Sh h) {j : Nat} {x : Int32} (hj : j < 6) : am_si h 9 104 (nI j) x = some (am_I h 104 j x) := tl_si H (n := 6) (by decide +kernel) hj (by decide)
theorem al_105 {h : am_H} (H : tl_Sh h) {j : Nat} (hj : j < 6) : am_li h 9 105 (nI j) = some (h.2.1 105 j) := tl_li H (n := 6) (by decide +kernel) hj (by decide)
theorem as_105 {h : am_H} (H : tl_Sh h) {j : Nat} {x : Int32} (hj : j < 6) : am_si h 9 105 (nI j) x = some (am_I h 105 j x) := tl_si H (n := 6) (by decide +kernel) hj (by decide)
theorem al_107 {h : am_H} (H : tl_Sh h) {j : Nat} (hj : j < 2) : am_li h 10 107 (nI j) = some (h.2.1 107 j) := tl_li H (n := 2) (by decide +kernel) hj (by decide)
theorem as_107 {h : am_H} (H : tl_Sh h) {j : Nat} {x : Int32} (hj : j < 2) : am_si h 10 107 (nI j) x = some (am_I h 107 j x) := tl_si H (n := 2) (by decide +kernel) hj (by decide)
theorem al_119 {h : am_H} (H : tl_Sh h) {j : Nat} (hj : j < 34) : am_li h 9 119 (nI j) = some (h.2.1 119 j) := tl_li H (n := 34) (by decide +kernel) hj (by decide)
theorem as_119 {h : am_H} (H : tl_Sh h) {j : Nat} {x : Int32} (hj : j < 34) : am_si h 9 119 (nI j) x = some (am_I h 119 j x) := tl_si H (n := 34) (by decide +kernel) hj (by decide)
theorem al_120 {h : am_H} (H : tl_Sh h) {j : Nat} (hj : j < 64) : am_li h 9 120 (nI j) = some (h.2.1 120 j) := tl_li H (n := 64) (by decide +kernel) hj (by decide)
theorem as_120 {h : am_H} (H : tl_Sh h) {j : Nat} {x : Int32} (hj : j < 64) : am_si h 9 120 (nI j) x = some (am_I h 120 j x) := tl_si H (n := 64) (by decide +kernel) hj (by decide)
theorem al_121 {h : am_H} (H : tl_Sh h) {j : Nat} (hj : j < 64) : am_li h 9 121 (nI j) = some (h.2.1 121 j) := tl_li H (n := 64) (by decide +kernel) hj (by decide)
theorem as_121 {h : am_H} (H : tl_Sh h) {j : Nat} {x : Int32} (hj : j < 64) : am_si h 9 121 (nI j) x = some (am_I h 121 j x) := tl_si H (n := 64) (by decide +kernel) hj (by decide)
theorem al_122 {h : am_H} (H : tl_Sh h) {j : Nat} (hj : j < 238) : am_li h 9 122 (nI j) = some (h.2.1 122 j) := tl_li H (n := 238) (by decide +kernel) hj (by decide)
theorem as_122 {h : am_H} (H : tl_Sh h) {j : Nat} {x : Int32} (hj : j < 238) : am_si h 9 122 (nI j) x = some (am_I h 122 j x) := tl_si H (n := 238) (by decide +kernel) hj (by decide)
theorem al_123 {h : am_H} (H : tl_Sh h) {j : Nat} (hj : j < 8) : am_li h 9 123 (nI j) = some (h.2.1 123 j) := tl_li H (n := 8) (by decide +kernel) hj (by decide)
theorem as_123 {h : am_H} (H : tl_Sh h) {j : Nat} {x : Int32} (hj : j < 8) : am_si h 9 123 (nI j) x = some (am_I h 123 j x) := tl_si H (n := 8) (by decide +kernel) hj (by decide)
theorem al_124 {h : am_H} (H : tl_Sh h) {j : Nat} (hj : j < 8) : am_li h 9 124 (nI j) = some (h.2.1 124 j) := tl_li H (n := 8) (by decide +kernel) hj (by decide)
theorem as_124 {h : am_H} (H : tl_Sh h) {j : Nat} {x : Int32} (hj : j < 8) : am_si h 9 124 (nI j) x = some (am_I h 124 j x) := tl_si H (n := 8) (by decide +kernel) hj (by decide)
theorem al_125 {h : am_H} (H : tl_Sh h) {j : Nat} (hj : j < 8) : am_li h 9 125 (nI j) = some (h.2.1 125 j) := tl_li H (n := 8) (by decide +kernel) hj (by decide)
theorem as_125 {h : am_H} (H : tl_Sh h) {j : Nat} {x : Int32} (hj : j < 8) : am_si h 9 125 (nI j) x = some (am_I h 125 j x) := tl_si H (n := 8) (by decide +kernel) hj (by decide)
theorem al_126 {h : am_H} (H : tl_Sh h) {j : Nat} (hj : j < 8) : am_li h 9 126 (nI j) = some (h.2.1 126 j) := tl_li H (n := 8) (by decide +kernel) hj (by decide)
theorem as_126 {h : am_H} (H : tl_Sh h) {j : Nat} {x : Int32} (hj : j < 8) : am_si h 9 126 (nI j) x = some (am_I h 126 j x) := tl_si H (n := 8) (by decide +kernel) hj (by decide)
theorem al_127 {h : am_H} (H : tl_Sh h) {j : Nat} (hj : j < 6) : am_li h 9 127 (nI j) = some (h.2.1 127 j) := tl_li H (n := 6) (by decide +kernel) hj (by decide)
theorem as_127 {h : am_H} (H : tl_Sh h) {j : Nat} {x : Int32} (hj : j < 6) : am_si h 9 127 (nI j) x = some (am_I h 127 j x) := tl_si H (n := 6) (by decide +kernel) hj (by decide)
theorem al_128 {h : am_H} (H : tl_Sh h) {j : Nat} (hj : j < 6) : am_li h 9 128 (nI j) = some (h.2.1 128 j) := tl_li H (n := 6) (by decide +kernel) hj (by decide)
theorem as_128 {h : am_H} (H : tl_Sh h) {j : Nat} {x : Int32} (hj : j < 6) : am_si h 9 128 (nI j) x = some (am_I h 128 j x) := tl_si H (n := 6) (by decide +kernel) hj (by decide)
theorem al_129 {h : am_H} (H : tl_Sh h) {j : Nat} (hj : j < 6) : am_li h 9 129 (nI j) = some (h.2.1 129 j) := tl_li H (n := 6) (by decide +kernel) hj (by decide)
theorem as_129 {h : am_H} (H : tl_Sh h) {j : Nat} {x : Int32} (hj : j < 6) : am_si h 9 129 (nI j) x = some (am_I h 129 j x) := tl_si H (n := 6) (by decide +kernel) hj (by decide)
theorem al_130 {h : am_H} (H : tl_Sh h) {j : Nat} (hj : j < 6) : am_li h 9 130 (nI j) = some (h.2.1 130 j) := tl_li H (n := 6) (by decide +kernel) hj (by decide)
theorem as_130 {h : am_H} (H : tl_Sh h) {j : Nat} {x : Int32} (hj : j < 6) : am_si h 9 130 (nI j) x = some (am_I h 130 j x) := tl_si H (n := 6) (by decide +kernel) hj (by decide)
theorem al_131 {h : am_H} (H : tl_Sh h) {j : Nat} (hj : j < 16) : am_li h 9 131 (nI j) = some (h.2.1 131 j) := tl_li H (n := 16) (by decide +kernel) hj (by decide)
theorem as_131 {h : am_H} (H : tl_Sh h) {j : Nat} {x : Int32} (hj : j < 16) : am_si h 9 131 (nI j) x = some (am_I h 131 j x) := tl_si H (n := 16) (by decide +kernel) hj (by decide)
theorem al_132 {h : am_H} (H : tl_Sh h) {j : Nat} (hj : j < 2) : am_li h 10 132 (nI j) = some (h.2.1 132 j) := tl_li H (n := 2) (by decide +kernel) hj (by decide)
theorem as_132 {h : am_H} (H : tl_Sh h) {j : Nat} {x : Int32} (hj : j < 2) : am_si h 10 132 (nI j) x = some (am_I h 132 j x) := tl_si H (n := 2) (by decide +kernel) hj (by decide)
theorem al_133 {h : am_H} (H : tl_Sh h) {j : Nat} (hj : j < 34) : am_li h 9 133 (nI j) = some (h.2.1 133 j) := tl_li H (n := 34) (by decide +kernel) hj (by decide)
theorem as_133 {h : am_H} (H : tl_Sh h) {j : Nat} {x : Int32} (hj : j < 34) : am_si h 9 133 (nI j) x = some (am_I h 133 j x) := tl_si H (n := 34) (by decide +kernel) hj (by decide)
theorem oL_0 {h : am_H} (H : tl_Sh h) (k : Nat) : am_gl h 6 0 k = some (h.2.2.1 0 k) := tl_gl H (n := 10) (by decide +kernel)
theorem oM_0 {h : am_H} (H : tl_Sh h) (k : Nat) (x : Int64) : am_pl h 6 0 k x = some (am_L h 0 k x) := tl_pl H (n := 10) (by decide +kernel)
theorem oL_118 {h : am_H} (H : tl_Sh h) (k : Nat) : am_gl h 7 118 k = some (h.2.2.1 118 k) := tl_gl H (n := 20) (by decide +kernel)
theorem oM_118 {h : am_H} (H : tl_Sh h) (k : Nat) (x : Int64) : am_pl h 7 118 k x = some (am_L h 118 k x) := tl_pl H (n := 20) (by decide +kernel)
-- a Spans at its place
theorem sp_c {h : am_H} {p : Nat} (H : tl_Sh h) (hp : p ∈ am_sps) : am_cls h 5 p = some 5 := tl_cls H (am_sps_ok p hp).1
theorem sp_i {h : am_H} {p : Nat} (H : tl_Sh h) (hp : p ∈ am_sps) (k : Nat) : am_gi h 5 p k = some (h.2.1 p k) := tl_gi H (am_sps_ok p hp).1
theorem sp_w {h : am_H} {p : Nat} (H : tl_Sh h) (hp : p ∈ am_sps) (k : Nat) (x : Int32) : am_pi h 5 p k x = some (am_I h p k x) := tl_pi H (am_sps_ok p hp).1
theorem sp_18 {p : Nat} (hp : p ∈ am_sps) : p ≠ 18 := by
  intro e
  subst e
  exact absurd hp (by decide)
theorem sp_r {h : am_H} {p : Nat} (H : tl_Sh h) (hp : p ∈ am_sps) {k : Nat} (hk : k < 4) : am_gr h 5 p k = some (p + 1 + k) := tl_gr H (am_sps_ok p hp).1 (sp_18 hp) ((am_sps_ok p hp).2 k hk).1
theorem sp_l {h : am_H} {p : Nat} (H : tl_Sh h) (hp : p ∈ am_sps) {k : Nat} (hk : k < 4) {j : Nat} (hj : j < 16) : am_li h 9 (p + 1 + k) (nI j) = some (h.2.1 (p + 1 + k) j) := tl_li H ((am_sps_ok p hp).2 k hk).2 hj (by decide)
theorem sp_s {h : am_H} {p : Nat} (H : tl_Sh h) (hp : p ∈ am_sps) {k : Nat} (hk : k < 4) {j : Nat} {x : Int32} (hj : j < 16) : am_si h 9 (p + 1 + k) (nI j) x = some (am_I h (p + 1 + k) j x) := tl_si H ((am_sps_ok p hp).2 k hk).2 hj (by decide)
