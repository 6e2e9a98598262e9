def mi_X6_again (f : Nat) (h : am_H) (p : Nat) (a : Int32) : Option (Int32 × am_H) :=
  Option.bind (am_cls h 6 p) fun _n =>
  (if a < 0 then
  (some ((-1), h))
  else ((if a < 2 then
  (Option.bind (am_gr h 6 p 8) fun xq1 =>
  Option.bind (am_li h 10 xq1 a) fun xq2 =>
  (if xq2 = 0 then
  (some ((-3), h))
  else (Option.bind (am_gr h 6 p 1) fun xq3 =>
  Option.bind (am_gr h 6 p 7) fun xq4 =>
  Option.bind (am_lr h xq4 a) fun xq5 =>
  Option.bind (mi_X5_copyOf f h xq3 xq5) fun hq7 =>
  Option.bind (am_gr hq7 6 p 3) fun xq8 =>
  Option.bind (am_pi hq7 0 xq8 1 0) fun hq9 =>
  Option.bind (am_gr hq9 6 p 1) fun xq10 =>
  Option.bind (am_gi hq9 5 xq10 4) fun xq11 =>
  some (xq11, hq9))))
  else (some ((-1), h)))))
theorem cs_X6_again {f : Nat} {h : am_H} {p : Nat} {a : Int32} {z : (Int32 × am_H)} (hm : mi_X6_again f h p a = some z) : ∃ n, h.1[p]? = some (6, n) := by
  unfold mi_X6_again at hm
  obtain ⟨n, hn, -⟩ := am_bs hm
  exact ⟨n, am_cls_of hn⟩
set_option maxHeartbeats 4000000 in
set_option maxRecDepth 100000 in
theorem ct_X6_again (l : Launch) {f : Nat} {h : am_H} {p : Nat} {a : Int32} {r : Int32} {h2 : am_H} (hm : mi_X6_again f h p a = some (r, h2)) : am_Ct l yX6_again cX6_again 2 (some .int) rm_X6_again [.ref p, .int a] h (some (.int r)) h2 := by
  refine am_met2 [(0, .ref p), (1, .int a)] (by decide) (Nat.le_of_ble_eq_true rfl) rfl ?_
  generalize hK : (fun (v : Option Value) (h3 : am_H) => v = (some (.int r)) ∧ h3 = h2) = K
  have HK : K (some (.int r)) h2 := by rw [← hK]; exact ⟨rfl, rfl⟩
  clear hK
  unfold mi_X6_again at hm
  obtain ⟨_n, _hn, hm⟩ := am_bs hm
  refine r_iload_n 1 dX6_again_0 rfl ?_
  refine r_if_lt 9 dX6_again_1 (by decide) (fun q => ?_) (fun q => ?_)
  · rw [if_pos q] at hm
    refine r_iconst (-1) dX6_again_9 (by decide) ?_
    cases hm
    exact r_ireturn dX6_again_10 rfl (by decide) HK
  · rw [if_neg q] at hm
    refine r_iload_n 1 dX6_again_4 rfl ?_
    refine r_iconst 2 dX6_again_5 (by decide) ?_
    refine r_icmp_lt 11 dX6_again_6 (by decide) (fun q => ?_) (fun q => ?_)
    · rw [if_pos q] at hm
      refine r_aload_n 0 dX6_again_11 rfl ?_
      obtain ⟨xq1, exq1, hm⟩ := am_bs hm
      refine r_getr exq1 fl_X6_58 rfl dX6_again_12 ?_
      refine r_iload_n 1 dX6_again_15 rfl ?_
      obtain ⟨xq2, exq2, hm⟩ := am_bs hm
      refine r_zald exq2 dX6_again_16 ?_
      refine r_if_ne 23 dX6_again_17 (by decide) (fun q => ?_) (fun q => ?_)
      · rw [if_neg q] at hm
        refine r_aload_n 0 dX6_again_23 rfl ?_
        obtain ⟨xq3, exq3, hm⟩ := am_bs hm
        refine r_getr exq3 fl_X6_19 rfl dX6_again_24 ?_
        refine r_aload_n 0 dX6_again_27 rfl ?_
        obtain ⟨xq4, exq4, hm⟩ := am_bs hm
        refine r_getr exq4 fl_X6_54 rfl dX6_again_28 ?_
        refine r_iload_n 1 dX6_again_31 rfl ?_
        obtain ⟨xq5, exq5, hm⟩ := am_bs hm
        refine r_aald exq5 dX6_again_32 ?_
        obtain ⟨hq7, exq6, hm⟩ := am_bs hm
        refine r_cV0 [.ref xq5] (ct_X5_copyOf l exq6) vm_X6_105 (cs_X5_copyOf exq6) (by decide) ⟨rfl, rfl⟩ rfl (Nat.le_of_ble_eq_true rfl) dX6_again_33 ?_
        refine r_aload_n 0 dX6_again_36 rfl ?_
        obtain ⟨xq8, exq8, hm⟩ := am_bs hm
        refine r_getr exq8 fl_X6_29 rfl dX6_again_37 ?_
        refine r_iconst 0 dX6_again_40 (by decide) ?_
        obtain ⟨hq9, ehq9, hm⟩ := am_bs hm
        refine r_puti ehq9 fl_X6_78 rfl rfl dX6_again_41 ?_
        refine r_aload_n 0 dX6_again_44 rfl ?_
        obtain ⟨xq10, exq10, hm⟩ := am_bs hm
        refine r_getr exq10 fl_X6_19 rfl dX6_again_45 ?_
        obtain ⟨xq11, exq11, hm⟩ := am_bs hm
        refine r_geti exq11 fl_X6_81 rfl dX6_again_48 ?_
        cases hm
        exact r_ireturn dX6_again_51 rfl (by decide) HK
      · rw [if_pos q] at hm
        refine r_bipush (-3) dX6_again_20 (by decide) ?_
        cases hm
        exact r_ireturn dX6_again_22 rfl (by decide) HK
    · rw [if_neg q] at hm
      refine r_iconst (-1) dX6_again_9 (by decide) ?_
      cases hm
      exact r_ireturn dX6_again_10 rfl (by decide) HK
def mi_X6_at (f : Nat) (h : am_H) (p : Nat) (a : Int32) (b : Int32) : Option (Int32 × am_H) :=
  Option.bind (am_cls h 6 p) fun _n =>
  Option.bind (mi_X6_isTime f h a) fun xq1 =>
  (if xq1 = true then
  (Option.bind (am_gr h 6 p 4) fun xq2 =>
  Option.bind (am_gr h 6 p 1) fun xq3 =>
  Option.bind (mi_X2_walkToTime f h xq2 xq3 a) fun hq5 =>
  (if b = 0 then
  (Option.bind (am_gr hq5 6 p 4) fun xq6 =>
  Option.bind (mi_X2_parts f hq5 xq6) fun xq7 =>
  some (xq7, hq5))
  else (if b = 1 then
  (Option.bind (am_gr hq5 6 p 1) fun xq8 =>
  Option.bind (mi_X5_livingAt f hq5 xq8 a) fun xq9 =>
  some (xq9, hq5))
  else (if b = 2 then
  (Option.bind (am_gr hq5 6 p 4) fun xq10 =>
  Option.bind (mi_X2_oddParts f hq5 xq10) fun xq11 =>
  some (xq11, hq5))
  else (if b = 3 then
  (Option.bind (am_gr hq5 6 p 4) fun xq12 =>
  Option.bind (mi_X2_greatestDepth f hq5 xq12) fun xq13 =>
  some (xq13, hq5))
  else (if b = 4 then
  (Option.bind (am_gr hq5 6 p 4) fun xq14 =>
  Option.bind (mi_X2_greatestSize f hq5 xq14) fun xq15 =>
  some (xq15, hq5))
  else (some ((-2), hq5))))))))
  else (some ((-1), h)))
theorem cs_X6_at {f : Nat} {h : am_H} {p : Nat} {a : Int32} {b : Int32} {z : (Int32 × am_H)} (hm : mi_X6_at f h p a b = some z) : ∃ n, h.1[p]? = some (6, n) := by
  unfold mi_X6_at at hm
  obtain ⟨n, hn, -⟩ := am_bs hm
  exact ⟨n, am_cls_of hn⟩
set_option maxHeartbeats 4000000 in
set_option maxRecDepth 100000 in
theorem ct_X6_at (l : Launch) {f : Nat} {h : am_H} {p : Nat} {a : Int32} {b : Int32} {r : Int32} {h2 : am_H} (hm : mi_X6_at f h p a b = some (r, h2)) : am_Ct l yX6_at cX6_at 3 (some .int) rm_X6_at [.ref p, .int a, .int b] h (some (.int r)) h2 := by
  refine am_met2 [(0, .ref p), (1, .int a), (2, .int b)] (by decide) (Nat.le_of_ble_eq_true rfl) rfl ?_
  generalize hK : (fun (v : Option Value) (h3 : am_H) => v = (some (.int r)) ∧ h3 = h2) = K
  have HK : K (some (.int r)) h2 := by rw [← hK]; exact ⟨rfl, rfl⟩
  clear hK
  unfold mi_X6_at at hm
  obtain ⟨_n, _hn, hm⟩ := am_bs hm
  refine r_iload_n 1 dX6_at_0 rfl ?_
  obtain ⟨xq1, exq1, hm⟩ := am_bs hm
  refine r_cS1 [.int a] (ct_X6_isTime l exq1) sm_X6_128 (by decide) ⟨rfl, rfl⟩ rfl (Nat.le_of_ble_eq_true rfl) dX6_at_1 ?_
  refine r_if_ne 9 dX6_at_4 (by decide) (fun q => ?_) (fun q => ?_)
  · rw [if_pos (show xq1 = true from am_b1 q)] at hm
    refine r_aload_n 0 dX6_at_9 rfl ?_
    obtain ⟨xq2, exq2, hm⟩ := am_bs hm
    refine r_getr exq2 fl_X6_36 rfl dX6_at_10 ?_
    refine r_aload_n 0 dX6_at_13 rfl ?_
    obtain ⟨xq3, exq3, hm⟩ := am_bs hm
    refine r_getr exq3 fl_X6_19 rfl dX6_at_14 ?_
    refine r_iload_n 1 dX6_at_17 rfl ?_
    obtain ⟨hq5, exq4, hm⟩ := am_bs hm
    refine r_cV0 [.ref xq3, .int a] (ct_X2_walkToTime l exq4) vm_X6_131 (cs_X2_walkToTime exq4) (by decide) ⟨rfl, rfl⟩ rfl (Nat.le_of_ble_eq_true rfl) dX6_at_18 ?_
    refine r_iload_n 2 dX6_at_21 rfl ?_
    by_cases q0 : b = 0
    · rw [if_pos q0] at hm
      refine r_tsw 56 dX6_at_22 (Or.inl ⟨by rw [q0]; decide, by rw [q0]; decide⟩) ?_
      refine r_aload_n 0 dX6_at_56 rfl ?_
      obtain ⟨xq6, exq6, hm⟩ := am_bs hm
      refine r_getr exq6 fl_X6_36 rfl dX6_at_57 ?_
      obtain ⟨xq7, exq7, hm⟩ := am_bs hm
      refine r_cV1 [] (ct_X2_parts l exq7) vm_X6_135 (cs_X2_parts exq7) (by decide) ⟨rfl, rfl⟩ rfl (Nat.le_of_ble_eq_true rfl) dX6_at_60 ?_
      cases hm
      exact r_ireturn dX6_at_63 rfl (by decide) HK
    rw [if_neg q0] at hm
    by_cases q1 : b = 1
    · rw [if_pos q1] at hm
      refine r_tsw 64 dX6_at_22 (Or.inl ⟨by rw [q1]; decide, by rw [q1]; decide⟩) ?_
      refine r_aload_n 0 dX6_at_64 rfl ?_
      obtain ⟨xq8, exq8, hm⟩ := am_bs hm
      refine r_getr exq8 fl_X6_19 rfl dX6_at_65 ?_
      refine r_iload_n 1 dX6_at_68 rfl ?_
      obtain ⟨xq9, exq9, hm⟩ := am_bs hm
      refine r_cV1 [.int a] (ct_X5_livingAt l exq9) vm_X6_138 (cs_X5_livingAt exq9) (by decide) ⟨rfl, rfl⟩ rfl (Nat.le_of_ble_eq_true rfl) dX6_at_69 ?_
      cases hm
      exact r_ireturn dX6_at_72 rfl (by decide) HK
    rw [if_neg q1] at hm
    by_cases q2 : b = 2
    · rw [if_pos q2] at hm
      refine r_tsw 73 dX6_at_22 (Or.inl ⟨by rw [q2]; decide, by rw [q2]; decide⟩) ?_
      refine r_aload_n 0 dX6_at_73 rfl ?_
      obtain ⟨xq10, exq10, hm⟩ := am_bs hm
      refine r_getr exq10 fl_X6_36 rfl dX6_at_74 ?_
      obtain ⟨xq11, exq11, hm⟩ := am_bs hm
      refine r_cV1 [] (ct_X2_oddParts l exq11) vm_X6_141 (cs_X2_oddParts exq11) (by decide) ⟨rfl, rfl⟩ rfl (Nat.le_of_ble_eq_true rfl) dX6_at_77 ?_
      cases hm
      exact r_ireturn dX6_at_80 rfl (by decide) HK
    rw [if_neg q2] at hm
    by_cases q3 : b = 3
    · rw [if_pos q3] at hm
      refine r_tsw 81 dX6_at_22 (Or.inl ⟨by rw [q3]; decide, by rw [q3]; decide⟩) ?_
      refine r_aload_n 0 dX6_at_81 rfl ?_
      obtain ⟨xq12, exq12, hm⟩ := am_bs hm
      refine r_getr exq12 fl_X6_36 rfl dX6_at_82 ?_
      obtain ⟨xq13, exq13, hm⟩ := am_bs hm
      refine r_cV1 [] (ct_X2_greatestDepth l exq13) vm_X6_144 (cs_X2_greatestDepth exq13) (by decide) ⟨rfl, rfl⟩ rfl (Nat.le_of_ble_eq_true rfl) dX6_at_85 ?_
      cases hm
      exact r_ireturn dX6_at_88 rfl (by decide) HK
    rw [if_neg q3] at hm
    by_cases q4 : b = 4
    · rw [if_pos q4] at hm
      refine r_tsw 89 dX6_at_22 (Or.inl ⟨by rw [q4]; decide, by rw [q4]; decide⟩) ?_
      refine r_aload_n 0 dX6_at_89 rfl ?_
      obtain ⟨xq14, exq14, hm⟩ := am_bs hm
      refine r_getr exq14 fl_X6_36 rfl dX6_at_90 ?_
      obtain ⟨xq15, exq15, hm⟩ := am_bs hm
      refine r_cV1 [] (ct_X2_greatestSize l exq15) vm_X6_147 (cs_X2_greatestSize exq15) (by decide) ⟨rfl, rfl⟩ rfl (Nat.le_of_ble_eq_true rfl) dX6_at_93 ?_
      cases hm
      exact r_ireturn dX6_at_96 rfl (by decide) HK
    rw [if_neg q4] at hm
    refine r_tsw 97 dX6_at_22 (Or.inr ⟨by have e0 := lv_neT q0 (show (0 : Int32).toInt = 0 from by decide); have e1 := lv_neT q1 (show (1 : Int32).toInt = 1 from by decide); have e2 := lv_neT q2 (show (2 : Int32).toInt = 2 from by decide); have e3 := lv_neT q3 (show (3 : Int32).toInt = 3 from by decide); have e4 := lv_neT q4 (show (4 : Int32).toInt = 4 from by decide); omega, by decide⟩) ?_
    refine r_bipush (-2) dX6_at_97 (by decide) ?_
    cases hm
    exact r_ireturn dX6_at_99 rfl (by decide) HK
  · rw [if_neg (show ¬ xq1 = true from by rw [am_b0 q]; decide)] at hm
    refine r_iconst (-1) dX6_at_7 (by decide) ?_
    cases hm
    exact r_ireturn dX6_at_8 rfl (by decide) HK
def lo_X6_bridges_25 (f : Nat) (h : am_H) (a0 : Nat) : Nat → Int32 → Int32 → Option (Int32)
  | 0, _, _ => none
  | n + 1, a2, a3 =>
  Option.bind (am_gr h 6 a0 5) fun xq1 =>
  Option.bind (am_gi h 1 xq1 4) fun xq2 =>
  (if xq2 ≤ a3 then
  (some a2)
  else (Option.bind (am_gr h 6 a0 5) fun xq3 =>
  Option.bind (am_gr h 6 a0 5) fun xq4 =>
  Option.bind (am_gr h 1 xq4 1) fun xq5 =>
  Option.bind (am_li h 9 xq5 a3) fun xq6 =>
  Option.bind (am_gr h 6 a0 5) fun xq7 =>
  Option.bind (am_gr h 1 xq7 2) fun xq8 =>
  Option.bind (am_li h 9 xq8 a3) fun xq9 =>
  Option.bind (am_gr h 6 a0 5) fun xq10 =>
  Option.bind (mi_X1_all f h xq10) fun xq11 =>
  Option.bind (mi_X1_areJoined f h xq3 xq6 xq9 (xq11 ^^^ ((1 : Int32) <<< (a3 &&& 31)))) fun xq12 =>
  Option.bind ((if xq12 = true then
  (some a2)
  else (Option.bind (am_gr h 6 a0 5) fun xq14 =>
  Option.bind (am_gr h 1 xq14 0) fun xq15 =>
  Option.bind (am_li h 9 xq15 a3) fun xq16 =>
  some (a2 ||| ((1 : Int32) <<< (xq16 &&& 31)))))) fun jq13 =>
  lo_X6_bridges_25 f h a0 n jq13 (a3 + 1)))
set_option maxHeartbeats 4000000 in
set_option maxRecDepth 100000 in
theorem ll_X6_bridges_25 (l : Launch) (f : Nat) (h : am_H) (a0 : Nat) (K : Option Value → am_H → Prop) : ∀ (n : Nat) (a2 : Int32) (a3 : Int32) (z : Int32), lo_X6_bridges_25 f h a0 n a2 a3 = some z →
    am_R l yX6_bridges cX6_bridges 4 (some .int) rm_X6_bridges (fun _ _ _ => True) 0 0 95 [(2, .int z)] [] h K →
    am_R l yX6_bridges cX6_bridges 4 (some .int) rm_X6_bridges (fun _ _ _ => True) 0 0 25 [(0, .ref a0), (2, .int a2), (3, .int a3)] [] h K := by
  intro n
  induction n with
  | zero =>
    intro a2 a3 z hm kE
    cases hm
  | succ n ih =>
    intro a2 a3 z hm kE
    rw [lo_X6_bridges_25.eq_2] at hm
    refine r_iload_n 2 dX6_bridges_25 rfl ?_
    refine r_aload_n 0 dX6_bridges_26 rfl ?_
    obtain ⟨xq1, exq1, hm⟩ := am_bs hm
    refine r_getr exq1 fl_X6_43 rfl dX6_bridges_27 ?_
    obtain ⟨xq2, exq2, hm⟩ := am_bs hm
    refine r_geti exq2 fl_X6_189 rfl dX6_bridges_30 ?_
    refine r_icmp_ge 95 dX6_bridges_33 (by decide) (fun q => ?_) (fun q => ?_)
    · rw [if_pos q] at hm
      cases hm
      exact r_lv [1] _ rfl kE
    · rw [if_neg q] at hm
      refine r_aload_n 0 dX6_bridges_36 rfl ?_
      obtain ⟨xq3, exq3, hm⟩ := am_bs hm
      refine r_getr exq3 fl_X6_43 rfl dX6_bridges_37 ?_
      refine r_aload_n 0 dX6_bridges_40 rfl ?_
      obtain ⟨xq4, exq4, hm⟩ := am_bs hm
      refine r_getr exq4 fl_X6_43 rfl dX6_bridges_41 ?_
      obtain ⟨xq5, exq5, hm⟩ := am_bs hm
      refine r_getr exq5 fl_X6_190 rfl dX6_bridges_44 ?_
      refine r_iload_n 2 dX6_bridges_47 rfl ?_
      obtain ⟨xq6, exq6, hm⟩ := am_bs hm
      refine r_iald exq6 dX6_bridges_48 ?_
      refine r_aload_n 0 dX6_bridges_49 rfl ?_
      obtain ⟨xq7, exq7, hm⟩ := am_bs hm
      refine r_getr exq7 fl_X6_43 rfl dX6_bridges_50 ?_
      obtain ⟨xq8, exq8, hm⟩ := am_bs hm
      refine r_getr exq8 fl_X6_191 rfl dX6_bridges_53 ?_
      refine r_iload_n 2 dX6_bridges_56 rfl ?_
      obtain ⟨xq9, exq9, hm⟩ := am_bs hm
      refine r_iald exq9 dX6_bridges_57 ?_
      refine r_aload_n 0 dX6_bridges_58 rfl ?_
      obtain ⟨xq10, exq10, hm⟩ := am_bs hm
      refine r_getr exq10 fl_X6_43 rfl dX6_bridges_59 ?_
      obtain ⟨xq11, exq11, hm⟩ := am_bs hm
      refine r_cV1 [] (ct_X1_all l exq11) vm_X6_192 (cs_X1_all exq11) (by decide) ⟨rfl, rfl⟩ rfl (Nat.le_of_ble_eq_true rfl) dX6_bridges_62 ?_
      refine r_iconst 1 dX6_bridges_65 (by decide) ?_
      refine r_iload_n 2 dX6_bridges_66 rfl ?_
      refine r_ishl dX6_bridges_67 ?_
      refine r_ixor dX6_bridges_68 ?_
      obtain ⟨xq12, exq12, hm⟩ := am_bs hm
      refine r_cV1 [.int xq6, .int xq9, .int (xq11 ^^^ ((1 : Int32) <<< (a3 &&& 31)))] (ct_X1_areJoined l exq12) vm_X6_195 (cs_X1_areJoined exq12) (by decide) ⟨rfl, rfl⟩ rfl (Nat.le_of_ble_eq_true rfl) dX6_bridges_69 ?_
      obtain ⟨jq13, hw, hm⟩ := am_bs hm
      try dsimp only at hm
      have HJ : am_R l yX6_bridges cX6_bridges 4 (some .int) rm_X6_bridges (fun _ _ _ => True) 0 0 89 [(0, .ref a0), (2, .int jq13), (3, .int a3)] [] h K := by
        refine r_inc 1 2 [(3, .int (a3 + 1)), (0, .ref a0), (2, .int jq13)] dX6_bridges_89 (by decide) rfl (by decide) rfl ?_
        refine r_goto 25 dX6_bridges_92 (by decide) ?_
        exact r_lv [1, 2, 0] _ rfl (ih jq13 (a3 + 1) _ hm kE)
      clear hm
      have hm := hw
      clear hw
      refine r_if_ne 89 dX6_bridges_72 (by decide) (fun q => ?_) (fun q => ?_)
      · rw [if_pos (show xq12 = true from am_b1 q)] at hm
        cases hm
        exact r_lv [0, 1, 2] _ rfl HJ
      · rw [if_neg (show ¬ xq12 = true from by rw [am_b0 q]; decide)] at hm
        refine r_iload_n 1 dX6_bridges_75 rfl ?_
        refine r_iconst 1 dX6_bridges_76 (by decide) ?_
        refine r_aload_n 0 dX6_bridges_77 rfl ?_
        obtain ⟨xq14, exq14, hm⟩ := am_bs hm
        refine r_getr exq14 fl_X6_43 rfl dX6_bridges_78 ?_
        obtain ⟨xq15, exq15, hm⟩ := am_bs hm
        refine r_getr exq15 fl_X6_198 rfl dX6_bridges_81 ?_
        refine r_iload_n 2 dX6_bridges_84 rfl ?_
        obtain ⟨xq16, exq16, hm⟩ := am_bs hm
        refine r_iald exq16 dX6_bridges_85 ?_
        refine r_ishl dX6_bridges_86 ?_
        refine r_ior dX6_bridges_87 ?_
        refine r_istore_n [(2, .int (a2 ||| ((1 : Int32) <<< (xq16 &&& 31)))), (0, .ref a0), (3, .int a3)] dX6_bridges_88 (by decide) rfl ?_
        cases hm
        exact r_lv [1, 0, 2] _ rfl HJ
def mi_X6_bridges (f : Nat) (h : am_H) (p : Nat) (a : Int32) : Option (Int32 × am_H) :=
  Option.bind (am_cls h 6 p) fun _n =>
  Option.bind (mi_X6_isTime f h a) fun xq1 =>
  (if xq1 = true then
  (Option.bind (am_gr h 6 p 5) fun xq2 =>
  Option.bind (am_gr h 6 p 1) fun xq3 =>
  Option.bind (mi_X1_gather f h xq2 xq3 a) fun hq5 =>
  Option.bind (lo_X6_bridges_25 f hq5 p f 0 0) fun oq6 =>
  some (oq6, hq5))
  else (some ((-1), h)))
theorem cs_X6_bridges {f : Nat} {h : am_H} {p : Nat} {a : Int32} {z : (Int32 × am_H)} (hm : mi_X6_bridges f h p a = some z) : ∃ n, h.1[p]? = some (6, n) := by
  unfold mi_X6_bridges at hm
  obtain ⟨n, hn, -⟩ := am_bs hm
  exact ⟨n, am_cls_of hn⟩
set_option maxHeartbeats 4000000 in
set_option maxRecDepth 100000 in
theorem ct_X6_bridges (l : Launch) {f : Nat} {h : am_H} {p : Nat} {a : Int32} {r : Int32} {h2 : am_H} (hm : mi_X6_bridges f h p a = some (r, h2)) : am_Ct l yX6_bridges cX6_bridges 4 (some .int) rm_X6_bridges [.ref p, .int a] h (some (.int r)) h2 := by
  refine am_met2 [(0, .ref p), (1, .int a)] (by decide) (Nat.le_of_ble_eq_true rfl) rfl ?_
  generalize hK : (fun (v : Option Value) (h3 : am_H) => v = (some (.int r)) ∧ h3 = h2) = K
  have HK : K (some (.int r)) h2 := by rw [← hK]; exact ⟨rfl, rfl⟩
  clear hK
  unfold mi_X6_bridges at hm
  obtain ⟨_n, _hn, hm⟩ := am_bs hm
  refine r_iload_n 1 dX6_bridges_0 rfl ?_
  obtain ⟨xq1, exq1, hm⟩ := am_bs hm
  refine r_cS1 [.int a] (ct_X6_isTime l exq1) sm_X6_128 (by decide) ⟨rfl, rfl⟩ rfl (Nat.le_of_ble_eq_true rfl) dX6_bridges_1 ?_
  refine r_if_ne 9 dX6_bridges_4 (by decide) (fun q => ?_) (fun q => ?_)
  · rw [if_pos (show xq1 = true from am_b1 q)] at hm
    refine r_aload_n 0 dX6_bridges_9 rfl ?_
    obtain ⟨xq2, exq2, hm⟩ := am_bs hm
    refine r_getr exq2 fl_X6_43 rfl dX6_bridges_10 ?_
    refine r_aload_n 0 dX6_bridges_13 rfl ?_
    obtain ⟨xq3, exq3, hm⟩ := am_bs hm
    refine r_getr exq3 fl_X6_19 rfl dX6_bridges_14 ?_
    refine r_iload_n 1 dX6_bridges_17 rfl ?_
    obtain ⟨hq5, exq4, hm⟩ := am_bs hm
    refine r_cV0 [.ref xq3, .int a] (ct_X1_gather l exq4) vm_X6_186 (cs_X1_gather exq4) (by decide) ⟨rfl, rfl⟩ rfl (Nat.le_of_ble_eq_true rfl) dX6_bridges_18 ?_
    refine r_iconst 0 dX6_bridges_21 (by decide) ?_
    refine r_istore_n [(2, .int 0), (0, .ref p), (1, .int a)] dX6_bridges_22 (by decide) rfl ?_
    refine r_iconst 0 dX6_bridges_23 (by decide) ?_
    refine r_istore_n [(3, .int 0), (2, .int 0), (0, .ref p), (1, .int a)] dX6_bridges_24 (by decide) rfl ?_
    obtain ⟨oq6, ew, hm⟩ := am_bs hm
    try dsimp only at hm
    refine r_lv [2, 1, 0] _ rfl (ll_X6_bridges_25 l f hq5 p _ f 0 0 _ ew ?_)
    refine r_iload_n 0 dX6_bridges_95 rfl ?_
    cases hm
    exact r_ireturn dX6_bridges_96 rfl (by decide) HK
  · rw [if_neg (show ¬ xq1 = true from by rw [am_b0 q]; decide)] at hm
    refine r_iconst (-1) dX6_bridges_7 (by decide) ?_
    cases hm
    exact r_ireturn dX6_bridges_8 rfl (by decide) HK
def mi_X6_count (f : Nat) (h : am_H) (p : Nat) (a : Int32) : Option Int32 :=
  Option.bind (am_cls h 6 p) fun _n =>
  (if a = 0 then
  (Option.bind (am_gr h 6 p 0) fun xq1 =>
  Option.bind (am_gi h 3 xq1 1) fun xq2 =>
  some xq2)
  else (if a = 1 then
  (Option.bind (am_gr h 6 p 1) fun xq3 =>
  Option.bind (am_gi h 5 xq3 4) fun xq4 =>
  some xq4)
  else (if a = 2 then
  (Option.bind (am_gr h 6 p 1) fun xq5 =>
  Option.bind (mi_X5_timesFilled f h xq5) fun xq6 =>
  some xq6)
  else (if a = 3 then
  (Option.bind (am_gr h 6 p 1) fun xq7 =>
  Option.bind (mi_X5_timesTogether f h xq7) fun xq8 =>
  some xq8)
  else (if a = 4 then
  (Option.bind (am_gr h 6 p 3) fun xq9 =>
  Option.bind (am_gi h 0 xq9 1) fun xq10 =>
  some xq10)
  else (if a = 5 then
  (Option.bind (am_gr h 6 p 6) fun xq11 =>
  Option.bind (am_gi h 4 xq11 6) fun xq12 =>
  some xq12)
  else (some (-2))))))))
theorem cs_X6_count {f : Nat} {h : am_H} {p : Nat} {a : Int32} {z : Int32} (hm : mi_X6_count f h p a = some z) : ∃ n, h.1[p]? = some (6, n) := by
  unfold mi_X6_count at hm
  obtain ⟨n, hn, -⟩ := am_bs hm
  exact ⟨n, am_cls_of hn⟩
set_option maxHeartbeats 4000000 in
set_option maxRecDepth 100000 in
theorem ct_X6_count (l : Launch) {f : Nat} {h : am_H} {p : Nat} {a : Int32} {r : Int32} (hm : mi_X6_count f h p a = some r) : am_Ct l yX6_count cX6_count 2 (some .int) rm_X6_count [.ref p, .int a] h (some (.int r)) h := by
  refine am_met2 [(0, .ref p), (1, .int a)] (by decide) (Nat.le_of_ble_eq_true rfl) rfl ?_
  generalize hK : (fun (v : Option Value) (h3 : am_H) => v = (some (.int r)) ∧ h3 = h) = K
  have HK : K (some (.int r)) h := by rw [← hK]; exact ⟨rfl, rfl⟩
  clear hK
  unfold mi_X6_count at hm
  obtain ⟨_n, _hn, hm⟩ := am_bs hm
  refine r_iload_n 1 dX6_count_0 rfl ?_
  by_cases q0 : a = 0
  · rw [if_pos q0] at hm
    refine r_tsw 40 dX6_count_1 (Or.inl ⟨by rw [q0]; decide, by rw [q0]; decide⟩) ?_
    refine r_aload_n 0 dX6_count_40 rfl ?_
    obtain ⟨xq1, exq1, hm⟩ := am_bs hm
    refine r_getr exq1 fl_X6_10 rfl dX6_count_41 ?_
    obtain ⟨xq2, exq2, hm⟩ := am_bs hm
    refine r_geti exq2 fl_X6_66 rfl dX6_count_44 ?_
    cases hm
    exact r_ireturn dX6_count_47 rfl (by decide) HK
  rw [if_neg q0] at hm
  by_cases q1 : a = 1
  · rw [if_pos q1] at hm
    refine r_tsw 48 dX6_count_1 (Or.inl ⟨by rw [q1]; decide, by rw [q1]; decide⟩) ?_
    refine r_aload_n 0 dX6_count_48 rfl ?_
    obtain ⟨xq3, exq3, hm⟩ := am_bs hm
    refine r_getr exq3 fl_X6_19 rfl dX6_count_49 ?_
    obtain ⟨xq4, exq4, hm⟩ := am_bs hm
    refine r_geti exq4 fl_X6_81 rfl dX6_count_52 ?_
    cases hm
    exact r_ireturn dX6_count_55 rfl (by decide) HK
  rw [if_neg q1] at hm
  by_cases q2 : a = 2
  · rw [if_pos q2] at hm
    refine r_tsw 56 dX6_count_1 (Or.inl ⟨by rw [q2]; decide, by rw [q2]; decide⟩) ?_
    refine r_aload_n 0 dX6_count_56 rfl ?_
    obtain ⟨xq5, exq5, hm⟩ := am_bs hm
    refine r_getr exq5 fl_X6_19 rfl dX6_count_57 ?_
    obtain ⟨xq6, exq6, hm⟩ := am_bs hm
    refine r_cV1 [] (ct_X5_timesFilled l exq6) vm_X6_290 (cs_X5_timesFilled exq6) (by decide) ⟨rfl, rfl⟩ rfl (Nat.le_of_ble_eq_true rfl) dX6_count_60 ?_
    cases hm
    exact r_ireturn dX6_count_63 rfl (by decide) HK
  rw [if_neg q2] at hm
  by_cases q3 : a = 3
  · rw [if_pos q3] at hm
    refine r_tsw 64 dX6_count_1 (Or.inl ⟨by rw [q3]; decide, by rw [q3]; decide⟩) ?_
    refine r_aload_n 0 dX6_count_64 rfl ?_
    obtain ⟨xq7, exq7, hm⟩ := am_bs hm
    refine r_getr exq7 fl_X6_19 rfl dX6_count_65 ?_
    obtain ⟨xq8, exq8, hm⟩ := am_bs hm
    refine r_cV1 [] (ct_X5_timesTogether l exq8) vm_X6_293 (cs_X5_timesTogether exq8) (by decide) ⟨rfl, rfl⟩ rfl (Nat.le_of_ble_eq_true rfl) dX6_count_68 ?_
    cases hm
    exact r_ireturn dX6_count_71 rfl (by decide) HK
  rw [if_neg q3] at hm
  by_cases q4 : a = 4
  · rw [if_pos q4] at hm
    refine r_tsw 72 dX6_count_1 (Or.inl ⟨by rw [q4]; decide, by rw [q4]; decide⟩) ?_
    refine r_aload_n 0 dX6_count_72 rfl ?_
    obtain ⟨xq9, exq9, hm⟩ := am_bs hm
    refine r_getr exq9 fl_X6_29 rfl dX6_count_73 ?_
    obtain ⟨xq10, exq10, hm⟩ := am_bs hm
    refine r_geti exq10 fl_X6_78 rfl dX6_count_76 ?_
    cases hm
    exact r_ireturn dX6_count_79 rfl (by decide) HK
  rw [if_neg q4] at hm
  by_cases q5 : a = 5
  · rw [if_pos q5] at hm
    refine r_tsw 80 dX6_count_1 (Or.inl ⟨by rw [q5]; decide, by rw [q5]; decide⟩) ?_
    refine r_aload_n 0 dX6_count_80 rfl ?_
    obtain ⟨xq11, exq11, hm⟩ := am_bs hm
    refine r_getr exq11 fl_X6_50 rfl dX6_count_81 ?_
    obtain ⟨xq12, exq12, hm⟩ := am_bs hm
    refine r_geti exq12 fl_X6_225 rfl dX6_count_84 ?_
    cases hm
    exact r_ireturn dX6_count_87 rfl (by decide) HK
  rw [if_neg q5] at hm
  refine r_tsw 88 dX6_count_1 (Or.inr ⟨by have e0 := lv_neT q0 (show (0 : Int32).toInt = 0 from by decide); have e1 := lv_neT q1 (show (1 : Int32).toInt = 1 from by decide); have e2 := lv_neT q2 (show (2 : Int32).toInt = 2 from by decide); have e3 := lv_neT q3 (show (3 : Int32).toInt = 3 from by decide); have e4 := lv_neT q4 (show (4 : Int32).toInt = 4 from by decide); have e5 := lv_neT q5 (show (5 : Int32).toInt = 5 from by decide); omega, by decide⟩) ?_
  refine r_bipush (-2) dX6_count_88 (by decide) ?_
  cases hm
  exact r_ireturn dX6_count_90 rfl (by decide) HK
def mi_X6_rememberIfDone (f : Nat) (h : am_H) (p : Nat) (a : Int32) : Option (Int32 × am_H) :=
  Option.bind (am_cls h 6 p) fun _n =>
  Option.bind ((if a < 0 then
  (some h)
  else (Option.bind (am_gr h 6 p 3) fun xq2 =>
  Option.bind (am_gr h 6 p 2) fun xq3 =>
  Option.bind (mi_X0_remember f h xq2 xq3) fun hq5 =>
  some hq5))) fun hq1 =>
  some (a, hq1)
theorem cs_X6_rememberIfDone {f : Nat} {h : am_H} {p : Nat} {a : Int32} {z : (Int32 × am_H)} (hm : mi_X6_rememberIfDone f h p a = some z) : ∃ n, h.1[p]? = some (6, n) := by
  unfold mi_X6_rememberIfDone at hm
  obtain ⟨n, hn, -⟩ := am_bs hm
  exact ⟨n, am_cls_of hn⟩
set_option maxHeartbeats 4000000 in
set_option maxRecDepth 100000 in
theorem ct_X6_rememberIfDone (l : Launch) {f : Nat} {h : am_H} {p : Nat} {a : Int32} {r : Int32} {h2 : am_H} (hm : mi_X6_rememberIfDone f h p a = some (r, h2)) : am_Ct l yX6_rememberIfDone cX6_rememberIfDone 2 (some .int) rm_X6_rememberIfDone [.ref p, .int a] h (some (.int r)) h2 := by
  refine am_met2 [(0, .ref p), (1, .int a)] (by decide) (Nat.le_of_ble_eq_true rfl) rfl ?_
  generalize hK : (fun (v : Option Value) (h3 : am_H) => v = (some (.int r)) ∧ h3 = h2) = K
  have HK : K (some (.int r)) h2 := by rw [← hK]; exact ⟨rfl, rfl⟩
  clear hK
  unfold mi_X6_rememberIfDone at hm
  obtain ⟨_n, _hn, hm⟩ := am_bs hm
  refine r_iload_n 1 dX6_rememberIfDone_0 rfl ?_
  obtain ⟨hq1, hw, hm⟩ := am_bs hm
  try dsimp only at hm
  have HJ : am_R l yX6_rememberIfDone cX6_rememberIfDone 2 (some .int) rm_X6_rememberIfDone (fun _ _ _ => True) 0 0 15 [(1, .int a)] [] hq1 K := by
    refine r_iload_n 0 dX6_rememberIfDone_15 rfl ?_
    cases hm
    exact r_ireturn dX6_rememberIfDone_16 rfl (by decide) HK
  clear hm
  have hm := hw
  clear hw
  refine r_if_lt 15 dX6_rememberIfDone_1 (by decide) (fun q => ?_) (fun q => ?_)
  · rw [if_pos q] at hm
    cases hm
    exact r_lv [1] _ rfl HJ
  · rw [if_neg q] at hm
    refine r_aload_n 0 dX6_rememberIfDone_4 rfl ?_
    obtain ⟨xq2, exq2, hm⟩ := am_bs hm
    refine r_getr exq2 fl_X6_29 rfl dX6_rememberIfDone_5 ?_
    refine r_aload_n 0 dX6_rememberIfDone_8 rfl ?_
    obtain ⟨xq3, exq3, hm⟩ := am_bs hm
    refine r_getr exq3 fl_X6_23 rfl dX6_rememberIfDone_9 ?_
    obtain ⟨hq5, exq4, hm⟩ := am_bs hm
    refine r_cV0 [.ref xq3] (ct_X0_remember l exq4) vm_X6_125 (cs_X0_remember exq4) (by decide) ⟨rfl, rfl⟩ rfl (Nat.le_of_ble_eq_true rfl) dX6_rememberIfDone_12 ?_
    cases hm
    exact r_lv [1] _ rfl HJ
def mi_X6_cut (f : Nat) (h : am_H) (p : Nat) (a : Int32) : Option (Int32 × am_H) :=
  Option.bind (am_cls h 6 p) fun _n =>
  Option.bind (am_gr h 6 p 2) fun xq1 =>
  Option.bind (am_gr h 6 p 1) fun xq2 =>
  Option.bind (mi_X5_copyOf f h xq1 xq2) fun hq4 =>
  Option.bind (am_gr hq4 6 p 1) fun xq5 =>
  Option.bind (mi_X5_drop f hq4 xq5 a) fun (xq6, hq7) =>
  Option.bind (mi_X6_rememberIfDone f hq7 p xq6) fun (xq9, hq10) =>
  some (xq9, hq10)
theorem cs_X6_cut {f : Nat} {h : am_H} {p : Nat} {a : Int32} {z : (Int32 × am_H)} (hm : mi_X6_cut f h p a = some z) : ∃ n, h.1[p]? = some (6, n) := by
  unfold mi_X6_cut at hm
  obtain ⟨n, hn, -⟩ := am_bs hm
  exact ⟨n, am_cls_of hn⟩
set_option maxHeartbeats 4000000 in
set_option maxRecDepth 100000 in
theorem ct_X6_cut (l : Launch) {f : Nat} {h : am_H} {p : Nat} {a : Int32} {r : Int32} {h2 : am_H} (hm : mi_X6_cut f h p a = some (r, h2)) : am_Ct l yX6_cut cX6_cut 2 (some .int) rm_X6_cut [.ref p, .int a] h (some (.int r)) h2 := by
  refine am_met2 [(0, .ref p), (1, .int a)] (by decide) (Nat.le_of_ble_eq_true rfl) rfl ?_
  generalize hK : (fun (v : Option Value) (h3 : am_H) => v = (some (.int r)) ∧ h3 = h2) = K
  have HK : K (some (.int r)) h2 := by rw [← hK]; exact ⟨rfl, rfl⟩
  clear hK
  unfold mi_X6_cut at hm
  obtain ⟨_n, _hn, hm⟩ := am_bs hm
  refine r_aload_n 0 dX6_cut_0 rfl ?_
  obtain ⟨xq1, exq1, hm⟩ := am_bs hm
  refine r_getr exq1 fl_X6_23 rfl dX6_cut_1 ?_
  refine r_aload_n 0 dX6_cut_4 rfl ?_
  obtain ⟨xq2, exq2, hm⟩ := am_bs hm
  refine r_getr exq2 fl_X6_19 rfl dX6_cut_5 ?_
  obtain ⟨hq4, exq3, hm⟩ := am_bs hm
  refine r_cV0 [.ref xq2] (ct_X5_copyOf l exq3) vm_X6_105 (cs_X5_copyOf exq3) (by decide) ⟨rfl, rfl⟩ rfl (Nat.le_of_ble_eq_true rfl) dX6_cut_8 ?_
  refine r_aload_n 0 dX6_cut_11 rfl ?_
  refine r_aload_n 0 dX6_cut_12 rfl ?_
  obtain ⟨xq5, exq5, hm⟩ := am_bs hm
  refine r_getr exq5 fl_X6_19 rfl dX6_cut_13 ?_
  refine r_iload_n 1 dX6_cut_16 rfl ?_
  obtain ⟨⟨xq6, hq7⟩, exq6, hm⟩ := am_bs hm
  try dsimp only at hm
  refine r_cV1 [.int a] (ct_X5_drop l exq6) vm_X6_115 (cs_X5_drop exq6) (by decide) ⟨rfl, rfl⟩ rfl (Nat.le_of_ble_eq_true rfl) dX6_cut_17 ?_
  obtain ⟨⟨xq9, hq10⟩, exq9, hm⟩ := am_bs hm
  try dsimp only at hm
  refine r_cV1 [.int xq6] (ct_X6_rememberIfDone l exq9) vm_X6_112 (cs_X6_rememberIfDone exq9) (by decide) ⟨rfl, rfl⟩ rfl (Nat.le_of_ble_eq_true rfl) dX6_cut_20 ?_
  cases hm
  exact r_ireturn dX6_cut_23 rfl (by decide) HK
def mi_X6_addDrawn (f : Nat) (h : am_H) (p : Nat) (a : Int32) : Option am_H :=
  Option.bind (am_cls h 6 p) fun _n =>
  Option.bind (am_gr h 6 p 2) fun xq1 =>
  Option.bind (mi_X5_add f h xq1 (a - a / 8 * 8) ((a / 8) - (a / 8) / 8 * 8) ((a / 64) - (a / 64) / 16 * 16) (am_mn (((a / 64) - (a / 64) / 16 * 16) + ((a / 1024) - (a / 1024) / 16 * 16)) 15)) fun (xq2, hq3) =>
  some hq3
theorem cs_X6_addDrawn {f : Nat} {h : am_H} {p : Nat} {a : Int32} {z : am_H} (hm : mi_X6_addDrawn f h p a = some z) : ∃ n, h.1[p]? = some (6, n) := by
  unfold mi_X6_addDrawn at hm
  obtain ⟨n, hn, -⟩ := am_bs hm
  exact ⟨n, am_cls_of hn⟩
set_option maxHeartbeats 4000000 in
set_option maxRecDepth 100000 in
theorem ct_X6_addDrawn (l : Launch) {f : Nat} {h : am_H} {p : Nat} {a : Int32} {h2 : am_H} (hm : mi_X6_addDrawn f h p a = some h2) : am_Ct l yX6_addDrawn cX6_addDrawn 4 (none) rm_X6_addDrawn [.ref p, .int a] h none h2 := by
  refine am_met2 [(0, .ref p), (1, .int a)] (by decide) (Nat.le_of_ble_eq_true rfl) rfl ?_
  generalize hK : (fun (v : Option Value) (h3 : am_H) => v = none ∧ h3 = h2) = K
  have HK : K none h2 := by rw [← hK]; exact ⟨rfl, rfl⟩
  clear hK
  unfold mi_X6_addDrawn at hm
  obtain ⟨_n, _hn, hm⟩ := am_bs hm
  refine r_iload_n 1 dX6_addDrawn_0 rfl ?_
  refine r_bipush 64 dX6_addDrawn_1 (by decide) ?_
  refine r_idiv dX6_addDrawn_3 (by decide) ?_
  refine r_bipush 16 dX6_addDrawn_4 (by decide) ?_
  refine r_irem dX6_addDrawn_6 (by decide) ?_
  refine r_istore_n [(2, .int ((a / 64) - (a / 64) / 16 * 16)), (0, .ref p), (1, .int a)] dX6_addDrawn_7 (by decide) rfl ?_
  refine r_iload_n 0 dX6_addDrawn_8 rfl ?_
  refine r_iload_n 2 dX6_addDrawn_9 rfl ?_
  refine r_sipush 1024 dX6_addDrawn_10 (by decide) ?_
  refine r_idiv dX6_addDrawn_13 (by decide) ?_
  refine r_bipush 16 dX6_addDrawn_14 (by decide) ?_
  refine r_irem dX6_addDrawn_16 (by decide) ?_
  refine r_iadd dX6_addDrawn_17 ?_
  refine r_bipush 15 dX6_addDrawn_18 (by decide) ?_
  refine r_mmin km_X6_285 (by decide) (Nat.le_of_ble_eq_true rfl) (by decide) dX6_addDrawn_20 ?_
  refine r_istore_n [(3, .int (am_mn (((a / 64) - (a / 64) / 16 * 16) + ((a / 1024) - (a / 1024) / 16 * 16)) 15)), (2, .int ((a / 64) - (a / 64) / 16 * 16)), (0, .ref p), (1, .int a)] dX6_addDrawn_23 (by decide) rfl ?_
  refine r_aload_n 2 dX6_addDrawn_24 rfl ?_
  obtain ⟨xq1, exq1, hm⟩ := am_bs hm
  refine r_getr exq1 fl_X6_23 rfl dX6_addDrawn_25 ?_
  refine r_iload_n 3 dX6_addDrawn_28 rfl ?_
  refine r_bipush 8 dX6_addDrawn_29 (by decide) ?_
  refine r_irem dX6_addDrawn_31 (by decide) ?_
  refine r_iload_n 3 dX6_addDrawn_32 rfl ?_
  refine r_bipush 8 dX6_addDrawn_33 (by decide) ?_
  refine r_idiv dX6_addDrawn_35 (by decide) ?_
  refine r_bipush 8 dX6_addDrawn_36 (by decide) ?_
  refine r_irem dX6_addDrawn_38 (by decide) ?_
  refine r_iload_n 1 dX6_addDrawn_39 rfl ?_
  refine r_iload_n 0 dX6_addDrawn_40 rfl ?_
  obtain ⟨⟨xq2, hq3⟩, exq2, hm⟩ := am_bs hm
  try dsimp only at hm
  refine r_cV1 [.int (a - a / 8 * 8), .int ((a / 8) - (a / 8) / 8 * 8), .int ((a / 64) - (a / 64) / 16 * 16), .int (am_mn (((a / 64) - (a / 64) / 16 * 16) + ((a / 1024) - (a / 1024) / 16 * 16)) 15)] (ct_X5_add l exq2) vm_X6_108 (cs_X5_add exq2) (by decide) ⟨rfl, rfl⟩ rfl (Nat.le_of_ble_eq_true rfl) dX6_addDrawn_41 ?_
  refine r_pop dX6_addDrawn_44 rfl ?_
  cases hm
  exact r_return dX6_addDrawn_45 rfl (by decide) HK
def mi_X6_partsInTrial (f : Nat) (h : am_H) (p : Nat) (a : Int32) : Option (Int32 × am_H) :=
  Option.bind (am_cls h 6 p) fun _n =>
  Option.bind (am_gr h 6 p 4) fun xq1 =>
  Option.bind (am_gr h 6 p 2) fun xq2 =>
  Option.bind (mi_X2_walkToTime f h xq1 xq2 a) fun hq4 =>
  Option.bind (am_gr hq4 6 p 4) fun xq5 =>
  Option.bind (mi_X2_parts f hq4 xq5) fun xq6 =>
  some (xq6, hq4)
theorem cs_X6_partsInTrial {f : Nat} {h : am_H} {p : Nat} {a : Int32} {z : (Int32 × am_H)} (hm : mi_X6_partsInTrial f h p a = some z) : ∃ n, h.1[p]? = some (6, n) := by
  unfold mi_X6_partsInTrial at hm
  obtain ⟨n, hn, -⟩ := am_bs hm
  exact ⟨n, am_cls_of hn⟩
set_option maxHeartbeats 4000000 in
set_option maxRecDepth 100000 in
theorem ct_X6_partsInTrial (l : Launch) {f : Nat} {h : am_H} {p : Nat} {a : Int32} {r : Int32} {h2 : am_H} (hm : mi_X6_partsInTrial f h p a = some (r, h2)) : am_Ct l yX6_partsInTrial cX6_partsInTrial 2 (some .int) rm_X6_partsInTrial [.ref p, .int a] h (some (.int r)) h2 := by
  refine am_met2 [(0, .ref p), (1, .int a)] (by decide) (Nat.le_of_ble_eq_true rfl) rfl ?_
  generalize hK : (fun (v : Option Value) (h3 : am_H) => v = (some (.int r)) ∧ h3 = h2) = K
  have HK : K (some (.int r)) h2 := by rw [← hK]; exact ⟨rfl, rfl⟩
  clear hK
  unfold mi_X6_partsInTrial at hm
  obtain ⟨_n, _hn, hm⟩ := am_bs hm
  refine r_aload_n 0 dX6_partsInTrial_0 rfl ?_
  obtain ⟨xq1, exq1, hm⟩ := am_bs hm
  refine r_getr exq1 fl_X6_36 rfl dX6_partsInTrial_1 ?_
  refine r_aload_n 0 dX6_partsInTrial_4 rfl ?_
  obtain ⟨xq2, exq2, hm⟩ := am_bs hm
  refine r_getr exq2 fl_X6_23 rfl dX6_partsInTrial_5 ?_
  refine r_iload_n 1 dX6_partsInTrial_8 rfl ?_
  obtain ⟨hq4, exq3, hm⟩ := am_bs hm
  refine r_cV0 [.ref xq2, .int a] (ct_X2_walkToTime l exq3) vm_X6_131 (cs_X2_walkToTime exq3) (by decide) ⟨rfl, rfl⟩ rfl (Nat.le_of_ble_eq_true rfl) dX6_partsInTrial_9 ?_
  refine r_aload_n 0 dX6_partsInTrial_12 rfl ?_
  obtain ⟨xq5, exq5, hm⟩ := am_bs hm
  refine r_getr exq5 fl_X6_36 rfl dX6_partsInTrial_13 ?_
  obtain ⟨xq6, exq6, hm⟩ := am_bs hm
  refine r_cV1 [] (ct_X2_parts l exq6) vm_X6_135 (cs_X2_parts exq6) (by decide) ⟨rfl, rfl⟩ rfl (Nat.le_of_ble_eq_true rfl) dX6_partsInTrial_16 ?_
  cases hm
  exact r_ireturn dX6_partsInTrial_19 rfl (by decide) HK
def lo_X6_drawn_29 (f : Nat) (a0 : Nat) (a1 : Int32) : Nat → Int32 → Int32 → am_H → Option (Int32 × am_H)
  | 0, _, _, _ => none
  | n + 1, a2, a3, h =>
  (if a1 ≤ a3 then
  (some (a2, h))
  else (Option.bind (am_gl h 6 a0 9) fun xq1 =>
  Option.bind (am_pl h 6 a0 9 ((xq1 * 6364136223846793005) + 1442695040888963407)) fun hq2 =>
  Option.bind (am_gl hq2 6 a0 9) fun xq3 =>
  Option.bind (mi_X6_addDrawn f hq2 a0 (((((xq3).toUInt64 >>> ((33 : Int32).toInt64.toUInt64 &&& Int64.toUInt64 63)).toInt64) : Int64).toInt32)) fun hq5 =>
  Option.bind (mi_X6_partsInTrial f hq5 a0 8) fun (xq6, hq7) =>
  lo_X6_drawn_29 f a0 a1 n (a2 + xq6) (a3 + 1) hq7))
set_option maxHeartbeats 4000000 in
set_option maxRecDepth 100000 in
theorem ll_X6_drawn_29 (l : Launch) (f : Nat) (a0 : Nat) (a1 : Int32) (K : Option Value → am_H → Prop) : ∀ (n : Nat) (a2 : Int32) (a3 : Int32) (h : am_H) (z : Int32 × am_H), lo_X6_drawn_29 f a0 a1 n a2 a3 h = some z →
    am_R l yX6_drawn cX6_drawn 4 (some .int) rm_X6_drawn (fun _ _ _ => True) 0 0 77 [(2, .int z.1)] [] z.2 K →
    am_R l yX6_drawn cX6_drawn 4 (some .int) rm_X6_drawn (fun _ _ _ => True) 0 0 29 [(0, .ref a0), (1, .int a1), (2, .int a2), (3, .int a3)] [] h K := by
  intro n
  induction n with
  | zero =>
    intro a2 a3 h z hm kE
    cases hm
  | succ n ih =>
    intro a2 a3 h z hm kE
    rw [lo_X6_drawn_29.eq_2] at hm
    refine r_iload_n 3 dX6_drawn_29 rfl ?_
    refine r_iload_n 1 dX6_drawn_30 rfl ?_
    refine r_icmp_ge 77 dX6_drawn_31 (by decide) (fun q => ?_) (fun q => ?_)
    · rw [if_pos q] at hm
      cases hm
      exact r_lv [2] _ rfl kE
    · rw [if_neg q] at hm
      refine r_aload_n 0 dX6_drawn_34 rfl ?_
      refine r_aload_n 0 dX6_drawn_35 rfl ?_
      obtain ⟨xq1, exq1, hm⟩ := am_bs hm
      refine r_getl exq1 fl_X6_273 rfl dX6_drawn_36 ?_
      refine r_ldc2 (v := 6364136223846793005) kw_X6_277 dX6_drawn_39 ?_
      refine r_lmul dX6_drawn_42 ?_
      refine r_ldc2 (v := 1442695040888963407) kw_X6_279 dX6_drawn_43 ?_
      refine r_ladd dX6_drawn_46 ?_
      obtain ⟨hq2, ehq2, hm⟩ := am_bs hm
      refine r_putl ehq2 fl_X6_273 rfl rfl dX6_drawn_47 ?_
      refine r_aload_n 0 dX6_drawn_50 rfl ?_
      refine r_aload_n 0 dX6_drawn_51 rfl ?_
      obtain ⟨xq3, exq3, hm⟩ := am_bs hm
      refine r_getl exq3 fl_X6_273 rfl dX6_drawn_52 ?_
      refine r_bipush 33 dX6_drawn_55 (by decide) ?_
      refine r_lushr dX6_drawn_57 ?_
      refine r_l2i dX6_drawn_58 ?_
      obtain ⟨hq5, exq4, hm⟩ := am_bs hm
      refine r_cV0 [.int (((((xq3).toUInt64 >>> ((33 : Int32).toInt64.toUInt64 &&& Int64.toUInt64 63)).toInt64) : Int64).toInt32)] (ct_X6_addDrawn l exq4) vm_X6_281 (cs_X6_addDrawn exq4) (by decide) ⟨rfl, rfl⟩ rfl (Nat.le_of_ble_eq_true rfl) dX6_drawn_59 ?_
      refine r_iload_n 2 dX6_drawn_62 rfl ?_
      refine r_aload_n 0 dX6_drawn_63 rfl ?_
      refine r_bipush 8 dX6_drawn_64 (by decide) ?_
      obtain ⟨⟨xq6, hq7⟩, exq6, hm⟩ := am_bs hm
      try dsimp only at hm
      refine r_cV1 [.int 8] (ct_X6_partsInTrial l exq6) vm_X6_219 (cs_X6_partsInTrial exq6) (by decide) ⟨rfl, rfl⟩ rfl (Nat.le_of_ble_eq_true rfl) dX6_drawn_66 ?_
      refine r_iadd dX6_drawn_69 ?_
      refine r_istore_n [(2, .int (a2 + xq6)), (0, .ref a0), (1, .int a1), (3, .int a3)] dX6_drawn_70 (by decide) rfl ?_
      refine r_inc 1 3 [(3, .int (a3 + 1)), (2, .int (a2 + xq6)), (0, .ref a0), (1, .int a1)] dX6_drawn_71 (by decide) rfl (by decide) rfl ?_
      refine r_goto 29 dX6_drawn_74 (by decide) ?_
      exact r_lv [2, 3, 1, 0] _ rfl (ih (a2 + xq6) (a3 + 1) hq7 _ hm kE)
def mi_X6_drawn (f : Nat) (h : am_H) (p : Nat) (a : Int32) : Option (Int32 × am_H) :=
  Option.bind (am_cls h 6 p) fun _n =>
  (if a < 1 then
  (some ((-2), h))
  else ((if a ≤ 16 then
  (Option.bind (am_gr h 6 p 2) fun xq1 =>
  Option.bind (am_gr h 6 p 1) fun xq2 =>
  Option.bind (mi_X5_copyOf f h xq1 xq2) fun hq4 =>
  Option.bind (lo_X6_drawn_29 f p a f 0 0 hq4) fun (oq5, hq6) =>
  some (oq5, hq6))
  else (some ((-2), h)))))
theorem cs_X6_drawn {f : Nat} {h : am_H} {p : Nat} {a : Int32} {z : (Int32 × am_H)} (hm : mi_X6_drawn f h p a = some z) : ∃ n, h.1[p]? = some (6, n) := by
  unfold mi_X6_drawn at hm
  obtain ⟨n, hn, -⟩ := am_bs hm
  exact ⟨n, am_cls_of hn⟩
set_option maxHeartbeats 4000000 in
set_option maxRecDepth 100000 in
theorem ct_X6_drawn (l : Launch) {f : Nat} {h : am_H} {p : Nat} {a : Int32} {r : Int32} {h2 : am_H} (hm : mi_X6_drawn f h p a = some (r, h2)) : am_Ct l yX6_drawn cX6_drawn 4 (some .int) rm_X6_drawn [.ref p, .int a] h (some (.int r)) h2 := by
  refine am_met2 [(0, .ref p), (1, .int a)] (by decide) (Nat.le_of_ble_eq_true rfl) rfl ?_
  generalize hK : (fun (v : Option Value) (h3 : am_H) => v = (some (.int r)) ∧ h3 = h2) = K
  have HK : K (some (.int r)) h2 := by rw [← hK]; exact ⟨rfl, rfl⟩
  clear hK
  unfold mi_X6_drawn at hm
  obtain ⟨_n, _hn, hm⟩ := am_bs hm
  refine r_iload_n 1 dX6_drawn_0 rfl ?_
  refine r_iconst 1 dX6_drawn_1 (by decide) ?_
  refine r_icmp_lt 11 dX6_drawn_2 (by decide) (fun q => ?_) (fun q => ?_)
  · rw [if_pos q] at hm
    refine r_bipush (-2) dX6_drawn_11 (by decide) ?_
    cases hm
    exact r_ireturn dX6_drawn_13 rfl (by decide) HK
  · rw [if_neg q] at hm
    refine r_iload_n 1 dX6_drawn_5 rfl ?_
    refine r_bipush 16 dX6_drawn_6 (by decide) ?_
    refine r_icmp_le 14 dX6_drawn_8 (by decide) (fun q => ?_) (fun q => ?_)
    · rw [if_pos q] at hm
      refine r_aload_n 0 dX6_drawn_14 rfl ?_
      obtain ⟨xq1, exq1, hm⟩ := am_bs hm
      refine r_getr exq1 fl_X6_23 rfl dX6_drawn_15 ?_
      refine r_aload_n 0 dX6_drawn_18 rfl ?_
      obtain ⟨xq2, exq2, hm⟩ := am_bs hm
      refine r_getr exq2 fl_X6_19 rfl dX6_drawn_19 ?_
      obtain ⟨hq4, exq3, hm⟩ := am_bs hm
      refine r_cV0 [.ref xq2] (ct_X5_copyOf l exq3) vm_X6_105 (cs_X5_copyOf exq3) (by decide) ⟨rfl, rfl⟩ rfl (Nat.le_of_ble_eq_true rfl) dX6_drawn_22 ?_
      refine r_iconst 0 dX6_drawn_25 (by decide) ?_
      refine r_istore_n [(2, .int 0), (0, .ref p), (1, .int a)] dX6_drawn_26 (by decide) rfl ?_
      refine r_iconst 0 dX6_drawn_27 (by decide) ?_
      refine r_istore_n [(3, .int 0), (2, .int 0), (0, .ref p), (1, .int a)] dX6_drawn_28 (by decide) rfl ?_
      obtain ⟨⟨oq5, hq6⟩, ew, hm⟩ := am_bs hm
      try dsimp only at hm
      refine r_lv [2, 3, 1, 0] _ rfl (ll_X6_drawn_29 l f p a _ f 0 0 hq4 _ ew ?_)
      refine r_iload_n 0 dX6_drawn_77 rfl ?_
      cases hm
      exact r_ireturn dX6_drawn_78 rfl (by decide) HK
    · rw [if_neg q] at hm
      refine r_bipush (-2) dX6_drawn_11 (by decide) ?_
      cases hm
      exact r_ireturn dX6_drawn_13 rfl (by decide) HK
def mi_X6_end (f : Nat) (h : am_H) (p : Nat) (a : Int32) (b : Int32) : Option (Int32 × am_H) :=
  Option.bind (am_cls h 6 p) fun _n =>
  Option.bind (am_gr h 6 p 2) fun xq1 =>
  Option.bind (am_gr h 6 p 1) fun xq2 =>
  Option.bind (mi_X5_copyOf f h xq1 xq2) fun hq4 =>
  Option.bind (am_gr hq4 6 p 1) fun xq5 =>
  Option.bind (mi_X5_stopAt f hq4 xq5 a b) fun (xq6, hq7) =>
  Option.bind (mi_X6_rememberIfDone f hq7 p xq6) fun (xq9, hq10) =>
  some (xq9, hq10)
theorem cs_X6_end {f : Nat} {h : am_H} {p : Nat} {a : Int32} {b : Int32} {z : (Int32 × am_H)} (hm : mi_X6_end f h p a b = some z) : ∃ n, h.1[p]? = some (6, n) := by
  unfold mi_X6_end at hm
  obtain ⟨n, hn, -⟩ := am_bs hm
  exact ⟨n, am_cls_of hn⟩
set_option maxHeartbeats 4000000 in
set_option maxRecDepth 100000 in
theorem ct_X6_end (l : Launch) {f : Nat} {h : am_H} {p : Nat} {a : Int32} {b : Int32} {r : Int32} {h2 : am_H} (hm : mi_X6_end f h p a b = some (r, h2)) : am_Ct l yX6_end cX6_end 3 (some .int) rm_X6_end [.ref p, .int a, .int b] h (some (.int r)) h2 := by
  refine am_met2 [(0, .ref p), (1, .int a), (2, .int b)] (by decide) (Nat.le_of_ble_eq_true rfl) rfl ?_
  generalize hK : (fun (v : Option Value) (h3 : am_H) => v = (some (.int r)) ∧ h3 = h2) = K
  have HK : K (some (.int r)) h2 := by rw [← hK]; exact ⟨rfl, rfl⟩
  clear hK
  unfold mi_X6_end at hm
  obtain ⟨_n, _hn, hm⟩ := am_bs hm
  refine r_aload_n 0 dX6_end_0 rfl ?_
  obtain ⟨xq1, exq1, hm⟩ := am_bs hm
  refine r_getr exq1 fl_X6_23 rfl dX6_end_1 ?_
  refine r_aload_n 0 dX6_end_4 rfl ?_
  obtain ⟨xq2, exq2, hm⟩ := am_bs hm
  refine r_getr exq2 fl_X6_19 rfl dX6_end_5 ?_
  obtain ⟨hq4, exq3, hm⟩ := am_bs hm
  refine r_cV0 [.ref xq2] (ct_X5_copyOf l exq3) vm_X6_105 (cs_X5_copyOf exq3) (by decide) ⟨rfl, rfl⟩ rfl (Nat.le_of_ble_eq_true rfl) dX6_end_8 ?_
  refine r_aload_n 0 dX6_end_11 rfl ?_
  refine r_aload_n 0 dX6_end_12 rfl ?_
  obtain ⟨xq5, exq5, hm⟩ := am_bs hm
  refine r_getr exq5 fl_X6_19 rfl dX6_end_13 ?_
  refine r_iload_n 1 dX6_end_16 rfl ?_
  refine r_iload_n 2 dX6_end_17 rfl ?_
  obtain ⟨⟨xq6, hq7⟩, exq6, hm⟩ := am_bs hm
  try dsimp only at hm
  refine r_cV1 [.int a, .int b] (ct_X5_stopAt l exq6) vm_X6_118 (cs_X5_stopAt exq6) (by decide) ⟨rfl, rfl⟩ rfl (Nat.le_of_ble_eq_true rfl) dX6_end_18 ?_
  obtain ⟨⟨xq9, hq10⟩, exq9, hm⟩ := am_bs hm
  try dsimp only at hm
  refine r_cV1 [.int xq6] (ct_X6_rememberIfDone l exq9) vm_X6_112 (cs_X6_rememberIfDone exq9) (by decide) ⟨rfl, rfl⟩ rfl (Nat.le_of_ble_eq_true rfl) dX6_end_21 ?_
  cases hm
  exact r_ireturn dX6_end_24 rfl (by decide) HK
def lo_X6_power_5 (f : Nat) (h : am_H) (a0 : Int64) (a2 : Int32) : Nat → Int64 → Int32 → Option (Int64)
  | 0, _, _ => none
  | n + 1, a3, a5 =>
  (if a2 ≤ a5 then
  (some a3)
  else (lo_X6_power_5 f h a0 a2 n (a3 * a0) (a5 + 1)))
set_option maxHeartbeats 4000000 in
set_option maxRecDepth 100000 in
theorem ll_X6_power_5 (l : Launch) (f : Nat) (h : am_H) (a0 : Int64) (a2 : Int32) (K : Option Value → am_H → Prop) : ∀ (n : Nat) (a3 : Int64) (a5 : Int32) (z : Int64), lo_X6_power_5 f h a0 a2 n a3 a5 = some z →
    am_R l yX6_power cX6_power 6 (some .long) rm_X6_power (fun _ _ _ => True) 0 0 21 [(3, .long z)] [] h K →
    am_R l yX6_power cX6_power 6 (some .long) rm_X6_power (fun _ _ _ => True) 0 0 5 [(0, .long a0), (2, .int a2), (3, .long a3), (5, .int a5)] [] h K := by
  intro n
  induction n with
  | zero =>
    intro a3 a5 z hm kE
    cases hm
  | succ n ih =>
    intro a3 a5 z hm kE
    rw [lo_X6_power_5.eq_2] at hm
    refine r_iload 3 dX6_power_5 rfl ?_
    refine r_iload_n 1 dX6_power_7 rfl ?_
    refine r_icmp_ge 21 dX6_power_8 (by decide) (fun q => ?_) (fun q => ?_)
    · rw [if_pos q] at hm
      cases hm
      exact r_lv [2] _ rfl kE
    · rw [if_neg q] at hm
      refine r_lload_n 2 dX6_power_11 rfl ?_
      refine r_lload_n 0 dX6_power_12 rfl ?_
      refine r_lmul dX6_power_13 ?_
      refine r_lstore_n [(3, .long (a3 * a0)), (0, .long a0), (2, .int a2), (5, .int a5)] dX6_power_14 (by decide) rfl ?_
      refine r_inc 1 3 [(5, .int (a5 + 1)), (3, .long (a3 * a0)), (0, .long a0), (2, .int a2)] dX6_power_15 (by decide) rfl (by decide) rfl ?_
      refine r_goto 5 dX6_power_18 (by decide) ?_
      exact r_lv [2, 3, 1, 0] _ rfl (ih (a3 * a0) (a5 + 1) _ hm kE)
def mi_X6_power (f : Nat) (h : am_H) (a : Int64) (b : Int32) : Option Int64 :=
  Option.bind (lo_X6_power_5 f h a b f 1 0) fun oq1 =>
  some oq1
set_option maxHeartbeats 4000000 in
set_option maxRecDepth 100000 in
theorem ct_X6_power (l : Launch) {f : Nat} {h : am_H} {a : Int64} {b : Int32} {r : Int64} (hm : mi_X6_power f h a b = some r) : am_Ct l yX6_power cX6_power 6 (some .long) rm_X6_power [.long a, .int b] h (some (.long r)) h := by
  refine am_met2 [(0, .long a), (2, .int b)] (by decide) (Nat.le_of_ble_eq_true rfl) rfl ?_
  generalize hK : (fun (v : Option Value) (h3 : am_H) => v = (some (.long r)) ∧ h3 = h) = K
  have HK : K (some (.long r)) h := by rw [← hK]; exact ⟨rfl, rfl⟩
  clear hK
  unfold mi_X6_power at hm
  refine r_lconst 1 dX6_power_0 (by decide) ?_
  refine r_lstore_n [(3, .long 1), (0, .long a), (2, .int b)] dX6_power_1 (by decide) rfl ?_
  refine r_iconst 0 dX6_power_2 (by decide) ?_
  refine r_istore [(5, .int 0), (3, .long 1), (0, .long a), (2, .int b)] dX6_power_3 (by decide) rfl ?_
  obtain ⟨oq1, ew, hm⟩ := am_bs hm
  try dsimp only at hm
  refine r_lv [2, 3, 1, 0] _ rfl (ll_X6_power_5 l f h a b _ f 1 0 _ ew ?_)
  refine r_lload_n 0 dX6_power_21 rfl ?_
  cases hm
  exact r_lreturn dX6_power_22 rfl (by decide) HK
def lo_X6_chancesOfJoined_6 (f : Nat) (h : am_H) (a0 : Nat) (a1 : Int32) (a2 : Int32) (a3 : Int32) : Nat → Int64 → Int32 → Option (Int64)
  | 0, _, _ => none
  | n + 1, a4, a6 =>
  Option.bind (am_gr h 6 a0 5) fun xq1 =>
  Option.bind (mi_X1_all f h xq1) fun xq2 =>
  (if xq2 < a6 then
  (some a4)
  else (Option.bind (am_gr h 6 a0 5) fun xq3 =>
  Option.bind (mi_X1_areJoined f h xq3 a1 a2 a6) fun xq4 =>
  Option.bind ((if xq4 = true then
  (Option.bind (mi_J6_bitCount_0f7a4 f h a6) fun xq6 =>
  Option.bind (mi_X6_power f h ((((10 : Int32) - a3) : Int32).toInt64) xq6) fun xq7 =>
  Option.bind (am_gr h 6 a0 5) fun xq8 =>
  Option.bind (am_gi h 1 xq8 4) fun xq9 =>
  Option.bind (mi_X6_power f h ((a3 : Int32).toInt64) (xq9 - xq6)) fun xq10 =>
  some (a4 + (xq7 * xq10)))
  else (some a4))) fun jq5 =>
  lo_X6_chancesOfJoined_6 f h a0 a1 a2 a3 n jq5 (a6 + 1)))
set_option maxHeartbeats 4000000 in
set_option maxRecDepth 100000 in
theorem ll_X6_chancesOfJoined_6 (l : Launch) (f : Nat) (h : am_H) (a0 : Nat) (a1 : Int32) (a2 : Int32) (a3 : Int32) (K : Option Value → am_H → Prop) : ∀ (n : Nat) (a4 : Int64) (a6 : Int32) (z : Int64), lo_X6_chancesOfJoined_6 f h a0 a1 a2 a3 n a4 a6 = some z →
    am_R l yX6_chancesOfJoined cX6_chancesOfJoined 8 (some .long) rm_X6_chancesOfJoined (fun _ _ _ => True) 0 0 76 [(4, .long z)] [] h K →
    am_R l yX6_chancesOfJoined cX6_chancesOfJoined 8 (some .long) rm_X6_chancesOfJoined (fun _ _ _ => True) 0 0 6 [(0, .ref a0), (1, .int a1), (2, .int a2), (3, .int a3), (4, .long a4), (6, .int a6)] [] h K := by
  intro n
  induction n with
  | zero =>
    intro a4 a6 z hm kE
    cases hm
  | succ n ih =>
    intro a4 a6 z hm kE
    rw [lo_X6_chancesOfJoined_6.eq_2] at hm
    refine r_iload 5 dX6_chancesOfJoined_6 rfl ?_
    refine r_aload_n 0 dX6_chancesOfJoined_8 rfl ?_
    obtain ⟨xq1, exq1, hm⟩ := am_bs hm
    refine r_getr exq1 fl_X6_43 rfl dX6_chancesOfJoined_9 ?_
    obtain ⟨xq2, exq2, hm⟩ := am_bs hm
    refine r_cV1 [] (ct_X1_all l exq2) vm_X6_192 (cs_X1_all exq2) (by decide) ⟨rfl, rfl⟩ rfl (Nat.le_of_ble_eq_true rfl) dX6_chancesOfJoined_12 ?_
    refine r_icmp_gt 76 dX6_chancesOfJoined_15 (by decide) (fun q => ?_) (fun q => ?_)
    · rw [if_pos q] at hm
      cases hm
      exact r_lv [4] _ rfl kE
    · rw [if_neg q] at hm
      refine r_aload_n 0 dX6_chancesOfJoined_18 rfl ?_
      obtain ⟨xq3, exq3, hm⟩ := am_bs hm
      refine r_getr exq3 fl_X6_43 rfl dX6_chancesOfJoined_19 ?_
      refine r_iload_n 1 dX6_chancesOfJoined_22 rfl ?_
      refine r_iload_n 2 dX6_chancesOfJoined_23 rfl ?_
      refine r_iload 5 dX6_chancesOfJoined_24 rfl ?_
      obtain ⟨xq4, exq4, hm⟩ := am_bs hm
      refine r_cV1 [.int a1, .int a2, .int a6] (ct_X1_areJoined l exq4) vm_X6_195 (cs_X1_areJoined exq4) (by decide) ⟨rfl, rfl⟩ rfl (Nat.le_of_ble_eq_true rfl) dX6_chancesOfJoined_26 ?_
      obtain ⟨jq5, hw, hm⟩ := am_bs hm
      try dsimp only at hm
      have HJ : am_R l yX6_chancesOfJoined cX6_chancesOfJoined 8 (some .long) rm_X6_chancesOfJoined (fun _ _ _ => True) 0 0 70 [(0, .ref a0), (1, .int a1), (2, .int a2), (3, .int a3), (4, .long jq5), (6, .int a6)] [] h K := by
        refine r_inc 1 5 [(6, .int (a6 + 1)), (0, .ref a0), (1, .int a1), (2, .int a2), (3, .int a3), (4, .long jq5)] dX6_chancesOfJoined_70 (by decide) rfl (by decide) rfl ?_
        refine r_goto 6 dX6_chancesOfJoined_73 (by decide) ?_
        exact r_lv [1, 2, 3, 4, 5, 0] _ rfl (ih jq5 (a6 + 1) _ hm kE)
      clear hm
      have hm := hw
      clear hw
      refine r_if_eq 70 dX6_chancesOfJoined_29 (by decide) (fun q => ?_) (fun q => ?_)
      · rw [if_neg (show ¬ xq4 = true from by rw [am_b0 q]; decide)] at hm
        cases hm
        exact r_lv [0, 1, 2, 3, 4, 5] _ rfl HJ
      · rw [if_pos (show xq4 = true from am_b1 q)] at hm
        refine r_iload 5 dX6_chancesOfJoined_32 rfl ?_
        obtain ⟨xq6, exq6, hm⟩ := am_bs hm
        refine r_cS1 [.int a6] (ct_J6_bitCount_0f7a4 l exq6) sm_X6_177 (by decide) ⟨rfl, rfl⟩ rfl (Nat.le_of_ble_eq_true rfl) dX6_chancesOfJoined_34 ?_
        refine r_istore [(7, .int xq6), (0, .ref a0), (1, .int a1), (2, .int a2), (3, .int a3), (4, .long a4), (6, .int a6)] dX6_chancesOfJoined_37 (by decide) rfl ?_
        refine r_lload 5 dX6_chancesOfJoined_39 rfl ?_
        refine r_bipush 10 dX6_chancesOfJoined_41 (by decide) ?_
        refine r_iload_n 4 dX6_chancesOfJoined_43 rfl ?_
        refine r_isub dX6_chancesOfJoined_44 ?_
        refine r_i2l dX6_chancesOfJoined_45 ?_
        refine r_iload 0 dX6_chancesOfJoined_46 rfl ?_
        obtain ⟨xq7, exq7, hm⟩ := am_bs hm
        refine r_cS1 [.long ((((10 : Int32) - a3) : Int32).toInt64), .int xq6] (ct_X6_power l exq7) sm_X6_209 (by decide) ⟨rfl, rfl⟩ rfl (Nat.le_of_ble_eq_true rfl) dX6_chancesOfJoined_48 ?_
        refine r_iload_n 4 dX6_chancesOfJoined_51 rfl ?_
        refine r_i2l dX6_chancesOfJoined_52 ?_
        refine r_aload_n 1 dX6_chancesOfJoined_53 rfl ?_
        obtain ⟨xq8, exq8, hm⟩ := am_bs hm
        refine r_getr exq8 fl_X6_43 rfl dX6_chancesOfJoined_54 ?_
        obtain ⟨xq9, exq9, hm⟩ := am_bs hm
        refine r_geti exq9 fl_X6_189 rfl dX6_chancesOfJoined_57 ?_
        refine r_iload 0 dX6_chancesOfJoined_60 rfl ?_
        refine r_isub dX6_chancesOfJoined_62 ?_
        obtain ⟨xq10, exq10, hm⟩ := am_bs hm
        refine r_cS1 [.long ((a3 : Int32).toInt64), .int (xq9 - xq6)] (ct_X6_power l exq10) sm_X6_209 (by decide) ⟨rfl, rfl⟩ rfl (Nat.le_of_ble_eq_true rfl) dX6_chancesOfJoined_63 ?_
        refine r_lmul dX6_chancesOfJoined_66 ?_
        refine r_ladd dX6_chancesOfJoined_67 ?_
        refine r_lstore [(4, .long (a4 + (xq7 * xq10))), (7, .int xq6), (0, .ref a0), (1, .int a1), (2, .int a2), (3, .int a3), (6, .int a6)] dX6_chancesOfJoined_68 (by decide) rfl ?_
        cases hm
        exact r_lv [2, 3, 4, 5, 0, 6] _ rfl HJ
def mi_X6_chancesOfJoined (f : Nat) (h : am_H) (p : Nat) (a : Int32) (b : Int32) (c : Int32) : Option Int64 :=
  Option.bind (am_cls h 6 p) fun _n =>
  Option.bind (lo_X6_chancesOfJoined_6 f h p a b c f 0 0) fun oq1 =>
  some oq1
theorem cs_X6_chancesOfJoined {f : Nat} {h : am_H} {p : Nat} {a : Int32} {b : Int32} {c : Int32} {z : Int64} (hm : mi_X6_chancesOfJoined f h p a b c = some z) : ∃ n, h.1[p]? = some (6, n) := by
  unfold mi_X6_chancesOfJoined at hm
  obtain ⟨n, hn, -⟩ := am_bs hm
  exact ⟨n, am_cls_of hn⟩
set_option maxHeartbeats 4000000 in
set_option maxRecDepth 100000 in
theorem ct_X6_chancesOfJoined (l : Launch) {f : Nat} {h : am_H} {p : Nat} {a : Int32} {b : Int32} {c : Int32} {r : Int64} (hm : mi_X6_chancesOfJoined f h p a b c = some r) : am_Ct l yX6_chancesOfJoined cX6_chancesOfJoined 8 (some .long) rm_X6_chancesOfJoined [.ref p, .int a, .int b, .int c] h (some (.long r)) h := by
  refine am_met2 [(0, .ref p), (1, .int a), (2, .int b), (3, .int c)] (by decide) (Nat.le_of_ble_eq_true rfl) rfl ?_
  generalize hK : (fun (v : Option Value) (h3 : am_H) => v = (some (.long r)) ∧ h3 = h) = K
  have HK : K (some (.long r)) h := by rw [← hK]; exact ⟨rfl, rfl⟩
  clear hK
  unfold mi_X6_chancesOfJoined at hm
  obtain ⟨_n, _hn, hm⟩ := am_bs hm
  refine r_lconst 0 dX6_chancesOfJoined_0 (by decide) ?_
  refine r_lstore [(4, .long 0), (0, .ref p), (1, .int a), (2, .int b), (3, .int c)] dX6_chancesOfJoined_1 (by decide) rfl ?_
  refine r_iconst 0 dX6_chancesOfJoined_3 (by decide) ?_
  refine r_istore [(6, .int 0), (4, .long 0), (0, .ref p), (1, .int a), (2, .int b), (3, .int c)] dX6_chancesOfJoined_4 (by decide) rfl ?_
  obtain ⟨oq1, ew, hm⟩ := am_bs hm
  try dsimp only at hm
  refine r_lv [2, 3, 4, 5, 1, 0] _ rfl (ll_X6_chancesOfJoined_6 l f h p a b c _ f 0 0 _ ew ?_)
  refine r_lload 0 dX6_chancesOfJoined_76 rfl ?_
  cases hm
  exact r_lreturn dX6_chancesOfJoined_78 rfl (by decide) HK
def lo_X6_commonDivisor_9 (f : Nat) (h : am_H) : Nat → Int64 → Int64 → Int32 → Option (Int64)
  | 0, _, _, _ => none
  | n + 1, a4, a6, a8 =>
  (if 100 ≤ a8 then
  (some a4)
  else ((if (lg_cmp a6 0) = 0 then
  (some a4)
  else (Option.bind (am_nzl a6) fun uq1 =>
  lo_X6_commonDivisor_9 f h n a6 (a4 - a4 / a6 * a6) (a8 + 1)))))
set_option maxHeartbeats 4000000 in
set_option maxRecDepth 100000 in
theorem ll_X6_commonDivisor_9 (l : Launch) (f : Nat) (h : am_H) (K : Option Value → am_H → Prop) : ∀ (n : Nat) (a4 : Int64) (a6 : Int64) (a8 : Int32) (z : Int64), lo_X6_commonDivisor_9 f h n a4 a6 a8 = some z →
    am_R l yX6_commonDivisor cX6_commonDivisor 11 (some .long) rm_X6_commonDivisor (fun _ _ _ => True) 0 0 44 [(4, .long z)] [] h K →
    am_R l yX6_commonDivisor cX6_commonDivisor 11 (some .long) rm_X6_commonDivisor (fun _ _ _ => True) 0 0 9 [(4, .long a4), (6, .long a6), (8, .int a8)] [] h K := by
  intro n
  induction n with
  | zero =>
    intro a4 a6 a8 z hm kE
    cases hm
  | succ n ih =>
    intro a4 a6 a8 z hm kE
    rw [lo_X6_commonDivisor_9.eq_2] at hm
    refine r_iload 2 dX6_commonDivisor_9 rfl ?_
    refine r_bipush 100 dX6_commonDivisor_11 (by decide) ?_
    refine r_icmp_ge 44 dX6_commonDivisor_13 (by decide) (fun q => ?_) (fun q => ?_)
    · rw [if_pos q] at hm
      cases hm
      exact r_lv [0] _ rfl kE
    · rw [if_neg q] at hm
      refine r_lload 1 dX6_commonDivisor_16 rfl ?_
      refine r_lconst 0 dX6_commonDivisor_18 (by decide) ?_
      refine r_lcmp dX6_commonDivisor_19 ?_
      refine r_if_eq 44 dX6_commonDivisor_20 (by decide) (fun q => ?_) (fun q => ?_)
      · rw [if_pos q] at hm
        cases hm
        exact r_lv [0] _ rfl kE
      · rw [if_neg q] at hm
        refine r_lload 0 dX6_commonDivisor_23 rfl ?_
        refine r_lload 1 dX6_commonDivisor_25 rfl ?_
        obtain ⟨uq1, euq1, hm⟩ := am_bs hm
        refine r_lrem dX6_commonDivisor_27 (am_nzl_of euq1) ?_
        refine r_lstore [(9, .long (a4 - a4 / a6 * a6)), (4, .long a4), (6, .long a6), (8, .int a8)] dX6_commonDivisor_28 (by decide) rfl ?_
        refine r_lload 2 dX6_commonDivisor_30 rfl ?_
        refine r_lstore [(4, .long a6), (9, .long (a4 - a4 / a6 * a6)), (6, .long a6), (8, .int a8)] dX6_commonDivisor_32 (by decide) rfl ?_
        refine r_lload 1 dX6_commonDivisor_34 rfl ?_
        refine r_lstore [(6, .long (a4 - a4 / a6 * a6)), (4, .long a6), (9, .long (a4 - a4 / a6 * a6)), (8, .int a8)] dX6_commonDivisor_36 (by decide) rfl ?_
        refine r_inc 1 3 [(8, .int (a8 + 1)), (6, .long (a4 - a4 / a6 * a6)), (4, .long a6), (9, .long (a4 - a4 / a6 * a6))] dX6_commonDivisor_38 (by decide) rfl (by decide) rfl ?_
        refine r_goto 9 dX6_commonDivisor_41 (by decide) ?_
        exact r_lv [2, 1, 0] _ rfl (ih a6 (a4 - a4 / a6 * a6) (a8 + 1) _ hm kE)
def mi_X6_commonDivisor (f : Nat) (h : am_H) (a : Int64) (b : Int64) : Option Int64 :=
  Option.bind (lo_X6_commonDivisor_9 f h f a b 0) fun oq1 =>
  some oq1
set_option maxHeartbeats 4000000 in
set_option maxRecDepth 100000 in
theorem ct_X6_commonDivisor (l : Launch) {f : Nat} {h : am_H} {a : Int64} {b : Int64} {r : Int64} (hm : mi_X6_commonDivisor f h a b = some r) : am_Ct l yX6_commonDivisor cX6_commonDivisor 11 (some .long) rm_X6_commonDivisor [.long a, .long b] h (some (.long r)) h := by
  refine am_met2 [(0, .long a), (2, .long b)] (by decide) (Nat.le_of_ble_eq_true rfl) rfl ?_
  generalize hK : (fun (v : Option Value) (h3 : am_H) => v = (some (.long r)) ∧ h3 = h) = K
  have HK : K (some (.long r)) h := by rw [← hK]; exact ⟨rfl, rfl⟩
  clear hK
  unfold mi_X6_commonDivisor at hm
  refine r_lload_n 0 dX6_commonDivisor_0 rfl ?_
  refine r_lstore [(4, .long a), (0, .long a), (2, .long b)] dX6_commonDivisor_1 (by decide) rfl ?_
  refine r_lload_n 2 dX6_commonDivisor_3 rfl ?_
  refine r_lstore [(6, .long b), (4, .long a), (0, .long a), (2, .long b)] dX6_commonDivisor_4 (by decide) rfl ?_
  refine r_iconst 0 dX6_commonDivisor_6 (by decide) ?_
  refine r_istore [(8, .int 0), (6, .long b), (4, .long a), (0, .long a), (2, .long b)] dX6_commonDivisor_7 (by decide) rfl ?_
  obtain ⟨oq1, ew, hm⟩ := am_bs hm
  try dsimp only at hm
  refine r_lv [2, 1, 0] _ rfl (ll_X6_commonDivisor_9 l f h _ f a b 0 _ ew ?_)
  refine r_lload 0 dX6_commonDivisor_44 rfl ?_
  cases hm
  exact r_lreturn dX6_commonDivisor_46 rfl (by decide) HK
def mi_X6_told (f : Nat) (h : am_H) (a : Int64) (b : Int64) (c : Bool) : Option Int32 :=
  Option.bind (mi_X6_commonDivisor f h a b) fun xq1 =>
  (if 0 ≤ (lg_cmp xq1 1) then
  (Option.bind ((if c = true then
  (some a)
  else (some b))) fun jq2 =>
  Option.bind (am_nzl xq1) fun uq3 =>
  some (((jq2 / xq1) : Int64).toInt32))
  else (some 0))
set_option maxHeartbeats 4000000 in
set_option maxRecDepth 100000 in
theorem ct_X6_told (l : Launch) {f : Nat} {h : am_H} {a : Int64} {b : Int64} {c : Bool} {r : Int32} (hm : mi_X6_told f h a b c = some r) : am_Ct l yX6_told cX6_told 7 (some .int) rm_X6_told [.long a, .long b, .int (am_b c)] h (some (.int r)) h := by
  refine am_met2 [(0, .long a), (2, .long b), (4, .int (am_b c))] (by decide) (Nat.le_of_ble_eq_true rfl) rfl ?_
  generalize hK : (fun (v : Option Value) (h3 : am_H) => v = (some (.int r)) ∧ h3 = h) = K
  have HK : K (some (.int r)) h := by rw [← hK]; exact ⟨rfl, rfl⟩
  clear hK
  unfold mi_X6_told at hm
  refine r_lload_n 0 dX6_told_0 rfl ?_
  refine r_lload_n 1 dX6_told_1 rfl ?_
  obtain ⟨xq1, exq1, hm⟩ := am_bs hm
  refine r_cS1 [.long a, .long b] (ct_X6_commonDivisor l exq1) sm_X6_297 (by decide) ⟨rfl, rfl⟩ rfl (Nat.le_of_ble_eq_true rfl) dX6_told_2 ?_
  refine r_lstore [(5, .long xq1), (0, .long a), (2, .long b), (4, .int (am_b c))] dX6_told_5 (by decide) rfl ?_
  refine r_lload 0 dX6_told_7 rfl ?_
  refine r_lconst 1 dX6_told_9 (by decide) ?_
  refine r_lcmp dX6_told_10 ?_
  refine r_if_ge 16 dX6_told_11 (by decide) (fun q => ?_) (fun q => ?_)
  · rw [if_pos q] at hm
    refine r_iload 3 dX6_told_16 rfl ?_
    obtain ⟨jq2, hw, hm⟩ := am_bs hm
    try dsimp only at hm
    have HJ : am_R l yX6_told cX6_told 7 (some .int) rm_X6_told (fun _ _ _ => True) 0 0 26 [(5, .long xq1)] [.long jq2] h K := by
      refine r_lload 0 dX6_told_26 rfl ?_
      obtain ⟨uq3, euq3, hm⟩ := am_bs hm
      refine r_ldiv dX6_told_28 (am_nzl_of euq3) ?_
      refine r_l2i dX6_told_29 ?_
      cases hm
      exact r_ireturn dX6_told_30 rfl (by decide) HK
    clear hm
    have hm := hw
    clear hw
    refine r_if_eq 25 dX6_told_18 (by decide) (fun q => ?_) (fun q => ?_)
    · rw [if_neg (show ¬ c = true from by rw [am_b0 q]; decide)] at hm
      refine r_lload_n 2 dX6_told_25 rfl ?_
      cases hm
      exact r_lv [0] _ rfl HJ
    · rw [if_pos (show c = true from am_b1 q)] at hm
      refine r_lload_n 1 dX6_told_21 rfl ?_
      refine r_goto 26 dX6_told_22 (by decide) ?_
      cases hm
      exact r_lv [0] _ rfl HJ
  · rw [if_neg q] at hm
    refine r_iconst 0 dX6_told_14 (by decide) ?_
    cases hm
    exact r_ireturn dX6_told_15 rfl (by decide) HK
def mi_X6_fails (f : Nat) (h : am_H) (p : Nat) (a : Int32) (b : Int32) (c : Int32) (d : Int32) (e : Bool) : Option (Int32 × am_H) :=
  Option.bind (am_cls h 6 p) fun _n =>
  Option.bind (mi_X6_isKnot f h a) fun xq1 =>
  (if xq1 = true then
  (Option.bind (mi_X6_isKnot f h b) fun xq2 =>
  (if xq2 = true then
  (Option.bind (mi_X6_isTime f h c) fun xq3 =>
  (if xq3 = true then
  ((if d < 0 then
  (some ((-2), h))
  else ((if d ≤ 10 then
  (Option.bind (am_gr h 6 p 5) fun xq4 =>
  Option.bind (am_gr h 6 p 1) fun xq5 =>
  Option.bind (mi_X1_gather f h xq4 xq5 c) fun hq7 =>
  Option.bind (am_gr hq7 6 p 5) fun xq8 =>
  Option.bind (am_gi hq7 1 xq8 4) fun xq9 =>
  (if xq9 ≤ 8 then
  (Option.bind (mi_X6_chancesOfJoined f hq7 p a b d) fun xq10 =>
  Option.bind (am_gr hq7 6 p 5) fun xq11 =>
  Option.bind (am_gi hq7 1 xq11 4) fun xq12 =>
  Option.bind (mi_X6_power f hq7 10 xq12) fun xq13 =>
  Option.bind (mi_X6_told f hq7 xq10 xq13 e) fun xq14 =>
  some (xq14, hq7))
  else (some ((-4), hq7))))
  else (some ((-2), h))))))
  else (some ((-1), h))))
  else (some ((-1), h))))
  else (some ((-1), h)))
theorem cs_X6_fails {f : Nat} {h : am_H} {p : Nat} {a : Int32} {b : Int32} {c : Int32} {d : Int32} {e : Bool} {z : (Int32 × am_H)} (hm : mi_X6_fails f h p a b c d e = some z) : ∃ n, h.1[p]? = some (6, n) := by
  unfold mi_X6_fails at hm
  obtain ⟨n, hn, -⟩ := am_bs hm
  exact ⟨n, am_cls_of hn⟩
set_option maxHeartbeats 4000000 in
set_option maxRecDepth 100000 in
theorem ct_X6_fails (l : Launch) {f : Nat} {h : am_H} {p : Nat} {a : Int32} {b : Int32} {c : Int32} {d : Int32} {e : Bool} {r : Int32} {h2 : am_H} (hm : mi_X6_fails f h p a b c d e = some (r, h2)) : am_Ct l yX6_fails cX6_fails 6 (some .int) rm_X6_fails [.ref p, .int a, .int b, .int c, .int d, .int (am_b e)] h (some (.int r)) h2 := by
  refine am_met2 [(0, .ref p), (1, .int a), (2, .int b), (3, .int c), (4, .int d), (5, .int (am_b e))] (by decide) (Nat.le_of_ble_eq_true rfl) rfl ?_
  generalize hK : (fun (v : Option Value) (h3 : am_H) => v = (some (.int r)) ∧ h3 = h2) = K
  have HK : K (some (.int r)) h2 := by rw [← hK]; exact ⟨rfl, rfl⟩
  clear hK
  unfold mi_X6_fails at hm
  obtain ⟨_n, _hn, hm⟩ := am_bs hm
  refine r_iload_n 1 dX6_fails_0 rfl ?_
  obtain ⟨xq1, exq1, hm⟩ := am_bs hm
  refine r_cS1 [.int a] (ct_X6_isKnot l exq1) sm_X6_150 (by decide) ⟨rfl, rfl⟩ rfl (Nat.le_of_ble_eq_true rfl) dX6_fails_1 ?_
  refine r_if_eq 21 dX6_fails_4 (by decide) (fun q => ?_) (fun q => ?_)
  · rw [if_neg (show ¬ xq1 = true from by rw [am_b0 q]; decide)] at hm
    refine r_iconst (-1) dX6_fails_21 (by decide) ?_
    cases hm
    exact r_ireturn dX6_fails_22 rfl (by decide) HK
  · rw [if_pos (show xq1 = true from am_b1 q)] at hm
    refine r_iload_n 2 dX6_fails_7 rfl ?_
    obtain ⟨xq2, exq2, hm⟩ := am_bs hm
    refine r_cS1 [.int b] (ct_X6_isKnot l exq2) sm_X6_150 (by decide) ⟨rfl, rfl⟩ rfl (Nat.le_of_ble_eq_true rfl) dX6_fails_8 ?_
    refine r_if_eq 21 dX6_fails_11 (by decide) (fun q => ?_) (fun q => ?_)
    · rw [if_neg (show ¬ xq2 = true from by rw [am_b0 q]; decide)] at hm
      refine r_iconst (-1) dX6_fails_21 (by decide) ?_
      cases hm
      exact r_ireturn dX6_fails_22 rfl (by decide) HK
    · rw [if_pos (show xq2 = true from am_b1 q)] at hm
      refine r_iload_n 3 dX6_fails_14 rfl ?_
      obtain ⟨xq3, exq3, hm⟩ := am_bs hm
      refine r_cS1 [.int c] (ct_X6_isTime l exq3) sm_X6_128 (by decide) ⟨rfl, rfl⟩ rfl (Nat.le_of_ble_eq_true rfl) dX6_fails_15 ?_
      refine r_if_ne 23 dX6_fails_18 (by decide) (fun q => ?_) (fun q => ?_)
      · rw [if_pos (show xq3 = true from am_b1 q)] at hm
        refine r_iload 4 dX6_fails_23 rfl ?_
        refine r_if_lt 35 dX6_fails_25 (by decide) (fun q => ?_) (fun q => ?_)
        · rw [if_pos q] at hm
          refine r_bipush (-2) dX6_fails_35 (by decide) ?_
          cases hm
          exact r_ireturn dX6_fails_37 rfl (by decide) HK
        · rw [if_neg q] at hm
          refine r_iload 4 dX6_fails_28 rfl ?_
          refine r_bipush 10 dX6_fails_30 (by decide) ?_
          refine r_icmp_le 38 dX6_fails_32 (by decide) (fun q => ?_) (fun q => ?_)
          · rw [if_pos q] at hm
            refine r_aload_n 0 dX6_fails_38 rfl ?_
            obtain ⟨xq4, exq4, hm⟩ := am_bs hm
            refine r_getr exq4 fl_X6_43 rfl dX6_fails_39 ?_
            refine r_aload_n 0 dX6_fails_42 rfl ?_
            obtain ⟨xq5, exq5, hm⟩ := am_bs hm
            refine r_getr exq5 fl_X6_19 rfl dX6_fails_43 ?_
            refine r_iload_n 3 dX6_fails_46 rfl ?_
            obtain ⟨hq7, exq6, hm⟩ := am_bs hm
            refine r_cV0 [.ref xq5, .int c] (ct_X1_gather l exq6) vm_X6_186 (cs_X1_gather exq6) (by decide) ⟨rfl, rfl⟩ rfl (Nat.le_of_ble_eq_true rfl) dX6_fails_47 ?_
            refine r_aload_n 0 dX6_fails_50 rfl ?_
            obtain ⟨xq8, exq8, hm⟩ := am_bs hm
            refine r_getr exq8 fl_X6_43 rfl dX6_fails_51 ?_
            obtain ⟨xq9, exq9, hm⟩ := am_bs hm
            refine r_geti exq9 fl_X6_189 rfl dX6_fails_54 ?_
            refine r_bipush 8 dX6_fails_57 (by decide) ?_
            refine r_icmp_le 65 dX6_fails_59 (by decide) (fun q => ?_) (fun q => ?_)
            · rw [if_pos q] at hm
              refine r_aload_n 0 dX6_fails_65 rfl ?_
              refine r_iload_n 1 dX6_fails_66 rfl ?_
              refine r_iload_n 2 dX6_fails_67 rfl ?_
              refine r_iload 4 dX6_fails_68 rfl ?_
              obtain ⟨xq10, exq10, hm⟩ := am_bs hm
              refine r_cV1 [.int a, .int b, .int d] (ct_X6_chancesOfJoined l exq10) vm_X6_267 (cs_X6_chancesOfJoined exq10) (by decide) ⟨rfl, rfl⟩ rfl (Nat.le_of_ble_eq_true rfl) dX6_fails_70 ?_
              refine r_ldc2 (v := 10) kw_X6_271 dX6_fails_73 ?_
              refine r_aload_n 0 dX6_fails_76 rfl ?_
              obtain ⟨xq11, exq11, hm⟩ := am_bs hm
              refine r_getr exq11 fl_X6_43 rfl dX6_fails_77 ?_
              obtain ⟨xq12, exq12, hm⟩ := am_bs hm
              refine r_geti exq12 fl_X6_189 rfl dX6_fails_80 ?_
              obtain ⟨xq13, exq13, hm⟩ := am_bs hm
              refine r_cS1 [.long 10, .int xq12] (ct_X6_power l exq13) sm_X6_209 (by decide) ⟨rfl, rfl⟩ rfl (Nat.le_of_ble_eq_true rfl) dX6_fails_83 ?_
              refine r_iload 5 dX6_fails_86 rfl ?_
              obtain ⟨xq14, exq14, hm⟩ := am_bs hm
              refine r_cS1 [.long xq10, .long xq13, .int (am_b e)] (ct_X6_told l exq14) sm_X6_260 (by decide) ⟨rfl, rfl⟩ rfl (Nat.le_of_ble_eq_true rfl) dX6_fails_88 ?_
              cases hm
              exact r_ireturn dX6_fails_91 rfl (by decide) HK
            · rw [if_neg q] at hm
              refine r_bipush (-4) dX6_fails_62 (by decide) ?_
              cases hm
              exact r_ireturn dX6_fails_64 rfl (by decide) HK
          · rw [if_neg q] at hm
            refine r_bipush (-2) dX6_fails_35 (by decide) ?_
            cases hm
            exact r_ireturn dX6_fails_37 rfl (by decide) HK
      · rw [if_neg (show ¬ xq3 = true from by rw [am_b0 q]; decide)] at hm
        refine r_iconst (-1) dX6_fails_21 (by decide) ?_
        cases hm
        exact r_ireturn dX6_fails_22 rfl (by decide) HK
def mi_X6_fault (f : Nat) (h : am_H) (p : Nat) : Option (Int32 × am_H) :=
  Option.bind (am_cls h 6 p) fun _n =>
  Option.bind (am_gr h 6 p 0) fun xq1 =>
  Option.bind (mi_X3_firstFault f h xq1) fun (xq2, hq3) =>
  some (xq2, hq3)
theorem cs_X6_fault {f : Nat} {h : am_H} {p : Nat} {z : (Int32 × am_H)} (hm : mi_X6_fault f h p = some z) : ∃ n, h.1[p]? = some (6, n) := by
  unfold mi_X6_fault at hm
  obtain ⟨n, hn, -⟩ := am_bs hm
  exact ⟨n, am_cls_of hn⟩
set_option maxHeartbeats 4000000 in
set_option maxRecDepth 100000 in
theorem ct_X6_fault (l : Launch) {f : Nat} {h : am_H} {p : Nat} {r : Int32} {h2 : am_H} (hm : mi_X6_fault f h p = some (r, h2)) : am_Ct l yX6_fault cX6_fault 1 (some .int) rm_X6_fault [.ref p] h (some (.int r)) h2 := by
  refine am_met2 [(0, .ref p)] (by decide) (Nat.le_of_ble_eq_true rfl) rfl ?_
  generalize hK : (fun (v : Option Value) (h3 : am_H) => v = (some (.int r)) ∧ h3 = h2) = K
  have HK : K (some (.int r)) h2 := by rw [← hK]; exact ⟨rfl, rfl⟩
  clear hK
  unfold mi_X6_fault at hm
  obtain ⟨_n, _hn, hm⟩ := am_bs hm
  refine r_aload_n 0 dX6_fault_0 rfl ?_
  obtain ⟨xq1, exq1, hm⟩ := am_bs hm
  refine r_getr exq1 fl_X6_10 rfl dX6_fault_1 ?_
  obtain ⟨⟨xq2, hq3⟩, exq2, hm⟩ := am_bs hm
  try dsimp only at hm
  refine r_cV1 [] (ct_X3_firstFault l exq2) vm_X6_70 (cs_X3_firstFault exq2) (by decide) ⟨rfl, rfl⟩ rfl (Nat.le_of_ble_eq_true rfl) dX6_fault_4 ?_
  cases hm
  exact r_ireturn dX6_fault_7 rfl (by decide) HK
def mi_X6_joined (f : Nat) (h : am_H) (p : Nat) (a : Int32) (b : Int32) (c : Int32) : Option (Int32 × am_H) :=
  Option.bind (am_cls h 6 p) fun _n =>
  Option.bind (mi_X6_isKnot f h a) fun xq1 =>
  (if xq1 = true then
  (Option.bind (mi_X6_isKnot f h b) fun xq2 =>
  (if xq2 = true then
  (Option.bind (mi_X6_isTime f h c) fun xq3 =>
  (if xq3 = true then
  (Option.bind (am_gr h 6 p 4) fun xq4 =>
  Option.bind (am_gr h 6 p 1) fun xq5 =>
  Option.bind (mi_X2_walkToTime f h xq4 xq5 c) fun hq7 =>
  Option.bind (am_gr hq7 6 p 4) fun xq8 =>
  Option.bind (mi_X2_areJoined f hq7 xq8 a b) fun xq9 =>
  Option.bind ((if xq9 = true then
  (some true)
  else (some false))) fun jq10 =>
  some ((am_b jq10), hq7))
  else (some ((-1), h))))
  else (some ((-1), h))))
  else (some ((-1), h)))
theorem cs_X6_joined {f : Nat} {h : am_H} {p : Nat} {a : Int32} {b : Int32} {c : Int32} {z : (Int32 × am_H)} (hm : mi_X6_joined f h p a b c = some z) : ∃ n, h.1[p]? = some (6, n) := by
  unfold mi_X6_joined at hm
  obtain ⟨n, hn, -⟩ := am_bs hm
  exact ⟨n, am_cls_of hn⟩
set_option maxHeartbeats 4000000 in
set_option maxRecDepth 100000 in
theorem ct_X6_joined (l : Launch) {f : Nat} {h : am_H} {p : Nat} {a : Int32} {b : Int32} {c : Int32} {r : Int32} {h2 : am_H} (hm : mi_X6_joined f h p a b c = some (r, h2)) : am_Ct l yX6_joined cX6_joined 4 (some .int) rm_X6_joined [.ref p, .int a, .int b, .int c] h (some (.int r)) h2 := by
  refine am_met2 [(0, .ref p), (1, .int a), (2, .int b), (3, .int c)] (by decide) (Nat.le_of_ble_eq_true rfl) rfl ?_
  generalize hK : (fun (v : Option Value) (h3 : am_H) => v = (some (.int r)) ∧ h3 = h2) = K
  have HK : K (some (.int r)) h2 := by rw [← hK]; exact ⟨rfl, rfl⟩
  clear hK
  unfold mi_X6_joined at hm
  obtain ⟨_n, _hn, hm⟩ := am_bs hm
  refine r_iload_n 1 dX6_joined_0 rfl ?_
  obtain ⟨xq1, exq1, hm⟩ := am_bs hm
  refine r_cS1 [.int a] (ct_X6_isKnot l exq1) sm_X6_150 (by decide) ⟨rfl, rfl⟩ rfl (Nat.le_of_ble_eq_true rfl) dX6_joined_1 ?_
  refine r_if_eq 21 dX6_joined_4 (by decide) (fun q => ?_) (fun q => ?_)
  · rw [if_neg (show ¬ xq1 = true from by rw [am_b0 q]; decide)] at hm
    refine r_iconst (-1) dX6_joined_21 (by decide) ?_
    cases hm
    exact r_ireturn dX6_joined_22 rfl (by decide) HK
  · rw [if_pos (show xq1 = true from am_b1 q)] at hm
    refine r_iload_n 2 dX6_joined_7 rfl ?_
    obtain ⟨xq2, exq2, hm⟩ := am_bs hm
    refine r_cS1 [.int b] (ct_X6_isKnot l exq2) sm_X6_150 (by decide) ⟨rfl, rfl⟩ rfl (Nat.le_of_ble_eq_true rfl) dX6_joined_8 ?_
    refine r_if_eq 21 dX6_joined_11 (by decide) (fun q => ?_) (fun q => ?_)
    · rw [if_neg (show ¬ xq2 = true from by rw [am_b0 q]; decide)] at hm
      refine r_iconst (-1) dX6_joined_21 (by decide) ?_
      cases hm
      exact r_ireturn dX6_joined_22 rfl (by decide) HK
    · rw [if_pos (show xq2 = true from am_b1 q)] at hm
      refine r_iload_n 3 dX6_joined_14 rfl ?_
      obtain ⟨xq3, exq3, hm⟩ := am_bs hm
      refine r_cS1 [.int c] (ct_X6_isTime l exq3) sm_X6_128 (by decide) ⟨rfl, rfl⟩ rfl (Nat.le_of_ble_eq_true rfl) dX6_joined_15 ?_
      refine r_if_ne 23 dX6_joined_18 (by decide) (fun q => ?_) (fun q => ?_)
      · rw [if_pos (show xq3 = true from am_b1 q)] at hm
        refine r_aload_n 0 dX6_joined_23 rfl ?_
        obtain ⟨xq4, exq4, hm⟩ := am_bs hm
        refine r_getr exq4 fl_X6_36 rfl dX6_joined_24 ?_
        refine r_aload_n 0 dX6_joined_27 rfl ?_
        obtain ⟨xq5, exq5, hm⟩ := am_bs hm
        refine r_getr exq5 fl_X6_19 rfl dX6_joined_28 ?_
        refine r_iload_n 3 dX6_joined_31 rfl ?_
        obtain ⟨hq7, exq6, hm⟩ := am_bs hm
        refine r_cV0 [.ref xq5, .int c] (ct_X2_walkToTime l exq6) vm_X6_131 (cs_X2_walkToTime exq6) (by decide) ⟨rfl, rfl⟩ rfl (Nat.le_of_ble_eq_true rfl) dX6_joined_32 ?_
        refine r_aload_n 0 dX6_joined_35 rfl ?_
        obtain ⟨xq8, exq8, hm⟩ := am_bs hm
        refine r_getr exq8 fl_X6_36 rfl dX6_joined_36 ?_
        refine r_iload_n 1 dX6_joined_39 rfl ?_
        refine r_iload_n 2 dX6_joined_40 rfl ?_
        obtain ⟨xq9, exq9, hm⟩ := am_bs hm
        refine r_cV1 [.int a, .int b] (ct_X2_areJoined l exq9) vm_X6_161 (cs_X2_areJoined exq9) (by decide) ⟨rfl, rfl⟩ rfl (Nat.le_of_ble_eq_true rfl) dX6_joined_41 ?_
        obtain ⟨jq10, hw, hm⟩ := am_bs hm
        try dsimp only at hm
        have HJ : am_R l yX6_joined cX6_joined 4 (some .int) rm_X6_joined (fun _ _ _ => True) 0 0 52 [] [.int (am_b jq10)] hq7 K := by
          cases hm
          exact r_ireturn dX6_joined_52 rfl (by decide) HK
        clear hm
        have hm := hw
        clear hw
        refine r_if_eq 51 dX6_joined_44 (by decide) (fun q => ?_) (fun q => ?_)
        · rw [if_neg (show ¬ xq9 = true from by rw [am_b0 q]; decide)] at hm
          refine r_iconst 0 dX6_joined_51 (by decide) ?_
          cases hm
          exact r_lv [] _ rfl HJ
        · rw [if_pos (show xq9 = true from am_b1 q)] at hm
          refine r_iconst 1 dX6_joined_47 (by decide) ?_
          refine r_goto 52 dX6_joined_48 (by decide) ?_
          cases hm
          exact r_lv [] _ rfl HJ
      · rw [if_neg (show ¬ xq3 = true from by rw [am_b0 q]; decide)] at hm
        refine r_iconst (-1) dX6_joined_21 (by decide) ?_
        cases hm
        exact r_ireturn dX6_joined_22 rfl (by decide) HK
def mi_X6_areJoinedInTrial (f : Nat) (h : am_H) (p : Nat) (a : Int32) (b : Int32) (c : Int32) : Option (Bool × am_H) :=
  Option.bind (am_cls h 6 p) fun _n =>
  Option.bind (am_gr h 6 p 4) fun xq1 =>
  Option.bind (am_gr h 6 p 2) fun xq2 =>
  Option.bind (mi_X2_walkToTime f h xq1 xq2 c) fun hq4 =>
  Option.bind (am_gr hq4 6 p 4) fun xq5 =>
  Option.bind (mi_X2_areJoined f hq4 xq5 a b) fun xq6 =>
  some (xq6, hq4)
theorem cs_X6_areJoinedInTrial {f : Nat} {h : am_H} {p : Nat} {a : Int32} {b : Int32} {c : Int32} {z : (Bool × am_H)} (hm : mi_X6_areJoinedInTrial f h p a b c = some z) : ∃ n, h.1[p]? = some (6, n) := by
  unfold mi_X6_areJoinedInTrial at hm
  obtain ⟨n, hn, -⟩ := am_bs hm
  exact ⟨n, am_cls_of hn⟩
set_option maxHeartbeats 4000000 in
set_option maxRecDepth 100000 in
theorem ct_X6_areJoinedInTrial (l : Launch) {f : Nat} {h : am_H} {p : Nat} {a : Int32} {b : Int32} {c : Int32} {r : Bool} {h2 : am_H} (hm : mi_X6_areJoinedInTrial f h p a b c = some (r, h2)) : am_Ct l yX6_areJoinedInTrial cX6_areJoinedInTrial 4 (some .boolean) rm_X6_areJoinedInTrial [.ref p, .int a, .int b, .int c] h (some (.int (am_b r))) h2 := by
  refine am_met2 [(0, .ref p), (1, .int a), (2, .int b), (3, .int c)] (by decide) (Nat.le_of_ble_eq_true rfl) rfl ?_
  generalize hK : (fun (v : Option Value) (h3 : am_H) => v = (some (.int (am_b r))) ∧ h3 = h2) = K
  have HK : K (some (.int (am_b r))) h2 := by rw [← hK]; exact ⟨rfl, rfl⟩
  clear hK
  unfold mi_X6_areJoinedInTrial at hm
  obtain ⟨_n, _hn, hm⟩ := am_bs hm
  refine r_aload_n 0 dX6_areJoinedInTrial_0 rfl ?_
  obtain ⟨xq1, exq1, hm⟩ := am_bs hm
  refine r_getr exq1 fl_X6_36 rfl dX6_areJoinedInTrial_1 ?_
  refine r_aload_n 0 dX6_areJoinedInTrial_4 rfl ?_
  obtain ⟨xq2, exq2, hm⟩ := am_bs hm
  refine r_getr exq2 fl_X6_23 rfl dX6_areJoinedInTrial_5 ?_
  refine r_iload_n 3 dX6_areJoinedInTrial_8 rfl ?_
  obtain ⟨hq4, exq3, hm⟩ := am_bs hm
  refine r_cV0 [.ref xq2, .int c] (ct_X2_walkToTime l exq3) vm_X6_131 (cs_X2_walkToTime exq3) (by decide) ⟨rfl, rfl⟩ rfl (Nat.le_of_ble_eq_true rfl) dX6_areJoinedInTrial_9 ?_
  refine r_aload_n 0 dX6_areJoinedInTrial_12 rfl ?_
  obtain ⟨xq5, exq5, hm⟩ := am_bs hm
  refine r_getr exq5 fl_X6_36 rfl dX6_areJoinedInTrial_13 ?_
  refine r_iload_n 1 dX6_areJoinedInTrial_16 rfl ?_
  refine r_iload_n 2 dX6_areJoinedInTrial_17 rfl ?_
  obtain ⟨xq6, exq6, hm⟩ := am_bs hm
  refine r_cV1 [.int a, .int b] (ct_X2_areJoined l exq6) vm_X6_161 (cs_X2_areJoined exq6) (by decide) ⟨rfl, rfl⟩ rfl (Nat.le_of_ble_eq_true rfl) dX6_areJoinedInTrial_18 ?_
  cases hm
  exact r_zreturn _ dX6_areJoinedInTrial_21 rfl (by decide) HK
def mi_X6_stands (f : Nat) (h : am_H) (p : Nat) (a : Int32) : Option (Bool × am_H) :=
  Option.bind (am_cls h 6 p) fun _n =>
  (if (a / 10000) = 1 then
  (Option.bind (am_gr h 6 p 2) fun xq1 =>
  Option.bind (mi_X5_add f h xq1 ((a / 1000) - (a / 1000) / 10 * 10) ((a / 100) - (a / 100) / 10 * 10) ((a - a / 100 * 100) / 10) ((a - a / 100 * 100) - (a - a / 100 * 100) / 10 * 10)) fun (xq2, hq3) =>
  Option.bind ((if xq2 < 0 then
  (some false)
  else (some true))) fun jq5 =>
  some (jq5, hq3))
  else (if (a / 10000) = 2 then
  (Option.bind ((if ((a / 100) - (a / 100) / 100 * 100) = 0 then
  (Option.bind (am_gr h 6 p 2) fun xq8 =>
  Option.bind (mi_X5_drop f h xq8 (a - a / 100 * 100)) fun (xq9, hq10) =>
  (if xq9 < 0 then
  (some (false, hq10))
  else (some (true, hq10))))
  else (some (false, h)))) fun (jq6, hq7) =>
  some (jq6, hq7))
  else (if (a / 10000) = 3 then
  (Option.bind (am_gr h 6 p 2) fun xq12 =>
  Option.bind (mi_X5_stopAt f h xq12 ((a / 100) - (a / 100) / 100 * 100) (a - a / 100 * 100)) fun (xq13, hq14) =>
  Option.bind ((if xq13 < 0 then
  (some false)
  else (some true))) fun jq16 =>
  some (jq16, hq14))
  else (if (a / 10000) = 4 then
  (Option.bind (mi_X6_isKnot f h ((a / 1000) - (a / 1000) / 10 * 10)) fun xq17 =>
  Option.bind ((if xq17 = true then
  (Option.bind (mi_X6_isKnot f h ((a / 100) - (a / 100) / 10 * 10)) fun xq20 =>
  (if xq20 = true then
  (Option.bind (mi_X6_isTime f h (a - a / 100 * 100)) fun xq21 =>
  (if xq21 = true then
  (Option.bind (mi_X6_areJoinedInTrial f h p ((a / 1000) - (a / 1000) / 10 * 10) ((a / 100) - (a / 100) / 10 * 10) (a - a / 100 * 100)) fun (xq22, hq23) =>
  (if xq22 = true then
  (some (true, hq23))
  else (some (false, hq23))))
  else (some (false, h))))
  else (some (false, h))))
  else (some (false, h)))) fun (jq18, hq19) =>
  some (jq18, hq19))
  else (if (a / 10000) = 5 then
  (Option.bind ((if ((a / 1000) - (a / 1000) / 10 * 10) = 0 then
  (Option.bind (mi_X6_isTime f h (a - a / 100 * 100)) fun xq27 =>
  (if xq27 = true then
  (Option.bind (mi_X6_partsInTrial f h p (a - a / 100 * 100)) fun (xq28, hq29) =>
  (if xq28 < ((a / 100) - (a / 100) / 10 * 10) then
  (some (false, hq29))
  else (some (true, hq29))))
  else (some (false, h))))
  else (some (false, h)))) fun (jq25, hq26) =>
  some (jq25, hq26))
  else (some (false, h)))))))
theorem cs_X6_stands {f : Nat} {h : am_H} {p : Nat} {a : Int32} {z : (Bool × am_H)} (hm : mi_X6_stands f h p a = some z) : ∃ n, h.1[p]? = some (6, n) := by
  unfold mi_X6_stands at hm
  obtain ⟨n, hn, -⟩ := am_bs hm
  exact ⟨n, am_cls_of hn⟩
set_option maxHeartbeats 4000000 in
set_option maxRecDepth 100000 in
theorem ct_X6_stands (l : Launch) {f : Nat} {h : am_H} {p : Nat} {a : Int32} {r : Bool} {h2 : am_H} (hm : mi_X6_stands f h p a = some (r, h2)) : am_Ct l yX6_stands cX6_stands 6 (some .boolean) rm_X6_stands [.ref p, .int a] h (some (.int (am_b r))) h2 := by
  refine am_met2 [(0, .ref p), (1, .int a)] (by decide) (Nat.le_of_ble_eq_true rfl) rfl ?_
  generalize hK : (fun (v : Option Value) (h3 : am_H) => v = (some (.int (am_b r))) ∧ h3 = h2) = K
  have HK : K (some (.int (am_b r))) h2 := by rw [← hK]; exact ⟨rfl, rfl⟩
  clear hK
  unfold mi_X6_stands at hm
  obtain ⟨_n, _hn, hm⟩ := am_bs hm
  refine r_iload_n 1 dX6_stands_0 rfl ?_
  refine r_sipush 1000 dX6_stands_1 (by decide) ?_
  refine r_idiv dX6_stands_4 (by decide) ?_
  refine r_bipush 10 dX6_stands_5 (by decide) ?_
  refine r_irem dX6_stands_7 (by decide) ?_
  refine r_istore_n [(2, .int ((a / 1000) - (a / 1000) / 10 * 10)), (0, .ref p), (1, .int a)] dX6_stands_8 (by decide) rfl ?_
  refine r_iload_n 2 dX6_stands_9 rfl ?_
  refine r_bipush 100 dX6_stands_10 (by decide) ?_
  refine r_idiv dX6_stands_12 (by decide) ?_
  refine r_bipush 10 dX6_stands_13 (by decide) ?_
  refine r_irem dX6_stands_15 (by decide) ?_
  refine r_istore_n [(3, .int ((a / 100) - (a / 100) / 10 * 10)), (2, .int ((a / 1000) - (a / 1000) / 10 * 10)), (0, .ref p), (1, .int a)] dX6_stands_16 (by decide) rfl ?_
  refine r_iload_n 3 dX6_stands_17 rfl ?_
  refine r_bipush 100 dX6_stands_18 (by decide) ?_
  refine r_idiv dX6_stands_20 (by decide) ?_
  refine r_bipush 100 dX6_stands_21 (by decide) ?_
  refine r_irem dX6_stands_23 (by decide) ?_
  refine r_istore [(4, .int ((a / 100) - (a / 100) / 100 * 100)), (3, .int ((a / 100) - (a / 100) / 10 * 10)), (2, .int ((a / 1000) - (a / 1000) / 10 * 10)), (0, .ref p), (1, .int a)] dX6_stands_24 (by decide) rfl ?_
  refine r_iload_n 4 dX6_stands_26 rfl ?_
  refine r_bipush 100 dX6_stands_27 (by decide) ?_
  refine r_irem dX6_stands_29 (by decide) ?_
  refine r_istore [(5, .int (a - a / 100 * 100)), (4, .int ((a / 100) - (a / 100) / 100 * 100)), (3, .int ((a / 100) - (a / 100) / 10 * 10)), (2, .int ((a / 1000) - (a / 1000) / 10 * 10)), (0, .ref p), (1, .int a)] dX6_stands_30 (by decide) rfl ?_
  refine r_iload_n 5 dX6_stands_32 rfl ?_
  refine r_sipush 10000 dX6_stands_33 (by decide) ?_
  refine r_idiv dX6_stands_36 (by decide) ?_
  by_cases q1 : (a / 10000) = 1
  · rw [if_pos q1] at hm
    refine r_tsw 72 dX6_stands_37 (Or.inl ⟨by rw [q1]; decide, by rw [q1]; decide⟩) ?_
    refine r_aload_n 4 dX6_stands_72 rfl ?_
    obtain ⟨xq1, exq1, hm⟩ := am_bs hm
    refine r_getr exq1 fl_X6_23 rfl dX6_stands_73 ?_
    refine r_iload_n 3 dX6_stands_76 rfl ?_
    refine r_iload_n 2 dX6_stands_77 rfl ?_
    refine r_iload 0 dX6_stands_78 rfl ?_
    refine r_bipush 10 dX6_stands_80 (by decide) ?_
    refine r_idiv dX6_stands_82 (by decide) ?_
    refine r_iload 0 dX6_stands_83 rfl ?_
    refine r_bipush 10 dX6_stands_85 (by decide) ?_
    refine r_irem dX6_stands_87 (by decide) ?_
    obtain ⟨⟨xq2, hq3⟩, exq2, hm⟩ := am_bs hm
    try dsimp only at hm
    refine r_cV1 [.int ((a / 1000) - (a / 1000) / 10 * 10), .int ((a / 100) - (a / 100) / 10 * 10), .int ((a - a / 100 * 100) / 10), .int ((a - a / 100 * 100) - (a - a / 100 * 100) / 10 * 10)] (ct_X5_add l exq2) vm_X6_108 (cs_X5_add exq2) (by decide) ⟨rfl, rfl⟩ rfl (Nat.le_of_ble_eq_true rfl) dX6_stands_88 ?_
    obtain ⟨jq5, hw, hm⟩ := am_bs hm
    try dsimp only at hm
    have HJ : am_R l yX6_stands cX6_stands 6 (some .boolean) rm_X6_stands (fun _ _ _ => True) 0 0 99 [] [.int (am_b jq5)] hq3 K := by
      cases hm
      exact r_zreturn _ dX6_stands_99 rfl (by decide) HK
    clear hm
    have hm := hw
    clear hw
    refine r_if_lt 98 dX6_stands_91 (by decide) (fun q => ?_) (fun q => ?_)
    · rw [if_pos q] at hm
      refine r_iconst 0 dX6_stands_98 (by decide) ?_
      cases hm
      exact r_lv [] _ rfl HJ
    · rw [if_neg q] at hm
      refine r_iconst 1 dX6_stands_94 (by decide) ?_
      refine r_goto 99 dX6_stands_95 (by decide) ?_
      cases hm
      exact r_lv [] _ rfl HJ
  rw [if_neg q1] at hm
  by_cases q2 : (a / 10000) = 2
  · rw [if_pos q2] at hm
    refine r_tsw 100 dX6_stands_37 (Or.inl ⟨by rw [q2]; decide, by rw [q2]; decide⟩) ?_
    refine r_iload 1 dX6_stands_100 rfl ?_
    obtain ⟨⟨jq6, hq7⟩, hw, hm⟩ := am_bs hm
    try dsimp only at hm
    have HJ : am_R l yX6_stands cX6_stands 6 (some .boolean) rm_X6_stands (fun _ _ _ => True) 0 0 122 [] [.int (am_b jq6)] hq7 K := by
      cases hm
      exact r_zreturn _ dX6_stands_122 rfl (by decide) HK
    clear hm
    have hm := hw
    clear hw
    refine r_if_ne 121 dX6_stands_102 (by decide) (fun q => ?_) (fun q => ?_)
    · rw [if_neg q] at hm
      refine r_iconst 0 dX6_stands_121 (by decide) ?_
      cases hm
      exact r_lv [] _ rfl HJ
    · rw [if_pos q] at hm
      refine r_aload_n 4 dX6_stands_105 rfl ?_
      obtain ⟨xq8, exq8, hm⟩ := am_bs hm
      refine r_getr exq8 fl_X6_23 rfl dX6_stands_106 ?_
      refine r_iload 0 dX6_stands_109 rfl ?_
      obtain ⟨⟨xq9, hq10⟩, exq9, hm⟩ := am_bs hm
      try dsimp only at hm
      refine r_cV1 [.int (a - a / 100 * 100)] (ct_X5_drop l exq9) vm_X6_115 (cs_X5_drop exq9) (by decide) ⟨rfl, rfl⟩ rfl (Nat.le_of_ble_eq_true rfl) dX6_stands_111 ?_
      refine r_if_lt 121 dX6_stands_114 (by decide) (fun q => ?_) (fun q => ?_)
      · rw [if_pos q] at hm
        refine r_iconst 0 dX6_stands_121 (by decide) ?_
        cases hm
        exact r_lv [] _ rfl HJ
      · rw [if_neg q] at hm
        refine r_iconst 1 dX6_stands_117 (by decide) ?_
        refine r_goto 122 dX6_stands_118 (by decide) ?_
        cases hm
        exact r_lv [] _ rfl HJ
  rw [if_neg q2] at hm
  by_cases q3 : (a / 10000) = 3
  · rw [if_pos q3] at hm
    refine r_tsw 123 dX6_stands_37 (Or.inl ⟨by rw [q3]; decide, by rw [q3]; decide⟩) ?_
    refine r_aload_n 4 dX6_stands_123 rfl ?_
    obtain ⟨xq12, exq12, hm⟩ := am_bs hm
    refine r_getr exq12 fl_X6_23 rfl dX6_stands_124 ?_
    refine r_iload 1 dX6_stands_127 rfl ?_
    refine r_iload 0 dX6_stands_129 rfl ?_
    obtain ⟨⟨xq13, hq14⟩, exq13, hm⟩ := am_bs hm
    try dsimp only at hm
    refine r_cV1 [.int ((a / 100) - (a / 100) / 100 * 100), .int (a - a / 100 * 100)] (ct_X5_stopAt l exq13) vm_X6_118 (cs_X5_stopAt exq13) (by decide) ⟨rfl, rfl⟩ rfl (Nat.le_of_ble_eq_true rfl) dX6_stands_131 ?_
    obtain ⟨jq16, hw, hm⟩ := am_bs hm
    try dsimp only at hm
    have HJ : am_R l yX6_stands cX6_stands 6 (some .boolean) rm_X6_stands (fun _ _ _ => True) 0 0 142 [] [.int (am_b jq16)] hq14 K := by
      cases hm
      exact r_zreturn _ dX6_stands_142 rfl (by decide) HK
    clear hm
    have hm := hw
    clear hw
    refine r_if_lt 141 dX6_stands_134 (by decide) (fun q => ?_) (fun q => ?_)
    · rw [if_pos q] at hm
      refine r_iconst 0 dX6_stands_141 (by decide) ?_
      cases hm
      exact r_lv [] _ rfl HJ
    · rw [if_neg q] at hm
      refine r_iconst 1 dX6_stands_137 (by decide) ?_
      refine r_goto 142 dX6_stands_138 (by decide) ?_
      cases hm
      exact r_lv [] _ rfl HJ
  rw [if_neg q3] at hm
  by_cases q4 : (a / 10000) = 4
  · rw [if_pos q4] at hm
    refine r_tsw 143 dX6_stands_37 (Or.inl ⟨by rw [q4]; decide, by rw [q4]; decide⟩) ?_
    refine r_iload_n 3 dX6_stands_143 rfl ?_
    obtain ⟨xq17, exq17, hm⟩ := am_bs hm
    refine r_cS1 [.int ((a / 1000) - (a / 1000) / 10 * 10)] (ct_X6_isKnot l exq17) sm_X6_150 (by decide) ⟨rfl, rfl⟩ rfl (Nat.le_of_ble_eq_true rfl) dX6_stands_144 ?_
    obtain ⟨⟨jq18, hq19⟩, hw, hm⟩ := am_bs hm
    try dsimp only at hm
    have HJ : am_R l yX6_stands cX6_stands 6 (some .boolean) rm_X6_stands (fun _ _ _ => True) 0 0 181 [] [.int (am_b jq18)] hq19 K := by
      cases hm
      exact r_zreturn _ dX6_stands_181 rfl (by decide) HK
    clear hm
    have hm := hw
    clear hw
    refine r_if_eq 180 dX6_stands_147 (by decide) (fun q => ?_) (fun q => ?_)
    · rw [if_neg (show ¬ xq17 = true from by rw [am_b0 q]; decide)] at hm
      refine r_iconst 0 dX6_stands_180 (by decide) ?_
      cases hm
      exact r_lv [] _ rfl HJ
    · rw [if_pos (show xq17 = true from am_b1 q)] at hm
      refine r_iload_n 2 dX6_stands_150 rfl ?_
      obtain ⟨xq20, exq20, hm⟩ := am_bs hm
      refine r_cS1 [.int ((a / 100) - (a / 100) / 10 * 10)] (ct_X6_isKnot l exq20) sm_X6_150 (by decide) ⟨rfl, rfl⟩ rfl (Nat.le_of_ble_eq_true rfl) dX6_stands_151 ?_
      refine r_if_eq 180 dX6_stands_154 (by decide) (fun q => ?_) (fun q => ?_)
      · rw [if_neg (show ¬ xq20 = true from by rw [am_b0 q]; decide)] at hm
        refine r_iconst 0 dX6_stands_180 (by decide) ?_
        cases hm
        exact r_lv [] _ rfl HJ
      · rw [if_pos (show xq20 = true from am_b1 q)] at hm
        refine r_iload 0 dX6_stands_157 rfl ?_
        obtain ⟨xq21, exq21, hm⟩ := am_bs hm
        refine r_cS1 [.int (a - a / 100 * 100)] (ct_X6_isTime l exq21) sm_X6_128 (by decide) ⟨rfl, rfl⟩ rfl (Nat.le_of_ble_eq_true rfl) dX6_stands_159 ?_
        refine r_if_eq 180 dX6_stands_162 (by decide) (fun q => ?_) (fun q => ?_)
        · rw [if_neg (show ¬ xq21 = true from by rw [am_b0 q]; decide)] at hm
          refine r_iconst 0 dX6_stands_180 (by decide) ?_
          cases hm
          exact r_lv [] _ rfl HJ
        · rw [if_pos (show xq21 = true from am_b1 q)] at hm
          refine r_aload_n 4 dX6_stands_165 rfl ?_
          refine r_iload_n 3 dX6_stands_166 rfl ?_
          refine r_iload_n 2 dX6_stands_167 rfl ?_
          refine r_iload 0 dX6_stands_168 rfl ?_
          obtain ⟨⟨xq22, hq23⟩, exq22, hm⟩ := am_bs hm
          try dsimp only at hm
          refine r_cV1 [.int ((a / 1000) - (a / 1000) / 10 * 10), .int ((a / 100) - (a / 100) / 10 * 10), .int (a - a / 100 * 100)] (ct_X6_areJoinedInTrial l exq22) vm_X6_216 (cs_X6_areJoinedInTrial exq22) (by decide) ⟨rfl, rfl⟩ rfl (Nat.le_of_ble_eq_true rfl) dX6_stands_170 ?_
          refine r_if_eq 180 dX6_stands_173 (by decide) (fun q => ?_) (fun q => ?_)
          · rw [if_neg (show ¬ xq22 = true from by rw [am_b0 q]; decide)] at hm
            refine r_iconst 0 dX6_stands_180 (by decide) ?_
            cases hm
            exact r_lv [] _ rfl HJ
          · rw [if_pos (show xq22 = true from am_b1 q)] at hm
            refine r_iconst 1 dX6_stands_176 (by decide) ?_
            refine r_goto 181 dX6_stands_177 (by decide) ?_
            cases hm
            exact r_lv [] _ rfl HJ
  rw [if_neg q4] at hm
  by_cases q5 : (a / 10000) = 5
  · rw [if_pos q5] at hm
    refine r_tsw 182 dX6_stands_37 (Or.inl ⟨by rw [q5]; decide, by rw [q5]; decide⟩) ?_
    refine r_iload_n 3 dX6_stands_182 rfl ?_
    obtain ⟨⟨jq25, hq26⟩, hw, hm⟩ := am_bs hm
    try dsimp only at hm
    have HJ : am_R l yX6_stands cX6_stands 6 (some .boolean) rm_X6_stands (fun _ _ _ => True) 0 0 209 [] [.int (am_b jq25)] hq26 K := by
      cases hm
      exact r_zreturn _ dX6_stands_209 rfl (by decide) HK
    clear hm
    have hm := hw
    clear hw
    refine r_if_ne 208 dX6_stands_183 (by decide) (fun q => ?_) (fun q => ?_)
    · rw [if_neg q] at hm
      refine r_iconst 0 dX6_stands_208 (by decide) ?_
      cases hm
      exact r_lv [] _ rfl HJ
    · rw [if_pos q] at hm
      refine r_iload 0 dX6_stands_186 rfl ?_
      obtain ⟨xq27, exq27, hm⟩ := am_bs hm
      refine r_cS1 [.int (a - a / 100 * 100)] (ct_X6_isTime l exq27) sm_X6_128 (by decide) ⟨rfl, rfl⟩ rfl (Nat.le_of_ble_eq_true rfl) dX6_stands_188 ?_
      refine r_if_eq 208 dX6_stands_191 (by decide) (fun q => ?_) (fun q => ?_)
      · rw [if_neg (show ¬ xq27 = true from by rw [am_b0 q]; decide)] at hm
        refine r_iconst 0 dX6_stands_208 (by decide) ?_
        cases hm
        exact r_lv [] _ rfl HJ
      · rw [if_pos (show xq27 = true from am_b1 q)] at hm
        refine r_aload_n 4 dX6_stands_194 rfl ?_
        refine r_iload 0 dX6_stands_195 rfl ?_
        obtain ⟨⟨xq28, hq29⟩, exq28, hm⟩ := am_bs hm
        try dsimp only at hm
        refine r_cV1 [.int (a - a / 100 * 100)] (ct_X6_partsInTrial l exq28) vm_X6_219 (cs_X6_partsInTrial exq28) (by decide) ⟨rfl, rfl⟩ rfl (Nat.le_of_ble_eq_true rfl) dX6_stands_197 ?_
        refine r_iload_n 2 dX6_stands_200 rfl ?_
        refine r_icmp_lt 208 dX6_stands_201 (by decide) (fun q => ?_) (fun q => ?_)
        · rw [if_pos q] at hm
          refine r_iconst 0 dX6_stands_208 (by decide) ?_
          cases hm
          exact r_lv [] _ rfl HJ
        · rw [if_neg q] at hm
          refine r_iconst 1 dX6_stands_204 (by decide) ?_
          refine r_goto 209 dX6_stands_205 (by decide) ?_
          cases hm
          exact r_lv [] _ rfl HJ
  rw [if_neg q5] at hm
  refine r_tsw 210 dX6_stands_37 (Or.inr ⟨by have e1 := lv_neT q1 (show (1 : Int32).toInt = 1 from by decide); have e2 := lv_neT q2 (show (2 : Int32).toInt = 2 from by decide); have e3 := lv_neT q3 (show (3 : Int32).toInt = 3 from by decide); have e4 := lv_neT q4 (show (4 : Int32).toInt = 4 from by decide); have e5 := lv_neT q5 (show (5 : Int32).toInt = 5 from by decide); omega, by decide⟩) ?_
  refine r_iconst 0 dX6_stands_210 (by decide) ?_
  cases hm
  exact r_zreturn false dX6_stands_211 rfl (by decide) HK
def lo_X6_judge_56 (f : Nat) (a0 : Nat) (a1 : Int32) (a2 : Int64) : Nat → Int64 → Int32 → am_H → Option ((am_H) ⊕ (Int32 × am_H))
  | 0, _, _, _ => none
  | n + 1, a4, a6, h =>
  (if a1 ≤ a6 then
  (some (.inl h))
  else ((if (lg_cmp a4 0) ≤ 0 then
  (some (.inl h))
  else (Option.bind (am_nzl a4) fun uq1 =>
  Option.bind (mi_X6_stands f h a0 ((((a2 / a4) - (a2 / a4) / 100000 * 100000) : Int64).toInt32)) fun (xq2, hq3) =>
  (if xq2 = true then
  (lo_X6_judge_56 f a0 a1 a2 n (a4 / 100000) (a6 + 1) hq3)
  else (some (.inr (a6, hq3))))))))
set_option maxHeartbeats 4000000 in
set_option maxRecDepth 100000 in
theorem ll_X6_judge_56 (l : Launch) (f : Nat) (a0 : Nat) (a1 : Int32) (a2 : Int64) (K : Option Value → am_H → Prop) : ∀ (n : Nat) (a4 : Int64) (a6 : Int32) (h : am_H) (w : ((am_H) ⊕ (Int32 × am_H))), lo_X6_judge_56 f a0 a1 a2 n a4 a6 h = some w →
    (∀ (z : am_H), w = .inl z → am_R l yX6_judge cX6_judge 7 (some .int) rm_X6_judge (fun _ _ _ => True) 0 0 102 [] [] z K) → (∀ (z : Int32 × am_H), w = .inr z → K (some (.int z.1)) z.2) →
    am_R l yX6_judge cX6_judge 7 (some .int) rm_X6_judge (fun _ _ _ => True) 0 0 56 [(0, .ref a0), (1, .int a1), (2, .long a2), (4, .long a4), (6, .int a6)] [] h K := by
  intro n
  induction n with
  | zero =>
    intro a4 a6 h w hm kE kR
    cases hm
  | succ n ih =>
    intro a4 a6 h w hm kE kR
    rw [lo_X6_judge_56.eq_2] at hm
    refine r_iload 4 dX6_judge_56 rfl ?_
    refine r_iload_n 1 dX6_judge_58 rfl ?_
    refine r_icmp_ge 102 dX6_judge_59 (by decide) (fun q => ?_) (fun q => ?_)
    · rw [if_pos q] at hm
      cases hm
      exact r_lv [] _ rfl (kE _ rfl)
    · rw [if_neg q] at hm
      refine r_lload 3 dX6_judge_62 rfl ?_
      refine r_lconst 0 dX6_judge_64 (by decide) ?_
      refine r_lcmp dX6_judge_65 ?_
      refine r_if_le 102 dX6_judge_66 (by decide) (fun q => ?_) (fun q => ?_)
      · rw [if_pos q] at hm
        cases hm
        exact r_lv [] _ rfl (kE _ rfl)
      · rw [if_neg q] at hm
        refine r_aload_n 0 dX6_judge_69 rfl ?_
        refine r_lload_n 2 dX6_judge_70 rfl ?_
        refine r_lload 3 dX6_judge_71 rfl ?_
        obtain ⟨uq1, euq1, hm⟩ := am_bs hm
        refine r_ldiv dX6_judge_73 (am_nzl_of euq1) ?_
        refine r_ldc2 (v := 100000) kw_X6_207 dX6_judge_74 ?_
        refine r_lrem dX6_judge_77 (by decide) ?_
        refine r_l2i dX6_judge_78 ?_
        obtain ⟨⟨xq2, hq3⟩, exq2, hm⟩ := am_bs hm
        try dsimp only at hm
        refine r_cV1 [.int ((((a2 / a4) - (a2 / a4) / 100000 * 100000) : Int64).toInt32)] (ct_X6_stands l exq2) vm_X6_213 (cs_X6_stands exq2) (by decide) ⟨rfl, rfl⟩ rfl (Nat.le_of_ble_eq_true rfl) dX6_judge_79 ?_
        refine r_if_ne 88 dX6_judge_82 (by decide) (fun q => ?_) (fun q => ?_)
        · rw [if_pos (show xq2 = true from am_b1 q)] at hm
          refine r_lload 3 dX6_judge_88 rfl ?_
          refine r_ldc2 (v := 100000) kw_X6_207 dX6_judge_90 ?_
          refine r_ldiv dX6_judge_93 (by decide) ?_
          refine r_lstore [(4, .long (a4 / 100000)), (0, .ref a0), (1, .int a1), (2, .long a2), (6, .int a6)] dX6_judge_94 (by decide) rfl ?_
          refine r_inc 1 4 [(6, .int (a6 + 1)), (4, .long (a4 / 100000)), (0, .ref a0), (1, .int a1), (2, .long a2)] dX6_judge_96 (by decide) rfl (by decide) rfl ?_
          refine r_goto 56 dX6_judge_99 (by decide) ?_
          exact r_lv [2, 3, 4, 1, 0] _ rfl (ih (a4 / 100000) (a6 + 1) hq3 _ hm kE kR)
        · rw [if_neg (show ¬ xq2 = true from by rw [am_b0 q]; decide)] at hm
          refine r_iload 4 dX6_judge_85 rfl ?_
          cases hm
          exact r_ireturn dX6_judge_87 rfl (by decide) (kR _ rfl)
def mi_X6_judge (f : Nat) (h : am_H) (p : Nat) (a : Int32) (b : Int64) : Option (Int32 × am_H) :=
  Option.bind (am_cls h 6 p) fun _n =>
  (if a < 1 then
  (some ((-2), h))
  else ((if 3 < a then
  (some ((-2), h))
  else ((if (lg_cmp b 0) < 0 then
  (some ((-2), h))
  else (Option.bind (mi_X6_power f h 100000 a) fun xq1 =>
  (if (lg_cmp b xq1) < 0 then
  (Option.bind (am_gr h 6 p 2) fun xq2 =>
  Option.bind (am_gr h 6 p 1) fun xq3 =>
  Option.bind (mi_X5_copyOf f h xq2 xq3) fun hq5 =>
  Option.bind (mi_X6_power f hq5 100000 (a - 1)) fun xq6 =>
  Option.bind (lo_X6_judge_56 f p a b f xq6 0 hq5) fun wq8 => match wq8 with
  | .inl hq7 => (some ((-9), hq7))
  | .inr (rq9, hq10) => (some (rq9, hq10)))
  else (some ((-2), h)))))))))
theorem cs_X6_judge {f : Nat} {h : am_H} {p : Nat} {a : Int32} {b : Int64} {z : (Int32 × am_H)} (hm : mi_X6_judge f h p a b = some z) : ∃ n, h.1[p]? = some (6, n) := by
  unfold mi_X6_judge at hm
  obtain ⟨n, hn, -⟩ := am_bs hm
  exact ⟨n, am_cls_of hn⟩
set_option maxHeartbeats 4000000 in
set_option maxRecDepth 100000 in
theorem ct_X6_judge (l : Launch) {f : Nat} {h : am_H} {p : Nat} {a : Int32} {b : Int64} {r : Int32} {h2 : am_H} (hm : mi_X6_judge f h p a b = some (r, h2)) : am_Ct l yX6_judge cX6_judge 7 (some .int) rm_X6_judge [.ref p, .int a, .long b] h (some (.int r)) h2 := by
  refine am_met2 [(0, .ref p), (1, .int a), (2, .long b)] (by decide) (Nat.le_of_ble_eq_true rfl) rfl ?_
  generalize hK : (fun (v : Option Value) (h3 : am_H) => v = (some (.int r)) ∧ h3 = h2) = K
  have HK : K (some (.int r)) h2 := by rw [← hK]; exact ⟨rfl, rfl⟩
  clear hK
  unfold mi_X6_judge at hm
  obtain ⟨_n, _hn, hm⟩ := am_bs hm
  refine r_iload_n 1 dX6_judge_0 rfl ?_
  refine r_iconst 1 dX6_judge_1 (by decide) ?_
  refine r_icmp_lt 28 dX6_judge_2 (by decide) (fun q => ?_) (fun q => ?_)
  · rw [if_pos q] at hm
    refine r_bipush (-2) dX6_judge_28 (by decide) ?_
    cases hm
    exact r_ireturn dX6_judge_30 rfl (by decide) HK
  · rw [if_neg q] at hm
    refine r_iload_n 1 dX6_judge_5 rfl ?_
    refine r_iconst 3 dX6_judge_6 (by decide) ?_
    refine r_icmp_gt 28 dX6_judge_7 (by decide) (fun q => ?_) (fun q => ?_)
    · rw [if_pos q] at hm
      refine r_bipush (-2) dX6_judge_28 (by decide) ?_
      cases hm
      exact r_ireturn dX6_judge_30 rfl (by decide) HK
    · rw [if_neg q] at hm
      refine r_lload_n 2 dX6_judge_10 rfl ?_
      refine r_lconst 0 dX6_judge_11 (by decide) ?_
      refine r_lcmp dX6_judge_12 ?_
      refine r_if_lt 28 dX6_judge_13 (by decide) (fun q => ?_) (fun q => ?_)
      · rw [if_pos q] at hm
        refine r_bipush (-2) dX6_judge_28 (by decide) ?_
        cases hm
        exact r_ireturn dX6_judge_30 rfl (by decide) HK
      · rw [if_neg q] at hm
        refine r_lload_n 2 dX6_judge_16 rfl ?_
        refine r_ldc2 (v := 100000) kw_X6_207 dX6_judge_17 ?_
        refine r_iload_n 1 dX6_judge_20 rfl ?_
        obtain ⟨xq1, exq1, hm⟩ := am_bs hm
        refine r_cS1 [.long 100000, .int a] (ct_X6_power l exq1) sm_X6_209 (by decide) ⟨rfl, rfl⟩ rfl (Nat.le_of_ble_eq_true rfl) dX6_judge_21 ?_
        refine r_lcmp dX6_judge_24 ?_
        refine r_if_lt 31 dX6_judge_25 (by decide) (fun q => ?_) (fun q => ?_)
        · rw [if_pos q] at hm
          refine r_aload_n 0 dX6_judge_31 rfl ?_
          obtain ⟨xq2, exq2, hm⟩ := am_bs hm
          refine r_getr exq2 fl_X6_23 rfl dX6_judge_32 ?_
          refine r_aload_n 0 dX6_judge_35 rfl ?_
          obtain ⟨xq3, exq3, hm⟩ := am_bs hm
          refine r_getr exq3 fl_X6_19 rfl dX6_judge_36 ?_
          obtain ⟨hq5, exq4, hm⟩ := am_bs hm
          refine r_cV0 [.ref xq3] (ct_X5_copyOf l exq4) vm_X6_105 (cs_X5_copyOf exq4) (by decide) ⟨rfl, rfl⟩ rfl (Nat.le_of_ble_eq_true rfl) dX6_judge_39 ?_
          refine r_ldc2 (v := 100000) kw_X6_207 dX6_judge_42 ?_
          refine r_iload_n 1 dX6_judge_45 rfl ?_
          refine r_iconst 1 dX6_judge_46 (by decide) ?_
          refine r_isub dX6_judge_47 ?_
          obtain ⟨xq6, exq6, hm⟩ := am_bs hm
          refine r_cS1 [.long 100000, .int (a - 1)] (ct_X6_power l exq6) sm_X6_209 (by decide) ⟨rfl, rfl⟩ rfl (Nat.le_of_ble_eq_true rfl) dX6_judge_48 ?_
          refine r_lstore [(4, .long xq6), (0, .ref p), (1, .int a), (2, .long b)] dX6_judge_51 (by decide) rfl ?_
          refine r_iconst 0 dX6_judge_53 (by decide) ?_
          refine r_istore [(6, .int 0), (4, .long xq6), (0, .ref p), (1, .int a), (2, .long b)] dX6_judge_54 (by decide) rfl ?_
          obtain ⟨wq8, ew, hm⟩ := am_bs hm
          refine r_lv [2, 3, 4, 1, 0] _ rfl (ll_X6_judge_56 l f p a b _ f xq6 0 hq5 _ ew (fun z q => ?_) (fun z q => ?_))
          · obtain ⟨hq7, rfl⟩ : ∃ x, x = z := ⟨_, rfl⟩
            subst q
            dsimp only at hm
            refine r_bipush (-9) dX6_judge_102 (by decide) ?_
            cases hm
            exact r_ireturn dX6_judge_104 rfl (by decide) HK
          · subst q
            obtain ⟨rq9, hq10⟩ := z
            dsimp only at hm
            cases hm
            exact HK
        · rw [if_neg q] at hm
          refine r_bipush (-2) dX6_judge_28 (by decide) ?_
          cases hm
          exact r_ireturn dX6_judge_30 rfl (by decide) HK
def mi_X6_keep (f : Nat) (h : am_H) (p : Nat) (a : Int32) : Option (Int32 × am_H) :=
  Option.bind (am_cls h 6 p) fun _n =>
  (if a < 0 then
  (some ((-1), h))
  else ((if a < 2 then
  (Option.bind (am_gr h 6 p 7) fun xq1 =>
  Option.bind (am_lr h xq1 a) fun xq2 =>
  Option.bind (am_gr h 6 p 1) fun xq3 =>
  Option.bind (mi_X5_copyOf f h xq2 xq3) fun hq5 =>
  Option.bind (am_gr hq5 6 p 8) fun xq6 =>
  Option.bind (am_si hq5 10 xq6 a (vp_nar .boolean 1)) fun hq7 =>
  Option.bind (am_gr hq7 6 p 1) fun xq8 =>
  Option.bind (am_gi hq7 5 xq8 4) fun xq9 =>
  some (xq9, hq7))
  else (some ((-1), h)))))
theorem cs_X6_keep {f : Nat} {h : am_H} {p : Nat} {a : Int32} {z : (Int32 × am_H)} (hm : mi_X6_keep f h p a = some z) : ∃ n, h.1[p]? = some (6, n) := by
  unfold mi_X6_keep at hm
  obtain ⟨n, hn, -⟩ := am_bs hm
  exact ⟨n, am_cls_of hn⟩
set_option maxHeartbeats 4000000 in
set_option maxRecDepth 100000 in
theorem ct_X6_keep (l : Launch) {f : Nat} {h : am_H} {p : Nat} {a : Int32} {r : Int32} {h2 : am_H} (hm : mi_X6_keep f h p a = some (r, h2)) : am_Ct l yX6_keep cX6_keep 2 (some .int) rm_X6_keep [.ref p, .int a] h (some (.int r)) h2 := by
  refine am_met2 [(0, .ref p), (1, .int a)] (by decide) (Nat.le_of_ble_eq_true rfl) rfl ?_
  generalize hK : (fun (v : Option Value) (h3 : am_H) => v = (some (.int r)) ∧ h3 = h2) = K
  have HK : K (some (.int r)) h2 := by rw [← hK]; exact ⟨rfl, rfl⟩
  clear hK
  unfold mi_X6_keep at hm
  obtain ⟨_n, _hn, hm⟩ := am_bs hm
  refine r_iload_n 1 dX6_keep_0 rfl ?_
  refine r_if_lt 9 dX6_keep_1 (by decide) (fun q => ?_) (fun q => ?_)
  · rw [if_pos q] at hm
    refine r_iconst (-1) dX6_keep_9 (by decide) ?_
    cases hm
    exact r_ireturn dX6_keep_10 rfl (by decide) HK
  · rw [if_neg q] at hm
    refine r_iload_n 1 dX6_keep_4 rfl ?_
    refine r_iconst 2 dX6_keep_5 (by decide) ?_
    refine r_icmp_lt 11 dX6_keep_6 (by decide) (fun q => ?_) (fun q => ?_)
    · rw [if_pos q] at hm
      refine r_aload_n 0 dX6_keep_11 rfl ?_
      obtain ⟨xq1, exq1, hm⟩ := am_bs hm
      refine r_getr exq1 fl_X6_54 rfl dX6_keep_12 ?_
      refine r_iload_n 1 dX6_keep_15 rfl ?_
      obtain ⟨xq2, exq2, hm⟩ := am_bs hm
      refine r_aald exq2 dX6_keep_16 ?_
      refine r_aload_n 0 dX6_keep_17 rfl ?_
      obtain ⟨xq3, exq3, hm⟩ := am_bs hm
      refine r_getr exq3 fl_X6_19 rfl dX6_keep_18 ?_
      obtain ⟨hq5, exq4, hm⟩ := am_bs hm
      refine r_cV0 [.ref xq3] (ct_X5_copyOf l exq4) vm_X6_105 (cs_X5_copyOf exq4) (by decide) ⟨rfl, rfl⟩ rfl (Nat.le_of_ble_eq_true rfl) dX6_keep_21 ?_
      refine r_aload_n 0 dX6_keep_24 rfl ?_
      obtain ⟨xq6, exq6, hm⟩ := am_bs hm
      refine r_getr exq6 fl_X6_58 rfl dX6_keep_25 ?_
      refine r_iload_n 1 dX6_keep_28 rfl ?_
      refine r_iconst 1 dX6_keep_29 (by decide) ?_
      obtain ⟨hq7, ehq7, hm⟩ := am_bs hm
      refine r_zast ehq7 dX6_keep_30 ?_
      refine r_aload_n 0 dX6_keep_31 rfl ?_
      obtain ⟨xq8, exq8, hm⟩ := am_bs hm
      refine r_getr exq8 fl_X6_19 rfl dX6_keep_32 ?_
      obtain ⟨xq9, exq9, hm⟩ := am_bs hm
      refine r_geti exq9 fl_X6_81 rfl dX6_keep_35 ?_
      cases hm
      exact r_ireturn dX6_keep_38 rfl (by decide) HK
    · rw [if_neg q] at hm
      refine r_iconst (-1) dX6_keep_9 (by decide) ?_
      cases hm
      exact r_ireturn dX6_keep_10 rfl (by decide) HK
def mi_X6_knot (f : Nat) (h : am_H) (p : Nat) (a : Int32) (b : Int32) (c : Int32) : Option (Int32 × am_H) :=
  Option.bind (am_cls h 6 p) fun _n =>
  Option.bind (mi_X6_isKnot f h a) fun xq1 =>
  (if xq1 = true then
  (Option.bind (mi_X6_isTime f h b) fun xq2 =>
  (if xq2 = true then
  (Option.bind (am_gr h 6 p 4) fun xq3 =>
  Option.bind (am_gr h 6 p 1) fun xq4 =>
  Option.bind (mi_X2_walkToTime f h xq3 xq4 b) fun hq6 =>
  (if c = 0 then
  (Option.bind (am_gr hq6 6 p 4) fun xq7 =>
  Option.bind (mi_X2_rootOf f hq6 xq7 a) fun xq8 =>
  some (xq8, hq6))
  else (if c = 1 then
  (Option.bind (am_gr hq6 6 p 4) fun xq9 =>
  Option.bind (mi_X2_depthOf f hq6 xq9 a) fun xq10 =>
  some (xq10, hq6))
  else (if c = 2 then
  (Option.bind (am_gr hq6 6 p 4) fun xq11 =>
  Option.bind (am_gr hq6 2 xq11 1) fun xq12 =>
  Option.bind (am_gr hq6 6 p 4) fun xq13 =>
  Option.bind (mi_X2_rootOf f hq6 xq13 a) fun xq14 =>
  Option.bind (am_li hq6 9 xq12 xq14) fun xq15 =>
  some (xq15, hq6))
  else (some ((-2), hq6))))))
  else (some ((-1), h))))
  else (some ((-1), h)))
theorem cs_X6_knot {f : Nat} {h : am_H} {p : Nat} {a : Int32} {b : Int32} {c : Int32} {z : (Int32 × am_H)} (hm : mi_X6_knot f h p a b c = some z) : ∃ n, h.1[p]? = some (6, n) := by
  unfold mi_X6_knot at hm
  obtain ⟨n, hn, -⟩ := am_bs hm
  exact ⟨n, am_cls_of hn⟩
set_option maxHeartbeats 4000000 in
set_option maxRecDepth 100000 in
theorem ct_X6_knot (l : Launch) {f : Nat} {h : am_H} {p : Nat} {a : Int32} {b : Int32} {c : Int32} {r : Int32} {h2 : am_H} (hm : mi_X6_knot f h p a b c = some (r, h2)) : am_Ct l yX6_knot cX6_knot 4 (some .int) rm_X6_knot [.ref p, .int a, .int b, .int c] h (some (.int r)) h2 := by
  refine am_met2 [(0, .ref p), (1, .int a), (2, .int b), (3, .int c)] (by decide) (Nat.le_of_ble_eq_true rfl) rfl ?_
  generalize hK : (fun (v : Option Value) (h3 : am_H) => v = (some (.int r)) ∧ h3 = h2) = K
  have HK : K (some (.int r)) h2 := by rw [← hK]; exact ⟨rfl, rfl⟩
  clear hK
  unfold mi_X6_knot at hm
  obtain ⟨_n, _hn, hm⟩ := am_bs hm
  refine r_iload_n 1 dX6_knot_0 rfl ?_
  obtain ⟨xq1, exq1, hm⟩ := am_bs hm
  refine r_cS1 [.int a] (ct_X6_isKnot l exq1) sm_X6_150 (by decide) ⟨rfl, rfl⟩ rfl (Nat.le_of_ble_eq_true rfl) dX6_knot_1 ?_
  refine r_if_eq 14 dX6_knot_4 (by decide) (fun q => ?_) (fun q => ?_)
  · rw [if_neg (show ¬ xq1 = true from by rw [am_b0 q]; decide)] at hm
    refine r_iconst (-1) dX6_knot_14 (by decide) ?_
    cases hm
    exact r_ireturn dX6_knot_15 rfl (by decide) HK
  · rw [if_pos (show xq1 = true from am_b1 q)] at hm
    refine r_iload_n 2 dX6_knot_7 rfl ?_
    obtain ⟨xq2, exq2, hm⟩ := am_bs hm
    refine r_cS1 [.int b] (ct_X6_isTime l exq2) sm_X6_128 (by decide) ⟨rfl, rfl⟩ rfl (Nat.le_of_ble_eq_true rfl) dX6_knot_8 ?_
    refine r_if_ne 16 dX6_knot_11 (by decide) (fun q => ?_) (fun q => ?_)
    · rw [if_pos (show xq2 = true from am_b1 q)] at hm
      refine r_aload_n 0 dX6_knot_16 rfl ?_
      obtain ⟨xq3, exq3, hm⟩ := am_bs hm
      refine r_getr exq3 fl_X6_36 rfl dX6_knot_17 ?_
      refine r_aload_n 0 dX6_knot_20 rfl ?_
      obtain ⟨xq4, exq4, hm⟩ := am_bs hm
      refine r_getr exq4 fl_X6_19 rfl dX6_knot_21 ?_
      refine r_iload_n 2 dX6_knot_24 rfl ?_
      obtain ⟨hq6, exq5, hm⟩ := am_bs hm
      refine r_cV0 [.ref xq4, .int b] (ct_X2_walkToTime l exq5) vm_X6_131 (cs_X2_walkToTime exq5) (by decide) ⟨rfl, rfl⟩ rfl (Nat.le_of_ble_eq_true rfl) dX6_knot_25 ?_
      refine r_iload_n 3 dX6_knot_28 rfl ?_
      by_cases q0 : c = 0
      · rw [if_pos q0] at hm
        refine r_tsw 56 dX6_knot_29 (Or.inl ⟨by rw [q0]; decide, by rw [q0]; decide⟩) ?_
        refine r_aload_n 0 dX6_knot_56 rfl ?_
        obtain ⟨xq7, exq7, hm⟩ := am_bs hm
        refine r_getr exq7 fl_X6_36 rfl dX6_knot_57 ?_
        refine r_iload_n 1 dX6_knot_60 rfl ?_
        obtain ⟨xq8, exq8, hm⟩ := am_bs hm
        refine r_cV1 [.int a] (ct_X2_rootOf l exq8) vm_X6_153 (cs_X2_rootOf exq8) (by decide) ⟨rfl, rfl⟩ rfl (Nat.le_of_ble_eq_true rfl) dX6_knot_61 ?_
        cases hm
        exact r_ireturn dX6_knot_64 rfl (by decide) HK
      rw [if_neg q0] at hm
      by_cases q1 : c = 1
      · rw [if_pos q1] at hm
        refine r_tsw 65 dX6_knot_29 (Or.inl ⟨by rw [q1]; decide, by rw [q1]; decide⟩) ?_
        refine r_aload_n 0 dX6_knot_65 rfl ?_
        obtain ⟨xq9, exq9, hm⟩ := am_bs hm
        refine r_getr exq9 fl_X6_36 rfl dX6_knot_66 ?_
        refine r_iload_n 1 dX6_knot_69 rfl ?_
        obtain ⟨xq10, exq10, hm⟩ := am_bs hm
        refine r_cV1 [.int a] (ct_X2_depthOf l exq10) vm_X6_156 (cs_X2_depthOf exq10) (by decide) ⟨rfl, rfl⟩ rfl (Nat.le_of_ble_eq_true rfl) dX6_knot_70 ?_
        cases hm
        exact r_ireturn dX6_knot_73 rfl (by decide) HK
      rw [if_neg q1] at hm
      by_cases q2 : c = 2
      · rw [if_pos q2] at hm
        refine r_tsw 74 dX6_knot_29 (Or.inl ⟨by rw [q2]; decide, by rw [q2]; decide⟩) ?_
        refine r_aload_n 0 dX6_knot_74 rfl ?_
        obtain ⟨xq11, exq11, hm⟩ := am_bs hm
        refine r_getr exq11 fl_X6_36 rfl dX6_knot_75 ?_
        obtain ⟨xq12, exq12, hm⟩ := am_bs hm
        refine r_getr exq12 fl_X6_159 rfl dX6_knot_78 ?_
        refine r_aload_n 0 dX6_knot_81 rfl ?_
        obtain ⟨xq13, exq13, hm⟩ := am_bs hm
        refine r_getr exq13 fl_X6_36 rfl dX6_knot_82 ?_
        refine r_iload_n 1 dX6_knot_85 rfl ?_
        obtain ⟨xq14, exq14, hm⟩ := am_bs hm
        refine r_cV1 [.int a] (ct_X2_rootOf l exq14) vm_X6_153 (cs_X2_rootOf exq14) (by decide) ⟨rfl, rfl⟩ rfl (Nat.le_of_ble_eq_true rfl) dX6_knot_86 ?_
        obtain ⟨xq15, exq15, hm⟩ := am_bs hm
        refine r_iald exq15 dX6_knot_89 ?_
        cases hm
        exact r_ireturn dX6_knot_90 rfl (by decide) HK
      rw [if_neg q2] at hm
      refine r_tsw 91 dX6_knot_29 (Or.inr ⟨by have e0 := lv_neT q0 (show (0 : Int32).toInt = 0 from by decide); have e1 := lv_neT q1 (show (1 : Int32).toInt = 1 from by decide); have e2 := lv_neT q2 (show (2 : Int32).toInt = 2 from by decide); omega, by decide⟩) ?_
      refine r_bipush (-2) dX6_knot_91 (by decide) ?_
      cases hm
      exact r_ireturn dX6_knot_93 rfl (by decide) HK
    · rw [if_neg (show ¬ xq2 = true from by rw [am_b0 q]; decide)] at hm
      refine r_iconst (-1) dX6_knot_14 (by decide) ?_
      cases hm
      exact r_ireturn dX6_knot_15 rfl (by decide) HK
def lo_X6_leastApart_26 (f : Nat) (h : am_H) (a0 : Nat) (a1 : Int32) (a2 : Int32) (a3 : Int32) (a4 : Int32) : Nat → Int32 → Option ((Unit) ⊕ (Int32))
  | 0, _ => none
  | n + 1, a5 =>
  (if a3 < a5 then
  (some (.inl ()))
  else (Option.bind (mi_J6_bitCount_0f7a4 f h a5) fun xq1 =>
  Option.bind ((if xq1 = a4 then
  (Option.bind (am_gr h 6 a0 5) fun xq3 =>
  Option.bind (mi_X1_areJoined f h xq3 a1 a2 (a3 ^^^ a5)) fun xq4 =>
  (if xq4 = true then
  (some true)
  else (some false)))
  else (some true))) fun tq2 =>
  (if tq2 = true then
  (lo_X6_leastApart_26 f h a0 a1 a2 a3 a4 n (a5 + 1))
  else (some (.inr a5)))))
set_option maxHeartbeats 4000000 in
set_option maxRecDepth 100000 in
theorem ll_X6_leastApart_26 (l : Launch) (f : Nat) (h : am_H) (a0 : Nat) (a1 : Int32) (a2 : Int32) (a3 : Int32) (a4 : Int32) (K : Option Value → am_H → Prop) : ∀ (n : Nat) (a5 : Int32) (w : ((Unit) ⊕ (Int32))), lo_X6_leastApart_26 f h a0 a1 a2 a3 a4 n a5 = some w →
    (∀ (z : Unit), w = .inl z → am_R l yX6_leastApart cX6_leastApart 6 (some .int) rm_X6_leastApart (fun _ _ _ => True) 0 0 67 [(0, .ref a0), (1, .int a1), (2, .int a2), (3, .int a3), (4, .int a4)] [] h K) → (∀ (z : Int32), w = .inr z → K (some (.int z)) h) →
    am_R l yX6_leastApart cX6_leastApart 6 (some .int) rm_X6_leastApart (fun _ _ _ => True) 0 0 26 [(0, .ref a0), (1, .int a1), (2, .int a2), (3, .int a3), (4, .int a4), (5, .int a5)] [] h K := by
  intro n
  induction n with
  | zero =>
    intro a5 w hm kE kR
    cases hm
  | succ n ih =>
    intro a5 w hm kE kR
    rw [lo_X6_leastApart_26.eq_2] at hm
    refine r_iload 5 dX6_leastApart_26 rfl ?_
    refine r_iload_n 3 dX6_leastApart_28 rfl ?_
    refine r_icmp_gt 67 dX6_leastApart_29 (by decide) (fun q => ?_) (fun q => ?_)
    · rw [if_pos q] at hm
      cases hm
      exact r_lv [0, 1, 2, 3, 4] _ rfl (kE _ rfl)
    · rw [if_neg q] at hm
      refine r_iload 5 dX6_leastApart_32 rfl ?_
      obtain ⟨xq1, exq1, hm⟩ := am_bs hm
      refine r_cS1 [.int a5] (ct_J6_bitCount_0f7a4 l exq1) sm_X6_177 (by decide) ⟨rfl, rfl⟩ rfl (Nat.le_of_ble_eq_true rfl) dX6_leastApart_34 ?_
      refine r_iload 4 dX6_leastApart_37 rfl ?_
      obtain ⟨tq2, hw, hm⟩ := am_bs hm
      try dsimp only at hm
      have HA : tq2 = true → am_R l yX6_leastApart cX6_leastApart 6 (some .int) rm_X6_leastApart (fun _ _ _ => True) 0 0 61 [(0, .ref a0), (1, .int a1), (2, .int a2), (3, .int a3), (4, .int a4), (5, .int a5)] [] h K := by
        intro q
        clear hw
        rw [if_pos q] at hm
        refine r_inc 1 5 [(5, .int (a5 + 1)), (0, .ref a0), (1, .int a1), (2, .int a2), (3, .int a3), (4, .int a4)] dX6_leastApart_61 (by decide) rfl (by decide) rfl ?_
        refine r_goto 26 dX6_leastApart_64 (by decide) ?_
        exact r_lv [1, 2, 3, 4, 5, 0] _ rfl (ih (a5 + 1) _ hm kE kR)
      have HB : tq2 = false → am_R l yX6_leastApart cX6_leastApart 6 (some .int) rm_X6_leastApart (fun _ _ _ => True) 0 0 58 [(0, .ref a0), (1, .int a1), (2, .int a2), (3, .int a3), (4, .int a4), (5, .int a5)] [] h K := by
        intro q
        clear hw
        rw [if_neg (by rw [q]; decide)] at hm
        refine r_iload 5 dX6_leastApart_58 rfl ?_
        cases hm
        exact r_ireturn dX6_leastApart_60 rfl (by decide) (kR _ rfl)
      clear hm
      have hm := hw
      clear hw
      refine r_icmp_ne 61 dX6_leastApart_39 (by decide) (fun q => ?_) (fun q => ?_)
      · rw [if_neg q] at hm
        cases hm
        exact HA rfl
      · rw [if_pos q] at hm
        refine r_aload_n 0 dX6_leastApart_42 rfl ?_
        obtain ⟨xq3, exq3, hm⟩ := am_bs hm
        refine r_getr exq3 fl_X6_43 rfl dX6_leastApart_43 ?_
        refine r_iload_n 1 dX6_leastApart_46 rfl ?_
        refine r_iload_n 2 dX6_leastApart_47 rfl ?_
        refine r_iload_n 3 dX6_leastApart_48 rfl ?_
        refine r_iload 5 dX6_leastApart_49 rfl ?_
        refine r_ixor dX6_leastApart_51 ?_
        obtain ⟨xq4, exq4, hm⟩ := am_bs hm
        refine r_cV1 [.int a1, .int a2, .int (a3 ^^^ a5)] (ct_X1_areJoined l exq4) vm_X6_195 (cs_X1_areJoined exq4) (by decide) ⟨rfl, rfl⟩ rfl (Nat.le_of_ble_eq_true rfl) dX6_leastApart_52 ?_
        refine r_if_ne 61 dX6_leastApart_55 (by decide) (fun q => ?_) (fun q => ?_)
        · rw [if_pos (show xq4 = true from am_b1 q)] at hm
          cases hm
          exact HA rfl
        · rw [if_neg (show ¬ xq4 = true from by rw [am_b0 q]; decide)] at hm
          cases hm
          exact HB rfl
def lo_X6_leastApart_11 (f : Nat) (h : am_H) (a0 : Nat) (a1 : Int32) (a2 : Int32) (a3 : Int32) : Nat → Int32 → Option ((Unit) ⊕ (Int32))
  | 0, _ => none
  | n + 1, a4 =>
  Option.bind (am_gr h 6 a0 5) fun xq1 =>
  Option.bind (am_gi h 1 xq1 4) fun xq2 =>
  (if xq2 ≤ a4 then
  (some (.inl ()))
  else (Option.bind (lo_X6_leastApart_26 f h a0 a1 a2 a3 a4 f 0) fun wq3 => match wq3 with
  | .inl _ => (lo_X6_leastApart_11 f h a0 a1 a2 a3 n (a4 + 1))
  | .inr rq4 => (some (.inr rq4))))
set_option maxHeartbeats 4000000 in
set_option maxRecDepth 100000 in
theorem ll_X6_leastApart_11 (l : Launch) (f : Nat) (h : am_H) (a0 : Nat) (a1 : Int32) (a2 : Int32) (a3 : Int32) (K : Option Value → am_H → Prop) : ∀ (n : Nat) (a4 : Int32) (w : ((Unit) ⊕ (Int32))), lo_X6_leastApart_11 f h a0 a1 a2 a3 n a4 = some w →
    (∀ (z : Unit), w = .inl z → am_R l yX6_leastApart cX6_leastApart 6 (some .int) rm_X6_leastApart (fun _ _ _ => True) 0 0 73 [(3, .int a3)] [] h K) → (∀ (z : Int32), w = .inr z → K (some (.int z)) h) →
    am_R l yX6_leastApart cX6_leastApart 6 (some .int) rm_X6_leastApart (fun _ _ _ => True) 0 0 11 [(0, .ref a0), (1, .int a1), (2, .int a2), (3, .int a3), (4, .int a4)] [] h K := by
  intro n
  induction n with
  | zero =>
    intro a4 w hm kE kR
    cases hm
  | succ n ih =>
    intro a4 w hm kE kR
    rw [lo_X6_leastApart_11.eq_2] at hm
    refine r_iload 4 dX6_leastApart_11 rfl ?_
    refine r_aload_n 0 dX6_leastApart_13 rfl ?_
    obtain ⟨xq1, exq1, hm⟩ := am_bs hm
    refine r_getr exq1 fl_X6_43 rfl dX6_leastApart_14 ?_
    obtain ⟨xq2, exq2, hm⟩ := am_bs hm
    refine r_geti exq2 fl_X6_189 rfl dX6_leastApart_17 ?_
    refine r_icmp_ge 73 dX6_leastApart_20 (by decide) (fun q => ?_) (fun q => ?_)
    · rw [if_pos q] at hm
      cases hm
      exact r_lv [3] _ rfl (kE _ rfl)
    · rw [if_neg q] at hm
      refine r_iconst 0 dX6_leastApart_23 (by decide) ?_
      refine r_istore [(5, .int 0), (0, .ref a0), (1, .int a1), (2, .int a2), (3, .int a3), (4, .int a4)] dX6_leastApart_24 (by decide) rfl ?_
      obtain ⟨wq3, ew, hm⟩ := am_bs hm
      refine r_lv [1, 2, 3, 4, 5, 0] _ rfl (ll_X6_leastApart_26 l f h a0 a1 a2 a3 a4 _ f 0 _ ew (fun z q => ?_) (fun z q => ?_))
      · subst q
        dsimp only at hm
        refine r_inc 1 4 [(4, .int (a4 + 1)), (0, .ref a0), (1, .int a1), (2, .int a2), (3, .int a3)] dX6_leastApart_67 (by decide) rfl (by decide) rfl ?_
        refine r_goto 11 dX6_leastApart_70 (by decide) ?_
        exact r_lv [1, 2, 3, 4, 0] _ rfl (ih (a4 + 1) _ hm kE kR)
      · obtain ⟨rq4, rfl⟩ : ∃ x, x = z := ⟨_, rfl⟩
        subst q
        dsimp only at hm
        cases hm
        exact kR _ rfl
def mi_X6_leastApart (f : Nat) (h : am_H) (p : Nat) (a : Int32) (b : Int32) : Option Int32 :=
  Option.bind (am_cls h 6 p) fun _n =>
  Option.bind (am_gr h 6 p 5) fun xq1 =>
  Option.bind (mi_X1_all f h xq1) fun xq2 =>
  Option.bind (lo_X6_leastApart_11 f h p a b xq2 f 0) fun wq3 => match wq3 with
  | .inl _ => (some xq2)
  | .inr rq4 => (some rq4)
theorem cs_X6_leastApart {f : Nat} {h : am_H} {p : Nat} {a : Int32} {b : Int32} {z : Int32} (hm : mi_X6_leastApart f h p a b = some z) : ∃ n, h.1[p]? = some (6, n) := by
  unfold mi_X6_leastApart at hm
  obtain ⟨n, hn, -⟩ := am_bs hm
  exact ⟨n, am_cls_of hn⟩
set_option maxHeartbeats 4000000 in
set_option maxRecDepth 100000 in
theorem ct_X6_leastApart (l : Launch) {f : Nat} {h : am_H} {p : Nat} {a : Int32} {b : Int32} {r : Int32} (hm : mi_X6_leastApart f h p a b = some r) : am_Ct l yX6_leastApart cX6_leastApart 6 (some .int) rm_X6_leastApart [.ref p, .int a, .int b] h (some (.int r)) h := by
  refine am_met2 [(0, .ref p), (1, .int a), (2, .int b)] (by decide) (Nat.le_of_ble_eq_true rfl) rfl ?_
  generalize hK : (fun (v : Option Value) (h3 : am_H) => v = (some (.int r)) ∧ h3 = h) = K
  have HK : K (some (.int r)) h := by rw [← hK]; exact ⟨rfl, rfl⟩
  clear hK
  unfold mi_X6_leastApart at hm
  obtain ⟨_n, _hn, hm⟩ := am_bs hm
  refine r_aload_n 0 dX6_leastApart_0 rfl ?_
  obtain ⟨xq1, exq1, hm⟩ := am_bs hm
  refine r_getr exq1 fl_X6_43 rfl dX6_leastApart_1 ?_
  obtain ⟨xq2, exq2, hm⟩ := am_bs hm
  refine r_cV1 [] (ct_X1_all l exq2) vm_X6_192 (cs_X1_all exq2) (by decide) ⟨rfl, rfl⟩ rfl (Nat.le_of_ble_eq_true rfl) dX6_leastApart_4 ?_
  refine r_istore_n [(3, .int xq2), (0, .ref p), (1, .int a), (2, .int b)] dX6_leastApart_7 (by decide) rfl ?_
  refine r_iconst 0 dX6_leastApart_8 (by decide) ?_
  refine r_istore [(4, .int 0), (3, .int xq2), (0, .ref p), (1, .int a), (2, .int b)] dX6_leastApart_9 (by decide) rfl ?_
  obtain ⟨wq3, ew, hm⟩ := am_bs hm
  refine r_lv [2, 3, 4, 1, 0] _ rfl (ll_X6_leastApart_11 l f h p a b xq2 _ f 0 _ ew (fun z q => ?_) (fun z q => ?_))
  · subst q
    dsimp only at hm
    refine r_iload_n 0 dX6_leastApart_73 rfl ?_
    cases hm
    exact r_ireturn dX6_leastApart_74 rfl (by decide) HK
  · obtain ⟨rq4, rfl⟩ : ∃ x, x = z := ⟨_, rfl⟩
    subst q
    dsimp only at hm
    cases hm
    exact HK
def mi_X6_least (f : Nat) (h : am_H) (p : Nat) (a : Int32) (b : Int32) (c : Int32) (d : Int32) : Option (Int32 × am_H) :=
  Option.bind (am_cls h 6 p) fun _n =>
  Option.bind (mi_X6_isKnot f h a) fun xq1 =>
  (if xq1 = true then
  (Option.bind (mi_X6_isKnot f h b) fun xq2 =>
  (if xq2 = true then
  (Option.bind (mi_X6_isTime f h c) fun xq3 =>
  (if xq3 = true then
  ((if a = b then
  (some ((-2), h))
  else ((if d < 0 then
  (some ((-2), h))
  else ((if d ≤ 1 then
  (Option.bind (am_gr h 6 p 5) fun xq4 =>
  Option.bind (am_gr h 6 p 1) fun xq5 =>
  Option.bind (mi_X1_gather f h xq4 xq5 c) fun hq7 =>
  Option.bind (am_gr hq7 6 p 5) fun xq8 =>
  Option.bind (am_gi hq7 1 xq8 4) fun xq9 =>
  (if xq9 ≤ 10 then
  (Option.bind (mi_X6_leastApart f hq7 p a b) fun xq10 =>
  Option.bind ((if d = 0 then
  (Option.bind (mi_J6_bitCount_0f7a4 f hq7 xq10) fun xq12 =>
  some xq12)
  else (Option.bind (am_gr hq7 6 p 5) fun xq13 =>
  Option.bind (mi_X1_numbersOf f hq7 xq13 xq10) fun xq14 =>
  some xq14))) fun jq11 =>
  some (jq11, hq7))
  else (some ((-4), hq7))))
  else (some ((-2), h))))))))
  else (some ((-1), h))))
  else (some ((-1), h))))
  else (some ((-1), h)))
theorem cs_X6_least {f : Nat} {h : am_H} {p : Nat} {a : Int32} {b : Int32} {c : Int32} {d : Int32} {z : (Int32 × am_H)} (hm : mi_X6_least f h p a b c d = some z) : ∃ n, h.1[p]? = some (6, n) := by
  unfold mi_X6_least at hm
  obtain ⟨n, hn, -⟩ := am_bs hm
  exact ⟨n, am_cls_of hn⟩
set_option maxHeartbeats 4000000 in
set_option maxRecDepth 100000 in
theorem ct_X6_least (l : Launch) {f : Nat} {h : am_H} {p : Nat} {a : Int32} {b : Int32} {c : Int32} {d : Int32} {r : Int32} {h2 : am_H} (hm : mi_X6_least f h p a b c d = some (r, h2)) : am_Ct l yX6_least cX6_least 6 (some .int) rm_X6_least [.ref p, .int a, .int b, .int c, .int d] h (some (.int r)) h2 := by
  refine am_met2 [(0, .ref p), (1, .int a), (2, .int b), (3, .int c), (4, .int d)] (by decide) (Nat.le_of_ble_eq_true rfl) rfl ?_
  generalize hK : (fun (v : Option Value) (h3 : am_H) => v = (some (.int r)) ∧ h3 = h2) = K
  have HK : K (some (.int r)) h2 := by rw [← hK]; exact ⟨rfl, rfl⟩
  clear hK
  unfold mi_X6_least at hm
  obtain ⟨_n, _hn, hm⟩ := am_bs hm
  refine r_iload_n 1 dX6_least_0 rfl ?_
  obtain ⟨xq1, exq1, hm⟩ := am_bs hm
  refine r_cS1 [.int a] (ct_X6_isKnot l exq1) sm_X6_150 (by decide) ⟨rfl, rfl⟩ rfl (Nat.le_of_ble_eq_true rfl) dX6_least_1 ?_
  refine r_if_eq 21 dX6_least_4 (by decide) (fun q => ?_) (fun q => ?_)
  · rw [if_neg (show ¬ xq1 = true from by rw [am_b0 q]; decide)] at hm
    refine r_iconst (-1) dX6_least_21 (by decide) ?_
    cases hm
    exact r_ireturn dX6_least_22 rfl (by decide) HK
  · rw [if_pos (show xq1 = true from am_b1 q)] at hm
    refine r_iload_n 2 dX6_least_7 rfl ?_
    obtain ⟨xq2, exq2, hm⟩ := am_bs hm
    refine r_cS1 [.int b] (ct_X6_isKnot l exq2) sm_X6_150 (by decide) ⟨rfl, rfl⟩ rfl (Nat.le_of_ble_eq_true rfl) dX6_least_8 ?_
    refine r_if_eq 21 dX6_least_11 (by decide) (fun q => ?_) (fun q => ?_)
    · rw [if_neg (show ¬ xq2 = true from by rw [am_b0 q]; decide)] at hm
      refine r_iconst (-1) dX6_least_21 (by decide) ?_
      cases hm
      exact r_ireturn dX6_least_22 rfl (by decide) HK
    · rw [if_pos (show xq2 = true from am_b1 q)] at hm
      refine r_iload_n 3 dX6_least_14 rfl ?_
      obtain ⟨xq3, exq3, hm⟩ := am_bs hm
      refine r_cS1 [.int c] (ct_X6_isTime l exq3) sm_X6_128 (by decide) ⟨rfl, rfl⟩ rfl (Nat.le_of_ble_eq_true rfl) dX6_least_15 ?_
      refine r_if_ne 23 dX6_least_18 (by decide) (fun q => ?_) (fun q => ?_)
      · rw [if_pos (show xq3 = true from am_b1 q)] at hm
        refine r_iload_n 1 dX6_least_23 rfl ?_
        refine r_iload_n 2 dX6_least_24 rfl ?_
        refine r_icmp_eq 39 dX6_least_25 (by decide) (fun q => ?_) (fun q => ?_)
        · rw [if_pos q] at hm
          refine r_bipush (-2) dX6_least_39 (by decide) ?_
          cases hm
          exact r_ireturn dX6_least_41 rfl (by decide) HK
        · rw [if_neg q] at hm
          refine r_iload 4 dX6_least_28 rfl ?_
          refine r_if_lt 39 dX6_least_30 (by decide) (fun q => ?_) (fun q => ?_)
          · rw [if_pos q] at hm
            refine r_bipush (-2) dX6_least_39 (by decide) ?_
            cases hm
            exact r_ireturn dX6_least_41 rfl (by decide) HK
          · rw [if_neg q] at hm
            refine r_iload 4 dX6_least_33 rfl ?_
            refine r_iconst 1 dX6_least_35 (by decide) ?_
            refine r_icmp_le 42 dX6_least_36 (by decide) (fun q => ?_) (fun q => ?_)
            · rw [if_pos q] at hm
              refine r_aload_n 0 dX6_least_42 rfl ?_
              obtain ⟨xq4, exq4, hm⟩ := am_bs hm
              refine r_getr exq4 fl_X6_43 rfl dX6_least_43 ?_
              refine r_aload_n 0 dX6_least_46 rfl ?_
              obtain ⟨xq5, exq5, hm⟩ := am_bs hm
              refine r_getr exq5 fl_X6_19 rfl dX6_least_47 ?_
              refine r_iload_n 3 dX6_least_50 rfl ?_
              obtain ⟨hq7, exq6, hm⟩ := am_bs hm
              refine r_cV0 [.ref xq5, .int c] (ct_X1_gather l exq6) vm_X6_186 (cs_X1_gather exq6) (by decide) ⟨rfl, rfl⟩ rfl (Nat.le_of_ble_eq_true rfl) dX6_least_51 ?_
              refine r_aload_n 0 dX6_least_54 rfl ?_
              obtain ⟨xq8, exq8, hm⟩ := am_bs hm
              refine r_getr exq8 fl_X6_43 rfl dX6_least_55 ?_
              obtain ⟨xq9, exq9, hm⟩ := am_bs hm
              refine r_geti exq9 fl_X6_189 rfl dX6_least_58 ?_
              refine r_bipush 10 dX6_least_61 (by decide) ?_
              refine r_icmp_le 69 dX6_least_63 (by decide) (fun q => ?_) (fun q => ?_)
              · rw [if_pos q] at hm
                refine r_aload_n 0 dX6_least_69 rfl ?_
                refine r_iload_n 1 dX6_least_70 rfl ?_
                refine r_iload_n 2 dX6_least_71 rfl ?_
                obtain ⟨xq10, exq10, hm⟩ := am_bs hm
                refine r_cV1 [.int a, .int b] (ct_X6_leastApart l exq10) vm_X6_201 (cs_X6_leastApart exq10) (by decide) ⟨rfl, rfl⟩ rfl (Nat.le_of_ble_eq_true rfl) dX6_least_72 ?_
                refine r_istore [(5, .int xq10), (0, .ref p), (1, .int a), (2, .int b), (3, .int c), (4, .int d)] dX6_least_75 (by decide) rfl ?_
                refine r_iload 5 dX6_least_77 rfl ?_
                obtain ⟨jq11, hw, hm⟩ := am_bs hm
                try dsimp only at hm
                have HJ : am_R l yX6_least cX6_least 6 (some .int) rm_X6_least (fun _ _ _ => True) 0 0 99 [] [.int jq11] hq7 K := by
                  cases hm
                  exact r_ireturn dX6_least_99 rfl (by decide) HK
                clear hm
                have hm := hw
                clear hw
                refine r_if_ne 90 dX6_least_79 (by decide) (fun q => ?_) (fun q => ?_)
                · rw [if_neg q] at hm
                  refine r_aload_n 1 dX6_least_90 rfl ?_
                  obtain ⟨xq13, exq13, hm⟩ := am_bs hm
                  refine r_getr exq13 fl_X6_43 rfl dX6_least_91 ?_
                  refine r_iload 0 dX6_least_94 rfl ?_
                  obtain ⟨xq14, exq14, hm⟩ := am_bs hm
                  refine r_cV1 [.int xq10] (ct_X1_numbersOf l exq14) vm_X6_204 (cs_X1_numbersOf exq14) (by decide) ⟨rfl, rfl⟩ rfl (Nat.le_of_ble_eq_true rfl) dX6_least_96 ?_
                  cases hm
                  exact r_lv [] _ rfl HJ
                · rw [if_pos q] at hm
                  refine r_iload 0 dX6_least_82 rfl ?_
                  obtain ⟨xq12, exq12, hm⟩ := am_bs hm
                  refine r_cS1 [.int xq10] (ct_J6_bitCount_0f7a4 l exq12) sm_X6_177 (by decide) ⟨rfl, rfl⟩ rfl (Nat.le_of_ble_eq_true rfl) dX6_least_84 ?_
                  refine r_goto 99 dX6_least_87 (by decide) ?_
                  cases hm
                  exact r_lv [] _ rfl HJ
              · rw [if_neg q] at hm
                refine r_bipush (-4) dX6_least_66 (by decide) ?_
                cases hm
                exact r_ireturn dX6_least_68 rfl (by decide) HK
            · rw [if_neg q] at hm
              refine r_bipush (-2) dX6_least_39 (by decide) ?_
              cases hm
              exact r_ireturn dX6_least_41 rfl (by decide) HK
      · rw [if_neg (show ¬ xq3 = true from by rw [am_b0 q]; decide)] at hm
        refine r_iconst (-1) dX6_least_21 (by decide) ?_
        cases hm
        exact r_ireturn dX6_least_22 rfl (by decide) HK
def lo_X6_life_36 (f : Nat) (a0 : Nat) : Nat → Int32 → am_H → Option (am_H)
  | 0, _, _ => none
  | n + 1, a1, h =>
  (if 2 ≤ a1 then
  (some h)
  else (Option.bind (am_gr h 6 a0 8) fun xq1 =>
  Option.bind (am_si h 10 xq1 a1 (vp_nar .boolean 0)) fun hq2 =>
  lo_X6_life_36 f a0 n (a1 + 1) hq2))
set_option maxHeartbeats 4000000 in
set_option maxRecDepth 100000 in
theorem ll_X6_life_36 (l : Launch) (f : Nat) (a0 : Nat) (K : Option Value → am_H → Prop) : ∀ (n : Nat) (a1 : Int32) (h : am_H) (z : am_H), lo_X6_life_36 f a0 n a1 h = some z →
    am_R l yX6_life cX6_life 2 (some .int) rm_X6_life (fun _ _ _ => True) 0 0 54 [(0, .ref a0)] [] z K →
    am_R l yX6_life cX6_life 2 (some .int) rm_X6_life (fun _ _ _ => True) 0 0 36 [(0, .ref a0), (1, .int a1)] [] h K := by
  intro n
  induction n with
  | zero =>
    intro a1 h z hm kE
    cases hm
  | succ n ih =>
    intro a1 h z hm kE
    rw [lo_X6_life_36.eq_2] at hm
    refine r_iload_n 1 dX6_life_36 rfl ?_
    refine r_iconst 2 dX6_life_37 (by decide) ?_
    refine r_icmp_ge 54 dX6_life_38 (by decide) (fun q => ?_) (fun q => ?_)
    · rw [if_pos q] at hm
      cases hm
      exact r_lv [0] _ rfl kE
    · rw [if_neg q] at hm
      refine r_aload_n 0 dX6_life_41 rfl ?_
      obtain ⟨xq1, exq1, hm⟩ := am_bs hm
      refine r_getr exq1 fl_X6_58 rfl dX6_life_42 ?_
      refine r_iload_n 1 dX6_life_45 rfl ?_
      refine r_iconst 0 dX6_life_46 (by decide) ?_
      obtain ⟨hq2, ehq2, hm⟩ := am_bs hm
      refine r_zast ehq2 dX6_life_47 ?_
      refine r_inc 1 1 [(1, .int (a1 + 1)), (0, .ref a0)] dX6_life_48 (by decide) rfl (by decide) rfl ?_
      refine r_goto 36 dX6_life_51 (by decide) ?_
      exact r_lv [1, 0] _ rfl (ih (a1 + 1) hq2 _ hm kE)
def mi_X6_life (f : Nat) (h : am_H) (p : Nat) : Option (Int32 × am_H) :=
  Option.bind (am_cls h 6 p) fun _n =>
  Option.bind (am_gr h 6 p 0) fun xq1 =>
  Option.bind (mi_X3_firstFault f h xq1) fun (xq2, hq3) =>
  (if xq2 = (-9) then
  (Option.bind (am_gr hq3 6 p 0) fun xq5 =>
  Option.bind (am_gr hq3 6 p 1) fun xq6 =>
  Option.bind (mi_X3_layOut f hq3 xq5 xq6) fun hq8 =>
  Option.bind (am_gr hq8 6 p 3) fun xq9 =>
  Option.bind (am_pi hq8 0 xq9 1 0) fun hq10 =>
  Option.bind (lo_X6_life_36 f p f 0 hq10) fun hq11 =>
  Option.bind (am_gr hq11 6 p 1) fun xq12 =>
  Option.bind (am_gi hq11 5 xq12 4) fun xq13 =>
  some (xq13, hq11))
  else (some ((-3), hq3)))
theorem cs_X6_life {f : Nat} {h : am_H} {p : Nat} {z : (Int32 × am_H)} (hm : mi_X6_life f h p = some z) : ∃ n, h.1[p]? = some (6, n) := by
  unfold mi_X6_life at hm
  obtain ⟨n, hn, -⟩ := am_bs hm
  exact ⟨n, am_cls_of hn⟩
set_option maxHeartbeats 4000000 in
set_option maxRecDepth 100000 in
theorem ct_X6_life (l : Launch) {f : Nat} {h : am_H} {p : Nat} {r : Int32} {h2 : am_H} (hm : mi_X6_life f h p = some (r, h2)) : am_Ct l yX6_life cX6_life 2 (some .int) rm_X6_life [.ref p] h (some (.int r)) h2 := by
  refine am_met2 [(0, .ref p)] (by decide) (Nat.le_of_ble_eq_true rfl) rfl ?_
  generalize hK : (fun (v : Option Value) (h3 : am_H) => v = (some (.int r)) ∧ h3 = h2) = K
  have HK : K (some (.int r)) h2 := by rw [← hK]; exact ⟨rfl, rfl⟩
  clear hK
  unfold mi_X6_life at hm
  obtain ⟨_n, _hn, hm⟩ := am_bs hm
  refine r_aload_n 0 dX6_life_0 rfl ?_
  obtain ⟨xq1, exq1, hm⟩ := am_bs hm
  refine r_getr exq1 fl_X6_10 rfl dX6_life_1 ?_
  obtain ⟨⟨xq2, hq3⟩, exq2, hm⟩ := am_bs hm
  try dsimp only at hm
  refine r_cV1 [] (ct_X3_firstFault l exq2) vm_X6_70 (cs_X3_firstFault exq2) (by decide) ⟨rfl, rfl⟩ rfl (Nat.le_of_ble_eq_true rfl) dX6_life_4 ?_
  refine r_bipush (-9) dX6_life_7 (by decide) ?_
  refine r_icmp_eq 15 dX6_life_9 (by decide) (fun q => ?_) (fun q => ?_)
  · rw [if_pos q] at hm
    refine r_aload_n 0 dX6_life_15 rfl ?_
    obtain ⟨xq5, exq5, hm⟩ := am_bs hm
    refine r_getr exq5 fl_X6_10 rfl dX6_life_16 ?_
    refine r_aload_n 0 dX6_life_19 rfl ?_
    obtain ⟨xq6, exq6, hm⟩ := am_bs hm
    refine r_getr exq6 fl_X6_19 rfl dX6_life_20 ?_
    obtain ⟨hq8, exq7, hm⟩ := am_bs hm
    refine r_cV0 [.ref xq6] (ct_X3_layOut l exq7) vm_X6_74 (cs_X3_layOut exq7) (by decide) ⟨rfl, rfl⟩ rfl (Nat.le_of_ble_eq_true rfl) dX6_life_23 ?_
    refine r_aload_n 0 dX6_life_26 rfl ?_
    obtain ⟨xq9, exq9, hm⟩ := am_bs hm
    refine r_getr exq9 fl_X6_29 rfl dX6_life_27 ?_
    refine r_iconst 0 dX6_life_30 (by decide) ?_
    obtain ⟨hq10, ehq10, hm⟩ := am_bs hm
    refine r_puti ehq10 fl_X6_78 rfl rfl dX6_life_31 ?_
    refine r_iconst 0 dX6_life_34 (by decide) ?_
    refine r_istore_n [(1, .int 0), (0, .ref p)] dX6_life_35 (by decide) rfl ?_
    obtain ⟨hq11, ew, hm⟩ := am_bs hm
    try dsimp only at hm
    refine r_lv [1, 0] _ rfl (ll_X6_life_36 l f p _ f 0 hq10 _ ew ?_)
    refine r_aload_n 0 dX6_life_54 rfl ?_
    obtain ⟨xq12, exq12, hm⟩ := am_bs hm
    refine r_getr exq12 fl_X6_19 rfl dX6_life_55 ?_
    obtain ⟨xq13, exq13, hm⟩ := am_bs hm
    refine r_geti exq13 fl_X6_81 rfl dX6_life_58 ?_
    cases hm
    exact r_ireturn dX6_life_61 rfl (by decide) HK
  · rw [if_neg q] at hm
    refine r_bipush (-3) dX6_life_12 (by decide) ?_
    cases hm
    exact r_ireturn dX6_life_14 rfl (by decide) HK
def lo_X6_missingEnds_6 (f : Nat) (h : am_H) (a0 : Nat) (a1 : Int32) (a2 : Int32) (a3 : Int32) (a4 : Int32) : Nat → Int32 → Int32 → Option (Int32)
  | 0, _, _ => none
  | n + 1, a5, a6 =>
  (if 16 ≤ a6 then
  (some a5)
  else ((if ((a4 >>> (a6 &&& 31)) &&& 1) = 0 then
  (Option.bind (am_gr h 6 a0 6) fun xq1 =>
  Option.bind (mi_X6_stretch f h a3 a6) fun xq2 =>
  Option.bind (mi_X4_allSoWith f h xq1 a1 a2 xq2) fun xq3 =>
  Option.bind ((if xq3 = true then
  (some (a5 ||| ((1 : Int32) <<< (a6 &&& 31))))
  else (some a5))) fun jq4 =>
  lo_X6_missingEnds_6 f h a0 a1 a2 a3 a4 n jq4 (a6 + 1))
  else (some a5))))
set_option maxHeartbeats 4000000 in
set_option maxRecDepth 100000 in
theorem ll_X6_missingEnds_6 (l : Launch) (f : Nat) (h : am_H) (a0 : Nat) (a1 : Int32) (a2 : Int32) (a3 : Int32) (a4 : Int32) (K : Option Value → am_H → Prop) : ∀ (n : Nat) (a5 : Int32) (a6 : Int32) (z : Int32), lo_X6_missingEnds_6 f h a0 a1 a2 a3 a4 n a5 a6 = some z →
    am_R l yX6_missingEnds cX6_missingEnds 7 (some .int) rm_X6_missingEnds (fun _ _ _ => True) 0 0 56 [(5, .int z)] [] h K →
    am_R l yX6_missingEnds cX6_missingEnds 7 (some .int) rm_X6_missingEnds (fun _ _ _ => True) 0 0 6 [(0, .ref a0), (1, .int a1), (2, .int a2), (3, .int a3), (4, .int a4), (5, .int a5), (6, .int a6)] [] h K := by
  intro n
  induction n with
  | zero =>
    intro a5 a6 z hm kE
    cases hm
  | succ n ih =>
    intro a5 a6 z hm kE
    rw [lo_X6_missingEnds_6.eq_2] at hm
    refine r_iload 6 dX6_missingEnds_6 rfl ?_
    refine r_bipush 16 dX6_missingEnds_8 (by decide) ?_
    refine r_icmp_ge 56 dX6_missingEnds_10 (by decide) (fun q => ?_) (fun q => ?_)
    · rw [if_pos q] at hm
      cases hm
      exact r_lv [5] _ rfl kE
    · rw [if_neg q] at hm
      refine r_iload 4 dX6_missingEnds_13 rfl ?_
      refine r_iload 6 dX6_missingEnds_15 rfl ?_
      refine r_ishr dX6_missingEnds_17 ?_
      refine r_iconst 1 dX6_missingEnds_18 (by decide) ?_
      refine r_iand dX6_missingEnds_19 ?_
      refine r_if_ne 56 dX6_missingEnds_20 (by decide) (fun q => ?_) (fun q => ?_)
      · rw [if_neg q] at hm
        cases hm
        exact r_lv [5] _ rfl kE
      · rw [if_pos q] at hm
        refine r_aload_n 0 dX6_missingEnds_23 rfl ?_
        obtain ⟨xq1, exq1, hm⟩ := am_bs hm
        refine r_getr exq1 fl_X6_50 rfl dX6_missingEnds_24 ?_
        refine r_iload_n 1 dX6_missingEnds_27 rfl ?_
        refine r_iload_n 2 dX6_missingEnds_28 rfl ?_
        refine r_iload_n 3 dX6_missingEnds_29 rfl ?_
        refine r_iload 6 dX6_missingEnds_30 rfl ?_
        obtain ⟨xq2, exq2, hm⟩ := am_bs hm
        refine r_cS1 [.int a3, .int a6] (ct_X6_stretch l exq2) sm_X6_247 (by decide) ⟨rfl, rfl⟩ rfl (Nat.le_of_ble_eq_true rfl) dX6_missingEnds_32 ?_
        obtain ⟨xq3, exq3, hm⟩ := am_bs hm
        refine r_cV1 [.int a1, .int a2, .int xq2] (ct_X4_allSoWith l exq3) vm_X6_250 (cs_X4_allSoWith exq3) (by decide) ⟨rfl, rfl⟩ rfl (Nat.le_of_ble_eq_true rfl) dX6_missingEnds_35 ?_
        obtain ⟨jq4, hw, hm⟩ := am_bs hm
        try dsimp only at hm
        have HJ : am_R l yX6_missingEnds cX6_missingEnds 7 (some .int) rm_X6_missingEnds (fun _ _ _ => True) 0 0 50 [(0, .ref a0), (1, .int a1), (2, .int a2), (3, .int a3), (4, .int a4), (5, .int jq4), (6, .int a6)] [] h K := by
          refine r_inc 1 6 [(6, .int (a6 + 1)), (0, .ref a0), (1, .int a1), (2, .int a2), (3, .int a3), (4, .int a4), (5, .int jq4)] dX6_missingEnds_50 (by decide) rfl (by decide) rfl ?_
          refine r_goto 6 dX6_missingEnds_53 (by decide) ?_
          exact r_lv [1, 2, 3, 4, 5, 6, 0] _ rfl (ih jq4 (a6 + 1) _ hm kE)
        clear hm
        have hm := hw
        clear hw
        refine r_if_eq 50 dX6_missingEnds_38 (by decide) (fun q => ?_) (fun q => ?_)
        · rw [if_neg (show ¬ xq3 = true from by rw [am_b0 q]; decide)] at hm
          cases hm
          exact r_lv [0, 1, 2, 3, 4, 5, 6] _ rfl HJ
        · rw [if_pos (show xq3 = true from am_b1 q)] at hm
          refine r_iload 5 dX6_missingEnds_41 rfl ?_
          refine r_iconst 1 dX6_missingEnds_43 (by decide) ?_
          refine r_iload 6 dX6_missingEnds_44 rfl ?_
          refine r_ishl dX6_missingEnds_46 ?_
          refine r_ior dX6_missingEnds_47 ?_
          refine r_istore [(5, .int (a5 ||| ((1 : Int32) <<< (a6 &&& 31)))), (0, .ref a0), (1, .int a1), (2, .int a2), (3, .int a3), (4, .int a4), (6, .int a6)] dX6_missingEnds_48 (by decide) rfl ?_
          cases hm
          exact r_lv [1, 2, 3, 4, 5, 0, 6] _ rfl HJ
def mi_X6_missingEnds (f : Nat) (h : am_H) (p : Nat) (a : Int32) (b : Int32) (c : Int32) (d : Int32) : Option Int32 :=
  Option.bind (am_cls h 6 p) fun _n =>
  Option.bind (lo_X6_missingEnds_6 f h p a b c d f 0 c) fun oq1 =>
  some oq1
theorem cs_X6_missingEnds {f : Nat} {h : am_H} {p : Nat} {a : Int32} {b : Int32} {c : Int32} {d : Int32} {z : Int32} (hm : mi_X6_missingEnds f h p a b c d = some z) : ∃ n, h.1[p]? = some (6, n) := by
  unfold mi_X6_missingEnds at hm
  obtain ⟨n, hn, -⟩ := am_bs hm
  exact ⟨n, am_cls_of hn⟩
set_option maxHeartbeats 4000000 in
set_option maxRecDepth 100000 in
theorem ct_X6_missingEnds (l : Launch) {f : Nat} {h : am_H} {p : Nat} {a : Int32} {b : Int32} {c : Int32} {d : Int32} {r : Int32} (hm : mi_X6_missingEnds f h p a b c d = some r) : am_Ct l yX6_missingEnds cX6_missingEnds 7 (some .int) rm_X6_missingEnds [.ref p, .int a, .int b, .int c, .int d] h (some (.int r)) h := by
  refine am_met2 [(0, .ref p), (1, .int a), (2, .int b), (3, .int c), (4, .int d)] (by decide) (Nat.le_of_ble_eq_true rfl) rfl ?_
  generalize hK : (fun (v : Option Value) (h3 : am_H) => v = (some (.int r)) ∧ h3 = h) = K
  have HK : K (some (.int r)) h := by rw [← hK]; exact ⟨rfl, rfl⟩
  clear hK
  unfold mi_X6_missingEnds at hm
  obtain ⟨_n, _hn, hm⟩ := am_bs hm
  refine r_iconst 0 dX6_missingEnds_0 (by decide) ?_
  refine r_istore [(5, .int 0), (0, .ref p), (1, .int a), (2, .int b), (3, .int c), (4, .int d)] dX6_missingEnds_1 (by decide) rfl ?_
  refine r_iload_n 4 dX6_missingEnds_3 rfl ?_
  refine r_istore [(6, .int c), (5, .int 0), (0, .ref p), (1, .int a), (2, .int b), (3, .int c), (4, .int d)] dX6_missingEnds_4 (by decide) rfl ?_
  obtain ⟨oq1, ew, hm⟩ := am_bs hm
  try dsimp only at hm
  refine r_lv [2, 3, 4, 5, 6, 1, 0] _ rfl (ll_X6_missingEnds_6 l f h p a b c d _ f 0 c _ ew ?_)
  refine r_iload 0 dX6_missingEnds_56 rfl ?_
  cases hm
  exact r_ireturn dX6_missingEnds_58 rfl (by decide) HK
def lo_X6_howManyMissing_36 (f : Nat) (h : am_H) (a0 : Nat) (a2 : Int32) (a3 : Int32) (a4 : Int32) : Nat → Int32 → Int32 → Option (Int32)
  | 0, _, _ => none
  | n + 1, a1, a5 =>
  (if 16 ≤ a5 then
  (some a1)
  else (Option.bind (mi_X6_missingEnds f h a0 a2 a3 a5 a4) fun xq1 =>
  Option.bind (mi_J6_bitCount_0f7a4 f h xq1) fun xq2 =>
  lo_X6_howManyMissing_36 f h a0 a2 a3 a4 n (a1 + xq2) (a5 + 1)))
set_option maxHeartbeats 4000000 in
set_option maxRecDepth 100000 in
theorem ll_X6_howManyMissing_36 (l : Launch) (f : Nat) (h : am_H) (a0 : Nat) (a2 : Int32) (a3 : Int32) (a4 : Int32) (K : Option Value → am_H → Prop) : ∀ (n : Nat) (a1 : Int32) (a5 : Int32) (z : Int32), lo_X6_howManyMissing_36 f h a0 a2 a3 a4 n a1 a5 = some z →
    am_R l yX6_howManyMissing cX6_howManyMissing 6 (some .int) rm_X6_howManyMissing (fun _ _ _ => True) 0 0 65 [(0, .ref a0), (1, .int z), (2, .int a2), (3, .int a3)] [] h K →
    am_R l yX6_howManyMissing cX6_howManyMissing 6 (some .int) rm_X6_howManyMissing (fun _ _ _ => True) 0 0 36 [(0, .ref a0), (1, .int a1), (2, .int a2), (3, .int a3), (4, .int a4), (5, .int a5)] [] h K := by
  intro n
  induction n with
  | zero =>
    intro a1 a5 z hm kE
    cases hm
  | succ n ih =>
    intro a1 a5 z hm kE
    rw [lo_X6_howManyMissing_36.eq_2] at hm
    refine r_iload 5 dX6_howManyMissing_36 rfl ?_
    refine r_bipush 16 dX6_howManyMissing_38 (by decide) ?_
    refine r_icmp_ge 65 dX6_howManyMissing_40 (by decide) (fun q => ?_) (fun q => ?_)
    · rw [if_pos q] at hm
      cases hm
      exact r_lv [0, 1, 2, 3] _ rfl kE
    · rw [if_neg q] at hm
      refine r_iload_n 1 dX6_howManyMissing_43 rfl ?_
      refine r_aload_n 0 dX6_howManyMissing_44 rfl ?_
      refine r_iload_n 2 dX6_howManyMissing_45 rfl ?_
      refine r_iload_n 3 dX6_howManyMissing_46 rfl ?_
      refine r_iload 5 dX6_howManyMissing_47 rfl ?_
      refine r_iload 4 dX6_howManyMissing_49 rfl ?_
      obtain ⟨xq1, exq1, hm⟩ := am_bs hm
      refine r_cV1 [.int a2, .int a3, .int a5, .int a4] (ct_X6_missingEnds l exq1) vm_X6_240 (cs_X6_missingEnds exq1) (by decide) ⟨rfl, rfl⟩ rfl (Nat.le_of_ble_eq_true rfl) dX6_howManyMissing_51 ?_
      obtain ⟨xq2, exq2, hm⟩ := am_bs hm
      refine r_cS1 [.int xq1] (ct_J6_bitCount_0f7a4 l exq2) sm_X6_177 (by decide) ⟨rfl, rfl⟩ rfl (Nat.le_of_ble_eq_true rfl) dX6_howManyMissing_54 ?_
      refine r_iadd dX6_howManyMissing_57 ?_
      refine r_istore_n [(1, .int (a1 + xq2)), (0, .ref a0), (2, .int a2), (3, .int a3), (4, .int a4), (5, .int a5)] dX6_howManyMissing_58 (by decide) rfl ?_
      refine r_inc 1 5 [(5, .int (a5 + 1)), (1, .int (a1 + xq2)), (0, .ref a0), (2, .int a2), (3, .int a3), (4, .int a4)] dX6_howManyMissing_59 (by decide) rfl (by decide) rfl ?_
      refine r_goto 36 dX6_howManyMissing_62 (by decide) ?_
      exact r_lv [2, 1, 3, 4, 5, 0] _ rfl (ih (a1 + xq2) (a5 + 1) _ hm kE)
def lo_X6_howManyMissing_14 (f : Nat) (h : am_H) (a0 : Nat) (a2 : Int32) : Nat → Int32 → Int32 → Option (Int32)
  | 0, _, _ => none
  | n + 1, a1, a3 =>
  (if 8 ≤ a3 then
  (some a1)
  else (Option.bind (am_gr h 6 a0 1) fun xq1 =>
  Option.bind (mi_X5_timesOf f h xq1 a2 a3 (-9)) fun xq2 =>
  Option.bind (lo_X6_howManyMissing_36 f h a0 a2 a3 xq2 f a1 0) fun oq3 =>
  lo_X6_howManyMissing_14 f h a0 a2 n oq3 (a3 + 1)))
set_option maxHeartbeats 4000000 in
set_option maxRecDepth 100000 in
theorem ll_X6_howManyMissing_14 (l : Launch) (f : Nat) (h : am_H) (a0 : Nat) (a2 : Int32) (K : Option Value → am_H → Prop) : ∀ (n : Nat) (a1 : Int32) (a3 : Int32) (z : Int32), lo_X6_howManyMissing_14 f h a0 a2 n a1 a3 = some z →
    am_R l yX6_howManyMissing cX6_howManyMissing 6 (some .int) rm_X6_howManyMissing (fun _ _ _ => True) 0 0 71 [(0, .ref a0), (1, .int z), (2, .int a2)] [] h K →
    am_R l yX6_howManyMissing cX6_howManyMissing 6 (some .int) rm_X6_howManyMissing (fun _ _ _ => True) 0 0 14 [(0, .ref a0), (1, .int a1), (2, .int a2), (3, .int a3)] [] h K := by
  intro n
  induction n with
  | zero =>
    intro a1 a3 z hm kE
    cases hm
  | succ n ih =>
    intro a1 a3 z hm kE
    rw [lo_X6_howManyMissing_14.eq_2] at hm
    refine r_iload_n 3 dX6_howManyMissing_14 rfl ?_
    refine r_bipush 8 dX6_howManyMissing_15 (by decide) ?_
    refine r_icmp_ge 71 dX6_howManyMissing_17 (by decide) (fun q => ?_) (fun q => ?_)
    · rw [if_pos q] at hm
      cases hm
      exact r_lv [0, 1, 2] _ rfl kE
    · rw [if_neg q] at hm
      refine r_aload_n 0 dX6_howManyMissing_20 rfl ?_
      obtain ⟨xq1, exq1, hm⟩ := am_bs hm
      refine r_getr exq1 fl_X6_19 rfl dX6_howManyMissing_21 ?_
      refine r_iload_n 2 dX6_howManyMissing_24 rfl ?_
      refine r_iload_n 3 dX6_howManyMissing_25 rfl ?_
      refine r_bipush (-9) dX6_howManyMissing_26 (by decide) ?_
      obtain ⟨xq2, exq2, hm⟩ := am_bs hm
      refine r_cV1 [.int a2, .int a3, .int (-9)] (ct_X5_timesOf l exq2) vm_X6_236 (cs_X5_timesOf exq2) (by decide) ⟨rfl, rfl⟩ rfl (Nat.le_of_ble_eq_true rfl) dX6_howManyMissing_28 ?_
      refine r_istore [(4, .int xq2), (0, .ref a0), (1, .int a1), (2, .int a2), (3, .int a3)] dX6_howManyMissing_31 (by decide) rfl ?_
      refine r_iconst 0 dX6_howManyMissing_33 (by decide) ?_
      refine r_istore [(5, .int 0), (4, .int xq2), (0, .ref a0), (1, .int a1), (2, .int a2), (3, .int a3)] dX6_howManyMissing_34 (by decide) rfl ?_
      obtain ⟨oq3, ew, hm⟩ := am_bs hm
      try dsimp only at hm
      refine r_lv [2, 3, 4, 5, 1, 0] _ rfl (ll_X6_howManyMissing_36 l f h a0 a2 a3 xq2 _ f a1 0 _ ew ?_)
      refine r_inc 1 3 [(3, .int (a3 + 1)), (0, .ref a0), (1, .int oq3), (2, .int a2)] dX6_howManyMissing_65 (by decide) rfl (by decide) rfl ?_
      refine r_goto 14 dX6_howManyMissing_68 (by decide) ?_
      exact r_lv [1, 2, 3, 0] _ rfl (ih oq3 (a3 + 1) _ hm kE)
def lo_X6_howManyMissing_4 (f : Nat) (h : am_H) (a0 : Nat) : Nat → Int32 → Int32 → Option (Int32)
  | 0, _, _ => none
  | n + 1, a1, a2 =>
  (if 8 ≤ a2 then
  (some a1)
  else (Option.bind (lo_X6_howManyMissing_14 f h a0 a2 f a1 (a2 + 1)) fun oq1 =>
  lo_X6_howManyMissing_4 f h a0 n oq1 (a2 + 1)))
set_option maxHeartbeats 4000000 in
set_option maxRecDepth 100000 in
theorem ll_X6_howManyMissing_4 (l : Launch) (f : Nat) (h : am_H) (a0 : Nat) (K : Option Value → am_H → Prop) : ∀ (n : Nat) (a1 : Int32) (a2 : Int32) (z : Int32), lo_X6_howManyMissing_4 f h a0 n a1 a2 = some z →
    am_R l yX6_howManyMissing cX6_howManyMissing 6 (some .int) rm_X6_howManyMissing (fun _ _ _ => True) 0 0 77 [(1, .int z)] [] h K →
    am_R l yX6_howManyMissing cX6_howManyMissing 6 (some .int) rm_X6_howManyMissing (fun _ _ _ => True) 0 0 4 [(0, .ref a0), (1, .int a1), (2, .int a2)] [] h K := by
  intro n
  induction n with
  | zero =>
    intro a1 a2 z hm kE
    cases hm
  | succ n ih =>
    intro a1 a2 z hm kE
    rw [lo_X6_howManyMissing_4.eq_2] at hm
    refine r_iload_n 2 dX6_howManyMissing_4 rfl ?_
    refine r_bipush 8 dX6_howManyMissing_5 (by decide) ?_
    refine r_icmp_ge 77 dX6_howManyMissing_7 (by decide) (fun q => ?_) (fun q => ?_)
    · rw [if_pos q] at hm
      cases hm
      exact r_lv [1] _ rfl kE
    · rw [if_neg q] at hm
      refine r_iload_n 2 dX6_howManyMissing_10 rfl ?_
      refine r_iconst 1 dX6_howManyMissing_11 (by decide) ?_
      refine r_iadd dX6_howManyMissing_12 ?_
      refine r_istore_n [(3, .int (a2 + 1)), (0, .ref a0), (1, .int a1), (2, .int a2)] dX6_howManyMissing_13 (by decide) rfl ?_
      obtain ⟨oq1, ew, hm⟩ := am_bs hm
      try dsimp only at hm
      refine r_lv [1, 2, 3, 0] _ rfl (ll_X6_howManyMissing_14 l f h a0 a2 _ f a1 (a2 + 1) _ ew ?_)
      refine r_inc 1 2 [(2, .int (a2 + 1)), (0, .ref a0), (1, .int oq1)] dX6_howManyMissing_71 (by decide) rfl (by decide) rfl ?_
      refine r_goto 4 dX6_howManyMissing_74 (by decide) ?_
      exact r_lv [1, 2, 0] _ rfl (ih oq1 (a2 + 1) _ hm kE)
def mi_X6_howManyMissing (f : Nat) (h : am_H) (p : Nat) : Option Int32 :=
  Option.bind (am_cls h 6 p) fun _n =>
  Option.bind (lo_X6_howManyMissing_4 f h p f 0 0) fun oq1 =>
  some oq1
theorem cs_X6_howManyMissing {f : Nat} {h : am_H} {p : Nat} {z : Int32} (hm : mi_X6_howManyMissing f h p = some z) : ∃ n, h.1[p]? = some (6, n) := by
  unfold mi_X6_howManyMissing at hm
  obtain ⟨n, hn, -⟩ := am_bs hm
  exact ⟨n, am_cls_of hn⟩
set_option maxHeartbeats 4000000 in
set_option maxRecDepth 100000 in
theorem ct_X6_howManyMissing (l : Launch) {f : Nat} {h : am_H} {p : Nat} {r : Int32} (hm : mi_X6_howManyMissing f h p = some r) : am_Ct l yX6_howManyMissing cX6_howManyMissing 6 (some .int) rm_X6_howManyMissing [.ref p] h (some (.int r)) h := by
  refine am_met2 [(0, .ref p)] (by decide) (Nat.le_of_ble_eq_true rfl) rfl ?_
  generalize hK : (fun (v : Option Value) (h3 : am_H) => v = (some (.int r)) ∧ h3 = h) = K
  have HK : K (some (.int r)) h := by rw [← hK]; exact ⟨rfl, rfl⟩
  clear hK
  unfold mi_X6_howManyMissing at hm
  obtain ⟨_n, _hn, hm⟩ := am_bs hm
  refine r_iconst 0 dX6_howManyMissing_0 (by decide) ?_
  refine r_istore_n [(1, .int 0), (0, .ref p)] dX6_howManyMissing_1 (by decide) rfl ?_
  refine r_iconst 0 dX6_howManyMissing_2 (by decide) ?_
  refine r_istore_n [(2, .int 0), (1, .int 0), (0, .ref p)] dX6_howManyMissing_3 (by decide) rfl ?_
  obtain ⟨oq1, ew, hm⟩ := am_bs hm
  try dsimp only at hm
  refine r_lv [2, 1, 0] _ rfl (ll_X6_howManyMissing_4 l f h p _ f 0 0 _ ew ?_)
  refine r_iload_n 0 dX6_howManyMissing_77 rfl ?_
  cases hm
  exact r_ireturn dX6_howManyMissing_78 rfl (by decide) HK
def lo_X6_lowestBit_2 (f : Nat) (h : am_H) (a0 : Int32) : Nat → Int32 → Option ((Unit) ⊕ (Int32))
  | 0, _ => none
  | n + 1, a1 =>
  (if 16 ≤ a1 then
  (some (.inl ()))
  else ((if ((a0 >>> (a1 &&& 31)) &&& 1) = 0 then
  (lo_X6_lowestBit_2 f h a0 n (a1 + 1))
  else (some (.inr a1)))))
set_option maxHeartbeats 4000000 in
set_option maxRecDepth 100000 in
theorem ll_X6_lowestBit_2 (l : Launch) (f : Nat) (h : am_H) (a0 : Int32) (K : Option Value → am_H → Prop) : ∀ (n : Nat) (a1 : Int32) (w : ((Unit) ⊕ (Int32))), lo_X6_lowestBit_2 f h a0 n a1 = some w →
    (∀ (z : Unit), w = .inl z → am_R l yX6_lowestBit cX6_lowestBit 2 (some .int) rm_X6_lowestBit (fun _ _ _ => True) 0 0 24 [] [] h K) → (∀ (z : Int32), w = .inr z → K (some (.int z)) h) →
    am_R l yX6_lowestBit cX6_lowestBit 2 (some .int) rm_X6_lowestBit (fun _ _ _ => True) 0 0 2 [(0, .int a0), (1, .int a1)] [] h K := by
  intro n
  induction n with
  | zero =>
    intro a1 w hm kE kR
    cases hm
  | succ n ih =>
    intro a1 w hm kE kR
    rw [lo_X6_lowestBit_2.eq_2] at hm
    refine r_iload_n 1 dX6_lowestBit_2 rfl ?_
    refine r_bipush 16 dX6_lowestBit_3 (by decide) ?_
    refine r_icmp_ge 24 dX6_lowestBit_5 (by decide) (fun q => ?_) (fun q => ?_)
    · rw [if_pos q] at hm
      cases hm
      exact r_lv [] _ rfl (kE _ rfl)
    · rw [if_neg q] at hm
      refine r_iload_n 0 dX6_lowestBit_8 rfl ?_
      refine r_iload_n 1 dX6_lowestBit_9 rfl ?_
      refine r_ishr dX6_lowestBit_10 ?_
      refine r_iconst 1 dX6_lowestBit_11 (by decide) ?_
      refine r_iand dX6_lowestBit_12 ?_
      refine r_if_eq 18 dX6_lowestBit_13 (by decide) (fun q => ?_) (fun q => ?_)
      · rw [if_pos q] at hm
        refine r_inc 1 1 [(1, .int (a1 + 1)), (0, .int a0)] dX6_lowestBit_18 (by decide) rfl (by decide) rfl ?_
        refine r_goto 2 dX6_lowestBit_21 (by decide) ?_
        exact r_lv [1, 0] _ rfl (ih (a1 + 1) _ hm kE kR)
      · rw [if_neg q] at hm
        refine r_iload_n 1 dX6_lowestBit_16 rfl ?_
        cases hm
        exact r_ireturn dX6_lowestBit_17 rfl (by decide) (kR _ rfl)
def mi_X6_lowestBit (f : Nat) (h : am_H) (a : Int32) : Option Int32 :=
  Option.bind (lo_X6_lowestBit_2 f h a f 0) fun wq1 => match wq1 with
  | .inl _ => (some (-9))
  | .inr rq2 => (some rq2)
set_option maxHeartbeats 4000000 in
set_option maxRecDepth 100000 in
theorem ct_X6_lowestBit (l : Launch) {f : Nat} {h : am_H} {a : Int32} {r : Int32} (hm : mi_X6_lowestBit f h a = some r) : am_Ct l yX6_lowestBit cX6_lowestBit 2 (some .int) rm_X6_lowestBit [.int a] h (some (.int r)) h := by
  refine am_met2 [(0, .int a)] (by decide) (Nat.le_of_ble_eq_true rfl) rfl ?_
  generalize hK : (fun (v : Option Value) (h3 : am_H) => v = (some (.int r)) ∧ h3 = h) = K
  have HK : K (some (.int r)) h := by rw [← hK]; exact ⟨rfl, rfl⟩
  clear hK
  unfold mi_X6_lowestBit at hm
  refine r_iconst 0 dX6_lowestBit_0 (by decide) ?_
  refine r_istore_n [(1, .int 0), (0, .int a)] dX6_lowestBit_1 (by decide) rfl ?_
  obtain ⟨wq1, ew, hm⟩ := am_bs hm
  refine r_lv [1, 0] _ rfl (ll_X6_lowestBit_2 l f h a _ f 0 _ ew (fun z q => ?_) (fun z q => ?_))
  · subst q
    dsimp only at hm
    refine r_bipush (-9) dX6_lowestBit_24 (by decide) ?_
    cases hm
    exact r_ireturn dX6_lowestBit_26 rfl (by decide) HK
  · obtain ⟨rq2, rfl⟩ : ∃ x, x = z := ⟨_, rfl⟩
    subst q
    dsimp only at hm
    cases hm
    exact HK
def lo_X6_firstMissing_33 (f : Nat) (h : am_H) (a0 : Nat) (a1 : Int32) (a2 : Int32) (a3 : Int32) : Nat → Int32 → Option ((Unit) ⊕ (Int32))
  | 0, _ => none
  | n + 1, a4 =>
  (if 16 ≤ a4 then
  (some (.inl ()))
  else (Option.bind (mi_X6_missingEnds f h a0 a1 a2 a4 a3) fun xq1 =>
  (if xq1 = 0 then
  (lo_X6_firstMissing_33 f h a0 a1 a2 a3 n (a4 + 1))
  else (Option.bind (mi_X6_lowestBit f h xq1) fun xq2 =>
  some (.inr (((((100000 : Int32) * a1) + ((10000 : Int32) * a2)) + ((100 : Int32) * a4)) + xq2))))))
set_option maxHeartbeats 4000000 in
set_option maxRecDepth 100000 in
theorem ll_X6_firstMissing_33 (l : Launch) (f : Nat) (h : am_H) (a0 : Nat) (a1 : Int32) (a2 : Int32) (a3 : Int32) (K : Option Value → am_H → Prop) : ∀ (n : Nat) (a4 : Int32) (w : ((Unit) ⊕ (Int32))), lo_X6_firstMissing_33 f h a0 a1 a2 a3 n a4 = some w →
    (∀ (z : Unit), w = .inl z → am_R l yX6_firstMissing cX6_firstMissing 6 (some .int) rm_X6_firstMissing (fun _ _ _ => True) 0 0 85 [(0, .ref a0), (1, .int a1), (2, .int a2)] [] h K) → (∀ (z : Int32), w = .inr z → K (some (.int z)) h) →
    am_R l yX6_firstMissing cX6_firstMissing 6 (some .int) rm_X6_firstMissing (fun _ _ _ => True) 0 0 33 [(0, .ref a0), (1, .int a1), (2, .int a2), (3, .int a3), (4, .int a4)] [] h K := by
  intro n
  induction n with
  | zero =>
    intro a4 w hm kE kR
    cases hm
  | succ n ih =>
    intro a4 w hm kE kR
    rw [lo_X6_firstMissing_33.eq_2] at hm
    refine r_iload 4 dX6_firstMissing_33 rfl ?_
    refine r_bipush 16 dX6_firstMissing_35 (by decide) ?_
    refine r_icmp_ge 85 dX6_firstMissing_37 (by decide) (fun q => ?_) (fun q => ?_)
    · rw [if_pos q] at hm
      cases hm
      exact r_lv [0, 1, 2] _ rfl (kE _ rfl)
    · rw [if_neg q] at hm
      refine r_aload_n 0 dX6_firstMissing_40 rfl ?_
      refine r_iload_n 1 dX6_firstMissing_41 rfl ?_
      refine r_iload_n 2 dX6_firstMissing_42 rfl ?_
      refine r_iload 4 dX6_firstMissing_43 rfl ?_
      refine r_iload_n 3 dX6_firstMissing_45 rfl ?_
      obtain ⟨xq1, exq1, hm⟩ := am_bs hm
      refine r_cV1 [.int a1, .int a2, .int a4, .int a3] (ct_X6_missingEnds l exq1) vm_X6_240 (cs_X6_missingEnds exq1) (by decide) ⟨rfl, rfl⟩ rfl (Nat.le_of_ble_eq_true rfl) dX6_firstMissing_46 ?_
      refine r_istore [(5, .int xq1), (0, .ref a0), (1, .int a1), (2, .int a2), (3, .int a3), (4, .int a4)] dX6_firstMissing_49 (by decide) rfl ?_
      refine r_iload 0 dX6_firstMissing_51 rfl ?_
      refine r_if_eq 79 dX6_firstMissing_53 (by decide) (fun q => ?_) (fun q => ?_)
      · rw [if_pos q] at hm
        refine r_inc 1 5 [(4, .int (a4 + 1)), (5, .int xq1), (0, .ref a0), (1, .int a1), (2, .int a2), (3, .int a3)] dX6_firstMissing_79 (by decide) rfl (by decide) rfl ?_
        refine r_goto 33 dX6_firstMissing_82 (by decide) ?_
        exact r_lv [2, 3, 4, 5, 0] _ rfl (ih (a4 + 1) _ hm kE kR)
      · rw [if_neg q] at hm
        refine r_ldc (v := 100000) kw_X6_243 dX6_firstMissing_56 ?_
        refine r_iload_n 2 dX6_firstMissing_58 rfl ?_
        refine r_imul dX6_firstMissing_59 ?_
        refine r_sipush 10000 dX6_firstMissing_60 (by decide) ?_
        refine r_iload_n 3 dX6_firstMissing_63 rfl ?_
        refine r_imul dX6_firstMissing_64 ?_
        refine r_iadd dX6_firstMissing_65 ?_
        refine r_bipush 100 dX6_firstMissing_66 (by decide) ?_
        refine r_iload 5 dX6_firstMissing_68 rfl ?_
        refine r_imul dX6_firstMissing_70 ?_
        refine r_iadd dX6_firstMissing_71 ?_
        refine r_iload 0 dX6_firstMissing_72 rfl ?_
        obtain ⟨xq2, exq2, hm⟩ := am_bs hm
        refine r_cS1 [.int xq1] (ct_X6_lowestBit l exq2) sm_X6_244 (by decide) ⟨rfl, rfl⟩ rfl (Nat.le_of_ble_eq_true rfl) dX6_firstMissing_74 ?_
        refine r_iadd dX6_firstMissing_77 ?_
        cases hm
        exact r_ireturn dX6_firstMissing_78 rfl (by decide) (kR _ rfl)
def lo_X6_firstMissing_12 (f : Nat) (h : am_H) (a0 : Nat) (a1 : Int32) : Nat → Int32 → Option ((Unit) ⊕ (Int32))
  | 0, _ => none
  | n + 1, a2 =>
  (if 8 ≤ a2 then
  (some (.inl ()))
  else (Option.bind (am_gr h 6 a0 1) fun xq1 =>
  Option.bind (mi_X5_timesOf f h xq1 a1 a2 (-9)) fun xq2 =>
  Option.bind (lo_X6_firstMissing_33 f h a0 a1 a2 xq2 f 0) fun wq3 => match wq3 with
  | .inl _ => (lo_X6_firstMissing_12 f h a0 a1 n (a2 + 1))
  | .inr rq4 => (some (.inr rq4))))
set_option maxHeartbeats 4000000 in
set_option maxRecDepth 100000 in
theorem ll_X6_firstMissing_12 (l : Launch) (f : Nat) (h : am_H) (a0 : Nat) (a1 : Int32) (K : Option Value → am_H → Prop) : ∀ (n : Nat) (a2 : Int32) (w : ((Unit) ⊕ (Int32))), lo_X6_firstMissing_12 f h a0 a1 n a2 = some w →
    (∀ (z : Unit), w = .inl z → am_R l yX6_firstMissing cX6_firstMissing 6 (some .int) rm_X6_firstMissing (fun _ _ _ => True) 0 0 91 [(0, .ref a0), (1, .int a1)] [] h K) → (∀ (z : Int32), w = .inr z → K (some (.int z)) h) →
    am_R l yX6_firstMissing cX6_firstMissing 6 (some .int) rm_X6_firstMissing (fun _ _ _ => True) 0 0 12 [(0, .ref a0), (1, .int a1), (2, .int a2)] [] h K := by
  intro n
  induction n with
  | zero =>
    intro a2 w hm kE kR
    cases hm
  | succ n ih =>
    intro a2 w hm kE kR
    rw [lo_X6_firstMissing_12.eq_2] at hm
    refine r_iload_n 2 dX6_firstMissing_12 rfl ?_
    refine r_bipush 8 dX6_firstMissing_13 (by decide) ?_
    refine r_icmp_ge 91 dX6_firstMissing_15 (by decide) (fun q => ?_) (fun q => ?_)
    · rw [if_pos q] at hm
      cases hm
      exact r_lv [0, 1] _ rfl (kE _ rfl)
    · rw [if_neg q] at hm
      refine r_aload_n 0 dX6_firstMissing_18 rfl ?_
      obtain ⟨xq1, exq1, hm⟩ := am_bs hm
      refine r_getr exq1 fl_X6_19 rfl dX6_firstMissing_19 ?_
      refine r_iload_n 1 dX6_firstMissing_22 rfl ?_
      refine r_iload_n 2 dX6_firstMissing_23 rfl ?_
      refine r_bipush (-9) dX6_firstMissing_24 (by decide) ?_
      obtain ⟨xq2, exq2, hm⟩ := am_bs hm
      refine r_cV1 [.int a1, .int a2, .int (-9)] (ct_X5_timesOf l exq2) vm_X6_236 (cs_X5_timesOf exq2) (by decide) ⟨rfl, rfl⟩ rfl (Nat.le_of_ble_eq_true rfl) dX6_firstMissing_26 ?_
      refine r_istore_n [(3, .int xq2), (0, .ref a0), (1, .int a1), (2, .int a2)] dX6_firstMissing_29 (by decide) rfl ?_
      refine r_iconst 0 dX6_firstMissing_30 (by decide) ?_
      refine r_istore [(4, .int 0), (3, .int xq2), (0, .ref a0), (1, .int a1), (2, .int a2)] dX6_firstMissing_31 (by decide) rfl ?_
      obtain ⟨wq3, ew, hm⟩ := am_bs hm
      refine r_lv [2, 3, 4, 1, 0] _ rfl (ll_X6_firstMissing_33 l f h a0 a1 a2 xq2 _ f 0 _ ew (fun z q => ?_) (fun z q => ?_))
      · subst q
        dsimp only at hm
        refine r_inc 1 2 [(2, .int (a2 + 1)), (0, .ref a0), (1, .int a1)] dX6_firstMissing_85 (by decide) rfl (by decide) rfl ?_
        refine r_goto 12 dX6_firstMissing_88 (by decide) ?_
        exact r_lv [1, 2, 0] _ rfl (ih (a2 + 1) _ hm kE kR)
      · obtain ⟨rq4, rfl⟩ : ∃ x, x = z := ⟨_, rfl⟩
        subst q
        dsimp only at hm
        cases hm
        exact kR _ rfl
def lo_X6_firstMissing_2 (f : Nat) (h : am_H) (a0 : Nat) : Nat → Int32 → Option ((Unit) ⊕ (Int32))
  | 0, _ => none
  | n + 1, a1 =>
  (if 8 ≤ a1 then
  (some (.inl ()))
  else (Option.bind (lo_X6_firstMissing_12 f h a0 a1 f (a1 + 1)) fun wq1 => match wq1 with
  | .inl _ => (lo_X6_firstMissing_2 f h a0 n (a1 + 1))
  | .inr rq2 => (some (.inr rq2))))
set_option maxHeartbeats 4000000 in
set_option maxRecDepth 100000 in
theorem ll_X6_firstMissing_2 (l : Launch) (f : Nat) (h : am_H) (a0 : Nat) (K : Option Value → am_H → Prop) : ∀ (n : Nat) (a1 : Int32) (w : ((Unit) ⊕ (Int32))), lo_X6_firstMissing_2 f h a0 n a1 = some w →
    (∀ (z : Unit), w = .inl z → am_R l yX6_firstMissing cX6_firstMissing 6 (some .int) rm_X6_firstMissing (fun _ _ _ => True) 0 0 97 [] [] h K) → (∀ (z : Int32), w = .inr z → K (some (.int z)) h) →
    am_R l yX6_firstMissing cX6_firstMissing 6 (some .int) rm_X6_firstMissing (fun _ _ _ => True) 0 0 2 [(0, .ref a0), (1, .int a1)] [] h K := by
  intro n
  induction n with
  | zero =>
    intro a1 w hm kE kR
    cases hm
  | succ n ih =>
    intro a1 w hm kE kR
    rw [lo_X6_firstMissing_2.eq_2] at hm
    refine r_iload_n 1 dX6_firstMissing_2 rfl ?_
    refine r_bipush 8 dX6_firstMissing_3 (by decide) ?_
    refine r_icmp_ge 97 dX6_firstMissing_5 (by decide) (fun q => ?_) (fun q => ?_)
    · rw [if_pos q] at hm
      cases hm
      exact r_lv [] _ rfl (kE _ rfl)
    · rw [if_neg q] at hm
      refine r_iload_n 1 dX6_firstMissing_8 rfl ?_
      refine r_iconst 1 dX6_firstMissing_9 (by decide) ?_
      refine r_iadd dX6_firstMissing_10 ?_
      refine r_istore_n [(2, .int (a1 + 1)), (0, .ref a0), (1, .int a1)] dX6_firstMissing_11 (by decide) rfl ?_
      obtain ⟨wq1, ew, hm⟩ := am_bs hm
      refine r_lv [1, 2, 0] _ rfl (ll_X6_firstMissing_12 l f h a0 a1 _ f (a1 + 1) _ ew (fun z q => ?_) (fun z q => ?_))
      · subst q
        dsimp only at hm
        refine r_inc 1 1 [(1, .int (a1 + 1)), (0, .ref a0)] dX6_firstMissing_91 (by decide) rfl (by decide) rfl ?_
        refine r_goto 2 dX6_firstMissing_94 (by decide) ?_
        exact r_lv [1, 0] _ rfl (ih (a1 + 1) _ hm kE kR)
      · obtain ⟨rq2, rfl⟩ : ∃ x, x = z := ⟨_, rfl⟩
        subst q
        dsimp only at hm
        cases hm
        exact kR _ rfl
def mi_X6_firstMissing (f : Nat) (h : am_H) (p : Nat) : Option Int32 :=
  Option.bind (am_cls h 6 p) fun _n =>
  Option.bind (lo_X6_firstMissing_2 f h p f 0) fun wq1 => match wq1 with
  | .inl _ => (some (-9))
  | .inr rq2 => (some rq2)
theorem cs_X6_firstMissing {f : Nat} {h : am_H} {p : Nat} {z : Int32} (hm : mi_X6_firstMissing f h p = some z) : ∃ n, h.1[p]? = some (6, n) := by
  unfold mi_X6_firstMissing at hm
  obtain ⟨n, hn, -⟩ := am_bs hm
  exact ⟨n, am_cls_of hn⟩
set_option maxHeartbeats 4000000 in
set_option maxRecDepth 100000 in
theorem ct_X6_firstMissing (l : Launch) {f : Nat} {h : am_H} {p : Nat} {r : Int32} (hm : mi_X6_firstMissing f h p = some r) : am_Ct l yX6_firstMissing cX6_firstMissing 6 (some .int) rm_X6_firstMissing [.ref p] h (some (.int r)) h := by
  refine am_met2 [(0, .ref p)] (by decide) (Nat.le_of_ble_eq_true rfl) rfl ?_
  generalize hK : (fun (v : Option Value) (h3 : am_H) => v = (some (.int r)) ∧ h3 = h) = K
  have HK : K (some (.int r)) h := by rw [← hK]; exact ⟨rfl, rfl⟩
  clear hK
  unfold mi_X6_firstMissing at hm
  obtain ⟨_n, _hn, hm⟩ := am_bs hm
  refine r_iconst 0 dX6_firstMissing_0 (by decide) ?_
  refine r_istore_n [(1, .int 0), (0, .ref p)] dX6_firstMissing_1 (by decide) rfl ?_
  obtain ⟨wq1, ew, hm⟩ := am_bs hm
  refine r_lv [1, 0] _ rfl (ll_X6_firstMissing_2 l f h p _ f 0 _ ew (fun z q => ?_) (fun z q => ?_))
  · subst q
    dsimp only at hm
    refine r_bipush (-9) dX6_firstMissing_97 (by decide) ?_
    cases hm
    exact r_ireturn dX6_firstMissing_99 rfl (by decide) HK
  · obtain ⟨rq2, rfl⟩ : ∃ x, x = z := ⟨_, rfl⟩
    subst q
    dsimp only at hm
    cases hm
    exact HK
def mi_X6_missing (f : Nat) (h : am_H) (p : Nat) (a : Int32) : Option (Int32 × am_H) :=
  Option.bind (am_cls h 6 p) fun _n =>
  (if a < 0 then
  (some ((-2), h))
  else ((if a ≤ 1 then
  (Option.bind (am_gr h 6 p 1) fun xq1 =>
  Option.bind (am_gi h 5 xq1 4) fun xq2 =>
  (if xq2 < 16 then
  (Option.bind (am_gr h 6 p 6) fun xq3 =>
  Option.bind (am_gr h 6 p 1) fun xq4 =>
  Option.bind (am_gr h 6 p 5) fun xq5 =>
  Option.bind (mi_X4_lookAt f h xq3 xq4 xq5) fun hq7 =>
  Option.bind ((if a = 0 then
  (Option.bind (mi_X6_howManyMissing f hq7 p) fun xq9 =>
  some xq9)
  else (Option.bind (mi_X6_firstMissing f hq7 p) fun xq10 =>
  some xq10))) fun jq8 =>
  some (jq8, hq7))
  else (some ((-4), h))))
  else (some ((-2), h)))))
theorem cs_X6_missing {f : Nat} {h : am_H} {p : Nat} {a : Int32} {z : (Int32 × am_H)} (hm : mi_X6_missing f h p a = some z) : ∃ n, h.1[p]? = some (6, n) := by
  unfold mi_X6_missing at hm
  obtain ⟨n, hn, -⟩ := am_bs hm
  exact ⟨n, am_cls_of hn⟩
set_option maxHeartbeats 4000000 in
set_option maxRecDepth 100000 in
theorem ct_X6_missing (l : Launch) {f : Nat} {h : am_H} {p : Nat} {a : Int32} {r : Int32} {h2 : am_H} (hm : mi_X6_missing f h p a = some (r, h2)) : am_Ct l yX6_missing cX6_missing 2 (some .int) rm_X6_missing [.ref p, .int a] h (some (.int r)) h2 := by
  refine am_met2 [(0, .ref p), (1, .int a)] (by decide) (Nat.le_of_ble_eq_true rfl) rfl ?_
  generalize hK : (fun (v : Option Value) (h3 : am_H) => v = (some (.int r)) ∧ h3 = h2) = K
  have HK : K (some (.int r)) h2 := by rw [← hK]; exact ⟨rfl, rfl⟩
  clear hK
  unfold mi_X6_missing at hm
  obtain ⟨_n, _hn, hm⟩ := am_bs hm
  refine r_iload_n 1 dX6_missing_0 rfl ?_
  refine r_if_lt 9 dX6_missing_1 (by decide) (fun q => ?_) (fun q => ?_)
  · rw [if_pos q] at hm
    refine r_bipush (-2) dX6_missing_9 (by decide) ?_
    cases hm
    exact r_ireturn dX6_missing_11 rfl (by decide) HK
  · rw [if_neg q] at hm
    refine r_iload_n 1 dX6_missing_4 rfl ?_
    refine r_iconst 1 dX6_missing_5 (by decide) ?_
    refine r_icmp_le 12 dX6_missing_6 (by decide) (fun q => ?_) (fun q => ?_)
    · rw [if_pos q] at hm
      refine r_aload_n 0 dX6_missing_12 rfl ?_
      obtain ⟨xq1, exq1, hm⟩ := am_bs hm
      refine r_getr exq1 fl_X6_19 rfl dX6_missing_13 ?_
      obtain ⟨xq2, exq2, hm⟩ := am_bs hm
      refine r_geti exq2 fl_X6_81 rfl dX6_missing_16 ?_
      refine r_bipush 16 dX6_missing_19 (by decide) ?_
      refine r_icmp_lt 27 dX6_missing_21 (by decide) (fun q => ?_) (fun q => ?_)
      · rw [if_pos q] at hm
        refine r_aload_n 0 dX6_missing_27 rfl ?_
        obtain ⟨xq3, exq3, hm⟩ := am_bs hm
        refine r_getr exq3 fl_X6_50 rfl dX6_missing_28 ?_
        refine r_aload_n 0 dX6_missing_31 rfl ?_
        obtain ⟨xq4, exq4, hm⟩ := am_bs hm
        refine r_getr exq4 fl_X6_19 rfl dX6_missing_32 ?_
        refine r_aload_n 0 dX6_missing_35 rfl ?_
        obtain ⟨xq5, exq5, hm⟩ := am_bs hm
        refine r_getr exq5 fl_X6_43 rfl dX6_missing_36 ?_
        obtain ⟨hq7, exq6, hm⟩ := am_bs hm
        refine r_cV0 [.ref xq4, .ref xq5] (ct_X4_lookAt l exq6) vm_X6_226 (cs_X4_lookAt exq6) (by decide) ⟨rfl, rfl⟩ rfl (Nat.le_of_ble_eq_true rfl) dX6_missing_39 ?_
        refine r_iload_n 1 dX6_missing_42 rfl ?_
        obtain ⟨jq8, hw, hm⟩ := am_bs hm
        try dsimp only at hm
        have HJ : am_R l yX6_missing cX6_missing 2 (some .int) rm_X6_missing (fun _ _ _ => True) 0 0 57 [] [.int jq8] hq7 K := by
          cases hm
          exact r_ireturn dX6_missing_57 rfl (by decide) HK
        clear hm
        have hm := hw
        clear hw
        refine r_if_ne 53 dX6_missing_43 (by decide) (fun q => ?_) (fun q => ?_)
        · rw [if_neg q] at hm
          refine r_aload_n 0 dX6_missing_53 rfl ?_
          obtain ⟨xq10, exq10, hm⟩ := am_bs hm
          refine r_cV1 [] (ct_X6_firstMissing l exq10) vm_X6_233 (cs_X6_firstMissing exq10) (by decide) ⟨rfl, rfl⟩ rfl (Nat.le_of_ble_eq_true rfl) dX6_missing_54 ?_
          cases hm
          exact r_lv [] _ rfl HJ
        · rw [if_pos q] at hm
          refine r_aload_n 0 dX6_missing_46 rfl ?_
          obtain ⟨xq9, exq9, hm⟩ := am_bs hm
          refine r_cV1 [] (ct_X6_howManyMissing l exq9) vm_X6_230 (cs_X6_howManyMissing exq9) (by decide) ⟨rfl, rfl⟩ rfl (Nat.le_of_ble_eq_true rfl) dX6_missing_47 ?_
          refine r_goto 57 dX6_missing_50 (by decide) ?_
          cases hm
          exact r_lv [] _ rfl HJ
      · rw [if_neg q] at hm
        refine r_bipush (-4) dX6_missing_24 (by decide) ?_
        cases hm
        exact r_ireturn dX6_missing_26 rfl (by decide) HK
    · rw [if_neg q] at hm
      refine r_bipush (-2) dX6_missing_9 (by decide) ?_
      cases hm
      exact r_ireturn dX6_missing_11 rfl (by decide) HK
def mi_X6_node (f : Nat) (h : am_H) (p : Nat) (a : Int32) : Option Int32 :=
  Option.bind (am_cls h 6 p) fun _n =>
  (if a < 1 then
  (some (-1))
  else ((if a ≤ 31 then
  (Option.bind (am_gr h 6 p 1) fun xq1 =>
  Option.bind (mi_X5_lyingOn f h xq1 a) fun xq2 =>
  some xq2)
  else (some (-1)))))
theorem cs_X6_node {f : Nat} {h : am_H} {p : Nat} {a : Int32} {z : Int32} (hm : mi_X6_node f h p a = some z) : ∃ n, h.1[p]? = some (6, n) := by
  unfold mi_X6_node at hm
  obtain ⟨n, hn, -⟩ := am_bs hm
  exact ⟨n, am_cls_of hn⟩
set_option maxHeartbeats 4000000 in
set_option maxRecDepth 100000 in
theorem ct_X6_node (l : Launch) {f : Nat} {h : am_H} {p : Nat} {a : Int32} {r : Int32} (hm : mi_X6_node f h p a = some r) : am_Ct l yX6_node cX6_node 2 (some .int) rm_X6_node [.ref p, .int a] h (some (.int r)) h := by
  refine am_met2 [(0, .ref p), (1, .int a)] (by decide) (Nat.le_of_ble_eq_true rfl) rfl ?_
  generalize hK : (fun (v : Option Value) (h3 : am_H) => v = (some (.int r)) ∧ h3 = h) = K
  have HK : K (some (.int r)) h := by rw [← hK]; exact ⟨rfl, rfl⟩
  clear hK
  unfold mi_X6_node at hm
  obtain ⟨_n, _hn, hm⟩ := am_bs hm
  refine r_iload_n 1 dX6_node_0 rfl ?_
  refine r_iconst 1 dX6_node_1 (by decide) ?_
  refine r_icmp_lt 11 dX6_node_2 (by decide) (fun q => ?_) (fun q => ?_)
  · rw [if_pos q] at hm
    refine r_iconst (-1) dX6_node_11 (by decide) ?_
    cases hm
    exact r_ireturn dX6_node_12 rfl (by decide) HK
  · rw [if_neg q] at hm
    refine r_iload_n 1 dX6_node_5 rfl ?_
    refine r_bipush 31 dX6_node_6 (by decide) ?_
    refine r_icmp_le 13 dX6_node_8 (by decide) (fun q => ?_) (fun q => ?_)
    · rw [if_pos q] at hm
      refine r_aload_n 0 dX6_node_13 rfl ?_
      obtain ⟨xq1, exq1, hm⟩ := am_bs hm
      refine r_getr exq1 fl_X6_19 rfl dX6_node_14 ?_
      refine r_iload_n 1 dX6_node_17 rfl ?_
      obtain ⟨xq2, exq2, hm⟩ := am_bs hm
      refine r_cV1 [.int a] (ct_X5_lyingOn l exq2) vm_X6_102 (cs_X5_lyingOn exq2) (by decide) ⟨rfl, rfl⟩ rfl (Nat.le_of_ble_eq_true rfl) dX6_node_18 ?_
      cases hm
      exact r_ireturn dX6_node_21 rfl (by decide) HK
    · rw [if_neg q] at hm
      refine r_iconst (-1) dX6_node_11 (by decide) ?_
      cases hm
      exact r_ireturn dX6_node_12 rfl (by decide) HK
def mi_X6_put (f : Nat) (h : am_H) (p : Nat) (a : Int32) (b : Int32) (c : Int32) (d : Int32) : Option (Int32 × am_H) :=
  Option.bind (am_cls h 6 p) fun _n =>
  Option.bind (am_gr h 6 p 2) fun xq1 =>
  Option.bind (am_gr h 6 p 1) fun xq2 =>
  Option.bind (mi_X5_copyOf f h xq1 xq2) fun hq4 =>
  Option.bind (am_gr hq4 6 p 1) fun xq5 =>
  Option.bind (mi_X5_add f hq4 xq5 a b c d) fun (xq6, hq7) =>
  Option.bind (mi_X6_rememberIfDone f hq7 p xq6) fun (xq9, hq10) =>
  some (xq9, hq10)
theorem cs_X6_put {f : Nat} {h : am_H} {p : Nat} {a : Int32} {b : Int32} {c : Int32} {d : Int32} {z : (Int32 × am_H)} (hm : mi_X6_put f h p a b c d = some z) : ∃ n, h.1[p]? = some (6, n) := by
  unfold mi_X6_put at hm
  obtain ⟨n, hn, -⟩ := am_bs hm
  exact ⟨n, am_cls_of hn⟩
set_option maxHeartbeats 4000000 in
set_option maxRecDepth 100000 in
theorem ct_X6_put (l : Launch) {f : Nat} {h : am_H} {p : Nat} {a : Int32} {b : Int32} {c : Int32} {d : Int32} {r : Int32} {h2 : am_H} (hm : mi_X6_put f h p a b c d = some (r, h2)) : am_Ct l yX6_put cX6_put 5 (some .int) rm_X6_put [.ref p, .int a, .int b, .int c, .int d] h (some (.int r)) h2 := by
  refine am_met2 [(0, .ref p), (1, .int a), (2, .int b), (3, .int c), (4, .int d)] (by decide) (Nat.le_of_ble_eq_true rfl) rfl ?_
  generalize hK : (fun (v : Option Value) (h3 : am_H) => v = (some (.int r)) ∧ h3 = h2) = K
  have HK : K (some (.int r)) h2 := by rw [← hK]; exact ⟨rfl, rfl⟩
  clear hK
  unfold mi_X6_put at hm
  obtain ⟨_n, _hn, hm⟩ := am_bs hm
  refine r_aload_n 0 dX6_put_0 rfl ?_
  obtain ⟨xq1, exq1, hm⟩ := am_bs hm
  refine r_getr exq1 fl_X6_23 rfl dX6_put_1 ?_
  refine r_aload_n 0 dX6_put_4 rfl ?_
  obtain ⟨xq2, exq2, hm⟩ := am_bs hm
  refine r_getr exq2 fl_X6_19 rfl dX6_put_5 ?_
  obtain ⟨hq4, exq3, hm⟩ := am_bs hm
  refine r_cV0 [.ref xq2] (ct_X5_copyOf l exq3) vm_X6_105 (cs_X5_copyOf exq3) (by decide) ⟨rfl, rfl⟩ rfl (Nat.le_of_ble_eq_true rfl) dX6_put_8 ?_
  refine r_aload_n 0 dX6_put_11 rfl ?_
  refine r_aload_n 0 dX6_put_12 rfl ?_
  obtain ⟨xq5, exq5, hm⟩ := am_bs hm
  refine r_getr exq5 fl_X6_19 rfl dX6_put_13 ?_
  refine r_iload_n 1 dX6_put_16 rfl ?_
  refine r_iload_n 2 dX6_put_17 rfl ?_
  refine r_iload_n 3 dX6_put_18 rfl ?_
  refine r_iload 4 dX6_put_19 rfl ?_
  obtain ⟨⟨xq6, hq7⟩, exq6, hm⟩ := am_bs hm
  try dsimp only at hm
  refine r_cV1 [.int a, .int b, .int c, .int d] (ct_X5_add l exq6) vm_X6_108 (cs_X5_add exq6) (by decide) ⟨rfl, rfl⟩ rfl (Nat.le_of_ble_eq_true rfl) dX6_put_21 ?_
  obtain ⟨⟨xq9, hq10⟩, exq9, hm⟩ := am_bs hm
  try dsimp only at hm
  refine r_cV1 [.int xq6] (ct_X6_rememberIfDone l exq9) vm_X6_112 (cs_X6_rememberIfDone exq9) (by decide) ⟨rfl, rfl⟩ rfl (Nat.le_of_ble_eq_true rfl) dX6_put_24 ?_
  cases hm
  exact r_ireturn dX6_put_27 rfl (by decide) HK
def mi_X6_see (f : Nat) (h : am_H) (p : Nat) (a : Int32) (b : Int32) (c : Int32) (d : Int32) : Option (Int32 × am_H) :=
  Option.bind (am_cls h 6 p) fun _n =>
  Option.bind (mi_X6_isTime f h a) fun xq1 =>
  (if xq1 = true then
  (Option.bind (mi_X6_isKnot f h b) fun xq2 =>
  (if xq2 = true then
  (Option.bind (mi_X6_isKnot f h c) fun xq3 =>
  (if xq3 = true then
  ((if b = c then
  (some ((-2), h))
  else ((if d < 0 then
  (some ((-2), h))
  else ((if d ≤ 1 then
  (Option.bind (am_gr h 6 p 6) fun xq4 =>
  Option.bind ((if d = 1 then
  (some true)
  else (some false))) fun jq5 =>
  Option.bind (mi_X4_add f h xq4 a b c jq5) fun (xq6, hq7) =>
  some (xq6, hq7))
  else (some ((-2), h))))))))
  else (some ((-1), h))))
  else (some ((-1), h))))
  else (some ((-1), h)))
theorem cs_X6_see {f : Nat} {h : am_H} {p : Nat} {a : Int32} {b : Int32} {c : Int32} {d : Int32} {z : (Int32 × am_H)} (hm : mi_X6_see f h p a b c d = some z) : ∃ n, h.1[p]? = some (6, n) := by
  unfold mi_X6_see at hm
  obtain ⟨n, hn, -⟩ := am_bs hm
  exact ⟨n, am_cls_of hn⟩
set_option maxHeartbeats 4000000 in
set_option maxRecDepth 100000 in
theorem ct_X6_see (l : Launch) {f : Nat} {h : am_H} {p : Nat} {a : Int32} {b : Int32} {c : Int32} {d : Int32} {r : Int32} {h2 : am_H} (hm : mi_X6_see f h p a b c d = some (r, h2)) : am_Ct l yX6_see cX6_see 5 (some .int) rm_X6_see [.ref p, .int a, .int b, .int c, .int d] h (some (.int r)) h2 := by
  refine am_met2 [(0, .ref p), (1, .int a), (2, .int b), (3, .int c), (4, .int d)] (by decide) (Nat.le_of_ble_eq_true rfl) rfl ?_
  generalize hK : (fun (v : Option Value) (h3 : am_H) => v = (some (.int r)) ∧ h3 = h2) = K
  have HK : K (some (.int r)) h2 := by rw [← hK]; exact ⟨rfl, rfl⟩
  clear hK
  unfold mi_X6_see at hm
  obtain ⟨_n, _hn, hm⟩ := am_bs hm
  refine r_iload_n 1 dX6_see_0 rfl ?_
  obtain ⟨xq1, exq1, hm⟩ := am_bs hm
  refine r_cS1 [.int a] (ct_X6_isTime l exq1) sm_X6_128 (by decide) ⟨rfl, rfl⟩ rfl (Nat.le_of_ble_eq_true rfl) dX6_see_1 ?_
  refine r_if_eq 21 dX6_see_4 (by decide) (fun q => ?_) (fun q => ?_)
  · rw [if_neg (show ¬ xq1 = true from by rw [am_b0 q]; decide)] at hm
    refine r_iconst (-1) dX6_see_21 (by decide) ?_
    cases hm
    exact r_ireturn dX6_see_22 rfl (by decide) HK
  · rw [if_pos (show xq1 = true from am_b1 q)] at hm
    refine r_iload_n 2 dX6_see_7 rfl ?_
    obtain ⟨xq2, exq2, hm⟩ := am_bs hm
    refine r_cS1 [.int b] (ct_X6_isKnot l exq2) sm_X6_150 (by decide) ⟨rfl, rfl⟩ rfl (Nat.le_of_ble_eq_true rfl) dX6_see_8 ?_
    refine r_if_eq 21 dX6_see_11 (by decide) (fun q => ?_) (fun q => ?_)
    · rw [if_neg (show ¬ xq2 = true from by rw [am_b0 q]; decide)] at hm
      refine r_iconst (-1) dX6_see_21 (by decide) ?_
      cases hm
      exact r_ireturn dX6_see_22 rfl (by decide) HK
    · rw [if_pos (show xq2 = true from am_b1 q)] at hm
      refine r_iload_n 3 dX6_see_14 rfl ?_
      obtain ⟨xq3, exq3, hm⟩ := am_bs hm
      refine r_cS1 [.int c] (ct_X6_isKnot l exq3) sm_X6_150 (by decide) ⟨rfl, rfl⟩ rfl (Nat.le_of_ble_eq_true rfl) dX6_see_15 ?_
      refine r_if_ne 23 dX6_see_18 (by decide) (fun q => ?_) (fun q => ?_)
      · rw [if_pos (show xq3 = true from am_b1 q)] at hm
        refine r_iload_n 2 dX6_see_23 rfl ?_
        refine r_iload_n 3 dX6_see_24 rfl ?_
        refine r_icmp_eq 39 dX6_see_25 (by decide) (fun q => ?_) (fun q => ?_)
        · rw [if_pos q] at hm
          refine r_bipush (-2) dX6_see_39 (by decide) ?_
          cases hm
          exact r_ireturn dX6_see_41 rfl (by decide) HK
        · rw [if_neg q] at hm
          refine r_iload 4 dX6_see_28 rfl ?_
          refine r_if_lt 39 dX6_see_30 (by decide) (fun q => ?_) (fun q => ?_)
          · rw [if_pos q] at hm
            refine r_bipush (-2) dX6_see_39 (by decide) ?_
            cases hm
            exact r_ireturn dX6_see_41 rfl (by decide) HK
          · rw [if_neg q] at hm
            refine r_iload 4 dX6_see_33 rfl ?_
            refine r_iconst 1 dX6_see_35 (by decide) ?_
            refine r_icmp_le 42 dX6_see_36 (by decide) (fun q => ?_) (fun q => ?_)
            · rw [if_pos q] at hm
              refine r_aload_n 0 dX6_see_42 rfl ?_
              obtain ⟨xq4, exq4, hm⟩ := am_bs hm
              refine r_getr exq4 fl_X6_50 rfl dX6_see_43 ?_
              refine r_iload_n 1 dX6_see_46 rfl ?_
              refine r_iload_n 2 dX6_see_47 rfl ?_
              refine r_iload_n 3 dX6_see_48 rfl ?_
              refine r_iload 4 dX6_see_49 rfl ?_
              refine r_iconst 1 dX6_see_51 (by decide) ?_
              obtain ⟨jq5, hw, hm⟩ := am_bs hm
              try dsimp only at hm
              have HJ : am_R l yX6_see cX6_see 5 (some .int) rm_X6_see (fun _ _ _ => True) 0 0 60 [] [.int (am_b jq5), .int c, .int b, .int a, .ref xq4] h K := by
                obtain ⟨⟨xq6, hq7⟩, exq6, hm⟩ := am_bs hm
                try dsimp only at hm
                refine r_cV1 [.int a, .int b, .int c, .int (am_b jq5)] (ct_X4_add l exq6) vm_X6_222 (cs_X4_add exq6) (by decide) ⟨rfl, rfl⟩ rfl (Nat.le_of_ble_eq_true rfl) dX6_see_60 ?_
                cases hm
                exact r_ireturn dX6_see_63 rfl (by decide) HK
              clear hm
              have hm := hw
              clear hw
              refine r_icmp_ne 59 dX6_see_52 (by decide) (fun q => ?_) (fun q => ?_)
              · rw [if_neg q] at hm
                refine r_iconst 0 dX6_see_59 (by decide) ?_
                cases hm
                exact r_lv [] _ rfl HJ
              · rw [if_pos q] at hm
                refine r_iconst 1 dX6_see_55 (by decide) ?_
                refine r_goto 60 dX6_see_56 (by decide) ?_
                cases hm
                exact r_lv [] _ rfl HJ
            · rw [if_neg q] at hm
              refine r_bipush (-2) dX6_see_39 (by decide) ?_
              cases hm
              exact r_ireturn dX6_see_41 rfl (by decide) HK
      · rw [if_neg (show ¬ xq3 = true from by rw [am_b0 q]; decide)] at hm
        refine r_iconst (-1) dX6_see_21 (by decide) ?_
        cases hm
        exact r_ireturn dX6_see_22 rfl (by decide) HK
def mi_X6_seed (f : Nat) (h : am_H) (p : Nat) (a : Int64) : Option (Int64 × am_H) :=
  Option.bind (am_cls h 6 p) fun _n =>
  Option.bind (am_gl h 6 p 9) fun xq1 =>
  Option.bind (am_pl h 6 p 9 a) fun hq2 =>
  some (xq1, hq2)
theorem cs_X6_seed {f : Nat} {h : am_H} {p : Nat} {a : Int64} {z : (Int64 × am_H)} (hm : mi_X6_seed f h p a = some z) : ∃ n, h.1[p]? = some (6, n) := by
  unfold mi_X6_seed at hm
  obtain ⟨n, hn, -⟩ := am_bs hm
  exact ⟨n, am_cls_of hn⟩
set_option maxHeartbeats 4000000 in
set_option maxRecDepth 100000 in
theorem ct_X6_seed (l : Launch) {f : Nat} {h : am_H} {p : Nat} {a : Int64} {r : Int64} {h2 : am_H} (hm : mi_X6_seed f h p a = some (r, h2)) : am_Ct l yX6_seed cX6_seed 5 (some .long) rm_X6_seed [.ref p, .long a] h (some (.long r)) h2 := by
  refine am_met2 [(0, .ref p), (1, .long a)] (by decide) (Nat.le_of_ble_eq_true rfl) rfl ?_
  generalize hK : (fun (v : Option Value) (h3 : am_H) => v = (some (.long r)) ∧ h3 = h2) = K
  have HK : K (some (.long r)) h2 := by rw [← hK]; exact ⟨rfl, rfl⟩
  clear hK
  unfold mi_X6_seed at hm
  obtain ⟨_n, _hn, hm⟩ := am_bs hm
  refine r_aload_n 0 dX6_seed_0 rfl ?_
  obtain ⟨xq1, exq1, hm⟩ := am_bs hm
  refine r_getl exq1 fl_X6_273 rfl dX6_seed_1 ?_
  refine r_lstore_n [(3, .long xq1), (0, .ref p), (1, .long a)] dX6_seed_4 (by decide) rfl ?_
  refine r_aload_n 1 dX6_seed_5 rfl ?_
  refine r_lload_n 2 dX6_seed_6 rfl ?_
  obtain ⟨hq2, ehq2, hm⟩ := am_bs hm
  refine r_putl ehq2 fl_X6_273 rfl rfl dX6_seed_7 ?_
  refine r_lload_n 0 dX6_seed_10 rfl ?_
  cases hm
  exact r_lreturn dX6_seed_11 rfl (by decide) HK
def lo_X6_factorial_4 (f : Nat) (h : am_H) (a0 : Int32) : Nat → Int64 → Int32 → Option (Int64)
  | 0, _, _ => none
  | n + 1, a1, a3 =>
  (if a0 < a3 then
  (some a1)
  else (lo_X6_factorial_4 f h a0 n (a1 * ((a3 : Int32).toInt64)) (a3 + 1)))
set_option maxHeartbeats 4000000 in
set_option maxRecDepth 100000 in
theorem ll_X6_factorial_4 (l : Launch) (f : Nat) (h : am_H) (a0 : Int32) (K : Option Value → am_H → Prop) : ∀ (n : Nat) (a1 : Int64) (a3 : Int32) (z : Int64), lo_X6_factorial_4 f h a0 n a1 a3 = some z →
    am_R l yX6_factorial cX6_factorial 4 (some .long) rm_X6_factorial (fun _ _ _ => True) 0 0 20 [(1, .long z)] [] h K →
    am_R l yX6_factorial cX6_factorial 4 (some .long) rm_X6_factorial (fun _ _ _ => True) 0 0 4 [(0, .int a0), (1, .long a1), (3, .int a3)] [] h K := by
  intro n
  induction n with
  | zero =>
    intro a1 a3 z hm kE
    cases hm
  | succ n ih =>
    intro a1 a3 z hm kE
    rw [lo_X6_factorial_4.eq_2] at hm
    refine r_iload_n 2 dX6_factorial_4 rfl ?_
    refine r_iload_n 0 dX6_factorial_5 rfl ?_
    refine r_icmp_gt 20 dX6_factorial_6 (by decide) (fun q => ?_) (fun q => ?_)
    · rw [if_pos q] at hm
      cases hm
      exact r_lv [1] _ rfl kE
    · rw [if_neg q] at hm
      refine r_lload_n 1 dX6_factorial_9 rfl ?_
      refine r_iload_n 2 dX6_factorial_10 rfl ?_
      refine r_i2l dX6_factorial_11 ?_
      refine r_lmul dX6_factorial_12 ?_
      refine r_lstore_n [(1, .long (a1 * ((a3 : Int32).toInt64))), (0, .int a0), (3, .int a3)] dX6_factorial_13 (by decide) rfl ?_
      refine r_inc 1 2 [(3, .int (a3 + 1)), (1, .long (a1 * ((a3 : Int32).toInt64))), (0, .int a0)] dX6_factorial_14 (by decide) rfl (by decide) rfl ?_
      refine r_goto 4 dX6_factorial_17 (by decide) ?_
      exact r_lv [2, 1, 0] _ rfl (ih (a1 * ((a3 : Int32).toInt64)) (a3 + 1) _ hm kE)
def mi_X6_factorial (f : Nat) (h : am_H) (a : Int32) : Option Int64 :=
  Option.bind (lo_X6_factorial_4 f h a f 1 2) fun oq1 =>
  some oq1
set_option maxHeartbeats 4000000 in
set_option maxRecDepth 100000 in
theorem ct_X6_factorial (l : Launch) {f : Nat} {h : am_H} {a : Int32} {r : Int64} (hm : mi_X6_factorial f h a = some r) : am_Ct l yX6_factorial cX6_factorial 4 (some .long) rm_X6_factorial [.int a] h (some (.long r)) h := by
  refine am_met2 [(0, .int a)] (by decide) (Nat.le_of_ble_eq_true rfl) rfl ?_
  generalize hK : (fun (v : Option Value) (h3 : am_H) => v = (some (.long r)) ∧ h3 = h) = K
  have HK : K (some (.long r)) h := by rw [← hK]; exact ⟨rfl, rfl⟩
  clear hK
  unfold mi_X6_factorial at hm
  refine r_lconst 1 dX6_factorial_0 (by decide) ?_
  refine r_lstore_n [(1, .long 1), (0, .int a)] dX6_factorial_1 (by decide) rfl ?_
  refine r_iconst 2 dX6_factorial_2 (by decide) ?_
  refine r_istore_n [(3, .int 2), (1, .long 1), (0, .int a)] dX6_factorial_3 (by decide) rfl ?_
  obtain ⟨oq1, ew, hm⟩ := am_bs hm
  try dsimp only at hm
  refine r_lv [2, 1, 0] _ rfl (ll_X6_factorial_4 l f h a _ f 1 2 _ ew ?_)
  refine r_lload_n 0 dX6_factorial_20 rfl ?_
  cases hm
  exact r_lreturn dX6_factorial_21 rfl (by decide) HK
def lo_X6_ordersInWhichItJoins_20 (f : Nat) (h : am_H) (a0 : Nat) (a2 : Int32) : Nat → Int64 → Int32 → Option (Int64)
  | 0, _, _ => none
  | n + 1, a3, a5 =>
  Option.bind (am_gr h 6 a0 5) fun xq1 =>
  Option.bind (mi_X1_all f h xq1) fun xq2 =>
  (if xq2 < a5 then
  (some a3)
  else (Option.bind ((if ((a5 >>> (a2 &&& 31)) &&& 1) = 0 then
  (some true)
  else (some false))) fun jq3 =>
  Option.bind ((if jq3 = true then
  (Option.bind (am_gr h 6 a0 5) fun xq5 =>
  Option.bind (am_gr h 6 a0 5) fun xq6 =>
  Option.bind (am_gr h 1 xq6 1) fun xq7 =>
  Option.bind (am_li h 9 xq7 a2) fun xq8 =>
  Option.bind (am_gr h 6 a0 5) fun xq9 =>
  Option.bind (am_gr h 1 xq9 2) fun xq10 =>
  Option.bind (am_li h 9 xq10 a2) fun xq11 =>
  Option.bind (mi_X1_areJoined f h xq5 xq8 xq11 a5) fun xq12 =>
  (if xq12 = true then
  (some a3)
  else (Option.bind (mi_J6_bitCount_0f7a4 f h a5) fun xq13 =>
  Option.bind (mi_X6_factorial f h xq13) fun xq14 =>
  Option.bind (am_gr h 6 a0 5) fun xq15 =>
  Option.bind (am_gi h 1 xq15 4) fun xq16 =>
  Option.bind (mi_X6_factorial f h ((xq16 - 1) - xq13)) fun xq17 =>
  some (a3 + (xq14 * xq17)))))
  else (some a3))) fun jq4 =>
  lo_X6_ordersInWhichItJoins_20 f h a0 a2 n jq4 (a5 + 1)))
set_option maxHeartbeats 4000000 in
set_option maxRecDepth 100000 in
theorem ll_X6_ordersInWhichItJoins_20 (l : Launch) (f : Nat) (h : am_H) (a0 : Nat) (a2 : Int32) (K : Option Value → am_H → Prop) : ∀ (n : Nat) (a3 : Int64) (a5 : Int32) (z : Int64), lo_X6_ordersInWhichItJoins_20 f h a0 a2 n a3 a5 = some z →
    am_R l yX6_ordersInWhichItJoins cX6_ordersInWhichItJoins 8 (some .long) rm_X6_ordersInWhichItJoins (fun _ _ _ => True) 0 0 120 [(3, .long z)] [] h K →
    am_R l yX6_ordersInWhichItJoins cX6_ordersInWhichItJoins 8 (some .long) rm_X6_ordersInWhichItJoins (fun _ _ _ => True) 0 0 20 [(0, .ref a0), (2, .int a2), (3, .long a3), (5, .int a5)] [] h K := by
  intro n
  induction n with
  | zero =>
    intro a3 a5 z hm kE
    cases hm
  | succ n ih =>
    intro a3 a5 z hm kE
    rw [lo_X6_ordersInWhichItJoins_20.eq_2] at hm
    refine r_iload 3 dX6_ordersInWhichItJoins_20 rfl ?_
    refine r_aload_n 0 dX6_ordersInWhichItJoins_22 rfl ?_
    obtain ⟨xq1, exq1, hm⟩ := am_bs hm
    refine r_getr exq1 fl_X6_43 rfl dX6_ordersInWhichItJoins_23 ?_
    obtain ⟨xq2, exq2, hm⟩ := am_bs hm
    refine r_cV1 [] (ct_X1_all l exq2) vm_X6_192 (cs_X1_all exq2) (by decide) ⟨rfl, rfl⟩ rfl (Nat.le_of_ble_eq_true rfl) dX6_ordersInWhichItJoins_26 ?_
    refine r_icmp_gt 120 dX6_ordersInWhichItJoins_29 (by decide) (fun q => ?_) (fun q => ?_)
    · rw [if_pos q] at hm
      cases hm
      exact r_lv [2] _ rfl kE
    · rw [if_neg q] at hm
      refine r_iload 3 dX6_ordersInWhichItJoins_32 rfl ?_
      refine r_iload_n 1 dX6_ordersInWhichItJoins_34 rfl ?_
      refine r_ishr dX6_ordersInWhichItJoins_35 ?_
      refine r_iconst 1 dX6_ordersInWhichItJoins_36 (by decide) ?_
      refine r_iand dX6_ordersInWhichItJoins_37 ?_
      obtain ⟨jq3, hw, hm⟩ := am_bs hm
      try dsimp only at hm
      have HJ : am_R l yX6_ordersInWhichItJoins cX6_ordersInWhichItJoins 8 (some .long) rm_X6_ordersInWhichItJoins (fun _ _ _ => True) 0 0 46 [(0, .ref a0), (2, .int a2), (3, .long a3), (5, .int a5)] [.int (am_b jq3)] h K := by
        refine r_istore [(6, .int (am_b jq3)), (0, .ref a0), (2, .int a2), (3, .long a3), (5, .int a5)] dX6_ordersInWhichItJoins_46 (by decide) rfl ?_
        refine r_iload 0 dX6_ordersInWhichItJoins_48 rfl ?_
        obtain ⟨jq4, hw, hm⟩ := am_bs hm
        try dsimp only at hm
        have HJ : am_R l yX6_ordersInWhichItJoins cX6_ordersInWhichItJoins 8 (some .long) rm_X6_ordersInWhichItJoins (fun _ _ _ => True) 0 0 114 [(0, .ref a0), (2, .int a2), (3, .long jq4), (5, .int a5)] [] h K := by
          refine r_inc 1 3 [(5, .int (a5 + 1)), (0, .ref a0), (2, .int a2), (3, .long jq4)] dX6_ordersInWhichItJoins_114 (by decide) rfl (by decide) rfl ?_
          refine r_goto 20 dX6_ordersInWhichItJoins_117 (by decide) ?_
          exact r_lv [1, 2, 3, 0] _ rfl (ih jq4 (a5 + 1) _ hm kE)
        clear hm
        have hm := hw
        clear hw
        refine r_if_eq 114 dX6_ordersInWhichItJoins_50 (by decide) (fun q => ?_) (fun q => ?_)
        · rw [if_neg (show ¬ jq3 = true from by rw [am_b0 q]; decide)] at hm
          cases hm
          exact r_lv [1, 2, 3, 4] _ rfl HJ
        · rw [if_pos (show jq3 = true from am_b1 q)] at hm
          refine r_aload_n 1 dX6_ordersInWhichItJoins_53 rfl ?_
          obtain ⟨xq5, exq5, hm⟩ := am_bs hm
          refine r_getr exq5 fl_X6_43 rfl dX6_ordersInWhichItJoins_54 ?_
          refine r_aload_n 1 dX6_ordersInWhichItJoins_57 rfl ?_
          obtain ⟨xq6, exq6, hm⟩ := am_bs hm
          refine r_getr exq6 fl_X6_43 rfl dX6_ordersInWhichItJoins_58 ?_
          obtain ⟨xq7, exq7, hm⟩ := am_bs hm
          refine r_getr exq7 fl_X6_190 rfl dX6_ordersInWhichItJoins_61 ?_
          refine r_iload_n 2 dX6_ordersInWhichItJoins_64 rfl ?_
          obtain ⟨xq8, exq8, hm⟩ := am_bs hm
          refine r_iald exq8 dX6_ordersInWhichItJoins_65 ?_
          refine r_aload_n 1 dX6_ordersInWhichItJoins_66 rfl ?_
          obtain ⟨xq9, exq9, hm⟩ := am_bs hm
          refine r_getr exq9 fl_X6_43 rfl dX6_ordersInWhichItJoins_67 ?_
          obtain ⟨xq10, exq10, hm⟩ := am_bs hm
          refine r_getr exq10 fl_X6_191 rfl dX6_ordersInWhichItJoins_70 ?_
          refine r_iload_n 2 dX6_ordersInWhichItJoins_73 rfl ?_
          obtain ⟨xq11, exq11, hm⟩ := am_bs hm
          refine r_iald exq11 dX6_ordersInWhichItJoins_74 ?_
          refine r_iload 4 dX6_ordersInWhichItJoins_75 rfl ?_
          obtain ⟨xq12, exq12, hm⟩ := am_bs hm
          refine r_cV1 [.int xq8, .int xq11, .int a5] (ct_X1_areJoined l exq12) vm_X6_195 (cs_X1_areJoined exq12) (by decide) ⟨rfl, rfl⟩ rfl (Nat.le_of_ble_eq_true rfl) dX6_ordersInWhichItJoins_77 ?_
          refine r_if_ne 114 dX6_ordersInWhichItJoins_80 (by decide) (fun q => ?_) (fun q => ?_)
          · rw [if_pos (show xq12 = true from am_b1 q)] at hm
            cases hm
            exact r_lv [1, 2, 3, 4] _ rfl HJ
          · rw [if_neg (show ¬ xq12 = true from by rw [am_b0 q]; decide)] at hm
            refine r_iload 4 dX6_ordersInWhichItJoins_83 rfl ?_
            obtain ⟨xq13, exq13, hm⟩ := am_bs hm
            refine r_cS1 [.int a5] (ct_J6_bitCount_0f7a4 l exq13) sm_X6_177 (by decide) ⟨rfl, rfl⟩ rfl (Nat.le_of_ble_eq_true rfl) dX6_ordersInWhichItJoins_85 ?_
            refine r_istore [(7, .int xq13), (6, .int (am_b jq3)), (0, .ref a0), (2, .int a2), (3, .long a3), (5, .int a5)] dX6_ordersInWhichItJoins_88 (by decide) rfl ?_
            refine r_lload_n 4 dX6_ordersInWhichItJoins_90 rfl ?_
            refine r_iload 0 dX6_ordersInWhichItJoins_91 rfl ?_
            obtain ⟨xq14, exq14, hm⟩ := am_bs hm
            refine r_cS1 [.int xq13] (ct_X6_factorial l exq14) sm_X6_257 (by decide) ⟨rfl, rfl⟩ rfl (Nat.le_of_ble_eq_true rfl) dX6_ordersInWhichItJoins_93 ?_
            refine r_aload_n 2 dX6_ordersInWhichItJoins_96 rfl ?_
            obtain ⟨xq15, exq15, hm⟩ := am_bs hm
            refine r_getr exq15 fl_X6_43 rfl dX6_ordersInWhichItJoins_97 ?_
            obtain ⟨xq16, exq16, hm⟩ := am_bs hm
            refine r_geti exq16 fl_X6_189 rfl dX6_ordersInWhichItJoins_100 ?_
            refine r_iconst 1 dX6_ordersInWhichItJoins_103 (by decide) ?_
            refine r_isub dX6_ordersInWhichItJoins_104 ?_
            refine r_iload 0 dX6_ordersInWhichItJoins_105 rfl ?_
            refine r_isub dX6_ordersInWhichItJoins_107 ?_
            obtain ⟨xq17, exq17, hm⟩ := am_bs hm
            refine r_cS1 [.int ((xq16 - 1) - xq13)] (ct_X6_factorial l exq17) sm_X6_257 (by decide) ⟨rfl, rfl⟩ rfl (Nat.le_of_ble_eq_true rfl) dX6_ordersInWhichItJoins_108 ?_
            refine r_lmul dX6_ordersInWhichItJoins_111 ?_
            refine r_ladd dX6_ordersInWhichItJoins_112 ?_
            refine r_lstore_n [(3, .long (a3 + (xq14 * xq17))), (7, .int xq13), (6, .int (am_b jq3)), (0, .ref a0), (2, .int a2), (5, .int a5)] dX6_ordersInWhichItJoins_113 (by decide) rfl ?_
            cases hm
            exact r_lv [3, 4, 0, 5] _ rfl HJ
      clear hm
      have hm := hw
      clear hw
      refine r_if_ne 45 dX6_ordersInWhichItJoins_38 (by decide) (fun q => ?_) (fun q => ?_)
      · rw [if_neg q] at hm
        refine r_iconst 0 dX6_ordersInWhichItJoins_45 (by decide) ?_
        cases hm
        exact r_lv [0, 1, 2, 3] _ rfl HJ
      · rw [if_pos q] at hm
        refine r_iconst 1 dX6_ordersInWhichItJoins_41 (by decide) ?_
        refine r_goto 46 dX6_ordersInWhichItJoins_42 (by decide) ?_
        cases hm
        exact r_lv [0, 1, 2, 3] _ rfl HJ
def mi_X6_ordersInWhichItJoins (f : Nat) (h : am_H) (p : Nat) (a : Int32) : Option Int64 :=
  Option.bind (am_cls h 6 p) fun _n =>
  Option.bind (am_gr h 6 p 5) fun xq1 =>
  Option.bind (mi_X1_placeOf f h xq1 a) fun xq2 =>
  (if 0 ≤ xq2 then
  (Option.bind (lo_X6_ordersInWhichItJoins_20 f h p xq2 f 0 0) fun oq3 =>
  some oq3)
  else (some 0))
theorem cs_X6_ordersInWhichItJoins {f : Nat} {h : am_H} {p : Nat} {a : Int32} {z : Int64} (hm : mi_X6_ordersInWhichItJoins f h p a = some z) : ∃ n, h.1[p]? = some (6, n) := by
  unfold mi_X6_ordersInWhichItJoins at hm
  obtain ⟨n, hn, -⟩ := am_bs hm
  exact ⟨n, am_cls_of hn⟩
set_option maxHeartbeats 4000000 in
set_option maxRecDepth 100000 in
theorem ct_X6_ordersInWhichItJoins (l : Launch) {f : Nat} {h : am_H} {p : Nat} {a : Int32} {r : Int64} (hm : mi_X6_ordersInWhichItJoins f h p a = some r) : am_Ct l yX6_ordersInWhichItJoins cX6_ordersInWhichItJoins 8 (some .long) rm_X6_ordersInWhichItJoins [.ref p, .int a] h (some (.long r)) h := by
  refine am_met2 [(0, .ref p), (1, .int a)] (by decide) (Nat.le_of_ble_eq_true rfl) rfl ?_
  generalize hK : (fun (v : Option Value) (h3 : am_H) => v = (some (.long r)) ∧ h3 = h) = K
  have HK : K (some (.long r)) h := by rw [← hK]; exact ⟨rfl, rfl⟩
  clear hK
  unfold mi_X6_ordersInWhichItJoins at hm
  obtain ⟨_n, _hn, hm⟩ := am_bs hm
  refine r_aload_n 0 dX6_ordersInWhichItJoins_0 rfl ?_
  obtain ⟨xq1, exq1, hm⟩ := am_bs hm
  refine r_getr exq1 fl_X6_43 rfl dX6_ordersInWhichItJoins_1 ?_
  refine r_iload_n 1 dX6_ordersInWhichItJoins_4 rfl ?_
  obtain ⟨xq2, exq2, hm⟩ := am_bs hm
  refine r_cV1 [.int a] (ct_X1_placeOf l exq2) vm_X6_264 (cs_X1_placeOf exq2) (by decide) ⟨rfl, rfl⟩ rfl (Nat.le_of_ble_eq_true rfl) dX6_ordersInWhichItJoins_5 ?_
  refine r_istore_n [(2, .int xq2), (0, .ref p), (1, .int a)] dX6_ordersInWhichItJoins_8 (by decide) rfl ?_
  refine r_iload_n 0 dX6_ordersInWhichItJoins_9 rfl ?_
  refine r_if_ge 15 dX6_ordersInWhichItJoins_10 (by decide) (fun q => ?_) (fun q => ?_)
  · rw [if_pos q] at hm
    refine r_lconst 0 dX6_ordersInWhichItJoins_15 (by decide) ?_
    refine r_lstore_n [(3, .long 0), (2, .int xq2), (0, .ref p), (1, .int a)] dX6_ordersInWhichItJoins_16 (by decide) rfl ?_
    refine r_iconst 0 dX6_ordersInWhichItJoins_17 (by decide) ?_
    refine r_istore [(5, .int 0), (3, .long 0), (2, .int xq2), (0, .ref p), (1, .int a)] dX6_ordersInWhichItJoins_18 (by decide) rfl ?_
    obtain ⟨oq3, ew, hm⟩ := am_bs hm
    try dsimp only at hm
    refine r_lv [3, 2, 1, 0] _ rfl (ll_X6_ordersInWhichItJoins_20 l f h p xq2 _ f 0 0 _ ew ?_)
    refine r_lload_n 0 dX6_ordersInWhichItJoins_120 rfl ?_
    cases hm
    exact r_lreturn dX6_ordersInWhichItJoins_121 rfl (by decide) HK
  · rw [if_neg q] at hm
    refine r_lconst 0 dX6_ordersInWhichItJoins_13 (by decide) ?_
    cases hm
    exact r_lreturn dX6_ordersInWhichItJoins_14 rfl (by decide) HK
def mi_X6_share (f : Nat) (h : am_H) (p : Nat) (a : Int32) (b : Int32) (c : Bool) : Option (Int32 × am_H) :=
  Option.bind (am_cls h 6 p) fun _n =>
  Option.bind (am_gr h 6 p 1) fun xq1 =>
  Option.bind (mi_X5_has f h xq1 a) fun xq2 =>
  (if xq2 = true then
  (Option.bind (mi_X6_isTime f h b) fun xq3 =>
  (if xq3 = true then
  (Option.bind (am_gr h 6 p 5) fun xq4 =>
  Option.bind (am_gr h 6 p 1) fun xq5 =>
  Option.bind (mi_X1_gather f h xq4 xq5 b) fun hq7 =>
  Option.bind (am_gr hq7 6 p 5) fun xq8 =>
  Option.bind (am_gi hq7 1 xq8 4) fun xq9 =>
  (if xq9 ≤ 8 then
  (Option.bind (mi_X6_ordersInWhichItJoins f hq7 p a) fun xq10 =>
  Option.bind (am_gr hq7 6 p 5) fun xq11 =>
  Option.bind (am_gi hq7 1 xq11 4) fun xq12 =>
  Option.bind (mi_X6_factorial f hq7 xq12) fun xq13 =>
  Option.bind (mi_X6_told f hq7 xq10 xq13 c) fun xq14 =>
  some (xq14, hq7))
  else (some ((-4), hq7))))
  else (some ((-1), h))))
  else (some ((-1), h)))
theorem cs_X6_share {f : Nat} {h : am_H} {p : Nat} {a : Int32} {b : Int32} {c : Bool} {z : (Int32 × am_H)} (hm : mi_X6_share f h p a b c = some z) : ∃ n, h.1[p]? = some (6, n) := by
  unfold mi_X6_share at hm
  obtain ⟨n, hn, -⟩ := am_bs hm
  exact ⟨n, am_cls_of hn⟩
set_option maxHeartbeats 4000000 in
set_option maxRecDepth 100000 in
theorem ct_X6_share (l : Launch) {f : Nat} {h : am_H} {p : Nat} {a : Int32} {b : Int32} {c : Bool} {r : Int32} {h2 : am_H} (hm : mi_X6_share f h p a b c = some (r, h2)) : am_Ct l yX6_share cX6_share 4 (some .int) rm_X6_share [.ref p, .int a, .int b, .int (am_b c)] h (some (.int r)) h2 := by
  refine am_met2 [(0, .ref p), (1, .int a), (2, .int b), (3, .int (am_b c))] (by decide) (Nat.le_of_ble_eq_true rfl) rfl ?_
  generalize hK : (fun (v : Option Value) (h3 : am_H) => v = (some (.int r)) ∧ h3 = h2) = K
  have HK : K (some (.int r)) h2 := by rw [← hK]; exact ⟨rfl, rfl⟩
  clear hK
  unfold mi_X6_share at hm
  obtain ⟨_n, _hn, hm⟩ := am_bs hm
  refine r_aload_n 0 dX6_share_0 rfl ?_
  obtain ⟨xq1, exq1, hm⟩ := am_bs hm
  refine r_getr exq1 fl_X6_19 rfl dX6_share_1 ?_
  refine r_iload_n 1 dX6_share_4 rfl ?_
  obtain ⟨xq2, exq2, hm⟩ := am_bs hm
  refine r_cV1 [.int a] (ct_X5_has l exq2) vm_X6_82 (cs_X5_has exq2) (by decide) ⟨rfl, rfl⟩ rfl (Nat.le_of_ble_eq_true rfl) dX6_share_5 ?_
  refine r_if_eq 18 dX6_share_8 (by decide) (fun q => ?_) (fun q => ?_)
  · rw [if_neg (show ¬ xq2 = true from by rw [am_b0 q]; decide)] at hm
    refine r_iconst (-1) dX6_share_18 (by decide) ?_
    cases hm
    exact r_ireturn dX6_share_19 rfl (by decide) HK
  · rw [if_pos (show xq2 = true from am_b1 q)] at hm
    refine r_iload_n 2 dX6_share_11 rfl ?_
    obtain ⟨xq3, exq3, hm⟩ := am_bs hm
    refine r_cS1 [.int b] (ct_X6_isTime l exq3) sm_X6_128 (by decide) ⟨rfl, rfl⟩ rfl (Nat.le_of_ble_eq_true rfl) dX6_share_12 ?_
    refine r_if_ne 20 dX6_share_15 (by decide) (fun q => ?_) (fun q => ?_)
    · rw [if_pos (show xq3 = true from am_b1 q)] at hm
      refine r_aload_n 0 dX6_share_20 rfl ?_
      obtain ⟨xq4, exq4, hm⟩ := am_bs hm
      refine r_getr exq4 fl_X6_43 rfl dX6_share_21 ?_
      refine r_aload_n 0 dX6_share_24 rfl ?_
      obtain ⟨xq5, exq5, hm⟩ := am_bs hm
      refine r_getr exq5 fl_X6_19 rfl dX6_share_25 ?_
      refine r_iload_n 2 dX6_share_28 rfl ?_
      obtain ⟨hq7, exq6, hm⟩ := am_bs hm
      refine r_cV0 [.ref xq5, .int b] (ct_X1_gather l exq6) vm_X6_186 (cs_X1_gather exq6) (by decide) ⟨rfl, rfl⟩ rfl (Nat.le_of_ble_eq_true rfl) dX6_share_29 ?_
      refine r_aload_n 0 dX6_share_32 rfl ?_
      obtain ⟨xq8, exq8, hm⟩ := am_bs hm
      refine r_getr exq8 fl_X6_43 rfl dX6_share_33 ?_
      obtain ⟨xq9, exq9, hm⟩ := am_bs hm
      refine r_geti exq9 fl_X6_189 rfl dX6_share_36 ?_
      refine r_bipush 8 dX6_share_39 (by decide) ?_
      refine r_icmp_le 47 dX6_share_41 (by decide) (fun q => ?_) (fun q => ?_)
      · rw [if_pos q] at hm
        refine r_aload_n 0 dX6_share_47 rfl ?_
        refine r_iload_n 1 dX6_share_48 rfl ?_
        obtain ⟨xq10, exq10, hm⟩ := am_bs hm
        refine r_cV1 [.int a] (ct_X6_ordersInWhichItJoins l exq10) vm_X6_253 (cs_X6_ordersInWhichItJoins exq10) (by decide) ⟨rfl, rfl⟩ rfl (Nat.le_of_ble_eq_true rfl) dX6_share_49 ?_
        refine r_aload_n 0 dX6_share_52 rfl ?_
        obtain ⟨xq11, exq11, hm⟩ := am_bs hm
        refine r_getr exq11 fl_X6_43 rfl dX6_share_53 ?_
        obtain ⟨xq12, exq12, hm⟩ := am_bs hm
        refine r_geti exq12 fl_X6_189 rfl dX6_share_56 ?_
        obtain ⟨xq13, exq13, hm⟩ := am_bs hm
        refine r_cS1 [.int xq12] (ct_X6_factorial l exq13) sm_X6_257 (by decide) ⟨rfl, rfl⟩ rfl (Nat.le_of_ble_eq_true rfl) dX6_share_59 ?_
        refine r_iload_n 3 dX6_share_62 rfl ?_
        obtain ⟨xq14, exq14, hm⟩ := am_bs hm
        refine r_cS1 [.long xq10, .long xq13, .int (am_b c)] (ct_X6_told l exq14) sm_X6_260 (by decide) ⟨rfl, rfl⟩ rfl (Nat.le_of_ble_eq_true rfl) dX6_share_63 ?_
        cases hm
        exact r_ireturn dX6_share_66 rfl (by decide) HK
      · rw [if_neg q] at hm
        refine r_bipush (-4) dX6_share_44 (by decide) ?_
        cases hm
        exact r_ireturn dX6_share_46 rfl (by decide) HK
    · rw [if_neg (show ¬ xq3 = true from by rw [am_b0 q]; decide)] at hm
      refine r_iconst (-1) dX6_share_18 (by decide) ?_
      cases hm
      exact r_ireturn dX6_share_19 rfl (by decide) HK
def mi_X6_side (f : Nat) (h : am_H) (p : Nat) (a : Int32) (b : Int32) (c : Int32) : Option (Int32 × am_H) :=
  Option.bind (am_cls h 6 p) fun _n =>
  Option.bind (mi_X6_isKnot f h a) fun xq1 =>
  (if xq1 = true then
  (Option.bind (mi_X6_isKnot f h b) fun xq2 =>
  (if xq2 = true then
  (Option.bind (mi_X6_isTime f h c) fun xq3 =>
  (if xq3 = true then
  ((if a = b then
  (some (0, h))
  else (Option.bind (am_gr h 6 p 4) fun xq4 =>
  Option.bind (am_gr h 6 p 1) fun xq5 =>
  Option.bind (mi_X2_walkToTime f h xq4 xq5 c) fun hq7 =>
  Option.bind (am_gr hq7 6 p 4) fun xq8 =>
  Option.bind (mi_X2_areJoined f hq7 xq8 a b) fun xq9 =>
  (if xq9 = true then
  (Option.bind (am_gr hq7 6 p 4) fun xq10 =>
  Option.bind (am_gr hq7 2 xq10 3) fun xq11 =>
  Option.bind (am_gr hq7 6 p 4) fun xq12 =>
  Option.bind (mi_X2_rootOf f hq7 xq12 a) fun xq13 =>
  Option.bind (am_li hq7 10 xq11 xq13) fun xq14 =>
  (if xq14 = 0 then
  (Option.bind (am_gr hq7 6 p 4) fun xq15 =>
  Option.bind (mi_X2_turnOf f hq7 xq15 a) fun xq16 =>
  Option.bind (am_gr hq7 6 p 4) fun xq17 =>
  Option.bind (mi_X2_turnOf f hq7 xq17 b) fun xq18 =>
  some ((xq16 ^^^ xq18), hq7))
  else (some ((-3), hq7))))
  else (some ((-3), hq7))))))
  else (some ((-1), h))))
  else (some ((-1), h))))
  else (some ((-1), h)))
theorem cs_X6_side {f : Nat} {h : am_H} {p : Nat} {a : Int32} {b : Int32} {c : Int32} {z : (Int32 × am_H)} (hm : mi_X6_side f h p a b c = some z) : ∃ n, h.1[p]? = some (6, n) := by
  unfold mi_X6_side at hm
  obtain ⟨n, hn, -⟩ := am_bs hm
  exact ⟨n, am_cls_of hn⟩
set_option maxHeartbeats 4000000 in
set_option maxRecDepth 100000 in
theorem ct_X6_side (l : Launch) {f : Nat} {h : am_H} {p : Nat} {a : Int32} {b : Int32} {c : Int32} {r : Int32} {h2 : am_H} (hm : mi_X6_side f h p a b c = some (r, h2)) : am_Ct l yX6_side cX6_side 4 (some .int) rm_X6_side [.ref p, .int a, .int b, .int c] h (some (.int r)) h2 := by
  refine am_met2 [(0, .ref p), (1, .int a), (2, .int b), (3, .int c)] (by decide) (Nat.le_of_ble_eq_true rfl) rfl ?_
  generalize hK : (fun (v : Option Value) (h3 : am_H) => v = (some (.int r)) ∧ h3 = h2) = K
  have HK : K (some (.int r)) h2 := by rw [← hK]; exact ⟨rfl, rfl⟩
  clear hK
  unfold mi_X6_side at hm
  obtain ⟨_n, _hn, hm⟩ := am_bs hm
  refine r_iload_n 1 dX6_side_0 rfl ?_
  obtain ⟨xq1, exq1, hm⟩ := am_bs hm
  refine r_cS1 [.int a] (ct_X6_isKnot l exq1) sm_X6_150 (by decide) ⟨rfl, rfl⟩ rfl (Nat.le_of_ble_eq_true rfl) dX6_side_1 ?_
  refine r_if_eq 21 dX6_side_4 (by decide) (fun q => ?_) (fun q => ?_)
  · rw [if_neg (show ¬ xq1 = true from by rw [am_b0 q]; decide)] at hm
    refine r_iconst (-1) dX6_side_21 (by decide) ?_
    cases hm
    exact r_ireturn dX6_side_22 rfl (by decide) HK
  · rw [if_pos (show xq1 = true from am_b1 q)] at hm
    refine r_iload_n 2 dX6_side_7 rfl ?_
    obtain ⟨xq2, exq2, hm⟩ := am_bs hm
    refine r_cS1 [.int b] (ct_X6_isKnot l exq2) sm_X6_150 (by decide) ⟨rfl, rfl⟩ rfl (Nat.le_of_ble_eq_true rfl) dX6_side_8 ?_
    refine r_if_eq 21 dX6_side_11 (by decide) (fun q => ?_) (fun q => ?_)
    · rw [if_neg (show ¬ xq2 = true from by rw [am_b0 q]; decide)] at hm
      refine r_iconst (-1) dX6_side_21 (by decide) ?_
      cases hm
      exact r_ireturn dX6_side_22 rfl (by decide) HK
    · rw [if_pos (show xq2 = true from am_b1 q)] at hm
      refine r_iload_n 3 dX6_side_14 rfl ?_
      obtain ⟨xq3, exq3, hm⟩ := am_bs hm
      refine r_cS1 [.int c] (ct_X6_isTime l exq3) sm_X6_128 (by decide) ⟨rfl, rfl⟩ rfl (Nat.le_of_ble_eq_true rfl) dX6_side_15 ?_
      refine r_if_ne 23 dX6_side_18 (by decide) (fun q => ?_) (fun q => ?_)
      · rw [if_pos (show xq3 = true from am_b1 q)] at hm
        refine r_iload_n 1 dX6_side_23 rfl ?_
        refine r_iload_n 2 dX6_side_24 rfl ?_
        refine r_icmp_ne 30 dX6_side_25 (by decide) (fun q => ?_) (fun q => ?_)
        · rw [if_neg q] at hm
          refine r_aload_n 0 dX6_side_30 rfl ?_
          obtain ⟨xq4, exq4, hm⟩ := am_bs hm
          refine r_getr exq4 fl_X6_36 rfl dX6_side_31 ?_
          refine r_aload_n 0 dX6_side_34 rfl ?_
          obtain ⟨xq5, exq5, hm⟩ := am_bs hm
          refine r_getr exq5 fl_X6_19 rfl dX6_side_35 ?_
          refine r_iload_n 3 dX6_side_38 rfl ?_
          obtain ⟨hq7, exq6, hm⟩ := am_bs hm
          refine r_cV0 [.ref xq5, .int c] (ct_X2_walkToTime l exq6) vm_X6_131 (cs_X2_walkToTime exq6) (by decide) ⟨rfl, rfl⟩ rfl (Nat.le_of_ble_eq_true rfl) dX6_side_39 ?_
          refine r_aload_n 0 dX6_side_42 rfl ?_
          obtain ⟨xq8, exq8, hm⟩ := am_bs hm
          refine r_getr exq8 fl_X6_36 rfl dX6_side_43 ?_
          refine r_iload_n 1 dX6_side_46 rfl ?_
          refine r_iload_n 2 dX6_side_47 rfl ?_
          obtain ⟨xq9, exq9, hm⟩ := am_bs hm
          refine r_cV1 [.int a, .int b] (ct_X2_areJoined l exq9) vm_X6_161 (cs_X2_areJoined exq9) (by decide) ⟨rfl, rfl⟩ rfl (Nat.le_of_ble_eq_true rfl) dX6_side_48 ?_
          refine r_if_eq 73 dX6_side_51 (by decide) (fun q => ?_) (fun q => ?_)
          · rw [if_neg (show ¬ xq9 = true from by rw [am_b0 q]; decide)] at hm
            refine r_bipush (-3) dX6_side_73 (by decide) ?_
            cases hm
            exact r_ireturn dX6_side_75 rfl (by decide) HK
          · rw [if_pos (show xq9 = true from am_b1 q)] at hm
            refine r_aload_n 0 dX6_side_54 rfl ?_
            obtain ⟨xq10, exq10, hm⟩ := am_bs hm
            refine r_getr exq10 fl_X6_36 rfl dX6_side_55 ?_
            obtain ⟨xq11, exq11, hm⟩ := am_bs hm
            refine r_getr exq11 fl_X6_165 rfl dX6_side_58 ?_
            refine r_aload_n 0 dX6_side_61 rfl ?_
            obtain ⟨xq12, exq12, hm⟩ := am_bs hm
            refine r_getr exq12 fl_X6_36 rfl dX6_side_62 ?_
            refine r_iload_n 1 dX6_side_65 rfl ?_
            obtain ⟨xq13, exq13, hm⟩ := am_bs hm
            refine r_cV1 [.int a] (ct_X2_rootOf l exq13) vm_X6_153 (cs_X2_rootOf exq13) (by decide) ⟨rfl, rfl⟩ rfl (Nat.le_of_ble_eq_true rfl) dX6_side_66 ?_
            obtain ⟨xq14, exq14, hm⟩ := am_bs hm
            refine r_zald exq14 dX6_side_69 ?_
            refine r_if_eq 76 dX6_side_70 (by decide) (fun q => ?_) (fun q => ?_)
            · rw [if_pos q] at hm
              refine r_aload_n 0 dX6_side_76 rfl ?_
              obtain ⟨xq15, exq15, hm⟩ := am_bs hm
              refine r_getr exq15 fl_X6_36 rfl dX6_side_77 ?_
              refine r_iload_n 1 dX6_side_80 rfl ?_
              obtain ⟨xq16, exq16, hm⟩ := am_bs hm
              refine r_cV1 [.int a] (ct_X2_turnOf l exq16) vm_X6_168 (cs_X2_turnOf exq16) (by decide) ⟨rfl, rfl⟩ rfl (Nat.le_of_ble_eq_true rfl) dX6_side_81 ?_
              refine r_aload_n 0 dX6_side_84 rfl ?_
              obtain ⟨xq17, exq17, hm⟩ := am_bs hm
              refine r_getr exq17 fl_X6_36 rfl dX6_side_85 ?_
              refine r_iload_n 2 dX6_side_88 rfl ?_
              obtain ⟨xq18, exq18, hm⟩ := am_bs hm
              refine r_cV1 [.int b] (ct_X2_turnOf l exq18) vm_X6_168 (cs_X2_turnOf exq18) (by decide) ⟨rfl, rfl⟩ rfl (Nat.le_of_ble_eq_true rfl) dX6_side_89 ?_
              refine r_ixor dX6_side_92 ?_
              cases hm
              exact r_ireturn dX6_side_93 rfl (by decide) HK
            · rw [if_neg q] at hm
              refine r_bipush (-3) dX6_side_73 (by decide) ?_
              cases hm
              exact r_ireturn dX6_side_75 rfl (by decide) HK
        · rw [if_pos q] at hm
          refine r_iconst 0 dX6_side_28 (by decide) ?_
          cases hm
          exact r_ireturn dX6_side_29 rfl (by decide) HK
      · rw [if_neg (show ¬ xq3 = true from by rw [am_b0 q]; decide)] at hm
        refine r_iconst (-1) dX6_side_21 (by decide) ?_
        cases hm
        exact r_ireturn dX6_side_22 rfl (by decide) HK
def mi_X6_span (f : Nat) (h : am_H) (p : Nat) (a : Int32) (b : Int32) : Option Int32 :=
  Option.bind (am_cls h 6 p) fun _n =>
  Option.bind (am_gr h 6 p 1) fun xq1 =>
  Option.bind (mi_X5_has f h xq1 a) fun xq2 =>
  (if xq2 = true then
  ((if b = 0 then
  (Option.bind (am_gr h 6 p 1) fun xq3 =>
  Option.bind (am_gr h 5 xq3 0) fun xq4 =>
  Option.bind (am_li h 9 xq4 a) fun xq5 =>
  some xq5)
  else (if b = 1 then
  (Option.bind (am_gr h 6 p 1) fun xq6 =>
  Option.bind (am_gr h 5 xq6 1) fun xq7 =>
  Option.bind (am_li h 9 xq7 a) fun xq8 =>
  some xq8)
  else (if b = 2 then
  (Option.bind (am_gr h 6 p 1) fun xq9 =>
  Option.bind (am_gr h 5 xq9 2) fun xq10 =>
  Option.bind (am_li h 9 xq10 a) fun xq11 =>
  some xq11)
  else (if b = 3 then
  (Option.bind (am_gr h 6 p 1) fun xq12 =>
  Option.bind (am_gr h 5 xq12 3) fun xq13 =>
  Option.bind (am_li h 9 xq13 a) fun xq14 =>
  some xq14)
  else (if b = 4 then
  (Option.bind (am_gr h 6 p 1) fun xq15 =>
  Option.bind (mi_X5_howManyNodes f h xq15 a) fun xq16 =>
  some xq16)
  else (some (-2))))))))
  else (some (-1)))
theorem cs_X6_span {f : Nat} {h : am_H} {p : Nat} {a : Int32} {b : Int32} {z : Int32} (hm : mi_X6_span f h p a b = some z) : ∃ n, h.1[p]? = some (6, n) := by
  unfold mi_X6_span at hm
  obtain ⟨n, hn, -⟩ := am_bs hm
  exact ⟨n, am_cls_of hn⟩
set_option maxHeartbeats 4000000 in
set_option maxRecDepth 100000 in
theorem ct_X6_span (l : Launch) {f : Nat} {h : am_H} {p : Nat} {a : Int32} {b : Int32} {r : Int32} (hm : mi_X6_span f h p a b = some r) : am_Ct l yX6_span cX6_span 3 (some .int) rm_X6_span [.ref p, .int a, .int b] h (some (.int r)) h := by
  refine am_met2 [(0, .ref p), (1, .int a), (2, .int b)] (by decide) (Nat.le_of_ble_eq_true rfl) rfl ?_
  generalize hK : (fun (v : Option Value) (h3 : am_H) => v = (some (.int r)) ∧ h3 = h) = K
  have HK : K (some (.int r)) h := by rw [← hK]; exact ⟨rfl, rfl⟩
  clear hK
  unfold mi_X6_span at hm
  obtain ⟨_n, _hn, hm⟩ := am_bs hm
  refine r_aload_n 0 dX6_span_0 rfl ?_
  obtain ⟨xq1, exq1, hm⟩ := am_bs hm
  refine r_getr exq1 fl_X6_19 rfl dX6_span_1 ?_
  refine r_iload_n 1 dX6_span_4 rfl ?_
  obtain ⟨xq2, exq2, hm⟩ := am_bs hm
  refine r_cV1 [.int a] (ct_X5_has l exq2) vm_X6_82 (cs_X5_has exq2) (by decide) ⟨rfl, rfl⟩ rfl (Nat.le_of_ble_eq_true rfl) dX6_span_5 ?_
  refine r_if_ne 13 dX6_span_8 (by decide) (fun q => ?_) (fun q => ?_)
  · rw [if_pos (show xq2 = true from am_b1 q)] at hm
    refine r_iload_n 2 dX6_span_13 rfl ?_
    by_cases q0 : b = 0
    · rw [if_pos q0] at hm
      refine r_tsw 48 dX6_span_14 (Or.inl ⟨by rw [q0]; decide, by rw [q0]; decide⟩) ?_
      refine r_aload_n 0 dX6_span_48 rfl ?_
      obtain ⟨xq3, exq3, hm⟩ := am_bs hm
      refine r_getr exq3 fl_X6_19 rfl dX6_span_49 ?_
      obtain ⟨xq4, exq4, hm⟩ := am_bs hm
      refine r_getr exq4 fl_X6_86 rfl dX6_span_52 ?_
      refine r_iload_n 1 dX6_span_55 rfl ?_
      obtain ⟨xq5, exq5, hm⟩ := am_bs hm
      refine r_iald exq5 dX6_span_56 ?_
      cases hm
      exact r_ireturn dX6_span_57 rfl (by decide) HK
    rw [if_neg q0] at hm
    by_cases q1 : b = 1
    · rw [if_pos q1] at hm
      refine r_tsw 58 dX6_span_14 (Or.inl ⟨by rw [q1]; decide, by rw [q1]; decide⟩) ?_
      refine r_aload_n 0 dX6_span_58 rfl ?_
      obtain ⟨xq6, exq6, hm⟩ := am_bs hm
      refine r_getr exq6 fl_X6_19 rfl dX6_span_59 ?_
      obtain ⟨xq7, exq7, hm⟩ := am_bs hm
      refine r_getr exq7 fl_X6_90 rfl dX6_span_62 ?_
      refine r_iload_n 1 dX6_span_65 rfl ?_
      obtain ⟨xq8, exq8, hm⟩ := am_bs hm
      refine r_iald exq8 dX6_span_66 ?_
      cases hm
      exact r_ireturn dX6_span_67 rfl (by decide) HK
    rw [if_neg q1] at hm
    by_cases q2 : b = 2
    · rw [if_pos q2] at hm
      refine r_tsw 68 dX6_span_14 (Or.inl ⟨by rw [q2]; decide, by rw [q2]; decide⟩) ?_
      refine r_aload_n 0 dX6_span_68 rfl ?_
      obtain ⟨xq9, exq9, hm⟩ := am_bs hm
      refine r_getr exq9 fl_X6_19 rfl dX6_span_69 ?_
      obtain ⟨xq10, exq10, hm⟩ := am_bs hm
      refine r_getr exq10 fl_X6_93 rfl dX6_span_72 ?_
      refine r_iload_n 1 dX6_span_75 rfl ?_
      obtain ⟨xq11, exq11, hm⟩ := am_bs hm
      refine r_iald exq11 dX6_span_76 ?_
      cases hm
      exact r_ireturn dX6_span_77 rfl (by decide) HK
    rw [if_neg q2] at hm
    by_cases q3 : b = 3
    · rw [if_pos q3] at hm
      refine r_tsw 78 dX6_span_14 (Or.inl ⟨by rw [q3]; decide, by rw [q3]; decide⟩) ?_
      refine r_aload_n 0 dX6_span_78 rfl ?_
      obtain ⟨xq12, exq12, hm⟩ := am_bs hm
      refine r_getr exq12 fl_X6_19 rfl dX6_span_79 ?_
      obtain ⟨xq13, exq13, hm⟩ := am_bs hm
      refine r_getr exq13 fl_X6_96 rfl dX6_span_82 ?_
      refine r_iload_n 1 dX6_span_85 rfl ?_
      obtain ⟨xq14, exq14, hm⟩ := am_bs hm
      refine r_iald exq14 dX6_span_86 ?_
      cases hm
      exact r_ireturn dX6_span_87 rfl (by decide) HK
    rw [if_neg q3] at hm
    by_cases q4 : b = 4
    · rw [if_pos q4] at hm
      refine r_tsw 88 dX6_span_14 (Or.inl ⟨by rw [q4]; decide, by rw [q4]; decide⟩) ?_
      refine r_aload_n 0 dX6_span_88 rfl ?_
      obtain ⟨xq15, exq15, hm⟩ := am_bs hm
      refine r_getr exq15 fl_X6_19 rfl dX6_span_89 ?_
      refine r_iload_n 1 dX6_span_92 rfl ?_
      obtain ⟨xq16, exq16, hm⟩ := am_bs hm
      refine r_cV1 [.int a] (ct_X5_howManyNodes l exq16) vm_X6_99 (cs_X5_howManyNodes exq16) (by decide) ⟨rfl, rfl⟩ rfl (Nat.le_of_ble_eq_true rfl) dX6_span_93 ?_
      cases hm
      exact r_ireturn dX6_span_96 rfl (by decide) HK
    rw [if_neg q4] at hm
    refine r_tsw 97 dX6_span_14 (Or.inr ⟨by have e0 := lv_neT q0 (show (0 : Int32).toInt = 0 from by decide); have e1 := lv_neT q1 (show (1 : Int32).toInt = 1 from by decide); have e2 := lv_neT q2 (show (2 : Int32).toInt = 2 from by decide); have e3 := lv_neT q3 (show (3 : Int32).toInt = 3 from by decide); have e4 := lv_neT q4 (show (4 : Int32).toInt = 4 from by decide); omega, by decide⟩) ?_
    refine r_bipush (-2) dX6_span_97 (by decide) ?_
    cases hm
    exact r_ireturn dX6_span_99 rfl (by decide) HK
  · rw [if_neg (show ¬ xq2 = true from by rw [am_b0 q]; decide)] at hm
    refine r_iconst (-1) dX6_span_11 (by decide) ?_
    cases hm
    exact r_ireturn dX6_span_12 rfl (by decide) HK
def mi_X6_undo (f : Nat) (h : am_H) (p : Nat) : Option (Int32 × am_H) :=
  Option.bind (am_cls h 6 p) fun _n =>
  Option.bind (am_gr h 6 p 3) fun xq1 =>
  Option.bind (am_gi h 0 xq1 1) fun xq2 =>
  (if xq2 = 0 then
  (some ((-3), h))
  else (Option.bind (am_gr h 6 p 3) fun xq3 =>
  Option.bind (am_gr h 6 p 1) fun xq4 =>
  Option.bind (mi_X0_takeBackLast f h xq3 xq4) fun hq6 =>
  Option.bind (am_gr hq6 6 p 3) fun xq7 =>
  Option.bind (am_gi hq6 0 xq7 1) fun xq8 =>
  some (xq8, hq6)))
theorem cs_X6_undo {f : Nat} {h : am_H} {p : Nat} {z : (Int32 × am_H)} (hm : mi_X6_undo f h p = some z) : ∃ n, h.1[p]? = some (6, n) := by
  unfold mi_X6_undo at hm
  obtain ⟨n, hn, -⟩ := am_bs hm
  exact ⟨n, am_cls_of hn⟩
set_option maxHeartbeats 4000000 in
set_option maxRecDepth 100000 in
theorem ct_X6_undo (l : Launch) {f : Nat} {h : am_H} {p : Nat} {r : Int32} {h2 : am_H} (hm : mi_X6_undo f h p = some (r, h2)) : am_Ct l yX6_undo cX6_undo 1 (some .int) rm_X6_undo [.ref p] h (some (.int r)) h2 := by
  refine am_met2 [(0, .ref p)] (by decide) (Nat.le_of_ble_eq_true rfl) rfl ?_
  generalize hK : (fun (v : Option Value) (h3 : am_H) => v = (some (.int r)) ∧ h3 = h2) = K
  have HK : K (some (.int r)) h2 := by rw [← hK]; exact ⟨rfl, rfl⟩
  clear hK
  unfold mi_X6_undo at hm
  obtain ⟨_n, _hn, hm⟩ := am_bs hm
  refine r_aload_n 0 dX6_undo_0 rfl ?_
  obtain ⟨xq1, exq1, hm⟩ := am_bs hm
  refine r_getr exq1 fl_X6_29 rfl dX6_undo_1 ?_
  obtain ⟨xq2, exq2, hm⟩ := am_bs hm
  refine r_geti exq2 fl_X6_78 rfl dX6_undo_4 ?_
  refine r_if_ne 13 dX6_undo_7 (by decide) (fun q => ?_) (fun q => ?_)
  · rw [if_neg q] at hm
    refine r_aload_n 0 dX6_undo_13 rfl ?_
    obtain ⟨xq3, exq3, hm⟩ := am_bs hm
    refine r_getr exq3 fl_X6_29 rfl dX6_undo_14 ?_
    refine r_aload_n 0 dX6_undo_17 rfl ?_
    obtain ⟨xq4, exq4, hm⟩ := am_bs hm
    refine r_getr exq4 fl_X6_19 rfl dX6_undo_18 ?_
    obtain ⟨hq6, exq5, hm⟩ := am_bs hm
    refine r_cV0 [.ref xq4] (ct_X0_takeBackLast l exq5) vm_X6_122 (cs_X0_takeBackLast exq5) (by decide) ⟨rfl, rfl⟩ rfl (Nat.le_of_ble_eq_true rfl) dX6_undo_21 ?_
    refine r_aload_n 0 dX6_undo_24 rfl ?_
    obtain ⟨xq7, exq7, hm⟩ := am_bs hm
    refine r_getr exq7 fl_X6_29 rfl dX6_undo_25 ?_
    obtain ⟨xq8, exq8, hm⟩ := am_bs hm
    refine r_geti exq8 fl_X6_78 rfl dX6_undo_28 ?_
    cases hm
    exact r_ireturn dX6_undo_31 rfl (by decide) HK
  · rw [if_pos q] at hm
    refine r_bipush (-3) dX6_undo_10 (by decide) ?_
    cases hm
    exact r_ireturn dX6_undo_12 rfl (by decide) HK
def mi_X6_unsee (f : Nat) (h : am_H) (p : Nat) : Option (Int32 × am_H) :=
  Option.bind (am_cls h 6 p) fun _n =>
  Option.bind (am_gr h 6 p 6) fun xq1 =>
  Option.bind (am_gi h 4 xq1 6) fun xq2 =>
  Option.bind (am_gr h 6 p 6) fun xq3 =>
  Option.bind (am_pi h 4 xq3 6 0) fun hq4 =>
  some (xq2, hq4)
theorem cs_X6_unsee {f : Nat} {h : am_H} {p : Nat} {z : (Int32 × am_H)} (hm : mi_X6_unsee f h p = some z) : ∃ n, h.1[p]? = some (6, n) := by
  unfold mi_X6_unsee at hm
  obtain ⟨n, hn, -⟩ := am_bs hm
  exact ⟨n, am_cls_of hn⟩
set_option maxHeartbeats 4000000 in
set_option maxRecDepth 100000 in
theorem ct_X6_unsee (l : Launch) {f : Nat} {h : am_H} {p : Nat} {r : Int32} {h2 : am_H} (hm : mi_X6_unsee f h p = some (r, h2)) : am_Ct l yX6_unsee cX6_unsee 2 (some .int) rm_X6_unsee [.ref p] h (some (.int r)) h2 := by
  refine am_met2 [(0, .ref p)] (by decide) (Nat.le_of_ble_eq_true rfl) rfl ?_
  generalize hK : (fun (v : Option Value) (h3 : am_H) => v = (some (.int r)) ∧ h3 = h2) = K
  have HK : K (some (.int r)) h2 := by rw [← hK]; exact ⟨rfl, rfl⟩
  clear hK
  unfold mi_X6_unsee at hm
  obtain ⟨_n, _hn, hm⟩ := am_bs hm
  refine r_aload_n 0 dX6_unsee_0 rfl ?_
  obtain ⟨xq1, exq1, hm⟩ := am_bs hm
  refine r_getr exq1 fl_X6_50 rfl dX6_unsee_1 ?_
  obtain ⟨xq2, exq2, hm⟩ := am_bs hm
  refine r_geti exq2 fl_X6_225 rfl dX6_unsee_4 ?_
  refine r_istore_n [(1, .int xq2), (0, .ref p)] dX6_unsee_7 (by decide) rfl ?_
  refine r_aload_n 1 dX6_unsee_8 rfl ?_
  obtain ⟨xq3, exq3, hm⟩ := am_bs hm
  refine r_getr exq3 fl_X6_50 rfl dX6_unsee_9 ?_
  refine r_iconst 0 dX6_unsee_12 (by decide) ?_
  obtain ⟨hq4, ehq4, hm⟩ := am_bs hm
  refine r_puti ehq4 fl_X6_225 rfl rfl dX6_unsee_13 ?_
  refine r_iload_n 0 dX6_unsee_16 rfl ?_
  cases hm
  exact r_ireturn dX6_unsee_17 rfl (by decide) HK
def lo_X6_when_21 (f : Nat) (a0 : Nat) (a1 : Int32) (a2 : Int32) : Nat → Int32 → Int32 → am_H → Option (Int32 × am_H)
  | 0, _, _, _ => none
  | n + 1, a3, a4, h =>
  (if 16 ≤ a4 then
  (some (a3, h))
  else (Option.bind (am_gr h 6 a0 4) fun xq1 =>
  Option.bind (am_gr h 6 a0 1) fun xq2 =>
  Option.bind (mi_X2_walkToTime f h xq1 xq2 a4) fun hq4 =>
  Option.bind (am_gr hq4 6 a0 4) fun xq5 =>
  Option.bind (mi_X2_areJoined f hq4 xq5 a1 a2) fun xq6 =>
  Option.bind ((if xq6 = true then
  (some (a3 ||| ((1 : Int32) <<< (a4 &&& 31))))
  else (some a3))) fun jq7 =>
  lo_X6_when_21 f a0 a1 a2 n jq7 (a4 + 1) hq4))
set_option maxHeartbeats 4000000 in
set_option maxRecDepth 100000 in
theorem ll_X6_when_21 (l : Launch) (f : Nat) (a0 : Nat) (a1 : Int32) (a2 : Int32) (K : Option Value → am_H → Prop) : ∀ (n : Nat) (a3 : Int32) (a4 : Int32) (h : am_H) (z : Int32 × am_H), lo_X6_when_21 f a0 a1 a2 n a3 a4 h = some z →
    am_R l yX6_when cX6_when 5 (some .int) rm_X6_when (fun _ _ _ => True) 0 0 66 [(3, .int z.1)] [] z.2 K →
    am_R l yX6_when cX6_when 5 (some .int) rm_X6_when (fun _ _ _ => True) 0 0 21 [(0, .ref a0), (1, .int a1), (2, .int a2), (3, .int a3), (4, .int a4)] [] h K := by
  intro n
  induction n with
  | zero =>
    intro a3 a4 h z hm kE
    cases hm
  | succ n ih =>
    intro a3 a4 h z hm kE
    rw [lo_X6_when_21.eq_2] at hm
    refine r_iload 4 dX6_when_21 rfl ?_
    refine r_bipush 16 dX6_when_23 (by decide) ?_
    refine r_icmp_ge 66 dX6_when_25 (by decide) (fun q => ?_) (fun q => ?_)
    · rw [if_pos q] at hm
      cases hm
      exact r_lv [3] _ rfl kE
    · rw [if_neg q] at hm
      refine r_aload_n 0 dX6_when_28 rfl ?_
      obtain ⟨xq1, exq1, hm⟩ := am_bs hm
      refine r_getr exq1 fl_X6_36 rfl dX6_when_29 ?_
      refine r_aload_n 0 dX6_when_32 rfl ?_
      obtain ⟨xq2, exq2, hm⟩ := am_bs hm
      refine r_getr exq2 fl_X6_19 rfl dX6_when_33 ?_
      refine r_iload 4 dX6_when_36 rfl ?_
      obtain ⟨hq4, exq3, hm⟩ := am_bs hm
      refine r_cV0 [.ref xq2, .int a4] (ct_X2_walkToTime l exq3) vm_X6_131 (cs_X2_walkToTime exq3) (by decide) ⟨rfl, rfl⟩ rfl (Nat.le_of_ble_eq_true rfl) dX6_when_38 ?_
      refine r_aload_n 0 dX6_when_41 rfl ?_
      obtain ⟨xq5, exq5, hm⟩ := am_bs hm
      refine r_getr exq5 fl_X6_36 rfl dX6_when_42 ?_
      refine r_iload_n 1 dX6_when_45 rfl ?_
      refine r_iload_n 2 dX6_when_46 rfl ?_
      obtain ⟨xq6, exq6, hm⟩ := am_bs hm
      refine r_cV1 [.int a1, .int a2] (ct_X2_areJoined l exq6) vm_X6_161 (cs_X2_areJoined exq6) (by decide) ⟨rfl, rfl⟩ rfl (Nat.le_of_ble_eq_true rfl) dX6_when_47 ?_
      obtain ⟨jq7, hw, hm⟩ := am_bs hm
      try dsimp only at hm
      have HJ : am_R l yX6_when cX6_when 5 (some .int) rm_X6_when (fun _ _ _ => True) 0 0 60 [(0, .ref a0), (1, .int a1), (2, .int a2), (3, .int jq7), (4, .int a4)] [] hq4 K := by
        refine r_inc 1 4 [(4, .int (a4 + 1)), (0, .ref a0), (1, .int a1), (2, .int a2), (3, .int jq7)] dX6_when_60 (by decide) rfl (by decide) rfl ?_
        refine r_goto 21 dX6_when_63 (by decide) ?_
        exact r_lv [1, 2, 3, 4, 0] _ rfl (ih jq7 (a4 + 1) hq4 _ hm kE)
      clear hm
      have hm := hw
      clear hw
      refine r_if_eq 60 dX6_when_50 (by decide) (fun q => ?_) (fun q => ?_)
      · rw [if_neg (show ¬ xq6 = true from by rw [am_b0 q]; decide)] at hm
        cases hm
        exact r_lv [0, 1, 2, 3, 4] _ rfl HJ
      · rw [if_pos (show xq6 = true from am_b1 q)] at hm
        refine r_iload_n 3 dX6_when_53 rfl ?_
        refine r_iconst 1 dX6_when_54 (by decide) ?_
        refine r_iload 4 dX6_when_55 rfl ?_
        refine r_ishl dX6_when_57 ?_
        refine r_ior dX6_when_58 ?_
        refine r_istore_n [(3, .int (a3 ||| ((1 : Int32) <<< (a4 &&& 31)))), (0, .ref a0), (1, .int a1), (2, .int a2), (4, .int a4)] dX6_when_59 (by decide) rfl ?_
        cases hm
        exact r_lv [1, 2, 3, 0, 4] _ rfl HJ
def mi_X6_when (f : Nat) (h : am_H) (p : Nat) (a : Int32) (b : Int32) : Option (Int32 × am_H) :=
  Option.bind (am_cls h 6 p) fun _n =>
  Option.bind (mi_X6_isKnot f h a) fun xq1 =>
  (if xq1 = true then
  (Option.bind (mi_X6_isKnot f h b) fun xq2 =>
  (if xq2 = true then
  (Option.bind (lo_X6_when_21 f p a b f 0 0 h) fun (oq3, hq4) =>
  some (oq3, hq4))
  else (some ((-1), h))))
  else (some ((-1), h)))
theorem cs_X6_when {f : Nat} {h : am_H} {p : Nat} {a : Int32} {b : Int32} {z : (Int32 × am_H)} (hm : mi_X6_when f h p a b = some z) : ∃ n, h.1[p]? = some (6, n) := by
  unfold mi_X6_when at hm
  obtain ⟨n, hn, -⟩ := am_bs hm
  exact ⟨n, am_cls_of hn⟩
set_option maxHeartbeats 4000000 in
set_option maxRecDepth 100000 in
theorem ct_X6_when (l : Launch) {f : Nat} {h : am_H} {p : Nat} {a : Int32} {b : Int32} {r : Int32} {h2 : am_H} (hm : mi_X6_when f h p a b = some (r, h2)) : am_Ct l yX6_when cX6_when 5 (some .int) rm_X6_when [.ref p, .int a, .int b] h (some (.int r)) h2 := by
  refine am_met2 [(0, .ref p), (1, .int a), (2, .int b)] (by decide) (Nat.le_of_ble_eq_true rfl) rfl ?_
  generalize hK : (fun (v : Option Value) (h3 : am_H) => v = (some (.int r)) ∧ h3 = h2) = K
  have HK : K (some (.int r)) h2 := by rw [← hK]; exact ⟨rfl, rfl⟩
  clear hK
  unfold mi_X6_when at hm
  obtain ⟨_n, _hn, hm⟩ := am_bs hm
  refine r_iload_n 1 dX6_when_0 rfl ?_
  obtain ⟨xq1, exq1, hm⟩ := am_bs hm
  refine r_cS1 [.int a] (ct_X6_isKnot l exq1) sm_X6_150 (by decide) ⟨rfl, rfl⟩ rfl (Nat.le_of_ble_eq_true rfl) dX6_when_1 ?_
  refine r_if_eq 14 dX6_when_4 (by decide) (fun q => ?_) (fun q => ?_)
  · rw [if_neg (show ¬ xq1 = true from by rw [am_b0 q]; decide)] at hm
    refine r_iconst (-1) dX6_when_14 (by decide) ?_
    cases hm
    exact r_ireturn dX6_when_15 rfl (by decide) HK
  · rw [if_pos (show xq1 = true from am_b1 q)] at hm
    refine r_iload_n 2 dX6_when_7 rfl ?_
    obtain ⟨xq2, exq2, hm⟩ := am_bs hm
    refine r_cS1 [.int b] (ct_X6_isKnot l exq2) sm_X6_150 (by decide) ⟨rfl, rfl⟩ rfl (Nat.le_of_ble_eq_true rfl) dX6_when_8 ?_
    refine r_if_ne 16 dX6_when_11 (by decide) (fun q => ?_) (fun q => ?_)
    · rw [if_pos (show xq2 = true from am_b1 q)] at hm
      refine r_iconst 0 dX6_when_16 (by decide) ?_
      refine r_istore_n [(3, .int 0), (0, .ref p), (1, .int a), (2, .int b)] dX6_when_17 (by decide) rfl ?_
      refine r_iconst 0 dX6_when_18 (by decide) ?_
      refine r_istore [(4, .int 0), (3, .int 0), (0, .ref p), (1, .int a), (2, .int b)] dX6_when_19 (by decide) rfl ?_
      obtain ⟨⟨oq3, hq4⟩, ew, hm⟩ := am_bs hm
      try dsimp only at hm
      refine r_lv [2, 3, 4, 1, 0] _ rfl (ll_X6_when_21 l f p a b _ f 0 0 h _ ew ?_)
      refine r_iload_n 0 dX6_when_66 rfl ?_
      cases hm
      exact r_ireturn dX6_when_67 rfl (by decide) HK
    · rw [if_neg (show ¬ xq2 = true from by rw [am_b0 q]; decide)] at hm
      refine r_iconst (-1) dX6_when_14 (by decide) ?_
      cases hm
      exact r_ireturn dX6_when_15 rfl (by decide) HK
def mi_X6_wipe (f : Nat) (h : am_H) (p : Nat) : Option (Int32 × am_H) :=
  Option.bind (am_cls h 6 p) fun _n =>
  Option.bind (am_gr h 6 p 0) fun xq1 =>
  Option.bind (am_gi h 3 xq1 1) fun xq2 =>
  Option.bind (am_gr h 6 p 0) fun xq3 =>
  Option.bind (am_pi h 3 xq3 1 0) fun hq4 =>
  some (xq2, hq4)
theorem cs_X6_wipe {f : Nat} {h : am_H} {p : Nat} {z : (Int32 × am_H)} (hm : mi_X6_wipe f h p = some z) : ∃ n, h.1[p]? = some (6, n) := by
  unfold mi_X6_wipe at hm
  obtain ⟨n, hn, -⟩ := am_bs hm
  exact ⟨n, am_cls_of hn⟩
set_option maxHeartbeats 4000000 in
set_option maxRecDepth 100000 in
theorem ct_X6_wipe (l : Launch) {f : Nat} {h : am_H} {p : Nat} {r : Int32} {h2 : am_H} (hm : mi_X6_wipe f h p = some (r, h2)) : am_Ct l yX6_wipe cX6_wipe 2 (some .int) rm_X6_wipe [.ref p] h (some (.int r)) h2 := by
  refine am_met2 [(0, .ref p)] (by decide) (Nat.le_of_ble_eq_true rfl) rfl ?_
  generalize hK : (fun (v : Option Value) (h3 : am_H) => v = (some (.int r)) ∧ h3 = h2) = K
  have HK : K (some (.int r)) h2 := by rw [← hK]; exact ⟨rfl, rfl⟩
  clear hK
  unfold mi_X6_wipe at hm
  obtain ⟨_n, _hn, hm⟩ := am_bs hm
  refine r_aload_n 0 dX6_wipe_0 rfl ?_
  obtain ⟨xq1, exq1, hm⟩ := am_bs hm
  refine r_getr exq1 fl_X6_10 rfl dX6_wipe_1 ?_
  obtain ⟨xq2, exq2, hm⟩ := am_bs hm
  refine r_geti exq2 fl_X6_66 rfl dX6_wipe_4 ?_
  refine r_istore_n [(1, .int xq2), (0, .ref p)] dX6_wipe_7 (by decide) rfl ?_
  refine r_aload_n 1 dX6_wipe_8 rfl ?_
  obtain ⟨xq3, exq3, hm⟩ := am_bs hm
  refine r_getr exq3 fl_X6_10 rfl dX6_wipe_9 ?_
  refine r_iconst 0 dX6_wipe_12 (by decide) ?_
  obtain ⟨hq4, ehq4, hm⟩ := am_bs hm
  refine r_puti ehq4 fl_X6_66 rfl rfl dX6_wipe_13 ?_
  refine r_iload_n 0 dX6_wipe_16 rfl ?_
  cases hm
  exact r_ireturn dX6_wipe_17 rfl (by decide) HK
def lo_X6_lyingOnAll_4 (f : Nat) (h : am_H) (a0 : Nat) : Nat → Int32 → Int32 → Option (Int32)
  | 0, _, _ => none
  | n + 1, a1, a2 =>
  (if 31 < a2 then
  (some a1)
  else (Option.bind (am_gr h 6 a0 1) fun xq1 =>
  Option.bind (mi_X5_lyingOn f h xq1 a2) fun xq2 =>
  Option.bind (mi_J6_bitCount_0f7a4 f h xq2) fun xq3 =>
  lo_X6_lyingOnAll_4 f h a0 n (a1 + xq3) (a2 + 1)))
set_option maxHeartbeats 4000000 in
set_option maxRecDepth 100000 in
theorem ll_X6_lyingOnAll_4 (l : Launch) (f : Nat) (h : am_H) (a0 : Nat) (K : Option Value → am_H → Prop) : ∀ (n : Nat) (a1 : Int32) (a2 : Int32) (z : Int32), lo_X6_lyingOnAll_4 f h a0 n a1 a2 = some z →
    am_R l yX6_lyingOnAll cX6_lyingOnAll 3 (some .int) rm_X6_lyingOnAll (fun _ _ _ => True) 0 0 30 [(1, .int z)] [] h K →
    am_R l yX6_lyingOnAll cX6_lyingOnAll 3 (some .int) rm_X6_lyingOnAll (fun _ _ _ => True) 0 0 4 [(0, .ref a0), (1, .int a1), (2, .int a2)] [] h K := by
  intro n
  induction n with
  | zero =>
    intro a1 a2 z hm kE
    cases hm
  | succ n ih =>
    intro a1 a2 z hm kE
    rw [lo_X6_lyingOnAll_4.eq_2] at hm
    refine r_iload_n 2 dX6_lyingOnAll_4 rfl ?_
    refine r_bipush 31 dX6_lyingOnAll_5 (by decide) ?_
    refine r_icmp_gt 30 dX6_lyingOnAll_7 (by decide) (fun q => ?_) (fun q => ?_)
    · rw [if_pos q] at hm
      cases hm
      exact r_lv [1] _ rfl kE
    · rw [if_neg q] at hm
      refine r_iload_n 1 dX6_lyingOnAll_10 rfl ?_
      refine r_aload_n 0 dX6_lyingOnAll_11 rfl ?_
      obtain ⟨xq1, exq1, hm⟩ := am_bs hm
      refine r_getr exq1 fl_X6_19 rfl dX6_lyingOnAll_12 ?_
      refine r_iload_n 2 dX6_lyingOnAll_15 rfl ?_
      obtain ⟨xq2, exq2, hm⟩ := am_bs hm
      refine r_cV1 [.int a2] (ct_X5_lyingOn l exq2) vm_X6_102 (cs_X5_lyingOn exq2) (by decide) ⟨rfl, rfl⟩ rfl (Nat.le_of_ble_eq_true rfl) dX6_lyingOnAll_16 ?_
      obtain ⟨xq3, exq3, hm⟩ := am_bs hm
      refine r_cS1 [.int xq2] (ct_J6_bitCount_0f7a4 l exq3) sm_X6_177 (by decide) ⟨rfl, rfl⟩ rfl (Nat.le_of_ble_eq_true rfl) dX6_lyingOnAll_19 ?_
      refine r_iadd dX6_lyingOnAll_22 ?_
      refine r_istore_n [(1, .int (a1 + xq3)), (0, .ref a0), (2, .int a2)] dX6_lyingOnAll_23 (by decide) rfl ?_
      refine r_inc 1 2 [(2, .int (a2 + 1)), (1, .int (a1 + xq3)), (0, .ref a0)] dX6_lyingOnAll_24 (by decide) rfl (by decide) rfl ?_
      refine r_goto 4 dX6_lyingOnAll_27 (by decide) ?_
      exact r_lv [2, 1, 0] _ rfl (ih (a1 + xq3) (a2 + 1) _ hm kE)
def mi_X6_lyingOnAll (f : Nat) (h : am_H) (p : Nat) : Option Int32 :=
  Option.bind (am_cls h 6 p) fun _n =>
  Option.bind (lo_X6_lyingOnAll_4 f h p f 0 1) fun oq1 =>
  some oq1
theorem cs_X6_lyingOnAll {f : Nat} {h : am_H} {p : Nat} {z : Int32} (hm : mi_X6_lyingOnAll f h p = some z) : ∃ n, h.1[p]? = some (6, n) := by
  unfold mi_X6_lyingOnAll at hm
  obtain ⟨n, hn, -⟩ := am_bs hm
  exact ⟨n, am_cls_of hn⟩
set_option maxHeartbeats 4000000 in
set_option maxRecDepth 100000 in
theorem ct_X6_lyingOnAll (l : Launch) {f : Nat} {h : am_H} {p : Nat} {r : Int32} (hm : mi_X6_lyingOnAll f h p = some r) : am_Ct l yX6_lyingOnAll cX6_lyingOnAll 3 (some .int) rm_X6_lyingOnAll [.ref p] h (some (.int r)) h := by
  refine am_met2 [(0, .ref p)] (by decide) (Nat.le_of_ble_eq_true rfl) rfl ?_
  generalize hK : (fun (v : Option Value) (h3 : am_H) => v = (some (.int r)) ∧ h3 = h) = K
  have HK : K (some (.int r)) h := by rw [← hK]; exact ⟨rfl, rfl⟩
  clear hK
  unfold mi_X6_lyingOnAll at hm
  obtain ⟨_n, _hn, hm⟩ := am_bs hm
  refine r_iconst 0 dX6_lyingOnAll_0 (by decide) ?_
  refine r_istore_n [(1, .int 0), (0, .ref p)] dX6_lyingOnAll_1 (by decide) rfl ?_
  refine r_iconst 1 dX6_lyingOnAll_2 (by decide) ?_
  refine r_istore_n [(2, .int 1), (1, .int 0), (0, .ref p)] dX6_lyingOnAll_3 (by decide) rfl ?_
  obtain ⟨oq1, ew, hm⟩ := am_bs hm
  try dsimp only at hm
  refine r_lv [2, 1, 0] _ rfl (ll_X6_lyingOnAll_4 l f h p _ f 0 1 _ ew ?_)
  refine r_iload_n 0 dX6_lyingOnAll_30 rfl ?_
  cases hm
  exact r_ireturn dX6_lyingOnAll_31 rfl (by decide) HK
def lo_X6_joiningOnAll_4 (f : Nat) (a0 : Nat) : Nat → Int32 → Int32 → am_H → Option (Int32 × am_H)
  | 0, _, _, _ => none
  | n + 1, a1, a2, h =>
  (if 31 < a2 then
  (some (a1, h))
  else (Option.bind (am_gr h 6 a0 4) fun xq1 =>
  Option.bind (am_gr h 6 a0 1) fun xq2 =>
  Option.bind (mi_X2_walkToNode f h xq1 xq2 a2) fun (xq3, hq4) =>
  lo_X6_joiningOnAll_4 f a0 n (a1 + xq3) (a2 + 1) hq4))
set_option maxHeartbeats 4000000 in
set_option maxRecDepth 100000 in
theorem ll_X6_joiningOnAll_4 (l : Launch) (f : Nat) (a0 : Nat) (K : Option Value → am_H → Prop) : ∀ (n : Nat) (a1 : Int32) (a2 : Int32) (h : am_H) (z : Int32 × am_H), lo_X6_joiningOnAll_4 f a0 n a1 a2 h = some z →
    am_R l yX6_joiningOnAll cX6_joiningOnAll 3 (some .int) rm_X6_joiningOnAll (fun _ _ _ => True) 0 0 31 [(1, .int z.1)] [] z.2 K →
    am_R l yX6_joiningOnAll cX6_joiningOnAll 3 (some .int) rm_X6_joiningOnAll (fun _ _ _ => True) 0 0 4 [(0, .ref a0), (1, .int a1), (2, .int a2)] [] h K := by
  intro n
  induction n with
  | zero =>
    intro a1 a2 h z hm kE
    cases hm
  | succ n ih =>
    intro a1 a2 h z hm kE
    rw [lo_X6_joiningOnAll_4.eq_2] at hm
    refine r_iload_n 2 dX6_joiningOnAll_4 rfl ?_
    refine r_bipush 31 dX6_joiningOnAll_5 (by decide) ?_
    refine r_icmp_gt 31 dX6_joiningOnAll_7 (by decide) (fun q => ?_) (fun q => ?_)
    · rw [if_pos q] at hm
      cases hm
      exact r_lv [1] _ rfl kE
    · rw [if_neg q] at hm
      refine r_iload_n 1 dX6_joiningOnAll_10 rfl ?_
      refine r_aload_n 0 dX6_joiningOnAll_11 rfl ?_
      obtain ⟨xq1, exq1, hm⟩ := am_bs hm
      refine r_getr exq1 fl_X6_36 rfl dX6_joiningOnAll_12 ?_
      refine r_aload_n 0 dX6_joiningOnAll_15 rfl ?_
      obtain ⟨xq2, exq2, hm⟩ := am_bs hm
      refine r_getr exq2 fl_X6_19 rfl dX6_joiningOnAll_16 ?_
      refine r_iload_n 2 dX6_joiningOnAll_19 rfl ?_
      obtain ⟨⟨xq3, hq4⟩, exq3, hm⟩ := am_bs hm
      try dsimp only at hm
      refine r_cV1 [.ref xq2, .int a2] (ct_X2_walkToNode l exq3) vm_X6_182 (cs_X2_walkToNode exq3) (by decide) ⟨rfl, rfl⟩ rfl (Nat.le_of_ble_eq_true rfl) dX6_joiningOnAll_20 ?_
      refine r_iadd dX6_joiningOnAll_23 ?_
      refine r_istore_n [(1, .int (a1 + xq3)), (0, .ref a0), (2, .int a2)] dX6_joiningOnAll_24 (by decide) rfl ?_
      refine r_inc 1 2 [(2, .int (a2 + 1)), (1, .int (a1 + xq3)), (0, .ref a0)] dX6_joiningOnAll_25 (by decide) rfl (by decide) rfl ?_
      refine r_goto 4 dX6_joiningOnAll_28 (by decide) ?_
      exact r_lv [2, 1, 0] _ rfl (ih (a1 + xq3) (a2 + 1) hq4 _ hm kE)
def mi_X6_joiningOnAll (f : Nat) (h : am_H) (p : Nat) : Option (Int32 × am_H) :=
  Option.bind (am_cls h 6 p) fun _n =>
  Option.bind (lo_X6_joiningOnAll_4 f p f 0 1 h) fun (oq1, hq2) =>
  some (oq1, hq2)
theorem cs_X6_joiningOnAll {f : Nat} {h : am_H} {p : Nat} {z : (Int32 × am_H)} (hm : mi_X6_joiningOnAll f h p = some z) : ∃ n, h.1[p]? = some (6, n) := by
  unfold mi_X6_joiningOnAll at hm
  obtain ⟨n, hn, -⟩ := am_bs hm
  exact ⟨n, am_cls_of hn⟩
set_option maxHeartbeats 4000000 in
set_option maxRecDepth 100000 in
theorem ct_X6_joiningOnAll (l : Launch) {f : Nat} {h : am_H} {p : Nat} {r : Int32} {h2 : am_H} (hm : mi_X6_joiningOnAll f h p = some (r, h2)) : am_Ct l yX6_joiningOnAll cX6_joiningOnAll 3 (some .int) rm_X6_joiningOnAll [.ref p] h (some (.int r)) h2 := by
  refine am_met2 [(0, .ref p)] (by decide) (Nat.le_of_ble_eq_true rfl) rfl ?_
  generalize hK : (fun (v : Option Value) (h3 : am_H) => v = (some (.int r)) ∧ h3 = h2) = K
  have HK : K (some (.int r)) h2 := by rw [← hK]; exact ⟨rfl, rfl⟩
  clear hK
  unfold mi_X6_joiningOnAll at hm
  obtain ⟨_n, _hn, hm⟩ := am_bs hm
  refine r_iconst 0 dX6_joiningOnAll_0 (by decide) ?_
  refine r_istore_n [(1, .int 0), (0, .ref p)] dX6_joiningOnAll_1 (by decide) rfl ?_
  refine r_iconst 1 dX6_joiningOnAll_2 (by decide) ?_
  refine r_istore_n [(2, .int 1), (1, .int 0), (0, .ref p)] dX6_joiningOnAll_3 (by decide) rfl ?_
  obtain ⟨⟨oq1, hq2⟩, ew, hm⟩ := am_bs hm
  try dsimp only at hm
  refine r_lv [2, 1, 0] _ rfl (ll_X6_joiningOnAll_4 l f p _ f 0 1 h _ ew ?_)
  refine r_iload_n 0 dX6_joiningOnAll_31 rfl ?_
  cases hm
  exact r_ireturn dX6_joiningOnAll_32 rfl (by decide) HK
def mi_X6_work (f : Nat) (h : am_H) (p : Nat) (a : Int32) : Option (Int32 × am_H) :=
  Option.bind (am_cls h 6 p) fun _n =>
  (if a = 0 then
  (Option.bind (mi_X6_lyingOnAll f h p) fun xq1 =>
  some (xq1, h))
  else (if a = 1 then
  (Option.bind (mi_X6_joiningOnAll f h p) fun (xq2, hq3) =>
  some (xq2, hq3))
  else (some ((-2), h))))
theorem cs_X6_work {f : Nat} {h : am_H} {p : Nat} {a : Int32} {z : (Int32 × am_H)} (hm : mi_X6_work f h p a = some z) : ∃ n, h.1[p]? = some (6, n) := by
  unfold mi_X6_work at hm
  obtain ⟨n, hn, -⟩ := am_bs hm
  exact ⟨n, am_cls_of hn⟩
set_option maxHeartbeats 4000000 in
set_option maxRecDepth 100000 in
theorem ct_X6_work (l : Launch) {f : Nat} {h : am_H} {p : Nat} {a : Int32} {r : Int32} {h2 : am_H} (hm : mi_X6_work f h p a = some (r, h2)) : am_Ct l yX6_work cX6_work 2 (some .int) rm_X6_work [.ref p, .int a] h (some (.int r)) h2 := by
  refine am_met2 [(0, .ref p), (1, .int a)] (by decide) (Nat.le_of_ble_eq_true rfl) rfl ?_
  generalize hK : (fun (v : Option Value) (h3 : am_H) => v = (some (.int r)) ∧ h3 = h2) = K
  have HK : K (some (.int r)) h2 := by rw [← hK]; exact ⟨rfl, rfl⟩
  clear hK
  unfold mi_X6_work at hm
  obtain ⟨_n, _hn, hm⟩ := am_bs hm
  refine r_iload_n 1 dX6_work_0 rfl ?_
  by_cases q0 : a = 0
  · rw [if_pos q0] at hm
    refine r_lsw 28 dX6_work_1 (by decide) (by rw [q0]; decide) ?_
    refine r_aload_n 0 dX6_work_28 rfl ?_
    obtain ⟨xq1, exq1, hm⟩ := am_bs hm
    refine r_cV1 [] (ct_X6_lyingOnAll l exq1) vm_X6_171 (cs_X6_lyingOnAll exq1) (by decide) ⟨rfl, rfl⟩ rfl (Nat.le_of_ble_eq_true rfl) dX6_work_29 ?_
    cases hm
    exact r_ireturn dX6_work_32 rfl (by decide) HK
  rw [if_neg q0] at hm
  by_cases q1 : a = 1
  · rw [if_pos q1] at hm
    refine r_lsw 33 dX6_work_1 (by decide) (by rw [q1]; decide) ?_
    refine r_aload_n 0 dX6_work_33 rfl ?_
    obtain ⟨⟨xq2, hq3⟩, exq2, hm⟩ := am_bs hm
    try dsimp only at hm
    refine r_cV1 [] (ct_X6_joiningOnAll l exq2) vm_X6_174 (cs_X6_joiningOnAll exq2) (by decide) ⟨rfl, rfl⟩ rfl (Nat.le_of_ble_eq_true rfl) dX6_work_34 ?_
    cases hm
    exact r_ireturn dX6_work_37 rfl (by decide) HK
  rw [if_neg q1] at hm
  refine r_lsw 38 dX6_work_1 (by decide) (by rw [lv_osw q0 (show (0 : Int32).toInt = 0 from by decide), lv_osw q1 (show (1 : Int32).toInt = 1 from by decide)]; rfl) ?_
  refine r_bipush (-2) dX6_work_38 (by decide) ?_
  cases hm
  exact r_ireturn dX6_work_40 rfl (by decide) HK
def mi_X6_write (f : Nat) (h : am_H) (p : Nat) (a : Int32) : Option (Int32 × am_H) :=
  Option.bind (am_cls h 6 p) fun _n =>
  (if a < 0 then
  (some ((-2), h))
  else ((if a ≤ 255 then
  (Option.bind (am_gr h 6 p 0) fun xq1 =>
  Option.bind (mi_X3_append f h xq1 a) fun (xq2, hq3) =>
  some (xq2, hq3))
  else (some ((-2), h)))))
theorem cs_X6_write {f : Nat} {h : am_H} {p : Nat} {a : Int32} {z : (Int32 × am_H)} (hm : mi_X6_write f h p a = some z) : ∃ n, h.1[p]? = some (6, n) := by
  unfold mi_X6_write at hm
  obtain ⟨n, hn, -⟩ := am_bs hm
  exact ⟨n, am_cls_of hn⟩
set_option maxHeartbeats 4000000 in
set_option maxRecDepth 100000 in
theorem ct_X6_write (l : Launch) {f : Nat} {h : am_H} {p : Nat} {a : Int32} {r : Int32} {h2 : am_H} (hm : mi_X6_write f h p a = some (r, h2)) : am_Ct l yX6_write cX6_write 2 (some .int) rm_X6_write [.ref p, .int a] h (some (.int r)) h2 := by
  refine am_met2 [(0, .ref p), (1, .int a)] (by decide) (Nat.le_of_ble_eq_true rfl) rfl ?_
  generalize hK : (fun (v : Option Value) (h3 : am_H) => v = (some (.int r)) ∧ h3 = h2) = K
  have HK : K (some (.int r)) h2 := by rw [← hK]; exact ⟨rfl, rfl⟩
  clear hK
  unfold mi_X6_write at hm
  obtain ⟨_n, _hn, hm⟩ := am_bs hm
  refine r_iload_n 1 dX6_write_0 rfl ?_
  refine r_if_lt 11 dX6_write_1 (by decide) (fun q => ?_) (fun q => ?_)
  · rw [if_pos q] at hm
    refine r_bipush (-2) dX6_write_11 (by decide) ?_
    cases hm
    exact r_ireturn dX6_write_13 rfl (by decide) HK
  · rw [if_neg q] at hm
    refine r_iload_n 1 dX6_write_4 rfl ?_
    refine r_sipush 255 dX6_write_5 (by decide) ?_
    refine r_icmp_le 14 dX6_write_8 (by decide) (fun q => ?_) (fun q => ?_)
    · rw [if_pos q] at hm
      refine r_aload_n 0 dX6_write_14 rfl ?_
      obtain ⟨xq1, exq1, hm⟩ := am_bs hm
      refine r_getr exq1 fl_X6_10 rfl dX6_write_15 ?_
      refine r_iload_n 1 dX6_write_18 rfl ?_
      obtain ⟨⟨xq2, hq3⟩, exq2, hm⟩ := am_bs hm
      try dsimp only at hm
      refine r_cV1 [.int a] (ct_X3_append l exq2) vm_X6_62 (cs_X3_append exq2) (by decide) ⟨rfl, rfl⟩ rfl (Nat.le_of_ble_eq_true rfl) dX6_write_19 ?_
      cases hm
      exact r_ireturn dX6_write_22 rfl (by decide) HK
    · rw [if_neg q] at hm
      refine r_bipush (-2) dX6_write_11 (by decide) ?_
      cases hm
      exact r_ireturn dX6_write_13 rfl (by decide) HK
