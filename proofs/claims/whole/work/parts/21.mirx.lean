def mi_X5_takeFrom (f : Nat) (h : am_H) (p : Nat) (a : Nat) (b : Int32) (c : Int32) : Option am_H :=
  Option.bind (am_cls h 5 p) fun _n =>
  Option.bind (am_gr h 5 p 0) fun xq1 =>
  Option.bind (am_gr h 5 a 0) fun xq2 =>
  Option.bind (am_li h 9 xq2 b) fun xq3 =>
  Option.bind (am_si h 9 xq1 c xq3) fun hq4 =>
  Option.bind (am_gr hq4 5 p 1) fun xq5 =>
  Option.bind (am_gr hq4 5 a 1) fun xq6 =>
  Option.bind (am_li hq4 9 xq6 b) fun xq7 =>
  Option.bind (am_si hq4 9 xq5 c xq7) fun hq8 =>
  Option.bind (am_gr hq8 5 p 2) fun xq9 =>
  Option.bind (am_gr hq8 5 a 2) fun xq10 =>
  Option.bind (am_li hq8 9 xq10 b) fun xq11 =>
  Option.bind (am_si hq8 9 xq9 c xq11) fun hq12 =>
  Option.bind (am_gr hq12 5 p 3) fun xq13 =>
  Option.bind (am_gr hq12 5 a 3) fun xq14 =>
  Option.bind (am_li hq12 9 xq14 b) fun xq15 =>
  Option.bind (am_si hq12 9 xq13 c xq15) fun hq16 =>
  some hq16
theorem cs_X5_takeFrom {f : Nat} {h : am_H} {p : Nat} {a : Nat} {b : Int32} {c : Int32} {z : am_H} (hm : mi_X5_takeFrom f h p a b c = some z) : ∃ n, h.1[p]? = some (5, n) := by
  unfold mi_X5_takeFrom at hm
  obtain ⟨n, hn, -⟩ := am_bs hm
  exact ⟨n, am_cls_of hn⟩
set_option maxHeartbeats 4000000 in
set_option maxRecDepth 100000 in
theorem ct_X5_takeFrom (l : Launch) {f : Nat} {h : am_H} {p : Nat} {a : Nat} {b : Int32} {c : Int32} {h2 : am_H} (hm : mi_X5_takeFrom f h p a b c = some h2) : am_Ct l yX5_takeFrom cX5_takeFrom 4 (none) rm_X5_takeFrom [.ref p, .ref a, .int b, .int c] h none h2 := by
  refine am_met2 [(0, .ref p), (1, .ref a), (2, .int b), (3, .int c)] (by decide) (Nat.le_of_ble_eq_true rfl) rfl ?_
  generalize hK : (fun (v : Option Value) (h3 : am_H) => v = none ∧ h3 = h2) = K
  have HK : K none h2 := by rw [← hK]; exact ⟨rfl, rfl⟩
  clear hK
  unfold mi_X5_takeFrom at hm
  obtain ⟨_n, _hn, hm⟩ := am_bs hm
  refine r_aload_n 0 dX5_takeFrom_0 rfl ?_
  obtain ⟨xq1, exq1, hm⟩ := am_bs hm
  refine r_getr exq1 fl_X5_9 rfl dX5_takeFrom_1 ?_
  refine r_iload_n 3 dX5_takeFrom_4 rfl ?_
  refine r_aload_n 1 dX5_takeFrom_5 rfl ?_
  obtain ⟨xq2, exq2, hm⟩ := am_bs hm
  refine r_getr exq2 fl_X5_9 rfl dX5_takeFrom_6 ?_
  refine r_iload_n 2 dX5_takeFrom_9 rfl ?_
  obtain ⟨xq3, exq3, hm⟩ := am_bs hm
  refine r_iald exq3 dX5_takeFrom_10 ?_
  obtain ⟨hq4, ehq4, hm⟩ := am_bs hm
  refine r_iast ehq4 dX5_takeFrom_11 ?_
  refine r_aload_n 0 dX5_takeFrom_12 rfl ?_
  obtain ⟨xq5, exq5, hm⟩ := am_bs hm
  refine r_getr exq5 fl_X5_15 rfl dX5_takeFrom_13 ?_
  refine r_iload_n 3 dX5_takeFrom_16 rfl ?_
  refine r_aload_n 1 dX5_takeFrom_17 rfl ?_
  obtain ⟨xq6, exq6, hm⟩ := am_bs hm
  refine r_getr exq6 fl_X5_15 rfl dX5_takeFrom_18 ?_
  refine r_iload_n 2 dX5_takeFrom_21 rfl ?_
  obtain ⟨xq7, exq7, hm⟩ := am_bs hm
  refine r_iald exq7 dX5_takeFrom_22 ?_
  obtain ⟨hq8, ehq8, hm⟩ := am_bs hm
  refine r_iast ehq8 dX5_takeFrom_23 ?_
  refine r_aload_n 0 dX5_takeFrom_24 rfl ?_
  obtain ⟨xq9, exq9, hm⟩ := am_bs hm
  refine r_getr exq9 fl_X5_18 rfl dX5_takeFrom_25 ?_
  refine r_iload_n 3 dX5_takeFrom_28 rfl ?_
  refine r_aload_n 1 dX5_takeFrom_29 rfl ?_
  obtain ⟨xq10, exq10, hm⟩ := am_bs hm
  refine r_getr exq10 fl_X5_18 rfl dX5_takeFrom_30 ?_
  refine r_iload_n 2 dX5_takeFrom_33 rfl ?_
  obtain ⟨xq11, exq11, hm⟩ := am_bs hm
  refine r_iald exq11 dX5_takeFrom_34 ?_
  obtain ⟨hq12, ehq12, hm⟩ := am_bs hm
  refine r_iast ehq12 dX5_takeFrom_35 ?_
  refine r_aload_n 0 dX5_takeFrom_36 rfl ?_
  obtain ⟨xq13, exq13, hm⟩ := am_bs hm
  refine r_getr exq13 fl_X5_21 rfl dX5_takeFrom_37 ?_
  refine r_iload_n 3 dX5_takeFrom_40 rfl ?_
  refine r_aload_n 1 dX5_takeFrom_41 rfl ?_
  obtain ⟨xq14, exq14, hm⟩ := am_bs hm
  refine r_getr exq14 fl_X5_21 rfl dX5_takeFrom_42 ?_
  refine r_iload_n 2 dX5_takeFrom_45 rfl ?_
  obtain ⟨xq15, exq15, hm⟩ := am_bs hm
  refine r_iald exq15 dX5_takeFrom_46 ?_
  obtain ⟨hq16, ehq16, hm⟩ := am_bs hm
  refine r_iast ehq16 dX5_takeFrom_47 ?_
  cases hm
  exact r_return dX5_takeFrom_48 rfl (by decide) HK
def lo_X5_copyOf_10 (f : Nat) (a0 : Nat) (a1 : Nat) : Nat → Int32 → am_H → Option (am_H)
  | 0, _, _ => none
  | n + 1, a2, h =>
  Option.bind (am_gi h 5 a0 4) fun xq1 =>
  (if xq1 ≤ a2 then
  (some h)
  else (Option.bind (mi_X5_takeFrom f h a0 a1 a2 a2) fun hq3 =>
  lo_X5_copyOf_10 f a0 a1 n (a2 + 1) hq3))
set_option maxHeartbeats 4000000 in
set_option maxRecDepth 100000 in
theorem ll_X5_copyOf_10 (l : Launch) (f : Nat) (a0 : Nat) (a1 : Nat) (K : Option Value → am_H → Prop) : ∀ (n : Nat) (a2 : Int32) (h : am_H) (z : am_H), lo_X5_copyOf_10 f a0 a1 n a2 h = some z →
    am_R l yX5_copyOf cX5_copyOf 3 (none) rm_X5_copyOf (fun _ _ _ => True) 0 0 31 [] [] z K →
    am_R l yX5_copyOf cX5_copyOf 3 (none) rm_X5_copyOf (fun _ _ _ => True) 0 0 10 [(0, .ref a0), (1, .ref a1), (2, .int a2)] [] h K := by
  intro n
  induction n with
  | zero =>
    intro a2 h z hm kE
    cases hm
  | succ n ih =>
    intro a2 h z hm kE
    rw [lo_X5_copyOf_10.eq_2] at hm
    refine r_iload_n 2 dX5_copyOf_10 rfl ?_
    refine r_aload_n 0 dX5_copyOf_11 rfl ?_
    obtain ⟨xq1, exq1, hm⟩ := am_bs hm
    refine r_geti exq1 fl_X5_24 rfl dX5_copyOf_12 ?_
    refine r_icmp_ge 31 dX5_copyOf_15 (by decide) (fun q => ?_) (fun q => ?_)
    · rw [if_pos q] at hm
      cases hm
      exact r_lv [] _ rfl kE
    · rw [if_neg q] at hm
      refine r_aload_n 0 dX5_copyOf_18 rfl ?_
      refine r_aload_n 1 dX5_copyOf_19 rfl ?_
      refine r_iload_n 2 dX5_copyOf_20 rfl ?_
      refine r_iload_n 2 dX5_copyOf_21 rfl ?_
      obtain ⟨hq3, exq2, hm⟩ := am_bs hm
      refine r_cV0 [.ref a1, .int a2, .int a2] (ct_X5_takeFrom l exq2) vm_X5_28 (cs_X5_takeFrom exq2) (by decide) ⟨rfl, rfl⟩ rfl (Nat.le_of_ble_eq_true rfl) dX5_copyOf_22 ?_
      refine r_inc 1 2 [(2, .int (a2 + 1)), (0, .ref a0), (1, .ref a1)] dX5_copyOf_25 (by decide) rfl (by decide) rfl ?_
      refine r_goto 10 dX5_copyOf_28 (by decide) ?_
      exact r_lv [1, 2, 0] _ rfl (ih (a2 + 1) hq3 _ hm kE)
def mi_X5_copyOf (f : Nat) (h : am_H) (p : Nat) (a : Nat) : Option am_H :=
  Option.bind (am_cls h 5 p) fun _n =>
  Option.bind (am_gi h 5 a 4) fun xq1 =>
  Option.bind (am_pi h 5 p 4 xq1) fun hq2 =>
  Option.bind (lo_X5_copyOf_10 f p a f 0 hq2) fun hq3 =>
  some hq3
theorem cs_X5_copyOf {f : Nat} {h : am_H} {p : Nat} {a : Nat} {z : am_H} (hm : mi_X5_copyOf f h p a = some z) : ∃ n, h.1[p]? = some (5, n) := by
  unfold mi_X5_copyOf at hm
  obtain ⟨n, hn, -⟩ := am_bs hm
  exact ⟨n, am_cls_of hn⟩
set_option maxHeartbeats 4000000 in
set_option maxRecDepth 100000 in
theorem ct_X5_copyOf (l : Launch) {f : Nat} {h : am_H} {p : Nat} {a : Nat} {h2 : am_H} (hm : mi_X5_copyOf f h p a = some h2) : am_Ct l yX5_copyOf cX5_copyOf 3 (none) rm_X5_copyOf [.ref p, .ref a] h none h2 := by
  refine am_met2 [(0, .ref p), (1, .ref a)] (by decide) (Nat.le_of_ble_eq_true rfl) rfl ?_
  generalize hK : (fun (v : Option Value) (h3 : am_H) => v = none ∧ h3 = h2) = K
  have HK : K none h2 := by rw [← hK]; exact ⟨rfl, rfl⟩
  clear hK
  unfold mi_X5_copyOf at hm
  obtain ⟨_n, _hn, hm⟩ := am_bs hm
  refine r_aload_n 0 dX5_copyOf_0 rfl ?_
  refine r_aload_n 1 dX5_copyOf_1 rfl ?_
  obtain ⟨xq1, exq1, hm⟩ := am_bs hm
  refine r_geti exq1 fl_X5_24 rfl dX5_copyOf_2 ?_
  obtain ⟨hq2, ehq2, hm⟩ := am_bs hm
  refine r_puti ehq2 fl_X5_24 rfl rfl dX5_copyOf_5 ?_
  refine r_iconst 0 dX5_copyOf_8 (by decide) ?_
  refine r_istore_n [(2, .int 0), (0, .ref p), (1, .ref a)] dX5_copyOf_9 (by decide) rfl ?_
  obtain ⟨hq3, ew, hm⟩ := am_bs hm
  try dsimp only at hm
  refine r_lv [1, 2, 0] _ rfl (ll_X5_copyOf_10 l f p a _ f 0 hq2 _ ew ?_)
  cases hm
  exact r_return dX5_copyOf_31 rfl (by decide) HK
def mi_X6_isTime (f : Nat) (h : am_H) (a : Int32) : Option Bool :=
  Option.bind ((if a < 0 then
  (some false)
  else ((if 16 ≤ a then
  (some false)
  else (some true))))) fun jq1 =>
  some jq1
set_option maxHeartbeats 4000000 in
set_option maxRecDepth 100000 in
theorem ct_X6_isTime (l : Launch) {f : Nat} {h : am_H} {a : Int32} {r : Bool} (hm : mi_X6_isTime f h a = some r) : am_Ct l yX6_isTime cX6_isTime 1 (some .boolean) rm_X6_isTime [.int a] h (some (.int (am_b r))) h := by
  refine am_met2 [(0, .int a)] (by decide) (Nat.le_of_ble_eq_true rfl) rfl ?_
  generalize hK : (fun (v : Option Value) (h3 : am_H) => v = (some (.int (am_b r))) ∧ h3 = h) = K
  have HK : K (some (.int (am_b r))) h := by rw [← hK]; exact ⟨rfl, rfl⟩
  clear hK
  unfold mi_X6_isTime at hm
  refine r_iload_n 0 dX6_isTime_0 rfl ?_
  obtain ⟨jq1, hw, hm⟩ := am_bs hm
  try dsimp only at hm
  have HJ : am_R l yX6_isTime cX6_isTime 1 (some .boolean) rm_X6_isTime (fun _ _ _ => True) 0 0 15 [] [.int (am_b jq1)] h K := by
    cases hm
    exact r_zreturn _ dX6_isTime_15 rfl (by decide) HK
  clear hm
  have hm := hw
  clear hw
  refine r_if_lt 14 dX6_isTime_1 (by decide) (fun q => ?_) (fun q => ?_)
  · rw [if_pos q] at hm
    refine r_iconst 0 dX6_isTime_14 (by decide) ?_
    cases hm
    exact r_lv [] _ rfl HJ
  · rw [if_neg q] at hm
    refine r_iload_n 0 dX6_isTime_4 rfl ?_
    refine r_bipush 16 dX6_isTime_5 (by decide) ?_
    refine r_icmp_ge 14 dX6_isTime_7 (by decide) (fun q => ?_) (fun q => ?_)
    · rw [if_pos q] at hm
      refine r_iconst 0 dX6_isTime_14 (by decide) ?_
      cases hm
      exact r_lv [] _ rfl HJ
    · rw [if_neg q] at hm
      refine r_iconst 1 dX6_isTime_10 (by decide) ?_
      refine r_goto 15 dX6_isTime_11 (by decide) ?_
      cases hm
      exact r_lv [] _ rfl HJ
def lo_X2_takeApart_2 (f : Nat) (a0 : Nat) : Nat → Int32 → am_H → Option (am_H)
  | 0, _, _ => none
  | n + 1, a1, h =>
  (if 8 ≤ a1 then
  (some h)
  else (Option.bind (am_gr h 2 a0 0) fun xq1 =>
  Option.bind (am_si h 9 xq1 a1 a1) fun hq2 =>
  Option.bind (am_gr hq2 2 a0 1) fun xq3 =>
  Option.bind (am_si hq2 9 xq3 a1 1) fun hq4 =>
  Option.bind (am_gr hq4 2 a0 2) fun xq5 =>
  Option.bind (am_si hq4 9 xq5 a1 0) fun hq6 =>
  Option.bind (am_gr hq6 2 a0 3) fun xq7 =>
  Option.bind (am_si hq6 10 xq7 a1 (vp_nar .boolean 0)) fun hq8 =>
  lo_X2_takeApart_2 f a0 n (a1 + 1) hq8))
set_option maxHeartbeats 4000000 in
set_option maxRecDepth 100000 in
theorem ll_X2_takeApart_2 (l : Launch) (f : Nat) (a0 : Nat) (K : Option Value → am_H → Prop) : ∀ (n : Nat) (a1 : Int32) (h : am_H) (z : am_H), lo_X2_takeApart_2 f a0 n a1 h = some z →
    am_R l yX2_takeApart cX2_takeApart 2 (none) rm_X2_takeApart (fun _ _ _ => True) 0 0 42 [] [] z K →
    am_R l yX2_takeApart cX2_takeApart 2 (none) rm_X2_takeApart (fun _ _ _ => True) 0 0 2 [(0, .ref a0), (1, .int a1)] [] h K := by
  intro n
  induction n with
  | zero =>
    intro a1 h z hm kE
    cases hm
  | succ n ih =>
    intro a1 h z hm kE
    rw [lo_X2_takeApart_2.eq_2] at hm
    refine r_iload_n 1 dX2_takeApart_2 rfl ?_
    refine r_bipush 8 dX2_takeApart_3 (by decide) ?_
    refine r_icmp_ge 42 dX2_takeApart_5 (by decide) (fun q => ?_) (fun q => ?_)
    · rw [if_pos q] at hm
      cases hm
      exact r_lv [] _ rfl kE
    · rw [if_neg q] at hm
      refine r_aload_n 0 dX2_takeApart_8 rfl ?_
      obtain ⟨xq1, exq1, hm⟩ := am_bs hm
      refine r_getr exq1 fl_X2_9 rfl dX2_takeApart_9 ?_
      refine r_iload_n 1 dX2_takeApart_12 rfl ?_
      refine r_iload_n 1 dX2_takeApart_13 rfl ?_
      obtain ⟨hq2, ehq2, hm⟩ := am_bs hm
      refine r_iast ehq2 dX2_takeApart_14 ?_
      refine r_aload_n 0 dX2_takeApart_15 rfl ?_
      obtain ⟨xq3, exq3, hm⟩ := am_bs hm
      refine r_getr exq3 fl_X2_15 rfl dX2_takeApart_16 ?_
      refine r_iload_n 1 dX2_takeApart_19 rfl ?_
      refine r_iconst 1 dX2_takeApart_20 (by decide) ?_
      obtain ⟨hq4, ehq4, hm⟩ := am_bs hm
      refine r_iast ehq4 dX2_takeApart_21 ?_
      refine r_aload_n 0 dX2_takeApart_22 rfl ?_
      obtain ⟨xq5, exq5, hm⟩ := am_bs hm
      refine r_getr exq5 fl_X2_18 rfl dX2_takeApart_23 ?_
      refine r_iload_n 1 dX2_takeApart_26 rfl ?_
      refine r_iconst 0 dX2_takeApart_27 (by decide) ?_
      obtain ⟨hq6, ehq6, hm⟩ := am_bs hm
      refine r_iast ehq6 dX2_takeApart_28 ?_
      refine r_aload_n 0 dX2_takeApart_29 rfl ?_
      obtain ⟨xq7, exq7, hm⟩ := am_bs hm
      refine r_getr exq7 fl_X2_21 rfl dX2_takeApart_30 ?_
      refine r_iload_n 1 dX2_takeApart_33 rfl ?_
      refine r_iconst 0 dX2_takeApart_34 (by decide) ?_
      obtain ⟨hq8, ehq8, hm⟩ := am_bs hm
      refine r_zast ehq8 dX2_takeApart_35 ?_
      refine r_inc 1 1 [(1, .int (a1 + 1)), (0, .ref a0)] dX2_takeApart_36 (by decide) rfl (by decide) rfl ?_
      refine r_goto 2 dX2_takeApart_39 (by decide) ?_
      exact r_lv [1, 0] _ rfl (ih (a1 + 1) hq8 _ hm kE)
def mi_X2_takeApart (f : Nat) (h : am_H) (p : Nat) : Option am_H :=
  Option.bind (am_cls h 2 p) fun _n =>
  Option.bind (lo_X2_takeApart_2 f p f 0 h) fun hq1 =>
  some hq1
theorem cs_X2_takeApart {f : Nat} {h : am_H} {p : Nat} {z : am_H} (hm : mi_X2_takeApart f h p = some z) : ∃ n, h.1[p]? = some (2, n) := by
  unfold mi_X2_takeApart at hm
  obtain ⟨n, hn, -⟩ := am_bs hm
  exact ⟨n, am_cls_of hn⟩
set_option maxHeartbeats 4000000 in
set_option maxRecDepth 100000 in
theorem ct_X2_takeApart (l : Launch) {f : Nat} {h : am_H} {p : Nat} {h2 : am_H} (hm : mi_X2_takeApart f h p = some h2) : am_Ct l yX2_takeApart cX2_takeApart 2 (none) rm_X2_takeApart [.ref p] h none h2 := by
  refine am_met2 [(0, .ref p)] (by decide) (Nat.le_of_ble_eq_true rfl) rfl ?_
  generalize hK : (fun (v : Option Value) (h3 : am_H) => v = none ∧ h3 = h2) = K
  have HK : K none h2 := by rw [← hK]; exact ⟨rfl, rfl⟩
  clear hK
  unfold mi_X2_takeApart at hm
  obtain ⟨_n, _hn, hm⟩ := am_bs hm
  refine r_iconst 0 dX2_takeApart_0 (by decide) ?_
  refine r_istore_n [(1, .int 0), (0, .ref p)] dX2_takeApart_1 (by decide) rfl ?_
  obtain ⟨hq1, ew, hm⟩ := am_bs hm
  try dsimp only at hm
  refine r_lv [1, 0] _ rfl (ll_X2_takeApart_2 l f p _ f 0 h _ ew ?_)
  cases hm
  exact r_return dX2_takeApart_42 rfl (by decide) HK
def lo_X5_fills_15 (f : Nat) (h : am_H) (a0 : Nat) (a1 : Int32) : Nat → Int32 → Int32 → Int32 → Option (Int32 × Int32)
  | 0, _, _, _ => none
  | n + 1, a3, a4, a5 =>
  (if 5 ≤ a5 then
  (some (a3, a4))
  else ((if 16 ≤ a3 then
  (some (a3, a4))
  else (lo_X5_fills_15 f h a0 a1 n ((2 : Int32) * a3) (((2 : Int32) * a4) + 1) (a5 + 1)))))
set_option maxHeartbeats 4000000 in
set_option maxRecDepth 100000 in
theorem ll_X5_fills_15 (l : Launch) (f : Nat) (h : am_H) (a0 : Nat) (a1 : Int32) (K : Option Value → am_H → Prop) : ∀ (n : Nat) (a3 : Int32) (a4 : Int32) (a5 : Int32) (z : Int32 × Int32), lo_X5_fills_15 f h a0 a1 n a3 a4 a5 = some z →
    am_R l yX5_fills cX5_fills 6 (some .boolean) rm_X5_fills (fun _ _ _ => True) 0 0 45 [(0, .ref a0), (1, .int a1), (3, .int z.1), (4, .int z.2)] [] h K →
    am_R l yX5_fills cX5_fills 6 (some .boolean) rm_X5_fills (fun _ _ _ => True) 0 0 15 [(0, .ref a0), (1, .int a1), (3, .int a3), (4, .int a4), (5, .int a5)] [] h K := by
  intro n
  induction n with
  | zero =>
    intro a3 a4 a5 z hm kE
    cases hm
  | succ n ih =>
    intro a3 a4 a5 z hm kE
    rw [lo_X5_fills_15.eq_2] at hm
    refine r_iload 4 dX5_fills_15 rfl ?_
    refine r_iconst 5 dX5_fills_17 (by decide) ?_
    refine r_icmp_ge 45 dX5_fills_18 (by decide) (fun q => ?_) (fun q => ?_)
    · rw [if_pos q] at hm
      cases hm
      exact r_lv [0, 1, 2, 3] _ rfl kE
    · rw [if_neg q] at hm
      refine r_iload_n 2 dX5_fills_21 rfl ?_
      refine r_bipush 16 dX5_fills_22 (by decide) ?_
      refine r_icmp_ge 45 dX5_fills_24 (by decide) (fun q => ?_) (fun q => ?_)
      · rw [if_pos q] at hm
        cases hm
        exact r_lv [0, 1, 2, 3] _ rfl kE
      · rw [if_neg q] at hm
        refine r_iconst 2 dX5_fills_27 (by decide) ?_
        refine r_iload_n 2 dX5_fills_28 rfl ?_
        refine r_imul dX5_fills_29 ?_
        refine r_istore_n [(3, .int ((2 : Int32) * a3)), (0, .ref a0), (1, .int a1), (4, .int a4), (5, .int a5)] dX5_fills_30 (by decide) rfl ?_
        refine r_iconst 2 dX5_fills_31 (by decide) ?_
        refine r_iload 3 dX5_fills_32 rfl ?_
        refine r_imul dX5_fills_34 ?_
        refine r_iconst 1 dX5_fills_35 (by decide) ?_
        refine r_iadd dX5_fills_36 ?_
        refine r_istore [(4, .int (((2 : Int32) * a4) + 1)), (3, .int ((2 : Int32) * a3)), (0, .ref a0), (1, .int a1), (5, .int a5)] dX5_fills_37 (by decide) rfl ?_
        refine r_inc 1 4 [(5, .int (a5 + 1)), (4, .int (((2 : Int32) * a4) + 1)), (3, .int ((2 : Int32) * a3)), (0, .ref a0), (1, .int a1)] dX5_fills_39 (by decide) rfl (by decide) rfl ?_
        refine r_goto 15 dX5_fills_42 (by decide) ?_
        exact r_lv [3, 4, 2, 1, 0] _ rfl (ih ((2 : Int32) * a3) (((2 : Int32) * a4) + 1) (a5 + 1) _ hm kE)
def mi_X5_fills (f : Nat) (h : am_H) (p : Nat) (a : Int32) (b : Int32) : Option Bool :=
  Option.bind (am_cls h 5 p) fun _n =>
  (if 1 ≤ b then
  (Option.bind (lo_X5_fills_15 f h p a f b b 1) fun (oq1, oq2) =>
  Option.bind (am_gr h 5 p 2) fun xq3 =>
  Option.bind (am_li h 9 xq3 a) fun xq4 =>
  Option.bind ((if (oq1 - 16) < xq4 then
  (some false)
  else (Option.bind (am_gr h 5 p 3) fun xq6 =>
  Option.bind (am_li h 9 xq6 a) fun xq7 =>
  (if xq7 < (oq2 - 16) then
  (some false)
  else (some true))))) fun jq5 =>
  some jq5)
  else (some false))
theorem cs_X5_fills {f : Nat} {h : am_H} {p : Nat} {a : Int32} {b : Int32} {z : Bool} (hm : mi_X5_fills f h p a b = some z) : ∃ n, h.1[p]? = some (5, n) := by
  unfold mi_X5_fills at hm
  obtain ⟨n, hn, -⟩ := am_bs hm
  exact ⟨n, am_cls_of hn⟩
set_option maxHeartbeats 4000000 in
set_option maxRecDepth 100000 in
theorem ct_X5_fills (l : Launch) {f : Nat} {h : am_H} {p : Nat} {a : Int32} {b : Int32} {r : Bool} (hm : mi_X5_fills f h p a b = some r) : am_Ct l yX5_fills cX5_fills 6 (some .boolean) rm_X5_fills [.ref p, .int a, .int b] h (some (.int (am_b r))) h := by
  refine am_met2 [(0, .ref p), (1, .int a), (2, .int b)] (by decide) (Nat.le_of_ble_eq_true rfl) rfl ?_
  generalize hK : (fun (v : Option Value) (h3 : am_H) => v = (some (.int (am_b r))) ∧ h3 = h) = K
  have HK : K (some (.int (am_b r))) h := by rw [← hK]; exact ⟨rfl, rfl⟩
  clear hK
  unfold mi_X5_fills at hm
  obtain ⟨_n, _hn, hm⟩ := am_bs hm
  refine r_iload_n 2 dX5_fills_0 rfl ?_
  refine r_iconst 1 dX5_fills_1 (by decide) ?_
  refine r_icmp_ge 7 dX5_fills_2 (by decide) (fun q => ?_) (fun q => ?_)
  · rw [if_pos q] at hm
    refine r_iload_n 2 dX5_fills_7 rfl ?_
    refine r_istore_n [(3, .int b), (0, .ref p), (1, .int a), (2, .int b)] dX5_fills_8 (by decide) rfl ?_
    refine r_iload_n 3 dX5_fills_9 rfl ?_
    refine r_istore [(4, .int b), (3, .int b), (0, .ref p), (1, .int a), (2, .int b)] dX5_fills_10 (by decide) rfl ?_
    refine r_iconst 1 dX5_fills_12 (by decide) ?_
    refine r_istore [(5, .int 1), (4, .int b), (3, .int b), (0, .ref p), (1, .int a), (2, .int b)] dX5_fills_13 (by decide) rfl ?_
    obtain ⟨⟨oq1, oq2⟩, ew, hm⟩ := am_bs hm
    try dsimp only at hm
    refine r_lv [3, 4, 2, 1, 0] _ rfl (ll_X5_fills_15 l f h p a _ f b b 1 _ ew ?_)
    refine r_aload_n 0 dX5_fills_45 rfl ?_
    obtain ⟨xq3, exq3, hm⟩ := am_bs hm
    refine r_getr exq3 fl_X5_18 rfl dX5_fills_46 ?_
    refine r_iload_n 1 dX5_fills_49 rfl ?_
    obtain ⟨xq4, exq4, hm⟩ := am_bs hm
    refine r_iald exq4 dX5_fills_50 ?_
    refine r_iload_n 2 dX5_fills_51 rfl ?_
    refine r_bipush 16 dX5_fills_52 (by decide) ?_
    refine r_isub dX5_fills_54 ?_
    obtain ⟨jq5, hw, hm⟩ := am_bs hm
    try dsimp only at hm
    have HJ : am_R l yX5_fills cX5_fills 6 (some .boolean) rm_X5_fills (fun _ _ _ => True) 0 0 77 [] [.int (am_b jq5)] h K := by
      cases hm
      exact r_zreturn _ dX5_fills_77 rfl (by decide) HK
    clear hm
    have hm := hw
    clear hw
    refine r_icmp_gt 76 dX5_fills_55 (by decide) (fun q => ?_) (fun q => ?_)
    · rw [if_pos q] at hm
      refine r_iconst 0 dX5_fills_76 (by decide) ?_
      cases hm
      exact r_lv [] _ rfl HJ
    · rw [if_neg q] at hm
      refine r_iload 3 dX5_fills_58 rfl ?_
      refine r_bipush 16 dX5_fills_60 (by decide) ?_
      refine r_isub dX5_fills_62 ?_
      refine r_aload_n 0 dX5_fills_63 rfl ?_
      obtain ⟨xq6, exq6, hm⟩ := am_bs hm
      refine r_getr exq6 fl_X5_21 rfl dX5_fills_64 ?_
      refine r_iload_n 1 dX5_fills_67 rfl ?_
      obtain ⟨xq7, exq7, hm⟩ := am_bs hm
      refine r_iald exq7 dX5_fills_68 ?_
      refine r_icmp_gt 76 dX5_fills_69 (by decide) (fun q => ?_) (fun q => ?_)
      · rw [if_pos q] at hm
        refine r_iconst 0 dX5_fills_76 (by decide) ?_
        cases hm
        exact r_lv [] _ rfl HJ
      · rw [if_neg q] at hm
        refine r_iconst 1 dX5_fills_72 (by decide) ?_
        refine r_goto 77 dX5_fills_73 (by decide) ?_
        cases hm
        exact r_lv [] _ rfl HJ
  · rw [if_neg q] at hm
    refine r_iconst 0 dX5_fills_5 (by decide) ?_
    cases hm
    exact r_zreturn false dX5_fills_6 rfl (by decide) HK
def mi_X5_lies (f : Nat) (h : am_H) (p : Nat) (a : Int32) (b : Int32) : Option Bool :=
  Option.bind (am_cls h 5 p) fun _n =>
  Option.bind (mi_X5_fills f h p a b) fun xq1 =>
  Option.bind ((if xq1 = true then
  (Option.bind (mi_X5_fills f h p a (b / 2)) fun xq3 =>
  (if xq3 = true then
  (some false)
  else (some true)))
  else (some false))) fun jq2 =>
  some jq2
theorem cs_X5_lies {f : Nat} {h : am_H} {p : Nat} {a : Int32} {b : Int32} {z : Bool} (hm : mi_X5_lies f h p a b = some z) : ∃ n, h.1[p]? = some (5, n) := by
  unfold mi_X5_lies at hm
  obtain ⟨n, hn, -⟩ := am_bs hm
  exact ⟨n, am_cls_of hn⟩
set_option maxHeartbeats 4000000 in
set_option maxRecDepth 100000 in
theorem ct_X5_lies (l : Launch) {f : Nat} {h : am_H} {p : Nat} {a : Int32} {b : Int32} {r : Bool} (hm : mi_X5_lies f h p a b = some r) : am_Ct l yX5_lies cX5_lies 3 (some .boolean) rm_X5_lies [.ref p, .int a, .int b] h (some (.int (am_b r))) h := by
  refine am_met2 [(0, .ref p), (1, .int a), (2, .int b)] (by decide) (Nat.le_of_ble_eq_true rfl) rfl ?_
  generalize hK : (fun (v : Option Value) (h3 : am_H) => v = (some (.int (am_b r))) ∧ h3 = h) = K
  have HK : K (some (.int (am_b r))) h := by rw [← hK]; exact ⟨rfl, rfl⟩
  clear hK
  unfold mi_X5_lies at hm
  obtain ⟨_n, _hn, hm⟩ := am_bs hm
  refine r_aload_n 0 dX5_lies_0 rfl ?_
  refine r_iload_n 1 dX5_lies_1 rfl ?_
  refine r_iload_n 2 dX5_lies_2 rfl ?_
  obtain ⟨xq1, exq1, hm⟩ := am_bs hm
  refine r_cV1 [.int a, .int b] (ct_X5_fills l exq1) vm_X5_66 (cs_X5_fills exq1) (by decide) ⟨rfl, rfl⟩ rfl (Nat.le_of_ble_eq_true rfl) dX5_lies_3 ?_
  obtain ⟨jq2, hw, hm⟩ := am_bs hm
  try dsimp only at hm
  have HJ : am_R l yX5_lies cX5_lies 3 (some .boolean) rm_X5_lies (fun _ _ _ => True) 0 0 25 [] [.int (am_b jq2)] h K := by
    cases hm
    exact r_zreturn _ dX5_lies_25 rfl (by decide) HK
  clear hm
  have hm := hw
  clear hw
  refine r_if_eq 24 dX5_lies_6 (by decide) (fun q => ?_) (fun q => ?_)
  · rw [if_neg (show ¬ xq1 = true from by rw [am_b0 q]; decide)] at hm
    refine r_iconst 0 dX5_lies_24 (by decide) ?_
    cases hm
    exact r_lv [] _ rfl HJ
  · rw [if_pos (show xq1 = true from am_b1 q)] at hm
    refine r_aload_n 0 dX5_lies_9 rfl ?_
    refine r_iload_n 1 dX5_lies_10 rfl ?_
    refine r_iload_n 2 dX5_lies_11 rfl ?_
    refine r_iconst 2 dX5_lies_12 (by decide) ?_
    refine r_idiv dX5_lies_13 (by decide) ?_
    obtain ⟨xq3, exq3, hm⟩ := am_bs hm
    refine r_cV1 [.int a, .int (b / 2)] (ct_X5_fills l exq3) vm_X5_66 (cs_X5_fills exq3) (by decide) ⟨rfl, rfl⟩ rfl (Nat.le_of_ble_eq_true rfl) dX5_lies_14 ?_
    refine r_if_ne 24 dX5_lies_17 (by decide) (fun q => ?_) (fun q => ?_)
    · rw [if_pos (show xq3 = true from am_b1 q)] at hm
      refine r_iconst 0 dX5_lies_24 (by decide) ?_
      cases hm
      exact r_lv [] _ rfl HJ
    · rw [if_neg (show ¬ xq3 = true from by rw [am_b0 q]; decide)] at hm
      refine r_iconst 1 dX5_lies_20 (by decide) ?_
      refine r_goto 25 dX5_lies_21 (by decide) ?_
      cases hm
      exact r_lv [] _ rfl HJ
def lo_X2_rootOf_4 (f : Nat) (h : am_H) (a0 : Nat) : Nat → Int32 → Int32 → Option (Int32)
  | 0, _, _ => none
  | n + 1, a2, a3 =>
  (if 8 ≤ a3 then
  (some a2)
  else (Option.bind (am_gr h 2 a0 0) fun xq1 =>
  Option.bind (am_li h 9 xq1 a2) fun xq2 =>
  lo_X2_rootOf_4 f h a0 n xq2 (a3 + 1)))
set_option maxHeartbeats 4000000 in
set_option maxRecDepth 100000 in
theorem ll_X2_rootOf_4 (l : Launch) (f : Nat) (h : am_H) (a0 : Nat) (K : Option Value → am_H → Prop) : ∀ (n : Nat) (a2 : Int32) (a3 : Int32) (z : Int32), lo_X2_rootOf_4 f h a0 n a2 a3 = some z →
    am_R l yX2_rootOf cX2_rootOf 4 (some .int) rm_X2_rootOf (fun _ _ _ => True) 0 0 23 [(2, .int z)] [] h K →
    am_R l yX2_rootOf cX2_rootOf 4 (some .int) rm_X2_rootOf (fun _ _ _ => True) 0 0 4 [(0, .ref a0), (2, .int a2), (3, .int a3)] [] h K := by
  intro n
  induction n with
  | zero =>
    intro a2 a3 z hm kE
    cases hm
  | succ n ih =>
    intro a2 a3 z hm kE
    rw [lo_X2_rootOf_4.eq_2] at hm
    refine r_iload_n 2 dX2_rootOf_4 rfl ?_
    refine r_bipush 8 dX2_rootOf_5 (by decide) ?_
    refine r_icmp_ge 23 dX2_rootOf_7 (by decide) (fun q => ?_) (fun q => ?_)
    · rw [if_pos q] at hm
      cases hm
      exact r_lv [1] _ rfl kE
    · rw [if_neg q] at hm
      refine r_aload_n 0 dX2_rootOf_10 rfl ?_
      obtain ⟨xq1, exq1, hm⟩ := am_bs hm
      refine r_getr exq1 fl_X2_9 rfl dX2_rootOf_11 ?_
      refine r_iload_n 1 dX2_rootOf_14 rfl ?_
      obtain ⟨xq2, exq2, hm⟩ := am_bs hm
      refine r_iald exq2 dX2_rootOf_15 ?_
      refine r_istore_n [(2, .int xq2), (0, .ref a0), (3, .int a3)] dX2_rootOf_16 (by decide) rfl ?_
      refine r_inc 1 2 [(3, .int (a3 + 1)), (2, .int xq2), (0, .ref a0)] dX2_rootOf_17 (by decide) rfl (by decide) rfl ?_
      refine r_goto 4 dX2_rootOf_20 (by decide) ?_
      exact r_lv [2, 1, 0] _ rfl (ih xq2 (a3 + 1) _ hm kE)
def mi_X2_rootOf (f : Nat) (h : am_H) (p : Nat) (a : Int32) : Option Int32 :=
  Option.bind (am_cls h 2 p) fun _n =>
  Option.bind (lo_X2_rootOf_4 f h p f a 0) fun oq1 =>
  some oq1
theorem cs_X2_rootOf {f : Nat} {h : am_H} {p : Nat} {a : Int32} {z : Int32} (hm : mi_X2_rootOf f h p a = some z) : ∃ n, h.1[p]? = some (2, n) := by
  unfold mi_X2_rootOf at hm
  obtain ⟨n, hn, -⟩ := am_bs hm
  exact ⟨n, am_cls_of hn⟩
set_option maxHeartbeats 4000000 in
set_option maxRecDepth 100000 in
theorem ct_X2_rootOf (l : Launch) {f : Nat} {h : am_H} {p : Nat} {a : Int32} {r : Int32} (hm : mi_X2_rootOf f h p a = some r) : am_Ct l yX2_rootOf cX2_rootOf 4 (some .int) rm_X2_rootOf [.ref p, .int a] h (some (.int r)) h := by
  refine am_met2 [(0, .ref p), (1, .int a)] (by decide) (Nat.le_of_ble_eq_true rfl) rfl ?_
  generalize hK : (fun (v : Option Value) (h3 : am_H) => v = (some (.int r)) ∧ h3 = h) = K
  have HK : K (some (.int r)) h := by rw [← hK]; exact ⟨rfl, rfl⟩
  clear hK
  unfold mi_X2_rootOf at hm
  obtain ⟨_n, _hn, hm⟩ := am_bs hm
  refine r_iload_n 1 dX2_rootOf_0 rfl ?_
  refine r_istore_n [(2, .int a), (0, .ref p), (1, .int a)] dX2_rootOf_1 (by decide) rfl ?_
  refine r_iconst 0 dX2_rootOf_2 (by decide) ?_
  refine r_istore_n [(3, .int 0), (2, .int a), (0, .ref p), (1, .int a)] dX2_rootOf_3 (by decide) rfl ?_
  obtain ⟨oq1, ew, hm⟩ := am_bs hm
  try dsimp only at hm
  refine r_lv [2, 1, 0] _ rfl (ll_X2_rootOf_4 l f h p _ f a 0 _ ew ?_)
  refine r_iload_n 0 dX2_rootOf_23 rfl ?_
  cases hm
  exact r_ireturn dX2_rootOf_24 rfl (by decide) HK
def lo_X2_turnOf_7 (f : Nat) (h : am_H) (a0 : Nat) : Nat → Int32 → Int32 → Int32 → Option (Int32)
  | 0, _, _, _ => none
  | n + 1, a2, a3, a4 =>
  (if 8 ≤ a4 then
  (some a2)
  else (Option.bind (am_gr h 2 a0 0) fun xq1 =>
  Option.bind (am_li h 9 xq1 a3) fun xq2 =>
  (if xq2 = a3 then
  (some a2)
  else (Option.bind (am_gr h 2 a0 2) fun xq3 =>
  Option.bind (am_li h 9 xq3 a3) fun xq4 =>
  Option.bind (am_gr h 2 a0 0) fun xq5 =>
  Option.bind (am_li h 9 xq5 a3) fun xq6 =>
  lo_X2_turnOf_7 f h a0 n (a2 ^^^ xq4) xq6 (a4 + 1)))))
set_option maxHeartbeats 4000000 in
set_option maxRecDepth 100000 in
theorem ll_X2_turnOf_7 (l : Launch) (f : Nat) (h : am_H) (a0 : Nat) (K : Option Value → am_H → Prop) : ∀ (n : Nat) (a2 : Int32) (a3 : Int32) (a4 : Int32) (z : Int32), lo_X2_turnOf_7 f h a0 n a2 a3 a4 = some z →
    am_R l yX2_turnOf cX2_turnOf 5 (some .int) rm_X2_turnOf (fun _ _ _ => True) 0 0 46 [(2, .int z)] [] h K →
    am_R l yX2_turnOf cX2_turnOf 5 (some .int) rm_X2_turnOf (fun _ _ _ => True) 0 0 7 [(0, .ref a0), (2, .int a2), (3, .int a3), (4, .int a4)] [] h K := by
  intro n
  induction n with
  | zero =>
    intro a2 a3 a4 z hm kE
    cases hm
  | succ n ih =>
    intro a2 a3 a4 z hm kE
    rw [lo_X2_turnOf_7.eq_2] at hm
    refine r_iload 3 dX2_turnOf_7 rfl ?_
    refine r_bipush 8 dX2_turnOf_9 (by decide) ?_
    refine r_icmp_ge 46 dX2_turnOf_11 (by decide) (fun q => ?_) (fun q => ?_)
    · rw [if_pos q] at hm
      cases hm
      exact r_lv [1] _ rfl kE
    · rw [if_neg q] at hm
      refine r_aload_n 0 dX2_turnOf_14 rfl ?_
      obtain ⟨xq1, exq1, hm⟩ := am_bs hm
      refine r_getr exq1 fl_X2_9 rfl dX2_turnOf_15 ?_
      refine r_iload_n 2 dX2_turnOf_18 rfl ?_
      obtain ⟨xq2, exq2, hm⟩ := am_bs hm
      refine r_iald exq2 dX2_turnOf_19 ?_
      refine r_iload_n 2 dX2_turnOf_20 rfl ?_
      refine r_icmp_eq 46 dX2_turnOf_21 (by decide) (fun q => ?_) (fun q => ?_)
      · rw [if_pos q] at hm
        cases hm
        exact r_lv [1] _ rfl kE
      · rw [if_neg q] at hm
        refine r_iload_n 1 dX2_turnOf_24 rfl ?_
        refine r_aload_n 0 dX2_turnOf_25 rfl ?_
        obtain ⟨xq3, exq3, hm⟩ := am_bs hm
        refine r_getr exq3 fl_X2_18 rfl dX2_turnOf_26 ?_
        refine r_iload_n 2 dX2_turnOf_29 rfl ?_
        obtain ⟨xq4, exq4, hm⟩ := am_bs hm
        refine r_iald exq4 dX2_turnOf_30 ?_
        refine r_ixor dX2_turnOf_31 ?_
        refine r_istore_n [(2, .int (a2 ^^^ xq4)), (0, .ref a0), (3, .int a3), (4, .int a4)] dX2_turnOf_32 (by decide) rfl ?_
        refine r_aload_n 1 dX2_turnOf_33 rfl ?_
        obtain ⟨xq5, exq5, hm⟩ := am_bs hm
        refine r_getr exq5 fl_X2_9 rfl dX2_turnOf_34 ?_
        refine r_iload_n 2 dX2_turnOf_37 rfl ?_
        obtain ⟨xq6, exq6, hm⟩ := am_bs hm
        refine r_iald exq6 dX2_turnOf_38 ?_
        refine r_istore_n [(3, .int xq6), (2, .int (a2 ^^^ xq4)), (0, .ref a0), (4, .int a4)] dX2_turnOf_39 (by decide) rfl ?_
        refine r_inc 1 3 [(4, .int (a4 + 1)), (3, .int xq6), (2, .int (a2 ^^^ xq4)), (0, .ref a0)] dX2_turnOf_40 (by decide) rfl (by decide) rfl ?_
        refine r_goto 7 dX2_turnOf_43 (by decide) ?_
        exact r_lv [3, 2, 1, 0] _ rfl (ih (a2 ^^^ xq4) xq6 (a4 + 1) _ hm kE)
def mi_X2_turnOf (f : Nat) (h : am_H) (p : Nat) (a : Int32) : Option Int32 :=
  Option.bind (am_cls h 2 p) fun _n =>
  Option.bind (lo_X2_turnOf_7 f h p f 0 a 0) fun oq1 =>
  some oq1
theorem cs_X2_turnOf {f : Nat} {h : am_H} {p : Nat} {a : Int32} {z : Int32} (hm : mi_X2_turnOf f h p a = some z) : ∃ n, h.1[p]? = some (2, n) := by
  unfold mi_X2_turnOf at hm
  obtain ⟨n, hn, -⟩ := am_bs hm
  exact ⟨n, am_cls_of hn⟩
set_option maxHeartbeats 4000000 in
set_option maxRecDepth 100000 in
theorem ct_X2_turnOf (l : Launch) {f : Nat} {h : am_H} {p : Nat} {a : Int32} {r : Int32} (hm : mi_X2_turnOf f h p a = some r) : am_Ct l yX2_turnOf cX2_turnOf 5 (some .int) rm_X2_turnOf [.ref p, .int a] h (some (.int r)) h := by
  refine am_met2 [(0, .ref p), (1, .int a)] (by decide) (Nat.le_of_ble_eq_true rfl) rfl ?_
  generalize hK : (fun (v : Option Value) (h3 : am_H) => v = (some (.int r)) ∧ h3 = h) = K
  have HK : K (some (.int r)) h := by rw [← hK]; exact ⟨rfl, rfl⟩
  clear hK
  unfold mi_X2_turnOf at hm
  obtain ⟨_n, _hn, hm⟩ := am_bs hm
  refine r_iconst 0 dX2_turnOf_0 (by decide) ?_
  refine r_istore_n [(2, .int 0), (0, .ref p), (1, .int a)] dX2_turnOf_1 (by decide) rfl ?_
  refine r_iload_n 2 dX2_turnOf_2 rfl ?_
  refine r_istore_n [(3, .int a), (2, .int 0), (0, .ref p), (1, .int a)] dX2_turnOf_3 (by decide) rfl ?_
  refine r_iconst 0 dX2_turnOf_4 (by decide) ?_
  refine r_istore [(4, .int 0), (3, .int a), (2, .int 0), (0, .ref p), (1, .int a)] dX2_turnOf_5 (by decide) rfl ?_
  obtain ⟨oq1, ew, hm⟩ := am_bs hm
  try dsimp only at hm
  refine r_lv [3, 2, 1, 0] _ rfl (ll_X2_turnOf_7 l f h p _ f 0 a 0 _ ew ?_)
  refine r_iload_n 0 dX2_turnOf_46 rfl ?_
  cases hm
  exact r_ireturn dX2_turnOf_47 rfl (by decide) HK
def mi_X2_hangsBelow (f : Nat) (h : am_H) (p : Nat) (a : Int32) (b : Int32) : Option Bool :=
  Option.bind (am_cls h 2 p) fun _n =>
  Option.bind (am_gr h 2 p 1) fun xq1 =>
  Option.bind (am_li h 9 xq1 a) fun xq2 =>
  Option.bind (am_gr h 2 p 1) fun xq3 =>
  Option.bind (am_li h 9 xq3 b) fun xq4 =>
  Option.bind ((if xq2 < xq4 then
  (some true)
  else (Option.bind (am_gr h 2 p 1) fun xq6 =>
  Option.bind (am_li h 9 xq6 a) fun xq7 =>
  Option.bind (am_gr h 2 p 1) fun xq8 =>
  Option.bind (am_li h 9 xq8 b) fun xq9 =>
  (if xq7 = xq9 then
  ((if a ≤ b then
  (some false)
  else (some true)))
  else (some false))))) fun jq5 =>
  some jq5
theorem cs_X2_hangsBelow {f : Nat} {h : am_H} {p : Nat} {a : Int32} {b : Int32} {z : Bool} (hm : mi_X2_hangsBelow f h p a b = some z) : ∃ n, h.1[p]? = some (2, n) := by
  unfold mi_X2_hangsBelow at hm
  obtain ⟨n, hn, -⟩ := am_bs hm
  exact ⟨n, am_cls_of hn⟩
set_option maxHeartbeats 4000000 in
set_option maxRecDepth 100000 in
theorem ct_X2_hangsBelow (l : Launch) {f : Nat} {h : am_H} {p : Nat} {a : Int32} {b : Int32} {r : Bool} (hm : mi_X2_hangsBelow f h p a b = some r) : am_Ct l yX2_hangsBelow cX2_hangsBelow 3 (some .boolean) rm_X2_hangsBelow [.ref p, .int a, .int b] h (some (.int (am_b r))) h := by
  refine am_met2 [(0, .ref p), (1, .int a), (2, .int b)] (by decide) (Nat.le_of_ble_eq_true rfl) rfl ?_
  generalize hK : (fun (v : Option Value) (h3 : am_H) => v = (some (.int (am_b r))) ∧ h3 = h) = K
  have HK : K (some (.int (am_b r))) h := by rw [← hK]; exact ⟨rfl, rfl⟩
  clear hK
  unfold mi_X2_hangsBelow at hm
  obtain ⟨_n, _hn, hm⟩ := am_bs hm
  refine r_aload_n 0 dX2_hangsBelow_0 rfl ?_
  obtain ⟨xq1, exq1, hm⟩ := am_bs hm
  refine r_getr exq1 fl_X2_15 rfl dX2_hangsBelow_1 ?_
  refine r_iload_n 1 dX2_hangsBelow_4 rfl ?_
  obtain ⟨xq2, exq2, hm⟩ := am_bs hm
  refine r_iald exq2 dX2_hangsBelow_5 ?_
  refine r_aload_n 0 dX2_hangsBelow_6 rfl ?_
  obtain ⟨xq3, exq3, hm⟩ := am_bs hm
  refine r_getr exq3 fl_X2_15 rfl dX2_hangsBelow_7 ?_
  refine r_iload_n 2 dX2_hangsBelow_10 rfl ?_
  obtain ⟨xq4, exq4, hm⟩ := am_bs hm
  refine r_iald exq4 dX2_hangsBelow_11 ?_
  obtain ⟨jq5, hw, hm⟩ := am_bs hm
  try dsimp only at hm
  have HJ : am_R l yX2_hangsBelow cX2_hangsBelow 3 (some .boolean) rm_X2_hangsBelow (fun _ _ _ => True) 0 0 40 [] [.int (am_b jq5)] h K := by
    cases hm
    exact r_zreturn _ dX2_hangsBelow_40 rfl (by decide) HK
  clear hm
  have hm := hw
  clear hw
  refine r_icmp_lt 35 dX2_hangsBelow_12 (by decide) (fun q => ?_) (fun q => ?_)
  · rw [if_pos q] at hm
    refine r_iconst 1 dX2_hangsBelow_35 (by decide) ?_
    refine r_goto 40 dX2_hangsBelow_36 (by decide) ?_
    cases hm
    exact r_lv [] _ rfl HJ
  · rw [if_neg q] at hm
    refine r_aload_n 0 dX2_hangsBelow_15 rfl ?_
    obtain ⟨xq6, exq6, hm⟩ := am_bs hm
    refine r_getr exq6 fl_X2_15 rfl dX2_hangsBelow_16 ?_
    refine r_iload_n 1 dX2_hangsBelow_19 rfl ?_
    obtain ⟨xq7, exq7, hm⟩ := am_bs hm
    refine r_iald exq7 dX2_hangsBelow_20 ?_
    refine r_aload_n 0 dX2_hangsBelow_21 rfl ?_
    obtain ⟨xq8, exq8, hm⟩ := am_bs hm
    refine r_getr exq8 fl_X2_15 rfl dX2_hangsBelow_22 ?_
    refine r_iload_n 2 dX2_hangsBelow_25 rfl ?_
    obtain ⟨xq9, exq9, hm⟩ := am_bs hm
    refine r_iald exq9 dX2_hangsBelow_26 ?_
    refine r_icmp_ne 39 dX2_hangsBelow_27 (by decide) (fun q => ?_) (fun q => ?_)
    · rw [if_neg q] at hm
      refine r_iconst 0 dX2_hangsBelow_39 (by decide) ?_
      cases hm
      exact r_lv [] _ rfl HJ
    · rw [if_pos q] at hm
      refine r_iload_n 1 dX2_hangsBelow_30 rfl ?_
      refine r_iload_n 2 dX2_hangsBelow_31 rfl ?_
      refine r_icmp_le 39 dX2_hangsBelow_32 (by decide) (fun q => ?_) (fun q => ?_)
      · rw [if_pos q] at hm
        refine r_iconst 0 dX2_hangsBelow_39 (by decide) ?_
        cases hm
        exact r_lv [] _ rfl HJ
      · rw [if_neg q] at hm
        refine r_iconst 1 dX2_hangsBelow_35 (by decide) ?_
        refine r_goto 40 dX2_hangsBelow_36 (by decide) ?_
        cases hm
        exact r_lv [] _ rfl HJ
def mi_X2_hang (f : Nat) (h : am_H) (p : Nat) (a : Int32) (b : Int32) (c : Int32) : Option am_H :=
  Option.bind (am_cls h 2 p) fun _n =>
  Option.bind (am_gr h 2 p 0) fun xq1 =>
  Option.bind (am_si h 9 xq1 a b) fun hq2 =>
  Option.bind (am_gr hq2 2 p 1) fun xq3 =>
  Option.bind (am_li hq2 9 xq3 b) fun xq4 =>
  Option.bind (am_gr hq2 2 p 1) fun xq5 =>
  Option.bind (am_li hq2 9 xq5 a) fun xq6 =>
  Option.bind (am_si hq2 9 xq3 b (xq4 + xq6)) fun hq7 =>
  Option.bind (am_gr hq7 2 p 2) fun xq8 =>
  Option.bind (am_si hq7 9 xq8 a c) fun hq9 =>
  Option.bind (am_gr hq9 2 p 3) fun xq10 =>
  Option.bind (am_li hq9 10 xq10 b) fun xq11 =>
  Option.bind (am_gr hq9 2 p 3) fun xq12 =>
  Option.bind (am_li hq9 10 xq12 a) fun xq13 =>
  Option.bind (am_si hq9 10 xq10 b (vp_nar .boolean (xq11 ||| xq13))) fun hq14 =>
  some hq14
theorem cs_X2_hang {f : Nat} {h : am_H} {p : Nat} {a : Int32} {b : Int32} {c : Int32} {z : am_H} (hm : mi_X2_hang f h p a b c = some z) : ∃ n, h.1[p]? = some (2, n) := by
  unfold mi_X2_hang at hm
  obtain ⟨n, hn, -⟩ := am_bs hm
  exact ⟨n, am_cls_of hn⟩
set_option maxHeartbeats 4000000 in
set_option maxRecDepth 100000 in
theorem ct_X2_hang (l : Launch) {f : Nat} {h : am_H} {p : Nat} {a : Int32} {b : Int32} {c : Int32} {h2 : am_H} (hm : mi_X2_hang f h p a b c = some h2) : am_Ct l yX2_hang cX2_hang 4 (none) rm_X2_hang [.ref p, .int a, .int b, .int c] h none h2 := by
  refine am_met2 [(0, .ref p), (1, .int a), (2, .int b), (3, .int c)] (by decide) (Nat.le_of_ble_eq_true rfl) rfl ?_
  generalize hK : (fun (v : Option Value) (h3 : am_H) => v = none ∧ h3 = h2) = K
  have HK : K none h2 := by rw [← hK]; exact ⟨rfl, rfl⟩
  clear hK
  unfold mi_X2_hang at hm
  obtain ⟨_n, _hn, hm⟩ := am_bs hm
  refine r_aload_n 0 dX2_hang_0 rfl ?_
  obtain ⟨xq1, exq1, hm⟩ := am_bs hm
  refine r_getr exq1 fl_X2_9 rfl dX2_hang_1 ?_
  refine r_iload_n 1 dX2_hang_4 rfl ?_
  refine r_iload_n 2 dX2_hang_5 rfl ?_
  obtain ⟨hq2, ehq2, hm⟩ := am_bs hm
  refine r_iast ehq2 dX2_hang_6 ?_
  refine r_aload_n 0 dX2_hang_7 rfl ?_
  obtain ⟨xq3, exq3, hm⟩ := am_bs hm
  refine r_getr exq3 fl_X2_15 rfl dX2_hang_8 ?_
  refine r_iload_n 2 dX2_hang_11 rfl ?_
  refine r_dup2 dX2_hang_12 rfl rfl ?_
  obtain ⟨xq4, exq4, hm⟩ := am_bs hm
  refine r_iald exq4 dX2_hang_13 ?_
  refine r_aload_n 0 dX2_hang_14 rfl ?_
  obtain ⟨xq5, exq5, hm⟩ := am_bs hm
  refine r_getr exq5 fl_X2_15 rfl dX2_hang_15 ?_
  refine r_iload_n 1 dX2_hang_18 rfl ?_
  obtain ⟨xq6, exq6, hm⟩ := am_bs hm
  refine r_iald exq6 dX2_hang_19 ?_
  refine r_iadd dX2_hang_20 ?_
  obtain ⟨hq7, ehq7, hm⟩ := am_bs hm
  refine r_iast ehq7 dX2_hang_21 ?_
  refine r_aload_n 0 dX2_hang_22 rfl ?_
  obtain ⟨xq8, exq8, hm⟩ := am_bs hm
  refine r_getr exq8 fl_X2_18 rfl dX2_hang_23 ?_
  refine r_iload_n 1 dX2_hang_26 rfl ?_
  refine r_iload_n 3 dX2_hang_27 rfl ?_
  obtain ⟨hq9, ehq9, hm⟩ := am_bs hm
  refine r_iast ehq9 dX2_hang_28 ?_
  refine r_aload_n 0 dX2_hang_29 rfl ?_
  obtain ⟨xq10, exq10, hm⟩ := am_bs hm
  refine r_getr exq10 fl_X2_21 rfl dX2_hang_30 ?_
  refine r_iload_n 2 dX2_hang_33 rfl ?_
  refine r_dup2 dX2_hang_34 rfl rfl ?_
  obtain ⟨xq11, exq11, hm⟩ := am_bs hm
  refine r_zald exq11 dX2_hang_35 ?_
  refine r_aload_n 0 dX2_hang_36 rfl ?_
  obtain ⟨xq12, exq12, hm⟩ := am_bs hm
  refine r_getr exq12 fl_X2_21 rfl dX2_hang_37 ?_
  refine r_iload_n 1 dX2_hang_40 rfl ?_
  obtain ⟨xq13, exq13, hm⟩ := am_bs hm
  refine r_zald exq13 dX2_hang_41 ?_
  refine r_ior dX2_hang_42 ?_
  obtain ⟨hq14, ehq14, hm⟩ := am_bs hm
  refine r_zast ehq14 dX2_hang_43 ?_
  cases hm
  exact r_return dX2_hang_44 rfl (by decide) HK
def mi_X2_join (f : Nat) (h : am_H) (p : Nat) (a : Int32) (b : Int32) : Option (Bool × am_H) :=
  Option.bind (am_cls h 2 p) fun _n =>
  Option.bind (mi_X2_rootOf f h p a) fun xq1 =>
  Option.bind (mi_X2_rootOf f h p b) fun xq2 =>
  Option.bind (mi_X2_turnOf f h p a) fun xq3 =>
  Option.bind (mi_X2_turnOf f h p b) fun xq4 =>
  (if xq1 = xq2 then
  (Option.bind (am_gr h 2 p 3) fun xq5 =>
  Option.bind (am_li h 10 xq5 xq1) fun xq6 =>
  Option.bind ((if ((xq3 ^^^ xq4) ^^^ 1) = 1 then
  (some true)
  else (some false))) fun jq7 =>
  Option.bind (am_si h 10 xq5 xq1 (vp_nar .boolean (xq6 ||| (am_b jq7)))) fun hq8 =>
  some (false, hq8))
  else (Option.bind (mi_X2_hangsBelow f h p xq1 xq2) fun xq9 =>
  Option.bind ((if xq9 = true then
  (Option.bind (mi_X2_hang f h p xq1 xq2 ((xq3 ^^^ xq4) ^^^ 1)) fun hq12 =>
  some hq12)
  else (Option.bind (mi_X2_hang f h p xq2 xq1 ((xq3 ^^^ xq4) ^^^ 1)) fun hq14 =>
  some hq14))) fun hq10 =>
  some (true, hq10)))
theorem cs_X2_join {f : Nat} {h : am_H} {p : Nat} {a : Int32} {b : Int32} {z : (Bool × am_H)} (hm : mi_X2_join f h p a b = some z) : ∃ n, h.1[p]? = some (2, n) := by
  unfold mi_X2_join at hm
  obtain ⟨n, hn, -⟩ := am_bs hm
  exact ⟨n, am_cls_of hn⟩
set_option maxHeartbeats 4000000 in
set_option maxRecDepth 100000 in
theorem ct_X2_join (l : Launch) {f : Nat} {h : am_H} {p : Nat} {a : Int32} {b : Int32} {r : Bool} {h2 : am_H} (hm : mi_X2_join f h p a b = some (r, h2)) : am_Ct l yX2_join cX2_join 6 (some .boolean) rm_X2_join [.ref p, .int a, .int b] h (some (.int (am_b r))) h2 := by
  refine am_met2 [(0, .ref p), (1, .int a), (2, .int b)] (by decide) (Nat.le_of_ble_eq_true rfl) rfl ?_
  generalize hK : (fun (v : Option Value) (h3 : am_H) => v = (some (.int (am_b r))) ∧ h3 = h2) = K
  have HK : K (some (.int (am_b r))) h2 := by rw [← hK]; exact ⟨rfl, rfl⟩
  clear hK
  unfold mi_X2_join at hm
  obtain ⟨_n, _hn, hm⟩ := am_bs hm
  refine r_aload_n 0 dX2_join_0 rfl ?_
  refine r_iload_n 1 dX2_join_1 rfl ?_
  obtain ⟨xq1, exq1, hm⟩ := am_bs hm
  refine r_cV1 [.int a] (ct_X2_rootOf l exq1) vm_X2_53 (cs_X2_rootOf exq1) (by decide) ⟨rfl, rfl⟩ rfl (Nat.le_of_ble_eq_true rfl) dX2_join_2 ?_
  refine r_istore_n [(3, .int xq1), (0, .ref p), (1, .int a), (2, .int b)] dX2_join_5 (by decide) rfl ?_
  refine r_aload_n 1 dX2_join_6 rfl ?_
  refine r_iload_n 3 dX2_join_7 rfl ?_
  obtain ⟨xq2, exq2, hm⟩ := am_bs hm
  refine r_cV1 [.int b] (ct_X2_rootOf l exq2) vm_X2_53 (cs_X2_rootOf exq2) (by decide) ⟨rfl, rfl⟩ rfl (Nat.le_of_ble_eq_true rfl) dX2_join_8 ?_
  refine r_istore [(4, .int xq2), (3, .int xq1), (0, .ref p), (1, .int a), (2, .int b)] dX2_join_11 (by decide) rfl ?_
  refine r_aload_n 2 dX2_join_13 rfl ?_
  refine r_iload_n 3 dX2_join_14 rfl ?_
  obtain ⟨xq3, exq3, hm⟩ := am_bs hm
  refine r_cV1 [.int a] (ct_X2_turnOf l exq3) vm_X2_57 (cs_X2_turnOf exq3) (by decide) ⟨rfl, rfl⟩ rfl (Nat.le_of_ble_eq_true rfl) dX2_join_15 ?_
  refine r_aload_n 2 dX2_join_18 rfl ?_
  refine r_iload_n 4 dX2_join_19 rfl ?_
  obtain ⟨xq4, exq4, hm⟩ := am_bs hm
  refine r_cV1 [.int b] (ct_X2_turnOf l exq4) vm_X2_57 (cs_X2_turnOf exq4) (by decide) ⟨rfl, rfl⟩ rfl (Nat.le_of_ble_eq_true rfl) dX2_join_20 ?_
  refine r_ixor dX2_join_23 ?_
  refine r_iconst 1 dX2_join_24 (by decide) ?_
  refine r_ixor dX2_join_25 ?_
  refine r_istore [(5, .int ((xq3 ^^^ xq4) ^^^ 1)), (4, .int xq2), (3, .int xq1), (0, .ref p), (1, .int a), (2, .int b)] dX2_join_26 (by decide) rfl ?_
  refine r_iload_n 2 dX2_join_28 rfl ?_
  refine r_iload 1 dX2_join_29 rfl ?_
  refine r_icmp_ne 56 dX2_join_31 (by decide) (fun q => ?_) (fun q => ?_)
  · rw [if_neg q] at hm
    refine r_aload_n 3 dX2_join_56 rfl ?_
    refine r_iload_n 2 dX2_join_57 rfl ?_
    refine r_iload 1 dX2_join_58 rfl ?_
    obtain ⟨xq9, exq9, hm⟩ := am_bs hm
    refine r_cV1 [.int xq1, .int xq2] (ct_X2_hangsBelow l exq9) vm_X2_60 (cs_X2_hangsBelow exq9) (by decide) ⟨rfl, rfl⟩ rfl (Nat.le_of_ble_eq_true rfl) dX2_join_60 ?_
    obtain ⟨hq10, hw, hm⟩ := am_bs hm
    try dsimp only at hm
    have HJ : am_R l yX2_join cX2_join 6 (some .boolean) rm_X2_join (fun _ _ _ => True) 0 0 87 [] [] hq10 K := by
      refine r_iconst 1 dX2_join_87 (by decide) ?_
      cases hm
      exact r_zreturn true dX2_join_88 rfl (by decide) HK
    clear hm
    have hm := hw
    clear hw
    refine r_if_eq 78 dX2_join_63 (by decide) (fun q => ?_) (fun q => ?_)
    · rw [if_neg (show ¬ xq9 = true from by rw [am_b0 q]; decide)] at hm
      refine r_aload_n 3 dX2_join_78 rfl ?_
      refine r_iload 1 dX2_join_79 rfl ?_
      refine r_iload_n 2 dX2_join_81 rfl ?_
      refine r_iload 0 dX2_join_82 rfl ?_
      obtain ⟨hq14, exq13, hm⟩ := am_bs hm
      refine r_cV0 [.int xq2, .int xq1, .int ((xq3 ^^^ xq4) ^^^ 1)] (ct_X2_hang l exq13) vm_X2_63 (cs_X2_hang exq13) (by decide) ⟨rfl, rfl⟩ rfl (Nat.le_of_ble_eq_true rfl) dX2_join_84 ?_
      cases hm
      exact r_lv [] _ rfl HJ
    · rw [if_pos (show xq9 = true from am_b1 q)] at hm
      refine r_aload_n 3 dX2_join_66 rfl ?_
      refine r_iload_n 2 dX2_join_67 rfl ?_
      refine r_iload 1 dX2_join_68 rfl ?_
      refine r_iload 0 dX2_join_70 rfl ?_
      obtain ⟨hq12, exq11, hm⟩ := am_bs hm
      refine r_cV0 [.int xq1, .int xq2, .int ((xq3 ^^^ xq4) ^^^ 1)] (ct_X2_hang l exq11) vm_X2_63 (cs_X2_hang exq11) (by decide) ⟨rfl, rfl⟩ rfl (Nat.le_of_ble_eq_true rfl) dX2_join_72 ?_
      refine r_goto 87 dX2_join_75 (by decide) ?_
      cases hm
      exact r_lv [] _ rfl HJ
  · rw [if_pos q] at hm
    refine r_aload_n 3 dX2_join_34 rfl ?_
    obtain ⟨xq5, exq5, hm⟩ := am_bs hm
    refine r_getr exq5 fl_X2_21 rfl dX2_join_35 ?_
    refine r_iload_n 2 dX2_join_38 rfl ?_
    refine r_dup2 dX2_join_39 rfl rfl ?_
    obtain ⟨xq6, exq6, hm⟩ := am_bs hm
    refine r_zald exq6 dX2_join_40 ?_
    refine r_iload 0 dX2_join_41 rfl ?_
    refine r_iconst 1 dX2_join_43 (by decide) ?_
    obtain ⟨jq7, hw, hm⟩ := am_bs hm
    try dsimp only at hm
    have HJ : am_R l yX2_join cX2_join 6 (some .boolean) rm_X2_join (fun _ _ _ => True) 0 0 52 [] [.int (am_b jq7), .int xq6, .int xq1, .ref xq5] h K := by
      refine r_ior dX2_join_52 ?_
      obtain ⟨hq8, ehq8, hm⟩ := am_bs hm
      refine r_zast ehq8 dX2_join_53 ?_
      refine r_iconst 0 dX2_join_54 (by decide) ?_
      cases hm
      exact r_zreturn false dX2_join_55 rfl (by decide) HK
    clear hm
    have hm := hw
    clear hw
    refine r_icmp_ne 51 dX2_join_44 (by decide) (fun q => ?_) (fun q => ?_)
    · rw [if_neg q] at hm
      refine r_iconst 0 dX2_join_51 (by decide) ?_
      cases hm
      exact r_lv [] _ rfl HJ
    · rw [if_pos q] at hm
      refine r_iconst 1 dX2_join_47 (by decide) ?_
      refine r_goto 52 dX2_join_48 (by decide) ?_
      cases hm
      exact r_lv [] _ rfl HJ
def lo_X2_joinAllOn_5 (f : Nat) (a0 : Nat) (a1 : Nat) (a2 : Int32) : Nat → Int32 → Int32 → am_H → Option (Int32 × am_H)
  | 0, _, _, _ => none
  | n + 1, a3, a4, h =>
  Option.bind (am_gi h 5 a1 4) fun xq1 =>
  (if xq1 ≤ a4 then
  (some (a3, h))
  else (Option.bind (mi_X5_lies f h a1 a4 a2) fun xq2 =>
  Option.bind ((if xq2 = true then
  (Option.bind (am_gr h 5 a1 0) fun xq5 =>
  Option.bind (am_li h 9 xq5 a4) fun xq6 =>
  Option.bind (am_gr h 5 a1 1) fun xq7 =>
  Option.bind (am_li h 9 xq7 a4) fun xq8 =>
  Option.bind (mi_X2_join f h a0 xq6 xq8) fun (xq9, hq10) =>
  (if xq9 = true then
  (some ((a3 + 1), hq10))
  else (some (a3, hq10))))
  else (some (a3, h)))) fun (jq3, hq4) =>
  lo_X2_joinAllOn_5 f a0 a1 a2 n jq3 (a4 + 1) hq4))
set_option maxHeartbeats 4000000 in
set_option maxRecDepth 100000 in
theorem ll_X2_joinAllOn_5 (l : Launch) (f : Nat) (a0 : Nat) (a1 : Nat) (a2 : Int32) (K : Option Value → am_H → Prop) : ∀ (n : Nat) (a3 : Int32) (a4 : Int32) (h : am_H) (z : Int32 × am_H), lo_X2_joinAllOn_5 f a0 a1 a2 n a3 a4 h = some z →
    am_R l yX2_joinAllOn cX2_joinAllOn 5 (some .int) rm_X2_joinAllOn (fun _ _ _ => True) 0 0 54 [(3, .int z.1)] [] z.2 K →
    am_R l yX2_joinAllOn cX2_joinAllOn 5 (some .int) rm_X2_joinAllOn (fun _ _ _ => True) 0 0 5 [(0, .ref a0), (1, .ref a1), (2, .int a2), (3, .int a3), (4, .int a4)] [] h K := by
  intro n
  induction n with
  | zero =>
    intro a3 a4 h z hm kE
    cases hm
  | succ n ih =>
    intro a3 a4 h z hm kE
    rw [lo_X2_joinAllOn_5.eq_2] at hm
    refine r_iload 4 dX2_joinAllOn_5 rfl ?_
    refine r_aload_n 1 dX2_joinAllOn_7 rfl ?_
    obtain ⟨xq1, exq1, hm⟩ := am_bs hm
    refine r_geti exq1 fl_X2_35 rfl dX2_joinAllOn_8 ?_
    refine r_icmp_ge 54 dX2_joinAllOn_11 (by decide) (fun q => ?_) (fun q => ?_)
    · rw [if_pos q] at hm
      cases hm
      exact r_lv [3] _ rfl kE
    · rw [if_neg q] at hm
      refine r_aload_n 1 dX2_joinAllOn_14 rfl ?_
      refine r_iload 4 dX2_joinAllOn_15 rfl ?_
      refine r_iload_n 2 dX2_joinAllOn_17 rfl ?_
      obtain ⟨xq2, exq2, hm⟩ := am_bs hm
      refine r_cV1 [.int a4, .int a2] (ct_X5_lies l exq2) vm_X2_40 (cs_X5_lies exq2) (by decide) ⟨rfl, rfl⟩ rfl (Nat.le_of_ble_eq_true rfl) dX2_joinAllOn_18 ?_
      obtain ⟨⟨jq3, hq4⟩, hw, hm⟩ := am_bs hm
      try dsimp only at hm
      have HJ : am_R l yX2_joinAllOn cX2_joinAllOn 5 (some .int) rm_X2_joinAllOn (fun _ _ _ => True) 0 0 48 [(0, .ref a0), (1, .ref a1), (2, .int a2), (3, .int jq3), (4, .int a4)] [] hq4 K := by
        refine r_inc 1 4 [(4, .int (a4 + 1)), (0, .ref a0), (1, .ref a1), (2, .int a2), (3, .int jq3)] dX2_joinAllOn_48 (by decide) rfl (by decide) rfl ?_
        refine r_goto 5 dX2_joinAllOn_51 (by decide) ?_
        exact r_lv [1, 2, 3, 4, 0] _ rfl (ih jq3 (a4 + 1) hq4 _ hm kE)
      clear hm
      have hm := hw
      clear hw
      refine r_if_eq 48 dX2_joinAllOn_21 (by decide) (fun q => ?_) (fun q => ?_)
      · rw [if_neg (show ¬ xq2 = true from by rw [am_b0 q]; decide)] at hm
        cases hm
        exact r_lv [0, 1, 2, 3, 4] _ rfl HJ
      · rw [if_pos (show xq2 = true from am_b1 q)] at hm
        refine r_aload_n 0 dX2_joinAllOn_24 rfl ?_
        refine r_aload_n 1 dX2_joinAllOn_25 rfl ?_
        obtain ⟨xq5, exq5, hm⟩ := am_bs hm
        refine r_getr exq5 fl_X2_44 rfl dX2_joinAllOn_26 ?_
        refine r_iload 4 dX2_joinAllOn_29 rfl ?_
        obtain ⟨xq6, exq6, hm⟩ := am_bs hm
        refine r_iald exq6 dX2_joinAllOn_31 ?_
        refine r_aload_n 1 dX2_joinAllOn_32 rfl ?_
        obtain ⟨xq7, exq7, hm⟩ := am_bs hm
        refine r_getr exq7 fl_X2_47 rfl dX2_joinAllOn_33 ?_
        refine r_iload 4 dX2_joinAllOn_36 rfl ?_
        obtain ⟨xq8, exq8, hm⟩ := am_bs hm
        refine r_iald exq8 dX2_joinAllOn_38 ?_
        obtain ⟨⟨xq9, hq10⟩, exq9, hm⟩ := am_bs hm
        try dsimp only at hm
        refine r_cV1 [.int xq6, .int xq8] (ct_X2_join l exq9) vm_X2_50 (cs_X2_join exq9) (by decide) ⟨rfl, rfl⟩ rfl (Nat.le_of_ble_eq_true rfl) dX2_joinAllOn_39 ?_
        refine r_if_eq 48 dX2_joinAllOn_42 (by decide) (fun q => ?_) (fun q => ?_)
        · rw [if_neg (show ¬ xq9 = true from by rw [am_b0 q]; decide)] at hm
          cases hm
          exact r_lv [0, 1, 2, 3, 4] _ rfl HJ
        · rw [if_pos (show xq9 = true from am_b1 q)] at hm
          refine r_inc 1 3 [(3, .int (a3 + 1)), (0, .ref a0), (1, .ref a1), (2, .int a2), (4, .int a4)] dX2_joinAllOn_45 (by decide) rfl (by decide) rfl ?_
          cases hm
          exact r_lv [1, 2, 3, 0, 4] _ rfl HJ
def mi_X2_joinAllOn (f : Nat) (h : am_H) (p : Nat) (a : Nat) (b : Int32) : Option (Int32 × am_H) :=
  Option.bind (am_cls h 2 p) fun _n =>
  Option.bind (lo_X2_joinAllOn_5 f p a b f 0 0 h) fun (oq1, hq2) =>
  some (oq1, hq2)
theorem cs_X2_joinAllOn {f : Nat} {h : am_H} {p : Nat} {a : Nat} {b : Int32} {z : (Int32 × am_H)} (hm : mi_X2_joinAllOn f h p a b = some z) : ∃ n, h.1[p]? = some (2, n) := by
  unfold mi_X2_joinAllOn at hm
  obtain ⟨n, hn, -⟩ := am_bs hm
  exact ⟨n, am_cls_of hn⟩
set_option maxHeartbeats 4000000 in
set_option maxRecDepth 100000 in
theorem ct_X2_joinAllOn (l : Launch) {f : Nat} {h : am_H} {p : Nat} {a : Nat} {b : Int32} {r : Int32} {h2 : am_H} (hm : mi_X2_joinAllOn f h p a b = some (r, h2)) : am_Ct l yX2_joinAllOn cX2_joinAllOn 5 (some .int) rm_X2_joinAllOn [.ref p, .ref a, .int b] h (some (.int r)) h2 := by
  refine am_met2 [(0, .ref p), (1, .ref a), (2, .int b)] (by decide) (Nat.le_of_ble_eq_true rfl) rfl ?_
  generalize hK : (fun (v : Option Value) (h3 : am_H) => v = (some (.int r)) ∧ h3 = h2) = K
  have HK : K (some (.int r)) h2 := by rw [← hK]; exact ⟨rfl, rfl⟩
  clear hK
  unfold mi_X2_joinAllOn at hm
  obtain ⟨_n, _hn, hm⟩ := am_bs hm
  refine r_iconst 0 dX2_joinAllOn_0 (by decide) ?_
  refine r_istore_n [(3, .int 0), (0, .ref p), (1, .ref a), (2, .int b)] dX2_joinAllOn_1 (by decide) rfl ?_
  refine r_iconst 0 dX2_joinAllOn_2 (by decide) ?_
  refine r_istore [(4, .int 0), (3, .int 0), (0, .ref p), (1, .ref a), (2, .int b)] dX2_joinAllOn_3 (by decide) rfl ?_
  obtain ⟨⟨oq1, hq2⟩, ew, hm⟩ := am_bs hm
  try dsimp only at hm
  refine r_lv [2, 3, 4, 1, 0] _ rfl (ll_X2_joinAllOn_5 l f p a b _ f 0 0 h _ ew ?_)
  refine r_iload_n 0 dX2_joinAllOn_54 rfl ?_
  cases hm
  exact r_ireturn dX2_joinAllOn_55 rfl (by decide) HK
def lo_X2_walkToNode_9 (f : Nat) (a0 : Nat) (a1 : Nat) (a2 : Int32) : Nat → Int32 → Int32 → am_H → Option (Int32 × am_H)
  | 0, _, _, _ => none
  | n + 1, a3, a4, h =>
  (if a4 < 0 then
  (some (a3, h))
  else (Option.bind (mi_X2_joinAllOn f h a0 a1 (a2 >>> (a4 &&& 31))) fun (xq1, hq2) =>
  lo_X2_walkToNode_9 f a0 a1 a2 n xq1 (a4 + (-1)) hq2))
set_option maxHeartbeats 4000000 in
set_option maxRecDepth 100000 in
theorem ll_X2_walkToNode_9 (l : Launch) (f : Nat) (a0 : Nat) (a1 : Nat) (a2 : Int32) (K : Option Value → am_H → Prop) : ∀ (n : Nat) (a3 : Int32) (a4 : Int32) (h : am_H) (z : Int32 × am_H), lo_X2_walkToNode_9 f a0 a1 a2 n a3 a4 h = some z →
    am_R l yX2_walkToNode cX2_walkToNode 5 (some .int) rm_X2_walkToNode (fun _ _ _ => True) 0 0 30 [(3, .int z.1)] [] z.2 K →
    am_R l yX2_walkToNode cX2_walkToNode 5 (some .int) rm_X2_walkToNode (fun _ _ _ => True) 0 0 9 [(0, .ref a0), (1, .ref a1), (2, .int a2), (3, .int a3), (4, .int a4)] [] h K := by
  intro n
  induction n with
  | zero =>
    intro a3 a4 h z hm kE
    cases hm
  | succ n ih =>
    intro a3 a4 h z hm kE
    rw [lo_X2_walkToNode_9.eq_2] at hm
    refine r_iload 4 dX2_walkToNode_9 rfl ?_
    refine r_if_lt 30 dX2_walkToNode_11 (by decide) (fun q => ?_) (fun q => ?_)
    · rw [if_pos q] at hm
      cases hm
      exact r_lv [3] _ rfl kE
    · rw [if_neg q] at hm
      refine r_aload_n 0 dX2_walkToNode_14 rfl ?_
      refine r_aload_n 1 dX2_walkToNode_15 rfl ?_
      refine r_iload_n 2 dX2_walkToNode_16 rfl ?_
      refine r_iload 4 dX2_walkToNode_17 rfl ?_
      refine r_ishr dX2_walkToNode_19 ?_
      obtain ⟨⟨xq1, hq2⟩, exq1, hm⟩ := am_bs hm
      try dsimp only at hm
      refine r_cV1 [.ref a1, .int (a2 >>> (a4 &&& 31))] (ct_X2_joinAllOn l exq1) vm_X2_32 (cs_X2_joinAllOn exq1) (by decide) ⟨rfl, rfl⟩ rfl (Nat.le_of_ble_eq_true rfl) dX2_walkToNode_20 ?_
      refine r_istore_n [(3, .int xq1), (0, .ref a0), (1, .ref a1), (2, .int a2), (4, .int a4)] dX2_walkToNode_23 (by decide) rfl ?_
      refine r_inc (-1) 4 [(4, .int (a4 + (-1))), (3, .int xq1), (0, .ref a0), (1, .ref a1), (2, .int a2)] dX2_walkToNode_24 (by decide) rfl (by decide) rfl ?_
      refine r_goto 9 dX2_walkToNode_27 (by decide) ?_
      exact r_lv [2, 3, 4, 1, 0] _ rfl (ih xq1 (a4 + (-1)) hq2 _ hm kE)
def mi_X2_walkToNode (f : Nat) (h : am_H) (p : Nat) (a : Nat) (b : Int32) : Option (Int32 × am_H) :=
  Option.bind (am_cls h 2 p) fun _n =>
  Option.bind (mi_X2_takeApart f h p) fun hq2 =>
  Option.bind (lo_X2_walkToNode_9 f p a b f 0 4 hq2) fun (oq3, hq4) =>
  some (oq3, hq4)
theorem cs_X2_walkToNode {f : Nat} {h : am_H} {p : Nat} {a : Nat} {b : Int32} {z : (Int32 × am_H)} (hm : mi_X2_walkToNode f h p a b = some z) : ∃ n, h.1[p]? = some (2, n) := by
  unfold mi_X2_walkToNode at hm
  obtain ⟨n, hn, -⟩ := am_bs hm
  exact ⟨n, am_cls_of hn⟩
set_option maxHeartbeats 4000000 in
set_option maxRecDepth 100000 in
theorem ct_X2_walkToNode (l : Launch) {f : Nat} {h : am_H} {p : Nat} {a : Nat} {b : Int32} {r : Int32} {h2 : am_H} (hm : mi_X2_walkToNode f h p a b = some (r, h2)) : am_Ct l yX2_walkToNode cX2_walkToNode 5 (some .int) rm_X2_walkToNode [.ref p, .ref a, .int b] h (some (.int r)) h2 := by
  refine am_met2 [(0, .ref p), (1, .ref a), (2, .int b)] (by decide) (Nat.le_of_ble_eq_true rfl) rfl ?_
  generalize hK : (fun (v : Option Value) (h3 : am_H) => v = (some (.int r)) ∧ h3 = h2) = K
  have HK : K (some (.int r)) h2 := by rw [← hK]; exact ⟨rfl, rfl⟩
  clear hK
  unfold mi_X2_walkToNode at hm
  obtain ⟨_n, _hn, hm⟩ := am_bs hm
  refine r_aload_n 0 dX2_walkToNode_0 rfl ?_
  obtain ⟨hq2, exq1, hm⟩ := am_bs hm
  refine r_cV0 [] (ct_X2_takeApart l exq1) vm_X2_29 (cs_X2_takeApart exq1) (by decide) ⟨rfl, rfl⟩ rfl (Nat.le_of_ble_eq_true rfl) dX2_walkToNode_1 ?_
  refine r_iconst 0 dX2_walkToNode_4 (by decide) ?_
  refine r_istore_n [(3, .int 0), (0, .ref p), (1, .ref a), (2, .int b)] dX2_walkToNode_5 (by decide) rfl ?_
  refine r_iconst 4 dX2_walkToNode_6 (by decide) ?_
  refine r_istore [(4, .int 4), (3, .int 0), (0, .ref p), (1, .ref a), (2, .int b)] dX2_walkToNode_7 (by decide) rfl ?_
  obtain ⟨⟨oq3, hq4⟩, ew, hm⟩ := am_bs hm
  try dsimp only at hm
  refine r_lv [2, 3, 4, 1, 0] _ rfl (ll_X2_walkToNode_9 l f p a b _ f 0 4 hq2 _ ew ?_)
  refine r_iload_n 0 dX2_walkToNode_30 rfl ?_
  cases hm
  exact r_ireturn dX2_walkToNode_31 rfl (by decide) HK
def mi_X2_walkToTime (f : Nat) (h : am_H) (p : Nat) (a : Nat) (b : Int32) : Option am_H :=
  Option.bind (am_cls h 2 p) fun _n =>
  Option.bind (mi_X2_walkToNode f h p a ((16 : Int32) + b)) fun (xq1, hq2) =>
  some hq2
theorem cs_X2_walkToTime {f : Nat} {h : am_H} {p : Nat} {a : Nat} {b : Int32} {z : am_H} (hm : mi_X2_walkToTime f h p a b = some z) : ∃ n, h.1[p]? = some (2, n) := by
  unfold mi_X2_walkToTime at hm
  obtain ⟨n, hn, -⟩ := am_bs hm
  exact ⟨n, am_cls_of hn⟩
set_option maxHeartbeats 4000000 in
set_option maxRecDepth 100000 in
theorem ct_X2_walkToTime (l : Launch) {f : Nat} {h : am_H} {p : Nat} {a : Nat} {b : Int32} {h2 : am_H} (hm : mi_X2_walkToTime f h p a b = some h2) : am_Ct l yX2_walkToTime cX2_walkToTime 3 (none) rm_X2_walkToTime [.ref p, .ref a, .int b] h none h2 := by
  refine am_met2 [(0, .ref p), (1, .ref a), (2, .int b)] (by decide) (Nat.le_of_ble_eq_true rfl) rfl ?_
  generalize hK : (fun (v : Option Value) (h3 : am_H) => v = none ∧ h3 = h2) = K
  have HK : K none h2 := by rw [← hK]; exact ⟨rfl, rfl⟩
  clear hK
  unfold mi_X2_walkToTime at hm
  obtain ⟨_n, _hn, hm⟩ := am_bs hm
  refine r_aload_n 0 dX2_walkToTime_0 rfl ?_
  refine r_aload_n 1 dX2_walkToTime_1 rfl ?_
  refine r_bipush 16 dX2_walkToTime_2 (by decide) ?_
  refine r_iload_n 2 dX2_walkToTime_4 rfl ?_
  refine r_iadd dX2_walkToTime_5 ?_
  obtain ⟨⟨xq1, hq2⟩, exq1, hm⟩ := am_bs hm
  try dsimp only at hm
  refine r_cV1 [.ref a, .int ((16 : Int32) + b)] (ct_X2_walkToNode l exq1) vm_X2_25 (cs_X2_walkToNode exq1) (by decide) ⟨rfl, rfl⟩ rfl (Nat.le_of_ble_eq_true rfl) dX2_walkToTime_6 ?_
  refine r_pop dX2_walkToTime_9 rfl ?_
  cases hm
  exact r_return dX2_walkToTime_10 rfl (by decide) HK
def lo_X2_parts_4 (f : Nat) (h : am_H) (a0 : Nat) : Nat → Int32 → Int32 → Option (Int32)
  | 0, _, _ => none
  | n + 1, a1, a2 =>
  (if 8 ≤ a2 then
  (some a1)
  else (Option.bind (am_gr h 2 a0 0) fun xq1 =>
  Option.bind (am_li h 9 xq1 a2) fun xq2 =>
  Option.bind ((if xq2 = a2 then
  (some (a1 + 1))
  else (some a1))) fun jq3 =>
  lo_X2_parts_4 f h a0 n jq3 (a2 + 1)))
set_option maxHeartbeats 4000000 in
set_option maxRecDepth 100000 in
theorem ll_X2_parts_4 (l : Launch) (f : Nat) (h : am_H) (a0 : Nat) (K : Option Value → am_H → Prop) : ∀ (n : Nat) (a1 : Int32) (a2 : Int32) (z : Int32), lo_X2_parts_4 f h a0 n a1 a2 = some z →
    am_R l yX2_parts cX2_parts 3 (some .int) rm_X2_parts (fun _ _ _ => True) 0 0 29 [(1, .int z)] [] h K →
    am_R l yX2_parts cX2_parts 3 (some .int) rm_X2_parts (fun _ _ _ => True) 0 0 4 [(0, .ref a0), (1, .int a1), (2, .int a2)] [] h K := by
  intro n
  induction n with
  | zero =>
    intro a1 a2 z hm kE
    cases hm
  | succ n ih =>
    intro a1 a2 z hm kE
    rw [lo_X2_parts_4.eq_2] at hm
    refine r_iload_n 2 dX2_parts_4 rfl ?_
    refine r_bipush 8 dX2_parts_5 (by decide) ?_
    refine r_icmp_ge 29 dX2_parts_7 (by decide) (fun q => ?_) (fun q => ?_)
    · rw [if_pos q] at hm
      cases hm
      exact r_lv [1] _ rfl kE
    · rw [if_neg q] at hm
      refine r_aload_n 0 dX2_parts_10 rfl ?_
      obtain ⟨xq1, exq1, hm⟩ := am_bs hm
      refine r_getr exq1 fl_X2_9 rfl dX2_parts_11 ?_
      refine r_iload_n 2 dX2_parts_14 rfl ?_
      obtain ⟨xq2, exq2, hm⟩ := am_bs hm
      refine r_iald exq2 dX2_parts_15 ?_
      refine r_iload_n 2 dX2_parts_16 rfl ?_
      obtain ⟨jq3, hw, hm⟩ := am_bs hm
      try dsimp only at hm
      have HJ : am_R l yX2_parts cX2_parts 3 (some .int) rm_X2_parts (fun _ _ _ => True) 0 0 23 [(0, .ref a0), (1, .int jq3), (2, .int a2)] [] h K := by
        refine r_inc 1 2 [(2, .int (a2 + 1)), (0, .ref a0), (1, .int jq3)] dX2_parts_23 (by decide) rfl (by decide) rfl ?_
        refine r_goto 4 dX2_parts_26 (by decide) ?_
        exact r_lv [1, 2, 0] _ rfl (ih jq3 (a2 + 1) _ hm kE)
      clear hm
      have hm := hw
      clear hw
      refine r_icmp_ne 23 dX2_parts_17 (by decide) (fun q => ?_) (fun q => ?_)
      · rw [if_neg q] at hm
        cases hm
        exact r_lv [0, 1, 2] _ rfl HJ
      · rw [if_pos q] at hm
        refine r_inc 1 1 [(1, .int (a1 + 1)), (0, .ref a0), (2, .int a2)] dX2_parts_20 (by decide) rfl (by decide) rfl ?_
        cases hm
        exact r_lv [1, 0, 2] _ rfl HJ
def mi_X2_parts (f : Nat) (h : am_H) (p : Nat) : Option Int32 :=
  Option.bind (am_cls h 2 p) fun _n =>
  Option.bind (lo_X2_parts_4 f h p f 0 0) fun oq1 =>
  some oq1
theorem cs_X2_parts {f : Nat} {h : am_H} {p : Nat} {z : Int32} (hm : mi_X2_parts f h p = some z) : ∃ n, h.1[p]? = some (2, n) := by
  unfold mi_X2_parts at hm
  obtain ⟨n, hn, -⟩ := am_bs hm
  exact ⟨n, am_cls_of hn⟩
set_option maxHeartbeats 4000000 in
set_option maxRecDepth 100000 in
theorem ct_X2_parts (l : Launch) {f : Nat} {h : am_H} {p : Nat} {r : Int32} (hm : mi_X2_parts f h p = some r) : am_Ct l yX2_parts cX2_parts 3 (some .int) rm_X2_parts [.ref p] h (some (.int r)) h := by
  refine am_met2 [(0, .ref p)] (by decide) (Nat.le_of_ble_eq_true rfl) rfl ?_
  generalize hK : (fun (v : Option Value) (h3 : am_H) => v = (some (.int r)) ∧ h3 = h) = K
  have HK : K (some (.int r)) h := by rw [← hK]; exact ⟨rfl, rfl⟩
  clear hK
  unfold mi_X2_parts at hm
  obtain ⟨_n, _hn, hm⟩ := am_bs hm
  refine r_iconst 0 dX2_parts_0 (by decide) ?_
  refine r_istore_n [(1, .int 0), (0, .ref p)] dX2_parts_1 (by decide) rfl ?_
  refine r_iconst 0 dX2_parts_2 (by decide) ?_
  refine r_istore_n [(2, .int 0), (1, .int 0), (0, .ref p)] dX2_parts_3 (by decide) rfl ?_
  obtain ⟨oq1, ew, hm⟩ := am_bs hm
  try dsimp only at hm
  refine r_lv [2, 1, 0] _ rfl (ll_X2_parts_4 l f h p _ f 0 0 _ ew ?_)
  refine r_iload_n 0 dX2_parts_29 rfl ?_
  cases hm
  exact r_ireturn dX2_parts_30 rfl (by decide) HK
def mi_X5_livesAt (f : Nat) (h : am_H) (p : Nat) (a : Int32) (b : Int32) : Option Bool :=
  Option.bind (am_cls h 5 p) fun _n =>
  Option.bind (am_gr h 5 p 2) fun xq1 =>
  Option.bind (am_li h 9 xq1 a) fun xq2 =>
  Option.bind ((if b < xq2 then
  (some false)
  else (Option.bind (am_gr h 5 p 3) fun xq4 =>
  Option.bind (am_li h 9 xq4 a) fun xq5 =>
  (if xq5 < b then
  (some false)
  else (some true))))) fun jq3 =>
  some jq3
theorem cs_X5_livesAt {f : Nat} {h : am_H} {p : Nat} {a : Int32} {b : Int32} {z : Bool} (hm : mi_X5_livesAt f h p a b = some z) : ∃ n, h.1[p]? = some (5, n) := by
  unfold mi_X5_livesAt at hm
  obtain ⟨n, hn, -⟩ := am_bs hm
  exact ⟨n, am_cls_of hn⟩
set_option maxHeartbeats 4000000 in
set_option maxRecDepth 100000 in
theorem ct_X5_livesAt (l : Launch) {f : Nat} {h : am_H} {p : Nat} {a : Int32} {b : Int32} {r : Bool} (hm : mi_X5_livesAt f h p a b = some r) : am_Ct l yX5_livesAt cX5_livesAt 3 (some .boolean) rm_X5_livesAt [.ref p, .int a, .int b] h (some (.int (am_b r))) h := by
  refine am_met2 [(0, .ref p), (1, .int a), (2, .int b)] (by decide) (Nat.le_of_ble_eq_true rfl) rfl ?_
  generalize hK : (fun (v : Option Value) (h3 : am_H) => v = (some (.int (am_b r))) ∧ h3 = h) = K
  have HK : K (some (.int (am_b r))) h := by rw [← hK]; exact ⟨rfl, rfl⟩
  clear hK
  unfold mi_X5_livesAt at hm
  obtain ⟨_n, _hn, hm⟩ := am_bs hm
  refine r_aload_n 0 dX5_livesAt_0 rfl ?_
  obtain ⟨xq1, exq1, hm⟩ := am_bs hm
  refine r_getr exq1 fl_X5_18 rfl dX5_livesAt_1 ?_
  refine r_iload_n 1 dX5_livesAt_4 rfl ?_
  obtain ⟨xq2, exq2, hm⟩ := am_bs hm
  refine r_iald exq2 dX5_livesAt_5 ?_
  refine r_iload_n 2 dX5_livesAt_6 rfl ?_
  obtain ⟨jq3, hw, hm⟩ := am_bs hm
  try dsimp only at hm
  have HJ : am_R l yX5_livesAt cX5_livesAt 3 (some .boolean) rm_X5_livesAt (fun _ _ _ => True) 0 0 25 [] [.int (am_b jq3)] h K := by
    cases hm
    exact r_zreturn _ dX5_livesAt_25 rfl (by decide) HK
  clear hm
  have hm := hw
  clear hw
  refine r_icmp_gt 24 dX5_livesAt_7 (by decide) (fun q => ?_) (fun q => ?_)
  · rw [if_pos q] at hm
    refine r_iconst 0 dX5_livesAt_24 (by decide) ?_
    cases hm
    exact r_lv [] _ rfl HJ
  · rw [if_neg q] at hm
    refine r_iload_n 2 dX5_livesAt_10 rfl ?_
    refine r_aload_n 0 dX5_livesAt_11 rfl ?_
    obtain ⟨xq4, exq4, hm⟩ := am_bs hm
    refine r_getr exq4 fl_X5_21 rfl dX5_livesAt_12 ?_
    refine r_iload_n 1 dX5_livesAt_15 rfl ?_
    obtain ⟨xq5, exq5, hm⟩ := am_bs hm
    refine r_iald exq5 dX5_livesAt_16 ?_
    refine r_icmp_gt 24 dX5_livesAt_17 (by decide) (fun q => ?_) (fun q => ?_)
    · rw [if_pos q] at hm
      refine r_iconst 0 dX5_livesAt_24 (by decide) ?_
      cases hm
      exact r_lv [] _ rfl HJ
    · rw [if_neg q] at hm
      refine r_iconst 1 dX5_livesAt_20 (by decide) ?_
      refine r_goto 25 dX5_livesAt_21 (by decide) ?_
      cases hm
      exact r_lv [] _ rfl HJ
def lo_X5_livingAt_4 (f : Nat) (h : am_H) (a0 : Nat) (a1 : Int32) : Nat → Int32 → Int32 → Option (Int32)
  | 0, _, _ => none
  | n + 1, a2, a3 =>
  Option.bind (am_gi h 5 a0 4) fun xq1 =>
  (if xq1 ≤ a3 then
  (some a2)
  else (Option.bind (mi_X5_livesAt f h a0 a3 a1) fun xq2 =>
  Option.bind ((if xq2 = true then
  (some (a2 ||| ((1 : Int32) <<< (a3 &&& 31))))
  else (some a2))) fun jq3 =>
  lo_X5_livingAt_4 f h a0 a1 n jq3 (a3 + 1)))
set_option maxHeartbeats 4000000 in
set_option maxRecDepth 100000 in
theorem ll_X5_livingAt_4 (l : Launch) (f : Nat) (h : am_H) (a0 : Nat) (a1 : Int32) (K : Option Value → am_H → Prop) : ∀ (n : Nat) (a2 : Int32) (a3 : Int32) (z : Int32), lo_X5_livingAt_4 f h a0 a1 n a2 a3 = some z →
    am_R l yX5_livingAt cX5_livingAt 4 (some .int) rm_X5_livingAt (fun _ _ _ => True) 0 0 33 [(2, .int z)] [] h K →
    am_R l yX5_livingAt cX5_livingAt 4 (some .int) rm_X5_livingAt (fun _ _ _ => True) 0 0 4 [(0, .ref a0), (1, .int a1), (2, .int a2), (3, .int a3)] [] h K := by
  intro n
  induction n with
  | zero =>
    intro a2 a3 z hm kE
    cases hm
  | succ n ih =>
    intro a2 a3 z hm kE
    rw [lo_X5_livingAt_4.eq_2] at hm
    refine r_iload_n 3 dX5_livingAt_4 rfl ?_
    refine r_aload_n 0 dX5_livingAt_5 rfl ?_
    obtain ⟨xq1, exq1, hm⟩ := am_bs hm
    refine r_geti exq1 fl_X5_24 rfl dX5_livingAt_6 ?_
    refine r_icmp_ge 33 dX5_livingAt_9 (by decide) (fun q => ?_) (fun q => ?_)
    · rw [if_pos q] at hm
      cases hm
      exact r_lv [2] _ rfl kE
    · rw [if_neg q] at hm
      refine r_aload_n 0 dX5_livingAt_12 rfl ?_
      refine r_iload_n 3 dX5_livingAt_13 rfl ?_
      refine r_iload_n 1 dX5_livingAt_14 rfl ?_
      obtain ⟨xq2, exq2, hm⟩ := am_bs hm
      refine r_cV1 [.int a3, .int a1] (ct_X5_livesAt l exq2) vm_X5_62 (cs_X5_livesAt exq2) (by decide) ⟨rfl, rfl⟩ rfl (Nat.le_of_ble_eq_true rfl) dX5_livingAt_15 ?_
      obtain ⟨jq3, hw, hm⟩ := am_bs hm
      try dsimp only at hm
      have HJ : am_R l yX5_livingAt cX5_livingAt 4 (some .int) rm_X5_livingAt (fun _ _ _ => True) 0 0 27 [(0, .ref a0), (1, .int a1), (2, .int jq3), (3, .int a3)] [] h K := by
        refine r_inc 1 3 [(3, .int (a3 + 1)), (0, .ref a0), (1, .int a1), (2, .int jq3)] dX5_livingAt_27 (by decide) rfl (by decide) rfl ?_
        refine r_goto 4 dX5_livingAt_30 (by decide) ?_
        exact r_lv [1, 2, 3, 0] _ rfl (ih jq3 (a3 + 1) _ hm kE)
      clear hm
      have hm := hw
      clear hw
      refine r_if_eq 27 dX5_livingAt_18 (by decide) (fun q => ?_) (fun q => ?_)
      · rw [if_neg (show ¬ xq2 = true from by rw [am_b0 q]; decide)] at hm
        cases hm
        exact r_lv [0, 1, 2, 3] _ rfl HJ
      · rw [if_pos (show xq2 = true from am_b1 q)] at hm
        refine r_iload_n 2 dX5_livingAt_21 rfl ?_
        refine r_iconst 1 dX5_livingAt_22 (by decide) ?_
        refine r_iload_n 3 dX5_livingAt_23 rfl ?_
        refine r_ishl dX5_livingAt_24 ?_
        refine r_ior dX5_livingAt_25 ?_
        refine r_istore_n [(2, .int (a2 ||| ((1 : Int32) <<< (a3 &&& 31)))), (0, .ref a0), (1, .int a1), (3, .int a3)] dX5_livingAt_26 (by decide) rfl ?_
        cases hm
        exact r_lv [1, 2, 0, 3] _ rfl HJ
def mi_X5_livingAt (f : Nat) (h : am_H) (p : Nat) (a : Int32) : Option Int32 :=
  Option.bind (am_cls h 5 p) fun _n =>
  Option.bind (lo_X5_livingAt_4 f h p a f 0 0) fun oq1 =>
  some oq1
theorem cs_X5_livingAt {f : Nat} {h : am_H} {p : Nat} {a : Int32} {z : Int32} (hm : mi_X5_livingAt f h p a = some z) : ∃ n, h.1[p]? = some (5, n) := by
  unfold mi_X5_livingAt at hm
  obtain ⟨n, hn, -⟩ := am_bs hm
  exact ⟨n, am_cls_of hn⟩
set_option maxHeartbeats 4000000 in
set_option maxRecDepth 100000 in
theorem ct_X5_livingAt (l : Launch) {f : Nat} {h : am_H} {p : Nat} {a : Int32} {r : Int32} (hm : mi_X5_livingAt f h p a = some r) : am_Ct l yX5_livingAt cX5_livingAt 4 (some .int) rm_X5_livingAt [.ref p, .int a] h (some (.int r)) h := by
  refine am_met2 [(0, .ref p), (1, .int a)] (by decide) (Nat.le_of_ble_eq_true rfl) rfl ?_
  generalize hK : (fun (v : Option Value) (h3 : am_H) => v = (some (.int r)) ∧ h3 = h) = K
  have HK : K (some (.int r)) h := by rw [← hK]; exact ⟨rfl, rfl⟩
  clear hK
  unfold mi_X5_livingAt at hm
  obtain ⟨_n, _hn, hm⟩ := am_bs hm
  refine r_iconst 0 dX5_livingAt_0 (by decide) ?_
  refine r_istore_n [(2, .int 0), (0, .ref p), (1, .int a)] dX5_livingAt_1 (by decide) rfl ?_
  refine r_iconst 0 dX5_livingAt_2 (by decide) ?_
  refine r_istore_n [(3, .int 0), (2, .int 0), (0, .ref p), (1, .int a)] dX5_livingAt_3 (by decide) rfl ?_
  obtain ⟨oq1, ew, hm⟩ := am_bs hm
  try dsimp only at hm
  refine r_lv [2, 3, 1, 0] _ rfl (ll_X5_livingAt_4 l f h p a _ f 0 0 _ ew ?_)
  refine r_iload_n 0 dX5_livingAt_33 rfl ?_
  cases hm
  exact r_ireturn dX5_livingAt_34 rfl (by decide) HK
def lo_X2_oddParts_4 (f : Nat) (h : am_H) (a0 : Nat) : Nat → Int32 → Int32 → Option (Int32)
  | 0, _, _ => none
  | n + 1, a1, a2 =>
  (if 8 ≤ a2 then
  (some a1)
  else (Option.bind (am_gr h 2 a0 0) fun xq1 =>
  Option.bind (am_li h 9 xq1 a2) fun xq2 =>
  Option.bind ((if xq2 = a2 then
  (Option.bind (am_gr h 2 a0 3) fun xq4 =>
  Option.bind (am_li h 10 xq4 a2) fun xq5 =>
  (if xq5 = 0 then
  (some a1)
  else (some (a1 + 1))))
  else (some a1))) fun jq3 =>
  lo_X2_oddParts_4 f h a0 n jq3 (a2 + 1)))
set_option maxHeartbeats 4000000 in
set_option maxRecDepth 100000 in
theorem ll_X2_oddParts_4 (l : Launch) (f : Nat) (h : am_H) (a0 : Nat) (K : Option Value → am_H → Prop) : ∀ (n : Nat) (a1 : Int32) (a2 : Int32) (z : Int32), lo_X2_oddParts_4 f h a0 n a1 a2 = some z →
    am_R l yX2_oddParts cX2_oddParts 3 (some .int) rm_X2_oddParts (fun _ _ _ => True) 0 0 38 [(1, .int z)] [] h K →
    am_R l yX2_oddParts cX2_oddParts 3 (some .int) rm_X2_oddParts (fun _ _ _ => True) 0 0 4 [(0, .ref a0), (1, .int a1), (2, .int a2)] [] h K := by
  intro n
  induction n with
  | zero =>
    intro a1 a2 z hm kE
    cases hm
  | succ n ih =>
    intro a1 a2 z hm kE
    rw [lo_X2_oddParts_4.eq_2] at hm
    refine r_iload_n 2 dX2_oddParts_4 rfl ?_
    refine r_bipush 8 dX2_oddParts_5 (by decide) ?_
    refine r_icmp_ge 38 dX2_oddParts_7 (by decide) (fun q => ?_) (fun q => ?_)
    · rw [if_pos q] at hm
      cases hm
      exact r_lv [1] _ rfl kE
    · rw [if_neg q] at hm
      refine r_aload_n 0 dX2_oddParts_10 rfl ?_
      obtain ⟨xq1, exq1, hm⟩ := am_bs hm
      refine r_getr exq1 fl_X2_9 rfl dX2_oddParts_11 ?_
      refine r_iload_n 2 dX2_oddParts_14 rfl ?_
      obtain ⟨xq2, exq2, hm⟩ := am_bs hm
      refine r_iald exq2 dX2_oddParts_15 ?_
      refine r_iload_n 2 dX2_oddParts_16 rfl ?_
      obtain ⟨jq3, hw, hm⟩ := am_bs hm
      try dsimp only at hm
      have HJ : am_R l yX2_oddParts cX2_oddParts 3 (some .int) rm_X2_oddParts (fun _ _ _ => True) 0 0 32 [(0, .ref a0), (1, .int jq3), (2, .int a2)] [] h K := by
        refine r_inc 1 2 [(2, .int (a2 + 1)), (0, .ref a0), (1, .int jq3)] dX2_oddParts_32 (by decide) rfl (by decide) rfl ?_
        refine r_goto 4 dX2_oddParts_35 (by decide) ?_
        exact r_lv [1, 2, 0] _ rfl (ih jq3 (a2 + 1) _ hm kE)
      clear hm
      have hm := hw
      clear hw
      refine r_icmp_ne 32 dX2_oddParts_17 (by decide) (fun q => ?_) (fun q => ?_)
      · rw [if_neg q] at hm
        cases hm
        exact r_lv [0, 1, 2] _ rfl HJ
      · rw [if_pos q] at hm
        refine r_aload_n 0 dX2_oddParts_20 rfl ?_
        obtain ⟨xq4, exq4, hm⟩ := am_bs hm
        refine r_getr exq4 fl_X2_21 rfl dX2_oddParts_21 ?_
        refine r_iload_n 2 dX2_oddParts_24 rfl ?_
        obtain ⟨xq5, exq5, hm⟩ := am_bs hm
        refine r_zald exq5 dX2_oddParts_25 ?_
        refine r_if_eq 32 dX2_oddParts_26 (by decide) (fun q => ?_) (fun q => ?_)
        · rw [if_pos q] at hm
          cases hm
          exact r_lv [0, 1, 2] _ rfl HJ
        · rw [if_neg q] at hm
          refine r_inc 1 1 [(1, .int (a1 + 1)), (0, .ref a0), (2, .int a2)] dX2_oddParts_29 (by decide) rfl (by decide) rfl ?_
          cases hm
          exact r_lv [1, 0, 2] _ rfl HJ
def mi_X2_oddParts (f : Nat) (h : am_H) (p : Nat) : Option Int32 :=
  Option.bind (am_cls h 2 p) fun _n =>
  Option.bind (lo_X2_oddParts_4 f h p f 0 0) fun oq1 =>
  some oq1
theorem cs_X2_oddParts {f : Nat} {h : am_H} {p : Nat} {z : Int32} (hm : mi_X2_oddParts f h p = some z) : ∃ n, h.1[p]? = some (2, n) := by
  unfold mi_X2_oddParts at hm
  obtain ⟨n, hn, -⟩ := am_bs hm
  exact ⟨n, am_cls_of hn⟩
set_option maxHeartbeats 4000000 in
set_option maxRecDepth 100000 in
theorem ct_X2_oddParts (l : Launch) {f : Nat} {h : am_H} {p : Nat} {r : Int32} (hm : mi_X2_oddParts f h p = some r) : am_Ct l yX2_oddParts cX2_oddParts 3 (some .int) rm_X2_oddParts [.ref p] h (some (.int r)) h := by
  refine am_met2 [(0, .ref p)] (by decide) (Nat.le_of_ble_eq_true rfl) rfl ?_
  generalize hK : (fun (v : Option Value) (h3 : am_H) => v = (some (.int r)) ∧ h3 = h) = K
  have HK : K (some (.int r)) h := by rw [← hK]; exact ⟨rfl, rfl⟩
  clear hK
  unfold mi_X2_oddParts at hm
  obtain ⟨_n, _hn, hm⟩ := am_bs hm
  refine r_iconst 0 dX2_oddParts_0 (by decide) ?_
  refine r_istore_n [(1, .int 0), (0, .ref p)] dX2_oddParts_1 (by decide) rfl ?_
  refine r_iconst 0 dX2_oddParts_2 (by decide) ?_
  refine r_istore_n [(2, .int 0), (1, .int 0), (0, .ref p)] dX2_oddParts_3 (by decide) rfl ?_
  obtain ⟨oq1, ew, hm⟩ := am_bs hm
  try dsimp only at hm
  refine r_lv [2, 1, 0] _ rfl (ll_X2_oddParts_4 l f h p _ f 0 0 _ ew ?_)
  refine r_iload_n 0 dX2_oddParts_38 rfl ?_
  cases hm
  exact r_ireturn dX2_oddParts_39 rfl (by decide) HK
def lo_X2_depthOf_7 (f : Nat) (h : am_H) (a0 : Nat) : Nat → Int32 → Int32 → Int32 → Option (Int32)
  | 0, _, _, _ => none
  | n + 1, a2, a3, a4 =>
  (if 8 ≤ a4 then
  (some a2)
  else (Option.bind (am_gr h 2 a0 0) fun xq1 =>
  Option.bind (am_li h 9 xq1 a3) fun xq2 =>
  (if xq2 = a3 then
  (some a2)
  else (Option.bind (am_gr h 2 a0 0) fun xq3 =>
  Option.bind (am_li h 9 xq3 a3) fun xq4 =>
  lo_X2_depthOf_7 f h a0 n (a2 + 1) xq4 (a4 + 1)))))
set_option maxHeartbeats 4000000 in
set_option maxRecDepth 100000 in
theorem ll_X2_depthOf_7 (l : Launch) (f : Nat) (h : am_H) (a0 : Nat) (K : Option Value → am_H → Prop) : ∀ (n : Nat) (a2 : Int32) (a3 : Int32) (a4 : Int32) (z : Int32), lo_X2_depthOf_7 f h a0 n a2 a3 a4 = some z →
    am_R l yX2_depthOf cX2_depthOf 5 (some .int) rm_X2_depthOf (fun _ _ _ => True) 0 0 40 [(2, .int z)] [] h K →
    am_R l yX2_depthOf cX2_depthOf 5 (some .int) rm_X2_depthOf (fun _ _ _ => True) 0 0 7 [(0, .ref a0), (2, .int a2), (3, .int a3), (4, .int a4)] [] h K := by
  intro n
  induction n with
  | zero =>
    intro a2 a3 a4 z hm kE
    cases hm
  | succ n ih =>
    intro a2 a3 a4 z hm kE
    rw [lo_X2_depthOf_7.eq_2] at hm
    refine r_iload 3 dX2_depthOf_7 rfl ?_
    refine r_bipush 8 dX2_depthOf_9 (by decide) ?_
    refine r_icmp_ge 40 dX2_depthOf_11 (by decide) (fun q => ?_) (fun q => ?_)
    · rw [if_pos q] at hm
      cases hm
      exact r_lv [1] _ rfl kE
    · rw [if_neg q] at hm
      refine r_aload_n 0 dX2_depthOf_14 rfl ?_
      obtain ⟨xq1, exq1, hm⟩ := am_bs hm
      refine r_getr exq1 fl_X2_9 rfl dX2_depthOf_15 ?_
      refine r_iload_n 2 dX2_depthOf_18 rfl ?_
      obtain ⟨xq2, exq2, hm⟩ := am_bs hm
      refine r_iald exq2 dX2_depthOf_19 ?_
      refine r_iload_n 2 dX2_depthOf_20 rfl ?_
      refine r_icmp_eq 40 dX2_depthOf_21 (by decide) (fun q => ?_) (fun q => ?_)
      · rw [if_pos q] at hm
        cases hm
        exact r_lv [1] _ rfl kE
      · rw [if_neg q] at hm
        refine r_aload_n 0 dX2_depthOf_24 rfl ?_
        obtain ⟨xq3, exq3, hm⟩ := am_bs hm
        refine r_getr exq3 fl_X2_9 rfl dX2_depthOf_25 ?_
        refine r_iload_n 2 dX2_depthOf_28 rfl ?_
        obtain ⟨xq4, exq4, hm⟩ := am_bs hm
        refine r_iald exq4 dX2_depthOf_29 ?_
        refine r_istore_n [(3, .int xq4), (0, .ref a0), (2, .int a2), (4, .int a4)] dX2_depthOf_30 (by decide) rfl ?_
        refine r_inc 1 2 [(2, .int (a2 + 1)), (3, .int xq4), (0, .ref a0), (4, .int a4)] dX2_depthOf_31 (by decide) rfl (by decide) rfl ?_
        refine r_inc 1 3 [(4, .int (a4 + 1)), (2, .int (a2 + 1)), (3, .int xq4), (0, .ref a0)] dX2_depthOf_34 (by decide) rfl (by decide) rfl ?_
        refine r_goto 7 dX2_depthOf_37 (by decide) ?_
        exact r_lv [3, 1, 2, 0] _ rfl (ih (a2 + 1) xq4 (a4 + 1) _ hm kE)
def mi_X2_depthOf (f : Nat) (h : am_H) (p : Nat) (a : Int32) : Option Int32 :=
  Option.bind (am_cls h 2 p) fun _n =>
  Option.bind (lo_X2_depthOf_7 f h p f 0 a 0) fun oq1 =>
  some oq1
theorem cs_X2_depthOf {f : Nat} {h : am_H} {p : Nat} {a : Int32} {z : Int32} (hm : mi_X2_depthOf f h p a = some z) : ∃ n, h.1[p]? = some (2, n) := by
  unfold mi_X2_depthOf at hm
  obtain ⟨n, hn, -⟩ := am_bs hm
  exact ⟨n, am_cls_of hn⟩
set_option maxHeartbeats 4000000 in
set_option maxRecDepth 100000 in
theorem ct_X2_depthOf (l : Launch) {f : Nat} {h : am_H} {p : Nat} {a : Int32} {r : Int32} (hm : mi_X2_depthOf f h p a = some r) : am_Ct l yX2_depthOf cX2_depthOf 5 (some .int) rm_X2_depthOf [.ref p, .int a] h (some (.int r)) h := by
  refine am_met2 [(0, .ref p), (1, .int a)] (by decide) (Nat.le_of_ble_eq_true rfl) rfl ?_
  generalize hK : (fun (v : Option Value) (h3 : am_H) => v = (some (.int r)) ∧ h3 = h) = K
  have HK : K (some (.int r)) h := by rw [← hK]; exact ⟨rfl, rfl⟩
  clear hK
  unfold mi_X2_depthOf at hm
  obtain ⟨_n, _hn, hm⟩ := am_bs hm
  refine r_iconst 0 dX2_depthOf_0 (by decide) ?_
  refine r_istore_n [(2, .int 0), (0, .ref p), (1, .int a)] dX2_depthOf_1 (by decide) rfl ?_
  refine r_iload_n 2 dX2_depthOf_2 rfl ?_
  refine r_istore_n [(3, .int a), (2, .int 0), (0, .ref p), (1, .int a)] dX2_depthOf_3 (by decide) rfl ?_
  refine r_iconst 0 dX2_depthOf_4 (by decide) ?_
  refine r_istore [(4, .int 0), (3, .int a), (2, .int 0), (0, .ref p), (1, .int a)] dX2_depthOf_5 (by decide) rfl ?_
  obtain ⟨oq1, ew, hm⟩ := am_bs hm
  try dsimp only at hm
  refine r_lv [3, 2, 1, 0] _ rfl (ll_X2_depthOf_7 l f h p _ f 0 a 0 _ ew ?_)
  refine r_iload_n 0 dX2_depthOf_40 rfl ?_
  cases hm
  exact r_ireturn dX2_depthOf_41 rfl (by decide) HK
def lo_X2_greatestDepth_4 (f : Nat) (h : am_H) (a0 : Nat) : Nat → Int32 → Int32 → Option (Int32)
  | 0, _, _ => none
  | n + 1, a1, a2 =>
  (if 8 ≤ a2 then
  (some a1)
  else (Option.bind (mi_X2_depthOf f h a0 a2) fun xq1 =>
  lo_X2_greatestDepth_4 f h a0 n (am_mx a1 xq1) (a2 + 1)))
set_option maxHeartbeats 4000000 in
set_option maxRecDepth 100000 in
theorem ll_X2_greatestDepth_4 (l : Launch) (f : Nat) (h : am_H) (a0 : Nat) (K : Option Value → am_H → Prop) : ∀ (n : Nat) (a1 : Int32) (a2 : Int32) (z : Int32), lo_X2_greatestDepth_4 f h a0 n a1 a2 = some z →
    am_R l yX2_greatestDepth cX2_greatestDepth 3 (some .int) rm_X2_greatestDepth (fun _ _ _ => True) 0 0 26 [(1, .int z)] [] h K →
    am_R l yX2_greatestDepth cX2_greatestDepth 3 (some .int) rm_X2_greatestDepth (fun _ _ _ => True) 0 0 4 [(0, .ref a0), (1, .int a1), (2, .int a2)] [] h K := by
  intro n
  induction n with
  | zero =>
    intro a1 a2 z hm kE
    cases hm
  | succ n ih =>
    intro a1 a2 z hm kE
    rw [lo_X2_greatestDepth_4.eq_2] at hm
    refine r_iload_n 2 dX2_greatestDepth_4 rfl ?_
    refine r_bipush 8 dX2_greatestDepth_5 (by decide) ?_
    refine r_icmp_ge 26 dX2_greatestDepth_7 (by decide) (fun q => ?_) (fun q => ?_)
    · rw [if_pos q] at hm
      cases hm
      exact r_lv [1] _ rfl kE
    · rw [if_neg q] at hm
      refine r_iload_n 1 dX2_greatestDepth_10 rfl ?_
      refine r_aload_n 0 dX2_greatestDepth_11 rfl ?_
      refine r_iload_n 2 dX2_greatestDepth_12 rfl ?_
      obtain ⟨xq1, exq1, hm⟩ := am_bs hm
      refine r_cV1 [.int a2] (ct_X2_depthOf l exq1) vm_X2_67 (cs_X2_depthOf exq1) (by decide) ⟨rfl, rfl⟩ rfl (Nat.le_of_ble_eq_true rfl) dX2_greatestDepth_13 ?_
      refine r_mmax km_X2_70 (by decide) (Nat.le_of_ble_eq_true rfl) (by decide) dX2_greatestDepth_16 ?_
      refine r_istore_n [(1, .int (am_mx a1 xq1)), (0, .ref a0), (2, .int a2)] dX2_greatestDepth_19 (by decide) rfl ?_
      refine r_inc 1 2 [(2, .int (a2 + 1)), (1, .int (am_mx a1 xq1)), (0, .ref a0)] dX2_greatestDepth_20 (by decide) rfl (by decide) rfl ?_
      refine r_goto 4 dX2_greatestDepth_23 (by decide) ?_
      exact r_lv [2, 1, 0] _ rfl (ih (am_mx a1 xq1) (a2 + 1) _ hm kE)
def mi_X2_greatestDepth (f : Nat) (h : am_H) (p : Nat) : Option Int32 :=
  Option.bind (am_cls h 2 p) fun _n =>
  Option.bind (lo_X2_greatestDepth_4 f h p f 0 0) fun oq1 =>
  some oq1
theorem cs_X2_greatestDepth {f : Nat} {h : am_H} {p : Nat} {z : Int32} (hm : mi_X2_greatestDepth f h p = some z) : ∃ n, h.1[p]? = some (2, n) := by
  unfold mi_X2_greatestDepth at hm
  obtain ⟨n, hn, -⟩ := am_bs hm
  exact ⟨n, am_cls_of hn⟩
set_option maxHeartbeats 4000000 in
set_option maxRecDepth 100000 in
theorem ct_X2_greatestDepth (l : Launch) {f : Nat} {h : am_H} {p : Nat} {r : Int32} (hm : mi_X2_greatestDepth f h p = some r) : am_Ct l yX2_greatestDepth cX2_greatestDepth 3 (some .int) rm_X2_greatestDepth [.ref p] h (some (.int r)) h := by
  refine am_met2 [(0, .ref p)] (by decide) (Nat.le_of_ble_eq_true rfl) rfl ?_
  generalize hK : (fun (v : Option Value) (h3 : am_H) => v = (some (.int r)) ∧ h3 = h) = K
  have HK : K (some (.int r)) h := by rw [← hK]; exact ⟨rfl, rfl⟩
  clear hK
  unfold mi_X2_greatestDepth at hm
  obtain ⟨_n, _hn, hm⟩ := am_bs hm
  refine r_iconst 0 dX2_greatestDepth_0 (by decide) ?_
  refine r_istore_n [(1, .int 0), (0, .ref p)] dX2_greatestDepth_1 (by decide) rfl ?_
  refine r_iconst 0 dX2_greatestDepth_2 (by decide) ?_
  refine r_istore_n [(2, .int 0), (1, .int 0), (0, .ref p)] dX2_greatestDepth_3 (by decide) rfl ?_
  obtain ⟨oq1, ew, hm⟩ := am_bs hm
  try dsimp only at hm
  refine r_lv [2, 1, 0] _ rfl (ll_X2_greatestDepth_4 l f h p _ f 0 0 _ ew ?_)
  refine r_iload_n 0 dX2_greatestDepth_26 rfl ?_
  cases hm
  exact r_ireturn dX2_greatestDepth_27 rfl (by decide) HK
def lo_X2_greatestSize_4 (f : Nat) (h : am_H) (a0 : Nat) : Nat → Int32 → Int32 → Option (Int32)
  | 0, _, _ => none
  | n + 1, a1, a2 =>
  (if 8 ≤ a2 then
  (some a1)
  else (Option.bind (am_gr h 2 a0 1) fun xq1 =>
  Option.bind (am_li h 9 xq1 a2) fun xq2 =>
  lo_X2_greatestSize_4 f h a0 n (am_mx a1 xq2) (a2 + 1)))
set_option maxHeartbeats 4000000 in
set_option maxRecDepth 100000 in
theorem ll_X2_greatestSize_4 (l : Launch) (f : Nat) (h : am_H) (a0 : Nat) (K : Option Value → am_H → Prop) : ∀ (n : Nat) (a1 : Int32) (a2 : Int32) (z : Int32), lo_X2_greatestSize_4 f h a0 n a1 a2 = some z →
    am_R l yX2_greatestSize cX2_greatestSize 3 (some .int) rm_X2_greatestSize (fun _ _ _ => True) 0 0 27 [(1, .int z)] [] h K →
    am_R l yX2_greatestSize cX2_greatestSize 3 (some .int) rm_X2_greatestSize (fun _ _ _ => True) 0 0 4 [(0, .ref a0), (1, .int a1), (2, .int a2)] [] h K := by
  intro n
  induction n with
  | zero =>
    intro a1 a2 z hm kE
    cases hm
  | succ n ih =>
    intro a1 a2 z hm kE
    rw [lo_X2_greatestSize_4.eq_2] at hm
    refine r_iload_n 2 dX2_greatestSize_4 rfl ?_
    refine r_bipush 8 dX2_greatestSize_5 (by decide) ?_
    refine r_icmp_ge 27 dX2_greatestSize_7 (by decide) (fun q => ?_) (fun q => ?_)
    · rw [if_pos q] at hm
      cases hm
      exact r_lv [1] _ rfl kE
    · rw [if_neg q] at hm
      refine r_iload_n 1 dX2_greatestSize_10 rfl ?_
      refine r_aload_n 0 dX2_greatestSize_11 rfl ?_
      obtain ⟨xq1, exq1, hm⟩ := am_bs hm
      refine r_getr exq1 fl_X2_15 rfl dX2_greatestSize_12 ?_
      refine r_iload_n 2 dX2_greatestSize_15 rfl ?_
      obtain ⟨xq2, exq2, hm⟩ := am_bs hm
      refine r_iald exq2 dX2_greatestSize_16 ?_
      refine r_mmax km_X2_70 (by decide) (Nat.le_of_ble_eq_true rfl) (by decide) dX2_greatestSize_17 ?_
      refine r_istore_n [(1, .int (am_mx a1 xq2)), (0, .ref a0), (2, .int a2)] dX2_greatestSize_20 (by decide) rfl ?_
      refine r_inc 1 2 [(2, .int (a2 + 1)), (1, .int (am_mx a1 xq2)), (0, .ref a0)] dX2_greatestSize_21 (by decide) rfl (by decide) rfl ?_
      refine r_goto 4 dX2_greatestSize_24 (by decide) ?_
      exact r_lv [2, 1, 0] _ rfl (ih (am_mx a1 xq2) (a2 + 1) _ hm kE)
def mi_X2_greatestSize (f : Nat) (h : am_H) (p : Nat) : Option Int32 :=
  Option.bind (am_cls h 2 p) fun _n =>
  Option.bind (lo_X2_greatestSize_4 f h p f 0 0) fun oq1 =>
  some oq1
theorem cs_X2_greatestSize {f : Nat} {h : am_H} {p : Nat} {z : Int32} (hm : mi_X2_greatestSize f h p = some z) : ∃ n, h.1[p]? = some (2, n) := by
  unfold mi_X2_greatestSize at hm
  obtain ⟨n, hn, -⟩ := am_bs hm
  exact ⟨n, am_cls_of hn⟩
set_option maxHeartbeats 4000000 in
set_option maxRecDepth 100000 in
theorem ct_X2_greatestSize (l : Launch) {f : Nat} {h : am_H} {p : Nat} {r : Int32} (hm : mi_X2_greatestSize f h p = some r) : am_Ct l yX2_greatestSize cX2_greatestSize 3 (some .int) rm_X2_greatestSize [.ref p] h (some (.int r)) h := by
  refine am_met2 [(0, .ref p)] (by decide) (Nat.le_of_ble_eq_true rfl) rfl ?_
  generalize hK : (fun (v : Option Value) (h3 : am_H) => v = (some (.int r)) ∧ h3 = h) = K
  have HK : K (some (.int r)) h := by rw [← hK]; exact ⟨rfl, rfl⟩
  clear hK
  unfold mi_X2_greatestSize at hm
  obtain ⟨_n, _hn, hm⟩ := am_bs hm
  refine r_iconst 0 dX2_greatestSize_0 (by decide) ?_
  refine r_istore_n [(1, .int 0), (0, .ref p)] dX2_greatestSize_1 (by decide) rfl ?_
  refine r_iconst 0 dX2_greatestSize_2 (by decide) ?_
  refine r_istore_n [(2, .int 0), (1, .int 0), (0, .ref p)] dX2_greatestSize_3 (by decide) rfl ?_
  obtain ⟨oq1, ew, hm⟩ := am_bs hm
  try dsimp only at hm
  refine r_lv [2, 1, 0] _ rfl (ll_X2_greatestSize_4 l f h p _ f 0 0 _ ew ?_)
  refine r_iload_n 0 dX2_greatestSize_27 rfl ?_
  cases hm
  exact r_ireturn dX2_greatestSize_28 rfl (by decide) HK
def lo_X1_gather_7 (f : Nat) (a0 : Nat) (a1 : Nat) (a2 : Int32) : Nat → Int32 → am_H → Option (am_H)
  | 0, _, _ => none
  | n + 1, a3, h =>
  Option.bind (am_gi h 5 a1 4) fun xq1 =>
  (if xq1 ≤ a3 then
  (some h)
  else (Option.bind (mi_X5_livesAt f h a1 a3 a2) fun xq2 =>
  Option.bind ((if xq2 = true then
  (Option.bind (am_gr h 1 a0 0) fun xq4 =>
  Option.bind (am_gi h 1 a0 4) fun xq5 =>
  Option.bind (am_si h 9 xq4 xq5 a3) fun hq6 =>
  Option.bind (am_gr hq6 1 a0 1) fun xq7 =>
  Option.bind (am_gi hq6 1 a0 4) fun xq8 =>
  Option.bind (am_gr hq6 5 a1 0) fun xq9 =>
  Option.bind (am_li hq6 9 xq9 a3) fun xq10 =>
  Option.bind (am_si hq6 9 xq7 xq8 xq10) fun hq11 =>
  Option.bind (am_gr hq11 1 a0 2) fun xq12 =>
  Option.bind (am_gi hq11 1 a0 4) fun xq13 =>
  Option.bind (am_gr hq11 5 a1 1) fun xq14 =>
  Option.bind (am_li hq11 9 xq14 a3) fun xq15 =>
  Option.bind (am_si hq11 9 xq12 xq13 xq15) fun hq16 =>
  Option.bind (am_gr hq16 1 a0 3) fun xq17 =>
  Option.bind (am_gi hq16 1 a0 4) fun xq18 =>
  Option.bind (am_gr hq16 5 a1 0) fun xq19 =>
  Option.bind (am_li hq16 9 xq19 a3) fun xq20 =>
  Option.bind (am_gr hq16 5 a1 1) fun xq21 =>
  Option.bind (am_li hq16 9 xq21 a3) fun xq22 =>
  Option.bind (am_si hq16 9 xq17 xq18 (((1 : Int32) <<< (xq20 &&& 31)) ||| ((1 : Int32) <<< (xq22 &&& 31)))) fun hq23 =>
  Option.bind (am_gi hq23 1 a0 4) fun xq24 =>
  Option.bind (am_pi hq23 1 a0 4 (xq24 + 1)) fun hq25 =>
  some hq25)
  else (some h))) fun hq3 =>
  lo_X1_gather_7 f a0 a1 a2 n (a3 + 1) hq3))
set_option maxHeartbeats 4000000 in
set_option maxRecDepth 100000 in
theorem ll_X1_gather_7 (l : Launch) (f : Nat) (a0 : Nat) (a1 : Nat) (a2 : Int32) (K : Option Value → am_H → Prop) : ∀ (n : Nat) (a3 : Int32) (h : am_H) (z : am_H), lo_X1_gather_7 f a0 a1 a2 n a3 h = some z →
    am_R l yX1_gather cX1_gather 4 (none) rm_X1_gather (fun _ _ _ => True) 0 0 106 [] [] z K →
    am_R l yX1_gather cX1_gather 4 (none) rm_X1_gather (fun _ _ _ => True) 0 0 7 [(0, .ref a0), (1, .ref a1), (2, .int a2), (3, .int a3)] [] h K := by
  intro n
  induction n with
  | zero =>
    intro a3 h z hm kE
    cases hm
  | succ n ih =>
    intro a3 h z hm kE
    rw [lo_X1_gather_7.eq_2] at hm
    refine r_iload_n 3 dX1_gather_7 rfl ?_
    refine r_aload_n 1 dX1_gather_8 rfl ?_
    obtain ⟨xq1, exq1, hm⟩ := am_bs hm
    refine r_geti exq1 fl_X1_28 rfl dX1_gather_9 ?_
    refine r_icmp_ge 106 dX1_gather_12 (by decide) (fun q => ?_) (fun q => ?_)
    · rw [if_pos q] at hm
      cases hm
      exact r_lv [] _ rfl kE
    · rw [if_neg q] at hm
      refine r_aload_n 1 dX1_gather_15 rfl ?_
      refine r_iload_n 3 dX1_gather_16 rfl ?_
      refine r_iload_n 2 dX1_gather_17 rfl ?_
      obtain ⟨xq2, exq2, hm⟩ := am_bs hm
      refine r_cV1 [.int a3, .int a2] (ct_X5_livesAt l exq2) vm_X1_31 (cs_X5_livesAt exq2) (by decide) ⟨rfl, rfl⟩ rfl (Nat.le_of_ble_eq_true rfl) dX1_gather_18 ?_
      obtain ⟨hq3, hw, hm⟩ := am_bs hm
      try dsimp only at hm
      have HJ : am_R l yX1_gather cX1_gather 4 (none) rm_X1_gather (fun _ _ _ => True) 0 0 100 [(0, .ref a0), (1, .ref a1), (2, .int a2), (3, .int a3)] [] hq3 K := by
        refine r_inc 1 3 [(3, .int (a3 + 1)), (0, .ref a0), (1, .ref a1), (2, .int a2)] dX1_gather_100 (by decide) rfl (by decide) rfl ?_
        refine r_goto 7 dX1_gather_103 (by decide) ?_
        exact r_lv [1, 2, 3, 0] _ rfl (ih (a3 + 1) hq3 _ hm kE)
      clear hm
      have hm := hw
      clear hw
      refine r_if_eq 100 dX1_gather_21 (by decide) (fun q => ?_) (fun q => ?_)
      · rw [if_neg (show ¬ xq2 = true from by rw [am_b0 q]; decide)] at hm
        cases hm
        exact r_lv [0, 1, 2, 3] _ rfl HJ
      · rw [if_pos (show xq2 = true from am_b1 q)] at hm
        refine r_aload_n 0 dX1_gather_24 rfl ?_
        obtain ⟨xq4, exq4, hm⟩ := am_bs hm
        refine r_getr exq4 fl_X1_9 rfl dX1_gather_25 ?_
        refine r_aload_n 0 dX1_gather_28 rfl ?_
        obtain ⟨xq5, exq5, hm⟩ := am_bs hm
        refine r_geti exq5 fl_X1_24 rfl dX1_gather_29 ?_
        refine r_iload_n 3 dX1_gather_32 rfl ?_
        obtain ⟨hq6, ehq6, hm⟩ := am_bs hm
        refine r_iast ehq6 dX1_gather_33 ?_
        refine r_aload_n 0 dX1_gather_34 rfl ?_
        obtain ⟨xq7, exq7, hm⟩ := am_bs hm
        refine r_getr exq7 fl_X1_15 rfl dX1_gather_35 ?_
        refine r_aload_n 0 dX1_gather_38 rfl ?_
        obtain ⟨xq8, exq8, hm⟩ := am_bs hm
        refine r_geti exq8 fl_X1_24 rfl dX1_gather_39 ?_
        refine r_aload_n 1 dX1_gather_42 rfl ?_
        obtain ⟨xq9, exq9, hm⟩ := am_bs hm
        refine r_getr exq9 fl_X1_35 rfl dX1_gather_43 ?_
        refine r_iload_n 3 dX1_gather_46 rfl ?_
        obtain ⟨xq10, exq10, hm⟩ := am_bs hm
        refine r_iald exq10 dX1_gather_47 ?_
        obtain ⟨hq11, ehq11, hm⟩ := am_bs hm
        refine r_iast ehq11 dX1_gather_48 ?_
        refine r_aload_n 0 dX1_gather_49 rfl ?_
        obtain ⟨xq12, exq12, hm⟩ := am_bs hm
        refine r_getr exq12 fl_X1_18 rfl dX1_gather_50 ?_
        refine r_aload_n 0 dX1_gather_53 rfl ?_
        obtain ⟨xq13, exq13, hm⟩ := am_bs hm
        refine r_geti exq13 fl_X1_24 rfl dX1_gather_54 ?_
        refine r_aload_n 1 dX1_gather_57 rfl ?_
        obtain ⟨xq14, exq14, hm⟩ := am_bs hm
        refine r_getr exq14 fl_X1_36 rfl dX1_gather_58 ?_
        refine r_iload_n 3 dX1_gather_61 rfl ?_
        obtain ⟨xq15, exq15, hm⟩ := am_bs hm
        refine r_iald exq15 dX1_gather_62 ?_
        obtain ⟨hq16, ehq16, hm⟩ := am_bs hm
        refine r_iast ehq16 dX1_gather_63 ?_
        refine r_aload_n 0 dX1_gather_64 rfl ?_
        obtain ⟨xq17, exq17, hm⟩ := am_bs hm
        refine r_getr exq17 fl_X1_21 rfl dX1_gather_65 ?_
        refine r_aload_n 0 dX1_gather_68 rfl ?_
        obtain ⟨xq18, exq18, hm⟩ := am_bs hm
        refine r_geti exq18 fl_X1_24 rfl dX1_gather_69 ?_
        refine r_iconst 1 dX1_gather_72 (by decide) ?_
        refine r_aload_n 1 dX1_gather_73 rfl ?_
        obtain ⟨xq19, exq19, hm⟩ := am_bs hm
        refine r_getr exq19 fl_X1_35 rfl dX1_gather_74 ?_
        refine r_iload_n 3 dX1_gather_77 rfl ?_
        obtain ⟨xq20, exq20, hm⟩ := am_bs hm
        refine r_iald exq20 dX1_gather_78 ?_
        refine r_ishl dX1_gather_79 ?_
        refine r_iconst 1 dX1_gather_80 (by decide) ?_
        refine r_aload_n 1 dX1_gather_81 rfl ?_
        obtain ⟨xq21, exq21, hm⟩ := am_bs hm
        refine r_getr exq21 fl_X1_36 rfl dX1_gather_82 ?_
        refine r_iload_n 3 dX1_gather_85 rfl ?_
        obtain ⟨xq22, exq22, hm⟩ := am_bs hm
        refine r_iald exq22 dX1_gather_86 ?_
        refine r_ishl dX1_gather_87 ?_
        refine r_ior dX1_gather_88 ?_
        obtain ⟨hq23, ehq23, hm⟩ := am_bs hm
        refine r_iast ehq23 dX1_gather_89 ?_
        refine r_aload_n 0 dX1_gather_90 rfl ?_
        refine r_dup dX1_gather_91 rfl ?_
        obtain ⟨xq24, exq24, hm⟩ := am_bs hm
        refine r_geti exq24 fl_X1_24 rfl dX1_gather_92 ?_
        refine r_iconst 1 dX1_gather_95 (by decide) ?_
        refine r_iadd dX1_gather_96 ?_
        obtain ⟨hq25, ehq25, hm⟩ := am_bs hm
        refine r_puti ehq25 fl_X1_24 rfl rfl dX1_gather_97 ?_
        cases hm
        exact r_lv [0, 1, 2, 3] _ rfl HJ
def mi_X1_gather (f : Nat) (h : am_H) (p : Nat) (a : Nat) (b : Int32) : Option am_H :=
  Option.bind (am_cls h 1 p) fun _n =>
  Option.bind (am_pi h 1 p 4 0) fun hq1 =>
  Option.bind (lo_X1_gather_7 f p a b f 0 hq1) fun hq2 =>
  some hq2
theorem cs_X1_gather {f : Nat} {h : am_H} {p : Nat} {a : Nat} {b : Int32} {z : am_H} (hm : mi_X1_gather f h p a b = some z) : ∃ n, h.1[p]? = some (1, n) := by
  unfold mi_X1_gather at hm
  obtain ⟨n, hn, -⟩ := am_bs hm
  exact ⟨n, am_cls_of hn⟩
set_option maxHeartbeats 4000000 in
set_option maxRecDepth 100000 in
theorem ct_X1_gather (l : Launch) {f : Nat} {h : am_H} {p : Nat} {a : Nat} {b : Int32} {h2 : am_H} (hm : mi_X1_gather f h p a b = some h2) : am_Ct l yX1_gather cX1_gather 4 (none) rm_X1_gather [.ref p, .ref a, .int b] h none h2 := by
  refine am_met2 [(0, .ref p), (1, .ref a), (2, .int b)] (by decide) (Nat.le_of_ble_eq_true rfl) rfl ?_
  generalize hK : (fun (v : Option Value) (h3 : am_H) => v = none ∧ h3 = h2) = K
  have HK : K none h2 := by rw [← hK]; exact ⟨rfl, rfl⟩
  clear hK
  unfold mi_X1_gather at hm
  obtain ⟨_n, _hn, hm⟩ := am_bs hm
  refine r_aload_n 0 dX1_gather_0 rfl ?_
  refine r_iconst 0 dX1_gather_1 (by decide) ?_
  obtain ⟨hq1, ehq1, hm⟩ := am_bs hm
  refine r_puti ehq1 fl_X1_24 rfl rfl dX1_gather_2 ?_
  refine r_iconst 0 dX1_gather_5 (by decide) ?_
  refine r_istore_n [(3, .int 0), (0, .ref p), (1, .ref a), (2, .int b)] dX1_gather_6 (by decide) rfl ?_
  obtain ⟨hq2, ew, hm⟩ := am_bs hm
  try dsimp only at hm
  refine r_lv [1, 2, 3, 0] _ rfl (ll_X1_gather_7 l f p a b _ f 0 hq1 _ ew ?_)
  cases hm
  exact r_return dX1_gather_106 rfl (by decide) HK
def mi_X1_all (f : Nat) (h : am_H) (p : Nat) : Option Int32 :=
  Option.bind (am_cls h 1 p) fun _n =>
  Option.bind (am_gi h 1 p 4) fun xq1 =>
  some (((1 : Int32) <<< (xq1 &&& 31)) - 1)
theorem cs_X1_all {f : Nat} {h : am_H} {p : Nat} {z : Int32} (hm : mi_X1_all f h p = some z) : ∃ n, h.1[p]? = some (1, n) := by
  unfold mi_X1_all at hm
  obtain ⟨n, hn, -⟩ := am_bs hm
  exact ⟨n, am_cls_of hn⟩
set_option maxHeartbeats 4000000 in
set_option maxRecDepth 100000 in
theorem ct_X1_all (l : Launch) {f : Nat} {h : am_H} {p : Nat} {r : Int32} (hm : mi_X1_all f h p = some r) : am_Ct l yX1_all cX1_all 1 (some .int) rm_X1_all [.ref p] h (some (.int r)) h := by
  refine am_met2 [(0, .ref p)] (by decide) (Nat.le_of_ble_eq_true rfl) rfl ?_
  generalize hK : (fun (v : Option Value) (h3 : am_H) => v = (some (.int r)) ∧ h3 = h) = K
  have HK : K (some (.int r)) h := by rw [← hK]; exact ⟨rfl, rfl⟩
  clear hK
  unfold mi_X1_all at hm
  obtain ⟨_n, _hn, hm⟩ := am_bs hm
  refine r_iconst 1 dX1_all_0 (by decide) ?_
  refine r_aload_n 0 dX1_all_1 rfl ?_
  obtain ⟨xq1, exq1, hm⟩ := am_bs hm
  refine r_geti exq1 fl_X1_24 rfl dX1_all_2 ?_
  refine r_ishl dX1_all_5 ?_
  refine r_iconst 1 dX1_all_6 (by decide) ?_
  refine r_isub dX1_all_7 ?_
  cases hm
  exact r_ireturn dX1_all_8 rfl (by decide) HK
def lo_X1_reach_20 (f : Nat) (h : am_H) (a0 : Nat) (a2 : Int32) (a4 : Int32) (a5 : Int32) : Nat → Int32 → Int32 → Option (Int32)
  | 0, _, _ => none
  | n + 1, a3, a6 =>
  Option.bind (am_gi h 1 a0 4) fun xq1 =>
  (if xq1 ≤ a6 then
  (some a3)
  else (Option.bind ((if ((a2 >>> (a6 &&& 31)) &&& 1) = 0 then
  (some a3)
  else (Option.bind (am_gr h 1 a0 3) fun xq3 =>
  Option.bind (am_li h 9 xq3 a6) fun xq4 =>
  (if (xq4 &&& a3) = 0 then
  (some a3)
  else (Option.bind (am_gr h 1 a0 3) fun xq5 =>
  Option.bind (am_li h 9 xq5 a6) fun xq6 =>
  some (a3 ||| xq6)))))) fun jq2 =>
  lo_X1_reach_20 f h a0 a2 a4 a5 n jq2 (a6 + 1)))
set_option maxHeartbeats 4000000 in
set_option maxRecDepth 100000 in
theorem ll_X1_reach_20 (l : Launch) (f : Nat) (h : am_H) (a0 : Nat) (a2 : Int32) (a4 : Int32) (a5 : Int32) (K : Option Value → am_H → Prop) : ∀ (n : Nat) (a3 : Int32) (a6 : Int32) (z : Int32), lo_X1_reach_20 f h a0 a2 a4 a5 n a3 a6 = some z →
    am_R l yX1_reach cX1_reach 7 (some .int) rm_X1_reach (fun _ _ _ => True) 0 0 66 [(0, .ref a0), (2, .int a2), (3, .int z), (4, .int a4), (5, .int a5)] [] h K →
    am_R l yX1_reach cX1_reach 7 (some .int) rm_X1_reach (fun _ _ _ => True) 0 0 20 [(0, .ref a0), (2, .int a2), (3, .int a3), (4, .int a4), (5, .int a5), (6, .int a6)] [] h K := by
  intro n
  induction n with
  | zero =>
    intro a3 a6 z hm kE
    cases hm
  | succ n ih =>
    intro a3 a6 z hm kE
    rw [lo_X1_reach_20.eq_2] at hm
    refine r_iload 5 dX1_reach_20 rfl ?_
    refine r_aload_n 0 dX1_reach_22 rfl ?_
    obtain ⟨xq1, exq1, hm⟩ := am_bs hm
    refine r_geti exq1 fl_X1_24 rfl dX1_reach_23 ?_
    refine r_icmp_ge 66 dX1_reach_26 (by decide) (fun q => ?_) (fun q => ?_)
    · rw [if_pos q] at hm
      cases hm
      exact r_lv [0, 1, 2, 3, 4] _ rfl kE
    · rw [if_neg q] at hm
      refine r_iload_n 1 dX1_reach_29 rfl ?_
      refine r_iload 5 dX1_reach_30 rfl ?_
      refine r_ishr dX1_reach_32 ?_
      refine r_iconst 1 dX1_reach_33 (by decide) ?_
      refine r_iand dX1_reach_34 ?_
      obtain ⟨jq2, hw, hm⟩ := am_bs hm
      try dsimp only at hm
      have HJ : am_R l yX1_reach cX1_reach 7 (some .int) rm_X1_reach (fun _ _ _ => True) 0 0 60 [(0, .ref a0), (2, .int a2), (3, .int jq2), (4, .int a4), (5, .int a5), (6, .int a6)] [] h K := by
        refine r_inc 1 5 [(6, .int (a6 + 1)), (0, .ref a0), (2, .int a2), (3, .int jq2), (4, .int a4), (5, .int a5)] dX1_reach_60 (by decide) rfl (by decide) rfl ?_
        refine r_goto 20 dX1_reach_63 (by decide) ?_
        exact r_lv [1, 2, 3, 4, 5, 0] _ rfl (ih jq2 (a6 + 1) _ hm kE)
      clear hm
      have hm := hw
      clear hw
      refine r_if_eq 60 dX1_reach_35 (by decide) (fun q => ?_) (fun q => ?_)
      · rw [if_pos q] at hm
        cases hm
        exact r_lv [0, 1, 2, 3, 4, 5] _ rfl HJ
      · rw [if_neg q] at hm
        refine r_aload_n 0 dX1_reach_38 rfl ?_
        obtain ⟨xq3, exq3, hm⟩ := am_bs hm
        refine r_getr exq3 fl_X1_21 rfl dX1_reach_39 ?_
        refine r_iload 5 dX1_reach_42 rfl ?_
        obtain ⟨xq4, exq4, hm⟩ := am_bs hm
        refine r_iald exq4 dX1_reach_44 ?_
        refine r_iload_n 2 dX1_reach_45 rfl ?_
        refine r_iand dX1_reach_46 ?_
        refine r_if_eq 60 dX1_reach_47 (by decide) (fun q => ?_) (fun q => ?_)
        · rw [if_pos q] at hm
          cases hm
          exact r_lv [0, 1, 2, 3, 4, 5] _ rfl HJ
        · rw [if_neg q] at hm
          refine r_iload_n 2 dX1_reach_50 rfl ?_
          refine r_aload_n 0 dX1_reach_51 rfl ?_
          obtain ⟨xq5, exq5, hm⟩ := am_bs hm
          refine r_getr exq5 fl_X1_21 rfl dX1_reach_52 ?_
          refine r_iload 5 dX1_reach_55 rfl ?_
          obtain ⟨xq6, exq6, hm⟩ := am_bs hm
          refine r_iald exq6 dX1_reach_57 ?_
          refine r_ior dX1_reach_58 ?_
          refine r_istore_n [(3, .int (a3 ||| xq6)), (0, .ref a0), (2, .int a2), (4, .int a4), (5, .int a5), (6, .int a6)] dX1_reach_59 (by decide) rfl ?_
          cases hm
          exact r_lv [1, 2, 0, 3, 4, 5] _ rfl HJ
def lo_X1_reach_7 (f : Nat) (h : am_H) (a0 : Nat) (a2 : Int32) : Nat → Int32 → Int32 → Option (Int32)
  | 0, _, _ => none
  | n + 1, a3, a4 =>
  (if 8 ≤ a4 then
  (some a3)
  else (Option.bind (lo_X1_reach_20 f h a0 a2 a4 a3 f a3 0) fun oq1 =>
  (if oq1 = a3 then
  (some oq1)
  else (lo_X1_reach_7 f h a0 a2 n oq1 (a4 + 1)))))
set_option maxHeartbeats 4000000 in
set_option maxRecDepth 100000 in
theorem ll_X1_reach_7 (l : Launch) (f : Nat) (h : am_H) (a0 : Nat) (a2 : Int32) (K : Option Value → am_H → Prop) : ∀ (n : Nat) (a3 : Int32) (a4 : Int32) (z : Int32), lo_X1_reach_7 f h a0 a2 n a3 a4 = some z →
    am_R l yX1_reach cX1_reach 7 (some .int) rm_X1_reach (fun _ _ _ => True) 0 0 81 [(3, .int z)] [] h K →
    am_R l yX1_reach cX1_reach 7 (some .int) rm_X1_reach (fun _ _ _ => True) 0 0 7 [(0, .ref a0), (2, .int a2), (3, .int a3), (4, .int a4)] [] h K := by
  intro n
  induction n with
  | zero =>
    intro a3 a4 z hm kE
    cases hm
  | succ n ih =>
    intro a3 a4 z hm kE
    rw [lo_X1_reach_7.eq_2] at hm
    refine r_iload 3 dX1_reach_7 rfl ?_
    refine r_bipush 8 dX1_reach_9 (by decide) ?_
    refine r_icmp_ge 81 dX1_reach_11 (by decide) (fun q => ?_) (fun q => ?_)
    · rw [if_pos q] at hm
      cases hm
      exact r_lv [2] _ rfl kE
    · rw [if_neg q] at hm
      refine r_iload_n 2 dX1_reach_14 rfl ?_
      refine r_istore [(5, .int a3), (0, .ref a0), (2, .int a2), (3, .int a3), (4, .int a4)] dX1_reach_15 (by decide) rfl ?_
      refine r_iconst 0 dX1_reach_17 (by decide) ?_
      refine r_istore [(6, .int 0), (5, .int a3), (0, .ref a0), (2, .int a2), (3, .int a3), (4, .int a4)] dX1_reach_18 (by decide) rfl ?_
      obtain ⟨oq1, ew, hm⟩ := am_bs hm
      try dsimp only at hm
      refine r_lv [2, 3, 4, 5, 1, 0] _ rfl (ll_X1_reach_20 l f h a0 a2 a4 a3 _ f a3 0 _ ew ?_)
      refine r_iload_n 2 dX1_reach_66 rfl ?_
      refine r_iload 4 dX1_reach_67 rfl ?_
      refine r_icmp_ne 75 dX1_reach_69 (by decide) (fun q => ?_) (fun q => ?_)
      · rw [if_neg q] at hm
        refine r_inc 1 3 [(4, .int (a4 + 1)), (0, .ref a0), (2, .int a2), (3, .int oq1), (5, .int a3)] dX1_reach_75 (by decide) rfl (by decide) rfl ?_
        refine r_goto 7 dX1_reach_78 (by decide) ?_
        exact r_lv [1, 2, 3, 0] _ rfl (ih oq1 (a4 + 1) _ hm kE)
      · rw [if_pos q] at hm
        refine r_goto 81 dX1_reach_72 (by decide) ?_
        cases hm
        exact r_lv [2] _ rfl kE
def mi_X1_reach (f : Nat) (h : am_H) (p : Nat) (a : Int32) (b : Int32) : Option Int32 :=
  Option.bind (am_cls h 1 p) fun _n =>
  Option.bind (lo_X1_reach_7 f h p b f ((1 : Int32) <<< (a &&& 31)) 1) fun oq1 =>
  some oq1
theorem cs_X1_reach {f : Nat} {h : am_H} {p : Nat} {a : Int32} {b : Int32} {z : Int32} (hm : mi_X1_reach f h p a b = some z) : ∃ n, h.1[p]? = some (1, n) := by
  unfold mi_X1_reach at hm
  obtain ⟨n, hn, -⟩ := am_bs hm
  exact ⟨n, am_cls_of hn⟩
set_option maxHeartbeats 4000000 in
set_option maxRecDepth 100000 in
theorem ct_X1_reach (l : Launch) {f : Nat} {h : am_H} {p : Nat} {a : Int32} {b : Int32} {r : Int32} (hm : mi_X1_reach f h p a b = some r) : am_Ct l yX1_reach cX1_reach 7 (some .int) rm_X1_reach [.ref p, .int a, .int b] h (some (.int r)) h := by
  refine am_met2 [(0, .ref p), (1, .int a), (2, .int b)] (by decide) (Nat.le_of_ble_eq_true rfl) rfl ?_
  generalize hK : (fun (v : Option Value) (h3 : am_H) => v = (some (.int r)) ∧ h3 = h) = K
  have HK : K (some (.int r)) h := by rw [← hK]; exact ⟨rfl, rfl⟩
  clear hK
  unfold mi_X1_reach at hm
  obtain ⟨_n, _hn, hm⟩ := am_bs hm
  refine r_iconst 1 dX1_reach_0 (by decide) ?_
  refine r_iload_n 1 dX1_reach_1 rfl ?_
  refine r_ishl dX1_reach_2 ?_
  refine r_istore_n [(3, .int ((1 : Int32) <<< (a &&& 31))), (0, .ref p), (1, .int a), (2, .int b)] dX1_reach_3 (by decide) rfl ?_
  refine r_iconst 1 dX1_reach_4 (by decide) ?_
  refine r_istore [(4, .int 1), (3, .int ((1 : Int32) <<< (a &&& 31))), (0, .ref p), (1, .int a), (2, .int b)] dX1_reach_5 (by decide) rfl ?_
  obtain ⟨oq1, ew, hm⟩ := am_bs hm
  try dsimp only at hm
  refine r_lv [2, 4, 1, 0] _ rfl (ll_X1_reach_7 l f h p b _ f ((1 : Int32) <<< (a &&& 31)) 1 _ ew ?_)
  refine r_iload_n 0 dX1_reach_81 rfl ?_
  cases hm
  exact r_ireturn dX1_reach_82 rfl (by decide) HK
def mi_X1_areJoined (f : Nat) (h : am_H) (p : Nat) (a : Int32) (b : Int32) (c : Int32) : Option Bool :=
  Option.bind (am_cls h 1 p) fun _n =>
  Option.bind (mi_X1_reach f h p a c) fun xq1 =>
  Option.bind ((if ((xq1 >>> (b &&& 31)) &&& 1) = 0 then
  (some false)
  else (some true))) fun jq2 =>
  some jq2
theorem cs_X1_areJoined {f : Nat} {h : am_H} {p : Nat} {a : Int32} {b : Int32} {c : Int32} {z : Bool} (hm : mi_X1_areJoined f h p a b c = some z) : ∃ n, h.1[p]? = some (1, n) := by
  unfold mi_X1_areJoined at hm
  obtain ⟨n, hn, -⟩ := am_bs hm
  exact ⟨n, am_cls_of hn⟩
set_option maxHeartbeats 4000000 in
set_option maxRecDepth 100000 in
theorem ct_X1_areJoined (l : Launch) {f : Nat} {h : am_H} {p : Nat} {a : Int32} {b : Int32} {c : Int32} {r : Bool} (hm : mi_X1_areJoined f h p a b c = some r) : am_Ct l yX1_areJoined cX1_areJoined 4 (some .boolean) rm_X1_areJoined [.ref p, .int a, .int b, .int c] h (some (.int (am_b r))) h := by
  refine am_met2 [(0, .ref p), (1, .int a), (2, .int b), (3, .int c)] (by decide) (Nat.le_of_ble_eq_true rfl) rfl ?_
  generalize hK : (fun (v : Option Value) (h3 : am_H) => v = (some (.int (am_b r))) ∧ h3 = h) = K
  have HK : K (some (.int (am_b r))) h := by rw [← hK]; exact ⟨rfl, rfl⟩
  clear hK
  unfold mi_X1_areJoined at hm
  obtain ⟨_n, _hn, hm⟩ := am_bs hm
  refine r_aload_n 0 dX1_areJoined_0 rfl ?_
  refine r_iload_n 1 dX1_areJoined_1 rfl ?_
  refine r_iload_n 3 dX1_areJoined_2 rfl ?_
  obtain ⟨xq1, exq1, hm⟩ := am_bs hm
  refine r_cV1 [.int a, .int c] (ct_X1_reach l exq1) vm_X1_37 (cs_X1_reach exq1) (by decide) ⟨rfl, rfl⟩ rfl (Nat.le_of_ble_eq_true rfl) dX1_areJoined_3 ?_
  refine r_iload_n 2 dX1_areJoined_6 rfl ?_
  refine r_ishr dX1_areJoined_7 ?_
  refine r_iconst 1 dX1_areJoined_8 (by decide) ?_
  refine r_iand dX1_areJoined_9 ?_
  obtain ⟨jq2, hw, hm⟩ := am_bs hm
  try dsimp only at hm
  have HJ : am_R l yX1_areJoined cX1_areJoined 4 (some .boolean) rm_X1_areJoined (fun _ _ _ => True) 0 0 18 [] [.int (am_b jq2)] h K := by
    cases hm
    exact r_zreturn _ dX1_areJoined_18 rfl (by decide) HK
  clear hm
  have hm := hw
  clear hw
  refine r_if_eq 17 dX1_areJoined_10 (by decide) (fun q => ?_) (fun q => ?_)
  · rw [if_pos q] at hm
    refine r_iconst 0 dX1_areJoined_17 (by decide) ?_
    cases hm
    exact r_lv [] _ rfl HJ
  · rw [if_neg q] at hm
    refine r_iconst 1 dX1_areJoined_13 (by decide) ?_
    refine r_goto 18 dX1_areJoined_14 (by decide) ?_
    cases hm
    exact r_lv [] _ rfl HJ
def mi_X6_stretch (f : Nat) (h : am_H) (a : Int32) (b : Int32) : Option Int32 :=
  Option.bind (mi_X6_isTime f h a) fun xq1 =>
  (if xq1 = true then
  (Option.bind (mi_X6_isTime f h b) fun xq2 =>
  (if xq2 = true then
  ((if a ≤ b then
  (some (((65535 : Int32) >>> (((15 : Int32) - (b - a)) &&& 31)) <<< (a &&& 31)))
  else (some 0)))
  else (some 0)))
  else (some 0))
set_option maxHeartbeats 4000000 in
set_option maxRecDepth 100000 in
theorem ct_X6_stretch (l : Launch) {f : Nat} {h : am_H} {a : Int32} {b : Int32} {r : Int32} (hm : mi_X6_stretch f h a b = some r) : am_Ct l yX6_stretch cX6_stretch 2 (some .int) rm_X6_stretch [.int a, .int b] h (some (.int r)) h := by
  refine am_met2 [(0, .int a), (1, .int b)] (by decide) (Nat.le_of_ble_eq_true rfl) rfl ?_
  generalize hK : (fun (v : Option Value) (h3 : am_H) => v = (some (.int r)) ∧ h3 = h) = K
  have HK : K (some (.int r)) h := by rw [← hK]; exact ⟨rfl, rfl⟩
  clear hK
  unfold mi_X6_stretch at hm
  refine r_iload_n 0 dX6_stretch_0 rfl ?_
  obtain ⟨xq1, exq1, hm⟩ := am_bs hm
  refine r_cS1 [.int a] (ct_X6_isTime l exq1) sm_X6_128 (by decide) ⟨rfl, rfl⟩ rfl (Nat.le_of_ble_eq_true rfl) dX6_stretch_1 ?_
  refine r_if_eq 19 dX6_stretch_4 (by decide) (fun q => ?_) (fun q => ?_)
  · rw [if_neg (show ¬ xq1 = true from by rw [am_b0 q]; decide)] at hm
    refine r_iconst 0 dX6_stretch_19 (by decide) ?_
    cases hm
    exact r_ireturn dX6_stretch_20 rfl (by decide) HK
  · rw [if_pos (show xq1 = true from am_b1 q)] at hm
    refine r_iload_n 1 dX6_stretch_7 rfl ?_
    obtain ⟨xq2, exq2, hm⟩ := am_bs hm
    refine r_cS1 [.int b] (ct_X6_isTime l exq2) sm_X6_128 (by decide) ⟨rfl, rfl⟩ rfl (Nat.le_of_ble_eq_true rfl) dX6_stretch_8 ?_
    refine r_if_eq 19 dX6_stretch_11 (by decide) (fun q => ?_) (fun q => ?_)
    · rw [if_neg (show ¬ xq2 = true from by rw [am_b0 q]; decide)] at hm
      refine r_iconst 0 dX6_stretch_19 (by decide) ?_
      cases hm
      exact r_ireturn dX6_stretch_20 rfl (by decide) HK
    · rw [if_pos (show xq2 = true from am_b1 q)] at hm
      refine r_iload_n 1 dX6_stretch_14 rfl ?_
      refine r_iload_n 0 dX6_stretch_15 rfl ?_
      refine r_icmp_ge 21 dX6_stretch_16 (by decide) (fun q => ?_) (fun q => ?_)
      · rw [if_pos q] at hm
        refine r_ldcw (v := 65535) kw_X6_296 dX6_stretch_21 ?_
        refine r_bipush 15 dX6_stretch_24 (by decide) ?_
        refine r_iload_n 1 dX6_stretch_26 rfl ?_
        refine r_iload_n 0 dX6_stretch_27 rfl ?_
        refine r_isub dX6_stretch_28 ?_
        refine r_isub dX6_stretch_29 ?_
        refine r_ishr dX6_stretch_30 ?_
        refine r_iload_n 0 dX6_stretch_31 rfl ?_
        refine r_ishl dX6_stretch_32 ?_
        cases hm
        exact r_ireturn dX6_stretch_33 rfl (by decide) HK
      · rw [if_neg q] at hm
        refine r_iconst 0 dX6_stretch_19 (by decide) ?_
        cases hm
        exact r_ireturn dX6_stretch_20 rfl (by decide) HK
def lo_X5_timesFilled_4 (f : Nat) (h : am_H) (a0 : Nat) : Nat → Int32 → Int32 → Option (Int32)
  | 0, _, _ => none
  | n + 1, a1, a2 =>
  Option.bind (am_gi h 5 a0 4) fun xq1 =>
  (if xq1 ≤ a2 then
  (some a1)
  else (Option.bind (am_gr h 5 a0 2) fun xq2 =>
  Option.bind (am_li h 9 xq2 a2) fun xq3 =>
  Option.bind (am_gr h 5 a0 3) fun xq4 =>
  Option.bind (am_li h 9 xq4 a2) fun xq5 =>
  Option.bind (mi_X6_stretch f h xq3 xq5) fun xq6 =>
  lo_X5_timesFilled_4 f h a0 n (a1 ||| xq6) (a2 + 1)))
set_option maxHeartbeats 4000000 in
set_option maxRecDepth 100000 in
theorem ll_X5_timesFilled_4 (l : Launch) (f : Nat) (h : am_H) (a0 : Nat) (K : Option Value → am_H → Prop) : ∀ (n : Nat) (a1 : Int32) (a2 : Int32) (z : Int32), lo_X5_timesFilled_4 f h a0 n a1 a2 = some z →
    am_R l yX5_timesFilled cX5_timesFilled 3 (some .int) rm_X5_timesFilled (fun _ _ _ => True) 0 0 36 [(1, .int z)] [] h K →
    am_R l yX5_timesFilled cX5_timesFilled 3 (some .int) rm_X5_timesFilled (fun _ _ _ => True) 0 0 4 [(0, .ref a0), (1, .int a1), (2, .int a2)] [] h K := by
  intro n
  induction n with
  | zero =>
    intro a1 a2 z hm kE
    cases hm
  | succ n ih =>
    intro a1 a2 z hm kE
    rw [lo_X5_timesFilled_4.eq_2] at hm
    refine r_iload_n 2 dX5_timesFilled_4 rfl ?_
    refine r_aload_n 0 dX5_timesFilled_5 rfl ?_
    obtain ⟨xq1, exq1, hm⟩ := am_bs hm
    refine r_geti exq1 fl_X5_24 rfl dX5_timesFilled_6 ?_
    refine r_icmp_ge 36 dX5_timesFilled_9 (by decide) (fun q => ?_) (fun q => ?_)
    · rw [if_pos q] at hm
      cases hm
      exact r_lv [1] _ rfl kE
    · rw [if_neg q] at hm
      refine r_iload_n 1 dX5_timesFilled_12 rfl ?_
      refine r_aload_n 0 dX5_timesFilled_13 rfl ?_
      obtain ⟨xq2, exq2, hm⟩ := am_bs hm
      refine r_getr exq2 fl_X5_18 rfl dX5_timesFilled_14 ?_
      refine r_iload_n 2 dX5_timesFilled_17 rfl ?_
      obtain ⟨xq3, exq3, hm⟩ := am_bs hm
      refine r_iald exq3 dX5_timesFilled_18 ?_
      refine r_aload_n 0 dX5_timesFilled_19 rfl ?_
      obtain ⟨xq4, exq4, hm⟩ := am_bs hm
      refine r_getr exq4 fl_X5_21 rfl dX5_timesFilled_20 ?_
      refine r_iload_n 2 dX5_timesFilled_23 rfl ?_
      obtain ⟨xq5, exq5, hm⟩ := am_bs hm
      refine r_iald exq5 dX5_timesFilled_24 ?_
      obtain ⟨xq6, exq6, hm⟩ := am_bs hm
      refine r_cS1 [.int xq3, .int xq5] (ct_X6_stretch l exq6) sm_X5_43 (by decide) ⟨rfl, rfl⟩ rfl (Nat.le_of_ble_eq_true rfl) dX5_timesFilled_25 ?_
      refine r_ior dX5_timesFilled_28 ?_
      refine r_istore_n [(1, .int (a1 ||| xq6)), (0, .ref a0), (2, .int a2)] dX5_timesFilled_29 (by decide) rfl ?_
      refine r_inc 1 2 [(2, .int (a2 + 1)), (1, .int (a1 ||| xq6)), (0, .ref a0)] dX5_timesFilled_30 (by decide) rfl (by decide) rfl ?_
      refine r_goto 4 dX5_timesFilled_33 (by decide) ?_
      exact r_lv [2, 1, 0] _ rfl (ih (a1 ||| xq6) (a2 + 1) _ hm kE)
def mi_X5_timesFilled (f : Nat) (h : am_H) (p : Nat) : Option Int32 :=
  Option.bind (am_cls h 5 p) fun _n =>
  Option.bind (lo_X5_timesFilled_4 f h p f 0 0) fun oq1 =>
  some oq1
theorem cs_X5_timesFilled {f : Nat} {h : am_H} {p : Nat} {z : Int32} (hm : mi_X5_timesFilled f h p = some z) : ∃ n, h.1[p]? = some (5, n) := by
  unfold mi_X5_timesFilled at hm
  obtain ⟨n, hn, -⟩ := am_bs hm
  exact ⟨n, am_cls_of hn⟩
set_option maxHeartbeats 4000000 in
set_option maxRecDepth 100000 in
theorem ct_X5_timesFilled (l : Launch) {f : Nat} {h : am_H} {p : Nat} {r : Int32} (hm : mi_X5_timesFilled f h p = some r) : am_Ct l yX5_timesFilled cX5_timesFilled 3 (some .int) rm_X5_timesFilled [.ref p] h (some (.int r)) h := by
  refine am_met2 [(0, .ref p)] (by decide) (Nat.le_of_ble_eq_true rfl) rfl ?_
  generalize hK : (fun (v : Option Value) (h3 : am_H) => v = (some (.int r)) ∧ h3 = h) = K
  have HK : K (some (.int r)) h := by rw [← hK]; exact ⟨rfl, rfl⟩
  clear hK
  unfold mi_X5_timesFilled at hm
  obtain ⟨_n, _hn, hm⟩ := am_bs hm
  refine r_iconst 0 dX5_timesFilled_0 (by decide) ?_
  refine r_istore_n [(1, .int 0), (0, .ref p)] dX5_timesFilled_1 (by decide) rfl ?_
  refine r_iconst 0 dX5_timesFilled_2 (by decide) ?_
  refine r_istore_n [(2, .int 0), (1, .int 0), (0, .ref p)] dX5_timesFilled_3 (by decide) rfl ?_
  obtain ⟨oq1, ew, hm⟩ := am_bs hm
  try dsimp only at hm
  refine r_lv [2, 1, 0] _ rfl (ll_X5_timesFilled_4 l f h p _ f 0 0 _ ew ?_)
  refine r_iload_n 0 dX5_timesFilled_36 rfl ?_
  cases hm
  exact r_ireturn dX5_timesFilled_37 rfl (by decide) HK
def lo_X5_timesTogether_4 (f : Nat) (h : am_H) (a0 : Nat) : Nat → Int32 → Int32 → Option (Int32)
  | 0, _, _ => none
  | n + 1, a1, a2 =>
  Option.bind (am_gi h 5 a0 4) fun xq1 =>
  (if xq1 ≤ a2 then
  (some a1)
  else (Option.bind (am_gr h 5 a0 3) fun xq2 =>
  Option.bind (am_li h 9 xq2 a2) fun xq3 =>
  Option.bind (am_gr h 5 a0 2) fun xq4 =>
  Option.bind (am_li h 9 xq4 a2) fun xq5 =>
  lo_X5_timesTogether_4 f h a0 n (a1 + ((xq3 - xq5) + 1)) (a2 + 1)))
set_option maxHeartbeats 4000000 in
set_option maxRecDepth 100000 in
theorem ll_X5_timesTogether_4 (l : Launch) (f : Nat) (h : am_H) (a0 : Nat) (K : Option Value → am_H → Prop) : ∀ (n : Nat) (a1 : Int32) (a2 : Int32) (z : Int32), lo_X5_timesTogether_4 f h a0 n a1 a2 = some z →
    am_R l yX5_timesTogether cX5_timesTogether 3 (some .int) rm_X5_timesTogether (fun _ _ _ => True) 0 0 36 [(1, .int z)] [] h K →
    am_R l yX5_timesTogether cX5_timesTogether 3 (some .int) rm_X5_timesTogether (fun _ _ _ => True) 0 0 4 [(0, .ref a0), (1, .int a1), (2, .int a2)] [] h K := by
  intro n
  induction n with
  | zero =>
    intro a1 a2 z hm kE
    cases hm
  | succ n ih =>
    intro a1 a2 z hm kE
    rw [lo_X5_timesTogether_4.eq_2] at hm
    refine r_iload_n 2 dX5_timesTogether_4 rfl ?_
    refine r_aload_n 0 dX5_timesTogether_5 rfl ?_
    obtain ⟨xq1, exq1, hm⟩ := am_bs hm
    refine r_geti exq1 fl_X5_24 rfl dX5_timesTogether_6 ?_
    refine r_icmp_ge 36 dX5_timesTogether_9 (by decide) (fun q => ?_) (fun q => ?_)
    · rw [if_pos q] at hm
      cases hm
      exact r_lv [1] _ rfl kE
    · rw [if_neg q] at hm
      refine r_iload_n 1 dX5_timesTogether_12 rfl ?_
      refine r_aload_n 0 dX5_timesTogether_13 rfl ?_
      obtain ⟨xq2, exq2, hm⟩ := am_bs hm
      refine r_getr exq2 fl_X5_21 rfl dX5_timesTogether_14 ?_
      refine r_iload_n 2 dX5_timesTogether_17 rfl ?_
      obtain ⟨xq3, exq3, hm⟩ := am_bs hm
      refine r_iald exq3 dX5_timesTogether_18 ?_
      refine r_aload_n 0 dX5_timesTogether_19 rfl ?_
      obtain ⟨xq4, exq4, hm⟩ := am_bs hm
      refine r_getr exq4 fl_X5_18 rfl dX5_timesTogether_20 ?_
      refine r_iload_n 2 dX5_timesTogether_23 rfl ?_
      obtain ⟨xq5, exq5, hm⟩ := am_bs hm
      refine r_iald exq5 dX5_timesTogether_24 ?_
      refine r_isub dX5_timesTogether_25 ?_
      refine r_iconst 1 dX5_timesTogether_26 (by decide) ?_
      refine r_iadd dX5_timesTogether_27 ?_
      refine r_iadd dX5_timesTogether_28 ?_
      refine r_istore_n [(1, .int (a1 + ((xq3 - xq5) + 1))), (0, .ref a0), (2, .int a2)] dX5_timesTogether_29 (by decide) rfl ?_
      refine r_inc 1 2 [(2, .int (a2 + 1)), (1, .int (a1 + ((xq3 - xq5) + 1))), (0, .ref a0)] dX5_timesTogether_30 (by decide) rfl (by decide) rfl ?_
      refine r_goto 4 dX5_timesTogether_33 (by decide) ?_
      exact r_lv [2, 1, 0] _ rfl (ih (a1 + ((xq3 - xq5) + 1)) (a2 + 1) _ hm kE)
def mi_X5_timesTogether (f : Nat) (h : am_H) (p : Nat) : Option Int32 :=
  Option.bind (am_cls h 5 p) fun _n =>
  Option.bind (lo_X5_timesTogether_4 f h p f 0 0) fun oq1 =>
  some oq1
theorem cs_X5_timesTogether {f : Nat} {h : am_H} {p : Nat} {z : Int32} (hm : mi_X5_timesTogether f h p = some z) : ∃ n, h.1[p]? = some (5, n) := by
  unfold mi_X5_timesTogether at hm
  obtain ⟨n, hn, -⟩ := am_bs hm
  exact ⟨n, am_cls_of hn⟩
set_option maxHeartbeats 4000000 in
set_option maxRecDepth 100000 in
theorem ct_X5_timesTogether (l : Launch) {f : Nat} {h : am_H} {p : Nat} {r : Int32} (hm : mi_X5_timesTogether f h p = some r) : am_Ct l yX5_timesTogether cX5_timesTogether 3 (some .int) rm_X5_timesTogether [.ref p] h (some (.int r)) h := by
  refine am_met2 [(0, .ref p)] (by decide) (Nat.le_of_ble_eq_true rfl) rfl ?_
  generalize hK : (fun (v : Option Value) (h3 : am_H) => v = (some (.int r)) ∧ h3 = h) = K
  have HK : K (some (.int r)) h := by rw [← hK]; exact ⟨rfl, rfl⟩
  clear hK
  unfold mi_X5_timesTogether at hm
  obtain ⟨_n, _hn, hm⟩ := am_bs hm
  refine r_iconst 0 dX5_timesTogether_0 (by decide) ?_
  refine r_istore_n [(1, .int 0), (0, .ref p)] dX5_timesTogether_1 (by decide) rfl ?_
  refine r_iconst 0 dX5_timesTogether_2 (by decide) ?_
  refine r_istore_n [(2, .int 0), (1, .int 0), (0, .ref p)] dX5_timesTogether_3 (by decide) rfl ?_
  obtain ⟨oq1, ew, hm⟩ := am_bs hm
  try dsimp only at hm
  refine r_lv [2, 1, 0] _ rfl (ll_X5_timesTogether_4 l f h p _ f 0 0 _ ew ?_)
  refine r_iload_n 0 dX5_timesTogether_36 rfl ?_
  cases hm
  exact r_ireturn dX5_timesTogether_37 rfl (by decide) HK
def mi_X5_has (f : Nat) (h : am_H) (p : Nat) (a : Int32) : Option Bool :=
  Option.bind (am_cls h 5 p) fun _n =>
  Option.bind ((if a < 0 then
  (some false)
  else (Option.bind (am_gi h 5 p 4) fun xq2 =>
  (if xq2 ≤ a then
  (some false)
  else (some true))))) fun jq1 =>
  some jq1
theorem cs_X5_has {f : Nat} {h : am_H} {p : Nat} {a : Int32} {z : Bool} (hm : mi_X5_has f h p a = some z) : ∃ n, h.1[p]? = some (5, n) := by
  unfold mi_X5_has at hm
  obtain ⟨n, hn, -⟩ := am_bs hm
  exact ⟨n, am_cls_of hn⟩
set_option maxHeartbeats 4000000 in
set_option maxRecDepth 100000 in
theorem ct_X5_has (l : Launch) {f : Nat} {h : am_H} {p : Nat} {a : Int32} {r : Bool} (hm : mi_X5_has f h p a = some r) : am_Ct l yX5_has cX5_has 2 (some .boolean) rm_X5_has [.ref p, .int a] h (some (.int (am_b r))) h := by
  refine am_met2 [(0, .ref p), (1, .int a)] (by decide) (Nat.le_of_ble_eq_true rfl) rfl ?_
  generalize hK : (fun (v : Option Value) (h3 : am_H) => v = (some (.int (am_b r))) ∧ h3 = h) = K
  have HK : K (some (.int (am_b r))) h := by rw [← hK]; exact ⟨rfl, rfl⟩
  clear hK
  unfold mi_X5_has at hm
  obtain ⟨_n, _hn, hm⟩ := am_bs hm
  refine r_iload_n 1 dX5_has_0 rfl ?_
  obtain ⟨jq1, hw, hm⟩ := am_bs hm
  try dsimp only at hm
  have HJ : am_R l yX5_has cX5_has 2 (some .boolean) rm_X5_has (fun _ _ _ => True) 0 0 17 [] [.int (am_b jq1)] h K := by
    cases hm
    exact r_zreturn _ dX5_has_17 rfl (by decide) HK
  clear hm
  have hm := hw
  clear hw
  refine r_if_lt 16 dX5_has_1 (by decide) (fun q => ?_) (fun q => ?_)
  · rw [if_pos q] at hm
    refine r_iconst 0 dX5_has_16 (by decide) ?_
    cases hm
    exact r_lv [] _ rfl HJ
  · rw [if_neg q] at hm
    refine r_iload_n 1 dX5_has_4 rfl ?_
    refine r_aload_n 0 dX5_has_5 rfl ?_
    obtain ⟨xq2, exq2, hm⟩ := am_bs hm
    refine r_geti exq2 fl_X5_24 rfl dX5_has_6 ?_
    refine r_icmp_ge 16 dX5_has_9 (by decide) (fun q => ?_) (fun q => ?_)
    · rw [if_pos q] at hm
      refine r_iconst 0 dX5_has_16 (by decide) ?_
      cases hm
      exact r_lv [] _ rfl HJ
    · rw [if_neg q] at hm
      refine r_iconst 1 dX5_has_12 (by decide) ?_
      refine r_goto 17 dX5_has_13 (by decide) ?_
      cases hm
      exact r_lv [] _ rfl HJ
def lo_X5_drop_22 (f : Nat) (a0 : Nat) : Nat → Int32 → am_H → Option (am_H)
  | 0, _, _ => none
  | n + 1, a2, h =>
  Option.bind (am_gi h 5 a0 4) fun xq1 =>
  (if xq1 ≤ a2 then
  (some h)
  else (Option.bind (mi_X5_takeFrom f h a0 a0 (a2 + 1) a2) fun hq3 =>
  lo_X5_drop_22 f a0 n (a2 + 1) hq3))
set_option maxHeartbeats 4000000 in
set_option maxRecDepth 100000 in
theorem ll_X5_drop_22 (l : Launch) (f : Nat) (a0 : Nat) (K : Option Value → am_H → Prop) : ∀ (n : Nat) (a2 : Int32) (h : am_H) (z : am_H), lo_X5_drop_22 f a0 n a2 h = some z →
    am_R l yX5_drop cX5_drop 3 (some .int) rm_X5_drop (fun _ _ _ => True) 0 0 45 [(0, .ref a0)] [] z K →
    am_R l yX5_drop cX5_drop 3 (some .int) rm_X5_drop (fun _ _ _ => True) 0 0 22 [(0, .ref a0), (2, .int a2)] [] h K := by
  intro n
  induction n with
  | zero =>
    intro a2 h z hm kE
    cases hm
  | succ n ih =>
    intro a2 h z hm kE
    rw [lo_X5_drop_22.eq_2] at hm
    refine r_iload_n 1 dX5_drop_22 rfl ?_
    refine r_aload_n 0 dX5_drop_23 rfl ?_
    obtain ⟨xq1, exq1, hm⟩ := am_bs hm
    refine r_geti exq1 fl_X5_24 rfl dX5_drop_24 ?_
    refine r_icmp_ge 45 dX5_drop_27 (by decide) (fun q => ?_) (fun q => ?_)
    · rw [if_pos q] at hm
      cases hm
      exact r_lv [0] _ rfl kE
    · rw [if_neg q] at hm
      refine r_aload_n 0 dX5_drop_30 rfl ?_
      refine r_aload_n 0 dX5_drop_31 rfl ?_
      refine r_iload_n 1 dX5_drop_32 rfl ?_
      refine r_iconst 1 dX5_drop_33 (by decide) ?_
      refine r_iadd dX5_drop_34 ?_
      refine r_iload_n 1 dX5_drop_35 rfl ?_
      obtain ⟨hq3, exq2, hm⟩ := am_bs hm
      refine r_cV0 [.ref a0, .int (a2 + 1), .int a2] (ct_X5_takeFrom l exq2) vm_X5_28 (cs_X5_takeFrom exq2) (by decide) ⟨rfl, rfl⟩ rfl (Nat.le_of_ble_eq_true rfl) dX5_drop_36 ?_
      refine r_inc 1 1 [(2, .int (a2 + 1)), (0, .ref a0)] dX5_drop_39 (by decide) rfl (by decide) rfl ?_
      refine r_goto 22 dX5_drop_42 (by decide) ?_
      exact r_lv [1, 0] _ rfl (ih (a2 + 1) hq3 _ hm kE)
def mi_X5_drop (f : Nat) (h : am_H) (p : Nat) (a : Int32) : Option (Int32 × am_H) :=
  Option.bind (am_cls h 5 p) fun _n =>
  Option.bind (mi_X5_has f h p a) fun xq1 =>
  (if xq1 = true then
  (Option.bind (am_gi h 5 p 4) fun xq2 =>
  Option.bind (am_pi h 5 p 4 (xq2 - 1)) fun hq3 =>
  Option.bind (lo_X5_drop_22 f p f a hq3) fun hq4 =>
  Option.bind (am_gi hq4 5 p 4) fun xq5 =>
  some (xq5, hq4))
  else (some ((-1), h)))
theorem cs_X5_drop {f : Nat} {h : am_H} {p : Nat} {a : Int32} {z : (Int32 × am_H)} (hm : mi_X5_drop f h p a = some z) : ∃ n, h.1[p]? = some (5, n) := by
  unfold mi_X5_drop at hm
  obtain ⟨n, hn, -⟩ := am_bs hm
  exact ⟨n, am_cls_of hn⟩
set_option maxHeartbeats 4000000 in
set_option maxRecDepth 100000 in
theorem ct_X5_drop (l : Launch) {f : Nat} {h : am_H} {p : Nat} {a : Int32} {r : Int32} {h2 : am_H} (hm : mi_X5_drop f h p a = some (r, h2)) : am_Ct l yX5_drop cX5_drop 3 (some .int) rm_X5_drop [.ref p, .int a] h (some (.int r)) h2 := by
  refine am_met2 [(0, .ref p), (1, .int a)] (by decide) (Nat.le_of_ble_eq_true rfl) rfl ?_
  generalize hK : (fun (v : Option Value) (h3 : am_H) => v = (some (.int r)) ∧ h3 = h2) = K
  have HK : K (some (.int r)) h2 := by rw [← hK]; exact ⟨rfl, rfl⟩
  clear hK
  unfold mi_X5_drop at hm
  obtain ⟨_n, _hn, hm⟩ := am_bs hm
  refine r_aload_n 0 dX5_drop_0 rfl ?_
  refine r_iload_n 1 dX5_drop_1 rfl ?_
  obtain ⟨xq1, exq1, hm⟩ := am_bs hm
  refine r_cV1 [.int a] (ct_X5_has l exq1) vm_X5_55 (cs_X5_has exq1) (by decide) ⟨rfl, rfl⟩ rfl (Nat.le_of_ble_eq_true rfl) dX5_drop_2 ?_
  refine r_if_ne 10 dX5_drop_5 (by decide) (fun q => ?_) (fun q => ?_)
  · rw [if_pos (show xq1 = true from am_b1 q)] at hm
    refine r_aload_n 0 dX5_drop_10 rfl ?_
    refine r_dup dX5_drop_11 rfl ?_
    obtain ⟨xq2, exq2, hm⟩ := am_bs hm
    refine r_geti exq2 fl_X5_24 rfl dX5_drop_12 ?_
    refine r_iconst 1 dX5_drop_15 (by decide) ?_
    refine r_isub dX5_drop_16 ?_
    obtain ⟨hq3, ehq3, hm⟩ := am_bs hm
    refine r_puti ehq3 fl_X5_24 rfl rfl dX5_drop_17 ?_
    refine r_iload_n 1 dX5_drop_20 rfl ?_
    refine r_istore_n [(2, .int a), (0, .ref p), (1, .int a)] dX5_drop_21 (by decide) rfl ?_
    obtain ⟨hq4, ew, hm⟩ := am_bs hm
    try dsimp only at hm
    refine r_lv [1, 0] _ rfl (ll_X5_drop_22 l f p _ f a hq3 _ ew ?_)
    refine r_aload_n 0 dX5_drop_45 rfl ?_
    obtain ⟨xq5, exq5, hm⟩ := am_bs hm
    refine r_geti exq5 fl_X5_24 rfl dX5_drop_46 ?_
    cases hm
    exact r_ireturn dX5_drop_49 rfl (by decide) HK
  · rw [if_neg (show ¬ xq1 = true from by rw [am_b0 q]; decide)] at hm
    refine r_iconst (-1) dX5_drop_8 (by decide) ?_
    cases hm
    exact r_ireturn dX5_drop_9 rfl (by decide) HK
def lo_X0_forgetFirst_9 (f : Nat) (a0 : Nat) (a1 : Nat) : Nat → Int32 → am_H → Option (am_H)
  | 0, _, _ => none
  | n + 1, a2, h =>
  (if 14 ≤ a2 then
  (some h)
  else (Option.bind (am_gr h 0 a0 0) fun xq1 =>
  Option.bind (am_gr h 0 a0 0) fun xq2 =>
  Option.bind (am_lr h xq2 a2) fun xq3 =>
  Option.bind (am_sr h xq1 (a2 - 1) xq3) fun hq4 =>
  lo_X0_forgetFirst_9 f a0 a1 n (a2 + 1) hq4))
set_option maxHeartbeats 4000000 in
set_option maxRecDepth 100000 in
theorem ll_X0_forgetFirst_9 (l : Launch) (f : Nat) (a0 : Nat) (a1 : Nat) (K : Option Value → am_H → Prop) : ∀ (n : Nat) (a2 : Int32) (h : am_H) (z : am_H), lo_X0_forgetFirst_9 f a0 a1 n a2 h = some z →
    am_R l yX0_forgetFirst cX0_forgetFirst 3 (none) rm_X0_forgetFirst (fun _ _ _ => True) 0 0 35 [(0, .ref a0), (1, .ref a1)] [] z K →
    am_R l yX0_forgetFirst cX0_forgetFirst 3 (none) rm_X0_forgetFirst (fun _ _ _ => True) 0 0 9 [(0, .ref a0), (1, .ref a1), (2, .int a2)] [] h K := by
  intro n
  induction n with
  | zero =>
    intro a2 h z hm kE
    cases hm
  | succ n ih =>
    intro a2 h z hm kE
    rw [lo_X0_forgetFirst_9.eq_2] at hm
    refine r_iload_n 2 dX0_forgetFirst_9 rfl ?_
    refine r_bipush 14 dX0_forgetFirst_10 (by decide) ?_
    refine r_icmp_ge 35 dX0_forgetFirst_12 (by decide) (fun q => ?_) (fun q => ?_)
    · rw [if_pos q] at hm
      cases hm
      exact r_lv [0, 1] _ rfl kE
    · rw [if_neg q] at hm
      refine r_aload_n 0 dX0_forgetFirst_15 rfl ?_
      obtain ⟨xq1, exq1, hm⟩ := am_bs hm
      refine r_getr exq1 fl_X0_11 rfl dX0_forgetFirst_16 ?_
      refine r_iload_n 2 dX0_forgetFirst_19 rfl ?_
      refine r_iconst 1 dX0_forgetFirst_20 (by decide) ?_
      refine r_isub dX0_forgetFirst_21 ?_
      refine r_aload_n 0 dX0_forgetFirst_22 rfl ?_
      obtain ⟨xq2, exq2, hm⟩ := am_bs hm
      refine r_getr exq2 fl_X0_11 rfl dX0_forgetFirst_23 ?_
      refine r_iload_n 2 dX0_forgetFirst_26 rfl ?_
      obtain ⟨xq3, exq3, hm⟩ := am_bs hm
      refine r_aald exq3 dX0_forgetFirst_27 ?_
      obtain ⟨hq4, ehq4, hm⟩ := am_bs hm
      refine r_aast ehq4 dX0_forgetFirst_28 ?_
      refine r_inc 1 2 [(2, .int (a2 + 1)), (0, .ref a0), (1, .ref a1)] dX0_forgetFirst_29 (by decide) rfl (by decide) rfl ?_
      refine r_goto 9 dX0_forgetFirst_32 (by decide) ?_
      exact r_lv [1, 2, 0] _ rfl (ih (a2 + 1) hq4 _ hm kE)
def mi_X0_forgetFirst (f : Nat) (h : am_H) (p : Nat) : Option am_H :=
  Option.bind (am_cls h 0 p) fun _n =>
  Option.bind (am_gr h 0 p 0) fun xq1 =>
  Option.bind (am_lr h xq1 0) fun xq2 =>
  Option.bind (lo_X0_forgetFirst_9 f p xq2 f 1 h) fun hq3 =>
  Option.bind (am_gr hq3 0 p 0) fun xq4 =>
  Option.bind (am_sr hq3 xq4 13 xq2) fun hq5 =>
  Option.bind (am_pi hq5 0 p 1 13) fun hq6 =>
  some hq6
theorem cs_X0_forgetFirst {f : Nat} {h : am_H} {p : Nat} {z : am_H} (hm : mi_X0_forgetFirst f h p = some z) : ∃ n, h.1[p]? = some (0, n) := by
  unfold mi_X0_forgetFirst at hm
  obtain ⟨n, hn, -⟩ := am_bs hm
  exact ⟨n, am_cls_of hn⟩
set_option maxHeartbeats 4000000 in
set_option maxRecDepth 100000 in
theorem ct_X0_forgetFirst (l : Launch) {f : Nat} {h : am_H} {p : Nat} {h2 : am_H} (hm : mi_X0_forgetFirst f h p = some h2) : am_Ct l yX0_forgetFirst cX0_forgetFirst 3 (none) rm_X0_forgetFirst [.ref p] h none h2 := by
  refine am_met2 [(0, .ref p)] (by decide) (Nat.le_of_ble_eq_true rfl) rfl ?_
  generalize hK : (fun (v : Option Value) (h3 : am_H) => v = none ∧ h3 = h2) = K
  have HK : K none h2 := by rw [← hK]; exact ⟨rfl, rfl⟩
  clear hK
  unfold mi_X0_forgetFirst at hm
  obtain ⟨_n, _hn, hm⟩ := am_bs hm
  refine r_aload_n 0 dX0_forgetFirst_0 rfl ?_
  obtain ⟨xq1, exq1, hm⟩ := am_bs hm
  refine r_getr exq1 fl_X0_11 rfl dX0_forgetFirst_1 ?_
  refine r_iconst 0 dX0_forgetFirst_4 (by decide) ?_
  obtain ⟨xq2, exq2, hm⟩ := am_bs hm
  refine r_aald exq2 dX0_forgetFirst_5 ?_
  refine r_astore_n [(1, .ref xq2), (0, .ref p)] dX0_forgetFirst_6 (by decide) rfl ?_
  refine r_iconst 1 dX0_forgetFirst_7 (by decide) ?_
  refine r_istore_n [(2, .int 1), (1, .ref xq2), (0, .ref p)] dX0_forgetFirst_8 (by decide) rfl ?_
  obtain ⟨hq3, ew, hm⟩ := am_bs hm
  try dsimp only at hm
  refine r_lv [2, 1, 0] _ rfl (ll_X0_forgetFirst_9 l f p xq2 _ f 1 h _ ew ?_)
  refine r_aload_n 0 dX0_forgetFirst_35 rfl ?_
  obtain ⟨xq4, exq4, hm⟩ := am_bs hm
  refine r_getr exq4 fl_X0_11 rfl dX0_forgetFirst_36 ?_
  refine r_bipush 13 dX0_forgetFirst_39 (by decide) ?_
  refine r_aload_n 1 dX0_forgetFirst_41 rfl ?_
  obtain ⟨hq5, ehq5, hm⟩ := am_bs hm
  refine r_aast ehq5 dX0_forgetFirst_42 ?_
  refine r_aload_n 0 dX0_forgetFirst_43 rfl ?_
  refine r_bipush 13 dX0_forgetFirst_44 (by decide) ?_
  obtain ⟨hq6, ehq6, hm⟩ := am_bs hm
  refine r_puti ehq6 fl_X0_18 rfl rfl dX0_forgetFirst_46 ?_
  cases hm
  exact r_return dX0_forgetFirst_49 rfl (by decide) HK
def mi_X0_remember (f : Nat) (h : am_H) (p : Nat) (a : Nat) : Option am_H :=
  Option.bind (am_cls h 0 p) fun _n =>
  Option.bind (am_gi h 0 p 1) fun xq1 =>
  Option.bind ((if xq1 < 14 then
  (some h)
  else (Option.bind (mi_X0_forgetFirst f h p) fun hq11 =>
  some hq11))) fun hq2 =>
  Option.bind (am_gr hq2 0 p 0) fun xq3 =>
  Option.bind (am_gi hq2 0 p 1) fun xq4 =>
  Option.bind (am_lr hq2 xq3 xq4) fun xq5 =>
  Option.bind (mi_X5_copyOf f hq2 xq5 a) fun hq7 =>
  Option.bind (am_gi hq7 0 p 1) fun xq8 =>
  Option.bind (am_pi hq7 0 p 1 (xq8 + 1)) fun hq9 =>
  some hq9
theorem cs_X0_remember {f : Nat} {h : am_H} {p : Nat} {a : Nat} {z : am_H} (hm : mi_X0_remember f h p a = some z) : ∃ n, h.1[p]? = some (0, n) := by
  unfold mi_X0_remember at hm
  obtain ⟨n, hn, -⟩ := am_bs hm
  exact ⟨n, am_cls_of hn⟩
set_option maxHeartbeats 4000000 in
set_option maxRecDepth 100000 in
theorem ct_X0_remember (l : Launch) {f : Nat} {h : am_H} {p : Nat} {a : Nat} {h2 : am_H} (hm : mi_X0_remember f h p a = some h2) : am_Ct l yX0_remember cX0_remember 2 (none) rm_X0_remember [.ref p, .ref a] h none h2 := by
  refine am_met2 [(0, .ref p), (1, .ref a)] (by decide) (Nat.le_of_ble_eq_true rfl) rfl ?_
  generalize hK : (fun (v : Option Value) (h3 : am_H) => v = none ∧ h3 = h2) = K
  have HK : K none h2 := by rw [← hK]; exact ⟨rfl, rfl⟩
  clear hK
  unfold mi_X0_remember at hm
  obtain ⟨_n, _hn, hm⟩ := am_bs hm
  refine r_aload_n 0 dX0_remember_0 rfl ?_
  obtain ⟨xq1, exq1, hm⟩ := am_bs hm
  refine r_geti exq1 fl_X0_18 rfl dX0_remember_1 ?_
  refine r_bipush 14 dX0_remember_4 (by decide) ?_
  obtain ⟨hq2, hw, hm⟩ := am_bs hm
  try dsimp only at hm
  have HJ : am_R l yX0_remember cX0_remember 2 (none) rm_X0_remember (fun _ _ _ => True) 0 0 13 [(0, .ref p), (1, .ref a)] [] hq2 K := by
    refine r_aload_n 0 dX0_remember_13 rfl ?_
    obtain ⟨xq3, exq3, hm⟩ := am_bs hm
    refine r_getr exq3 fl_X0_11 rfl dX0_remember_14 ?_
    refine r_aload_n 0 dX0_remember_17 rfl ?_
    obtain ⟨xq4, exq4, hm⟩ := am_bs hm
    refine r_geti exq4 fl_X0_18 rfl dX0_remember_18 ?_
    obtain ⟨xq5, exq5, hm⟩ := am_bs hm
    refine r_aald exq5 dX0_remember_21 ?_
    refine r_aload_n 1 dX0_remember_22 rfl ?_
    obtain ⟨hq7, exq6, hm⟩ := am_bs hm
    refine r_cV0 [.ref a] (ct_X5_copyOf l exq6) vm_X0_25 (cs_X5_copyOf exq6) (by decide) ⟨rfl, rfl⟩ rfl (Nat.le_of_ble_eq_true rfl) dX0_remember_23 ?_
    refine r_aload_n 0 dX0_remember_26 rfl ?_
    refine r_dup dX0_remember_27 rfl ?_
    obtain ⟨xq8, exq8, hm⟩ := am_bs hm
    refine r_geti exq8 fl_X0_18 rfl dX0_remember_28 ?_
    refine r_iconst 1 dX0_remember_31 (by decide) ?_
    refine r_iadd dX0_remember_32 ?_
    obtain ⟨hq9, ehq9, hm⟩ := am_bs hm
    refine r_puti ehq9 fl_X0_18 rfl rfl dX0_remember_33 ?_
    cases hm
    exact r_return dX0_remember_36 rfl (by decide) HK
  clear hm
  have hm := hw
  clear hw
  refine r_icmp_lt 13 dX0_remember_6 (by decide) (fun q => ?_) (fun q => ?_)
  · rw [if_pos q] at hm
    cases hm
    exact r_lv [0, 1] _ rfl HJ
  · rw [if_neg q] at hm
    refine r_aload_n 0 dX0_remember_9 rfl ?_
    obtain ⟨hq11, exq10, hm⟩ := am_bs hm
    refine r_cV0 [] (ct_X0_forgetFirst l exq10) vm_X0_22 (cs_X0_forgetFirst exq10) (by decide) ⟨rfl, rfl⟩ rfl (Nat.le_of_ble_eq_true rfl) dX0_remember_10 ?_
    cases hm
    exact r_lv [0, 1] _ rfl HJ
def mi_X6_isKnot (f : Nat) (h : am_H) (a : Int32) : Option Bool :=
  Option.bind ((if a < 0 then
  (some false)
  else ((if 8 ≤ a then
  (some false)
  else (some true))))) fun jq1 =>
  some jq1
set_option maxHeartbeats 4000000 in
set_option maxRecDepth 100000 in
theorem ct_X6_isKnot (l : Launch) {f : Nat} {h : am_H} {a : Int32} {r : Bool} (hm : mi_X6_isKnot f h a = some r) : am_Ct l yX6_isKnot cX6_isKnot 1 (some .boolean) rm_X6_isKnot [.int a] h (some (.int (am_b r))) h := by
  refine am_met2 [(0, .int a)] (by decide) (Nat.le_of_ble_eq_true rfl) rfl ?_
  generalize hK : (fun (v : Option Value) (h3 : am_H) => v = (some (.int (am_b r))) ∧ h3 = h) = K
  have HK : K (some (.int (am_b r))) h := by rw [← hK]; exact ⟨rfl, rfl⟩
  clear hK
  unfold mi_X6_isKnot at hm
  refine r_iload_n 0 dX6_isKnot_0 rfl ?_
  obtain ⟨jq1, hw, hm⟩ := am_bs hm
  try dsimp only at hm
  have HJ : am_R l yX6_isKnot cX6_isKnot 1 (some .boolean) rm_X6_isKnot (fun _ _ _ => True) 0 0 15 [] [.int (am_b jq1)] h K := by
    cases hm
    exact r_zreturn _ dX6_isKnot_15 rfl (by decide) HK
  clear hm
  have hm := hw
  clear hw
  refine r_if_lt 14 dX6_isKnot_1 (by decide) (fun q => ?_) (fun q => ?_)
  · rw [if_pos q] at hm
    refine r_iconst 0 dX6_isKnot_14 (by decide) ?_
    cases hm
    exact r_lv [] _ rfl HJ
  · rw [if_neg q] at hm
    refine r_iload_n 0 dX6_isKnot_4 rfl ?_
    refine r_bipush 8 dX6_isKnot_5 (by decide) ?_
    refine r_icmp_ge 14 dX6_isKnot_7 (by decide) (fun q => ?_) (fun q => ?_)
    · rw [if_pos q] at hm
      refine r_iconst 0 dX6_isKnot_14 (by decide) ?_
      cases hm
      exact r_lv [] _ rfl HJ
    · rw [if_neg q] at hm
      refine r_iconst 1 dX6_isKnot_10 (by decide) ?_
      refine r_goto 15 dX6_isKnot_11 (by decide) ?_
      cases hm
      exact r_lv [] _ rfl HJ
def mi_X5_isOf (f : Nat) (h : am_H) (p : Nat) (a : Int32) (b : Int32) (c : Int32) : Option Bool :=
  Option.bind (am_cls h 5 p) fun _n =>
  Option.bind (am_gr h 5 p 0) fun xq1 =>
  Option.bind (am_li h 9 xq1 a) fun xq2 =>
  Option.bind ((if xq2 = (am_mn b c) then
  (Option.bind (am_gr h 5 p 1) fun xq4 =>
  Option.bind (am_li h 9 xq4 a) fun xq5 =>
  (if xq5 = (am_mx b c) then
  (some true)
  else (some false)))
  else (some false))) fun jq3 =>
  some jq3
theorem cs_X5_isOf {f : Nat} {h : am_H} {p : Nat} {a : Int32} {b : Int32} {c : Int32} {z : Bool} (hm : mi_X5_isOf f h p a b c = some z) : ∃ n, h.1[p]? = some (5, n) := by
  unfold mi_X5_isOf at hm
  obtain ⟨n, hn, -⟩ := am_bs hm
  exact ⟨n, am_cls_of hn⟩
set_option maxHeartbeats 4000000 in
set_option maxRecDepth 100000 in
theorem ct_X5_isOf (l : Launch) {f : Nat} {h : am_H} {p : Nat} {a : Int32} {b : Int32} {c : Int32} {r : Bool} (hm : mi_X5_isOf f h p a b c = some r) : am_Ct l yX5_isOf cX5_isOf 4 (some .boolean) rm_X5_isOf [.ref p, .int a, .int b, .int c] h (some (.int (am_b r))) h := by
  refine am_met2 [(0, .ref p), (1, .int a), (2, .int b), (3, .int c)] (by decide) (Nat.le_of_ble_eq_true rfl) rfl ?_
  generalize hK : (fun (v : Option Value) (h3 : am_H) => v = (some (.int (am_b r))) ∧ h3 = h) = K
  have HK : K (some (.int (am_b r))) h := by rw [← hK]; exact ⟨rfl, rfl⟩
  clear hK
  unfold mi_X5_isOf at hm
  obtain ⟨_n, _hn, hm⟩ := am_bs hm
  refine r_aload_n 0 dX5_isOf_0 rfl ?_
  obtain ⟨xq1, exq1, hm⟩ := am_bs hm
  refine r_getr exq1 fl_X5_9 rfl dX5_isOf_1 ?_
  refine r_iload_n 1 dX5_isOf_4 rfl ?_
  obtain ⟨xq2, exq2, hm⟩ := am_bs hm
  refine r_iald exq2 dX5_isOf_5 ?_
  refine r_iload_n 2 dX5_isOf_6 rfl ?_
  refine r_iload_n 3 dX5_isOf_7 rfl ?_
  refine r_mmin km_X5_47 (by decide) (Nat.le_of_ble_eq_true rfl) (by decide) dX5_isOf_8 ?_
  obtain ⟨jq3, hw, hm⟩ := am_bs hm
  try dsimp only at hm
  have HJ : am_R l yX5_isOf cX5_isOf 4 (some .boolean) rm_X5_isOf (fun _ _ _ => True) 0 0 33 [] [.int (am_b jq3)] h K := by
    cases hm
    exact r_zreturn _ dX5_isOf_33 rfl (by decide) HK
  clear hm
  have hm := hw
  clear hw
  refine r_icmp_ne 32 dX5_isOf_11 (by decide) (fun q => ?_) (fun q => ?_)
  · rw [if_neg q] at hm
    refine r_iconst 0 dX5_isOf_32 (by decide) ?_
    cases hm
    exact r_lv [] _ rfl HJ
  · rw [if_pos q] at hm
    refine r_aload_n 0 dX5_isOf_14 rfl ?_
    obtain ⟨xq4, exq4, hm⟩ := am_bs hm
    refine r_getr exq4 fl_X5_15 rfl dX5_isOf_15 ?_
    refine r_iload_n 1 dX5_isOf_18 rfl ?_
    obtain ⟨xq5, exq5, hm⟩ := am_bs hm
    refine r_iald exq5 dX5_isOf_19 ?_
    refine r_iload_n 2 dX5_isOf_20 rfl ?_
    refine r_iload_n 3 dX5_isOf_21 rfl ?_
    refine r_mmax km_X5_52 (by decide) (Nat.le_of_ble_eq_true rfl) (by decide) dX5_isOf_22 ?_
    refine r_icmp_ne 32 dX5_isOf_25 (by decide) (fun q => ?_) (fun q => ?_)
    · rw [if_neg q] at hm
      refine r_iconst 0 dX5_isOf_32 (by decide) ?_
      cases hm
      exact r_lv [] _ rfl HJ
    · rw [if_pos q] at hm
      refine r_iconst 1 dX5_isOf_28 (by decide) ?_
      refine r_goto 33 dX5_isOf_29 (by decide) ?_
      cases hm
      exact r_lv [] _ rfl HJ
def lo_X5_timesOf_6 (f : Nat) (h : am_H) (a0 : Nat) (a1 : Int32) (a2 : Int32) (a3 : Int32) : Nat → Int32 → Int32 → Option (Int32)
  | 0, _, _ => none
  | n + 1, a4, a5 =>
  Option.bind (am_gi h 5 a0 4) fun xq1 =>
  (if xq1 ≤ a5 then
  (some a4)
  else (Option.bind ((if a5 = a3 then
  (some a4)
  else (Option.bind (mi_X5_isOf f h a0 a5 a1 a2) fun xq3 =>
  (if xq3 = true then
  (Option.bind (am_gr h 5 a0 2) fun xq4 =>
  Option.bind (am_li h 9 xq4 a5) fun xq5 =>
  Option.bind (am_gr h 5 a0 3) fun xq6 =>
  Option.bind (am_li h 9 xq6 a5) fun xq7 =>
  Option.bind (mi_X6_stretch f h xq5 xq7) fun xq8 =>
  some (a4 ||| xq8))
  else (some a4))))) fun jq2 =>
  lo_X5_timesOf_6 f h a0 a1 a2 a3 n jq2 (a5 + 1)))
set_option maxHeartbeats 4000000 in
set_option maxRecDepth 100000 in
theorem ll_X5_timesOf_6 (l : Launch) (f : Nat) (h : am_H) (a0 : Nat) (a1 : Int32) (a2 : Int32) (a3 : Int32) (K : Option Value → am_H → Prop) : ∀ (n : Nat) (a4 : Int32) (a5 : Int32) (z : Int32), lo_X5_timesOf_6 f h a0 a1 a2 a3 n a4 a5 = some z →
    am_R l yX5_timesOf cX5_timesOf 6 (some .int) rm_X5_timesOf (fun _ _ _ => True) 0 0 60 [(4, .int z)] [] h K →
    am_R l yX5_timesOf cX5_timesOf 6 (some .int) rm_X5_timesOf (fun _ _ _ => True) 0 0 6 [(0, .ref a0), (1, .int a1), (2, .int a2), (3, .int a3), (4, .int a4), (5, .int a5)] [] h K := by
  intro n
  induction n with
  | zero =>
    intro a4 a5 z hm kE
    cases hm
  | succ n ih =>
    intro a4 a5 z hm kE
    rw [lo_X5_timesOf_6.eq_2] at hm
    refine r_iload 5 dX5_timesOf_6 rfl ?_
    refine r_aload_n 0 dX5_timesOf_8 rfl ?_
    obtain ⟨xq1, exq1, hm⟩ := am_bs hm
    refine r_geti exq1 fl_X5_24 rfl dX5_timesOf_9 ?_
    refine r_icmp_ge 60 dX5_timesOf_12 (by decide) (fun q => ?_) (fun q => ?_)
    · rw [if_pos q] at hm
      cases hm
      exact r_lv [4] _ rfl kE
    · rw [if_neg q] at hm
      refine r_iload 5 dX5_timesOf_15 rfl ?_
      refine r_iload_n 3 dX5_timesOf_17 rfl ?_
      obtain ⟨jq2, hw, hm⟩ := am_bs hm
      try dsimp only at hm
      have HJ : am_R l yX5_timesOf cX5_timesOf 6 (some .int) rm_X5_timesOf (fun _ _ _ => True) 0 0 54 [(0, .ref a0), (1, .int a1), (2, .int a2), (3, .int a3), (4, .int jq2), (5, .int a5)] [] h K := by
        refine r_inc 1 5 [(5, .int (a5 + 1)), (0, .ref a0), (1, .int a1), (2, .int a2), (3, .int a3), (4, .int jq2)] dX5_timesOf_54 (by decide) rfl (by decide) rfl ?_
        refine r_goto 6 dX5_timesOf_57 (by decide) ?_
        exact r_lv [1, 2, 3, 4, 5, 0] _ rfl (ih jq2 (a5 + 1) _ hm kE)
      clear hm
      have hm := hw
      clear hw
      refine r_icmp_eq 54 dX5_timesOf_18 (by decide) (fun q => ?_) (fun q => ?_)
      · rw [if_pos q] at hm
        cases hm
        exact r_lv [0, 1, 2, 3, 4, 5] _ rfl HJ
      · rw [if_neg q] at hm
        refine r_aload_n 0 dX5_timesOf_21 rfl ?_
        refine r_iload 5 dX5_timesOf_22 rfl ?_
        refine r_iload_n 1 dX5_timesOf_24 rfl ?_
        refine r_iload_n 2 dX5_timesOf_25 rfl ?_
        obtain ⟨xq3, exq3, hm⟩ := am_bs hm
        refine r_cV1 [.int a5, .int a1, .int a2] (ct_X5_isOf l exq3) vm_X5_58 (cs_X5_isOf exq3) (by decide) ⟨rfl, rfl⟩ rfl (Nat.le_of_ble_eq_true rfl) dX5_timesOf_26 ?_
        refine r_if_eq 54 dX5_timesOf_29 (by decide) (fun q => ?_) (fun q => ?_)
        · rw [if_neg (show ¬ xq3 = true from by rw [am_b0 q]; decide)] at hm
          cases hm
          exact r_lv [0, 1, 2, 3, 4, 5] _ rfl HJ
        · rw [if_pos (show xq3 = true from am_b1 q)] at hm
          refine r_iload 4 dX5_timesOf_32 rfl ?_
          refine r_aload_n 0 dX5_timesOf_34 rfl ?_
          obtain ⟨xq4, exq4, hm⟩ := am_bs hm
          refine r_getr exq4 fl_X5_18 rfl dX5_timesOf_35 ?_
          refine r_iload 5 dX5_timesOf_38 rfl ?_
          obtain ⟨xq5, exq5, hm⟩ := am_bs hm
          refine r_iald exq5 dX5_timesOf_40 ?_
          refine r_aload_n 0 dX5_timesOf_41 rfl ?_
          obtain ⟨xq6, exq6, hm⟩ := am_bs hm
          refine r_getr exq6 fl_X5_21 rfl dX5_timesOf_42 ?_
          refine r_iload 5 dX5_timesOf_45 rfl ?_
          obtain ⟨xq7, exq7, hm⟩ := am_bs hm
          refine r_iald exq7 dX5_timesOf_47 ?_
          obtain ⟨xq8, exq8, hm⟩ := am_bs hm
          refine r_cS1 [.int xq5, .int xq7] (ct_X6_stretch l exq8) sm_X5_43 (by decide) ⟨rfl, rfl⟩ rfl (Nat.le_of_ble_eq_true rfl) dX5_timesOf_48 ?_
          refine r_ior dX5_timesOf_51 ?_
          refine r_istore [(4, .int (a4 ||| xq8)), (0, .ref a0), (1, .int a1), (2, .int a2), (3, .int a3), (5, .int a5)] dX5_timesOf_52 (by decide) rfl ?_
          cases hm
          exact r_lv [1, 2, 3, 4, 0, 5] _ rfl HJ
def mi_X5_timesOf (f : Nat) (h : am_H) (p : Nat) (a : Int32) (b : Int32) (c : Int32) : Option Int32 :=
  Option.bind (am_cls h 5 p) fun _n =>
  Option.bind (lo_X5_timesOf_6 f h p a b c f 0 0) fun oq1 =>
  some oq1
theorem cs_X5_timesOf {f : Nat} {h : am_H} {p : Nat} {a : Int32} {b : Int32} {c : Int32} {z : Int32} (hm : mi_X5_timesOf f h p a b c = some z) : ∃ n, h.1[p]? = some (5, n) := by
  unfold mi_X5_timesOf at hm
  obtain ⟨n, hn, -⟩ := am_bs hm
  exact ⟨n, am_cls_of hn⟩
set_option maxHeartbeats 4000000 in
set_option maxRecDepth 100000 in
theorem ct_X5_timesOf (l : Launch) {f : Nat} {h : am_H} {p : Nat} {a : Int32} {b : Int32} {c : Int32} {r : Int32} (hm : mi_X5_timesOf f h p a b c = some r) : am_Ct l yX5_timesOf cX5_timesOf 6 (some .int) rm_X5_timesOf [.ref p, .int a, .int b, .int c] h (some (.int r)) h := by
  refine am_met2 [(0, .ref p), (1, .int a), (2, .int b), (3, .int c)] (by decide) (Nat.le_of_ble_eq_true rfl) rfl ?_
  generalize hK : (fun (v : Option Value) (h3 : am_H) => v = (some (.int r)) ∧ h3 = h) = K
  have HK : K (some (.int r)) h := by rw [← hK]; exact ⟨rfl, rfl⟩
  clear hK
  unfold mi_X5_timesOf at hm
  obtain ⟨_n, _hn, hm⟩ := am_bs hm
  refine r_iconst 0 dX5_timesOf_0 (by decide) ?_
  refine r_istore [(4, .int 0), (0, .ref p), (1, .int a), (2, .int b), (3, .int c)] dX5_timesOf_1 (by decide) rfl ?_
  refine r_iconst 0 dX5_timesOf_3 (by decide) ?_
  refine r_istore [(5, .int 0), (4, .int 0), (0, .ref p), (1, .int a), (2, .int b), (3, .int c)] dX5_timesOf_4 (by decide) rfl ?_
  obtain ⟨oq1, ew, hm⟩ := am_bs hm
  try dsimp only at hm
  refine r_lv [2, 3, 4, 5, 1, 0] _ rfl (ll_X5_timesOf_6 l f h p a b c _ f 0 0 _ ew ?_)
  refine r_iload 0 dX5_timesOf_60 rfl ?_
  cases hm
  exact r_ireturn dX5_timesOf_62 rfl (by decide) HK
def mi_X5_add (f : Nat) (h : am_H) (p : Nat) (a : Int32) (b : Int32) (c : Int32) (d : Int32) : Option (Int32 × am_H) :=
  Option.bind (am_cls h 5 p) fun _n =>
  Option.bind (mi_X6_isKnot f h a) fun xq1 =>
  (if xq1 = true then
  (Option.bind (mi_X6_isKnot f h b) fun xq2 =>
  (if xq2 = true then
  (Option.bind (mi_X6_isTime f h c) fun xq3 =>
  (if xq3 = true then
  (Option.bind (mi_X6_isTime f h d) fun xq4 =>
  (if xq4 = true then
  ((if a = b then
  (some ((-2), h))
  else ((if c ≤ d then
  (Option.bind (mi_X5_timesOf f h p a b (-9)) fun xq5 =>
  Option.bind (mi_X6_stretch f h c d) fun xq6 =>
  (if (xq5 &&& xq6) = 0 then
  (Option.bind (am_gi h 5 p 4) fun xq7 =>
  (if xq7 < 16 then
  (Option.bind (am_gr h 5 p 0) fun xq8 =>
  Option.bind (am_gi h 5 p 4) fun xq9 =>
  Option.bind (am_si h 9 xq8 xq9 (am_mn a b)) fun hq10 =>
  Option.bind (am_gr hq10 5 p 1) fun xq11 =>
  Option.bind (am_gi hq10 5 p 4) fun xq12 =>
  Option.bind (am_si hq10 9 xq11 xq12 (am_mx a b)) fun hq13 =>
  Option.bind (am_gr hq13 5 p 2) fun xq14 =>
  Option.bind (am_gi hq13 5 p 4) fun xq15 =>
  Option.bind (am_si hq13 9 xq14 xq15 c) fun hq16 =>
  Option.bind (am_gr hq16 5 p 3) fun xq17 =>
  Option.bind (am_gi hq16 5 p 4) fun xq18 =>
  Option.bind (am_si hq16 9 xq17 xq18 d) fun hq19 =>
  Option.bind (am_gi hq19 5 p 4) fun xq20 =>
  Option.bind (am_pi hq19 5 p 4 (xq20 + 1)) fun hq21 =>
  Option.bind (am_gi hq21 5 p 4) fun xq22 =>
  some ((xq22 - 1), hq21))
  else (some ((-4), h))))
  else (some ((-3), h))))
  else (some ((-2), h))))))
  else (some ((-1), h))))
  else (some ((-1), h))))
  else (some ((-1), h))))
  else (some ((-1), h)))
theorem cs_X5_add {f : Nat} {h : am_H} {p : Nat} {a : Int32} {b : Int32} {c : Int32} {d : Int32} {z : (Int32 × am_H)} (hm : mi_X5_add f h p a b c d = some z) : ∃ n, h.1[p]? = some (5, n) := by
  unfold mi_X5_add at hm
  obtain ⟨n, hn, -⟩ := am_bs hm
  exact ⟨n, am_cls_of hn⟩
set_option maxHeartbeats 4000000 in
set_option maxRecDepth 100000 in
theorem ct_X5_add (l : Launch) {f : Nat} {h : am_H} {p : Nat} {a : Int32} {b : Int32} {c : Int32} {d : Int32} {r : Int32} {h2 : am_H} (hm : mi_X5_add f h p a b c d = some (r, h2)) : am_Ct l yX5_add cX5_add 5 (some .int) rm_X5_add [.ref p, .int a, .int b, .int c, .int d] h (some (.int r)) h2 := by
  refine am_met2 [(0, .ref p), (1, .int a), (2, .int b), (3, .int c), (4, .int d)] (by decide) (Nat.le_of_ble_eq_true rfl) rfl ?_
  generalize hK : (fun (v : Option Value) (h3 : am_H) => v = (some (.int r)) ∧ h3 = h2) = K
  have HK : K (some (.int r)) h2 := by rw [← hK]; exact ⟨rfl, rfl⟩
  clear hK
  unfold mi_X5_add at hm
  obtain ⟨_n, _hn, hm⟩ := am_bs hm
  refine r_iload_n 1 dX5_add_0 rfl ?_
  obtain ⟨xq1, exq1, hm⟩ := am_bs hm
  refine r_cS1 [.int a] (ct_X6_isKnot l exq1) sm_X5_32 (by decide) ⟨rfl, rfl⟩ rfl (Nat.le_of_ble_eq_true rfl) dX5_add_1 ?_
  refine r_if_eq 29 dX5_add_4 (by decide) (fun q => ?_) (fun q => ?_)
  · rw [if_neg (show ¬ xq1 = true from by rw [am_b0 q]; decide)] at hm
    refine r_iconst (-1) dX5_add_29 (by decide) ?_
    cases hm
    exact r_ireturn dX5_add_30 rfl (by decide) HK
  · rw [if_pos (show xq1 = true from am_b1 q)] at hm
    refine r_iload_n 2 dX5_add_7 rfl ?_
    obtain ⟨xq2, exq2, hm⟩ := am_bs hm
    refine r_cS1 [.int b] (ct_X6_isKnot l exq2) sm_X5_32 (by decide) ⟨rfl, rfl⟩ rfl (Nat.le_of_ble_eq_true rfl) dX5_add_8 ?_
    refine r_if_eq 29 dX5_add_11 (by decide) (fun q => ?_) (fun q => ?_)
    · rw [if_neg (show ¬ xq2 = true from by rw [am_b0 q]; decide)] at hm
      refine r_iconst (-1) dX5_add_29 (by decide) ?_
      cases hm
      exact r_ireturn dX5_add_30 rfl (by decide) HK
    · rw [if_pos (show xq2 = true from am_b1 q)] at hm
      refine r_iload_n 3 dX5_add_14 rfl ?_
      obtain ⟨xq3, exq3, hm⟩ := am_bs hm
      refine r_cS1 [.int c] (ct_X6_isTime l exq3) sm_X5_36 (by decide) ⟨rfl, rfl⟩ rfl (Nat.le_of_ble_eq_true rfl) dX5_add_15 ?_
      refine r_if_eq 29 dX5_add_18 (by decide) (fun q => ?_) (fun q => ?_)
      · rw [if_neg (show ¬ xq3 = true from by rw [am_b0 q]; decide)] at hm
        refine r_iconst (-1) dX5_add_29 (by decide) ?_
        cases hm
        exact r_ireturn dX5_add_30 rfl (by decide) HK
      · rw [if_pos (show xq3 = true from am_b1 q)] at hm
        refine r_iload 4 dX5_add_21 rfl ?_
        obtain ⟨xq4, exq4, hm⟩ := am_bs hm
        refine r_cS1 [.int d] (ct_X6_isTime l exq4) sm_X5_36 (by decide) ⟨rfl, rfl⟩ rfl (Nat.le_of_ble_eq_true rfl) dX5_add_23 ?_
        refine r_if_ne 31 dX5_add_26 (by decide) (fun q => ?_) (fun q => ?_)
        · rw [if_pos (show xq4 = true from am_b1 q)] at hm
          refine r_iload_n 1 dX5_add_31 rfl ?_
          refine r_iload_n 2 dX5_add_32 rfl ?_
          refine r_icmp_eq 42 dX5_add_33 (by decide) (fun q => ?_) (fun q => ?_)
          · rw [if_pos q] at hm
            refine r_bipush (-2) dX5_add_42 (by decide) ?_
            cases hm
            exact r_ireturn dX5_add_44 rfl (by decide) HK
          · rw [if_neg q] at hm
            refine r_iload 4 dX5_add_36 rfl ?_
            refine r_iload_n 3 dX5_add_38 rfl ?_
            refine r_icmp_ge 45 dX5_add_39 (by decide) (fun q => ?_) (fun q => ?_)
            · rw [if_pos q] at hm
              refine r_aload_n 0 dX5_add_45 rfl ?_
              refine r_iload_n 1 dX5_add_46 rfl ?_
              refine r_iload_n 2 dX5_add_47 rfl ?_
              refine r_bipush (-9) dX5_add_48 (by decide) ?_
              obtain ⟨xq5, exq5, hm⟩ := am_bs hm
              refine r_cV1 [.int a, .int b, .int (-9)] (ct_X5_timesOf l exq5) vm_X5_39 (cs_X5_timesOf exq5) (by decide) ⟨rfl, rfl⟩ rfl (Nat.le_of_ble_eq_true rfl) dX5_add_50 ?_
              refine r_iload_n 3 dX5_add_53 rfl ?_
              refine r_iload 4 dX5_add_54 rfl ?_
              obtain ⟨xq6, exq6, hm⟩ := am_bs hm
              refine r_cS1 [.int c, .int d] (ct_X6_stretch l exq6) sm_X5_43 (by decide) ⟨rfl, rfl⟩ rfl (Nat.le_of_ble_eq_true rfl) dX5_add_56 ?_
              refine r_iand dX5_add_59 ?_
              refine r_if_eq 66 dX5_add_60 (by decide) (fun q => ?_) (fun q => ?_)
              · rw [if_pos q] at hm
                refine r_aload_n 0 dX5_add_66 rfl ?_
                obtain ⟨xq7, exq7, hm⟩ := am_bs hm
                refine r_geti exq7 fl_X5_24 rfl dX5_add_67 ?_
                refine r_bipush 16 dX5_add_70 (by decide) ?_
                refine r_icmp_lt 78 dX5_add_72 (by decide) (fun q => ?_) (fun q => ?_)
                · rw [if_pos q] at hm
                  refine r_aload_n 0 dX5_add_78 rfl ?_
                  obtain ⟨xq8, exq8, hm⟩ := am_bs hm
                  refine r_getr exq8 fl_X5_9 rfl dX5_add_79 ?_
                  refine r_aload_n 0 dX5_add_82 rfl ?_
                  obtain ⟨xq9, exq9, hm⟩ := am_bs hm
                  refine r_geti exq9 fl_X5_24 rfl dX5_add_83 ?_
                  refine r_iload_n 1 dX5_add_86 rfl ?_
                  refine r_iload_n 2 dX5_add_87 rfl ?_
                  refine r_mmin km_X5_47 (by decide) (Nat.le_of_ble_eq_true rfl) (by decide) dX5_add_88 ?_
                  obtain ⟨hq10, ehq10, hm⟩ := am_bs hm
                  refine r_iast ehq10 dX5_add_91 ?_
                  refine r_aload_n 0 dX5_add_92 rfl ?_
                  obtain ⟨xq11, exq11, hm⟩ := am_bs hm
                  refine r_getr exq11 fl_X5_15 rfl dX5_add_93 ?_
                  refine r_aload_n 0 dX5_add_96 rfl ?_
                  obtain ⟨xq12, exq12, hm⟩ := am_bs hm
                  refine r_geti exq12 fl_X5_24 rfl dX5_add_97 ?_
                  refine r_iload_n 1 dX5_add_100 rfl ?_
                  refine r_iload_n 2 dX5_add_101 rfl ?_
                  refine r_mmax km_X5_52 (by decide) (Nat.le_of_ble_eq_true rfl) (by decide) dX5_add_102 ?_
                  obtain ⟨hq13, ehq13, hm⟩ := am_bs hm
                  refine r_iast ehq13 dX5_add_105 ?_
                  refine r_aload_n 0 dX5_add_106 rfl ?_
                  obtain ⟨xq14, exq14, hm⟩ := am_bs hm
                  refine r_getr exq14 fl_X5_18 rfl dX5_add_107 ?_
                  refine r_aload_n 0 dX5_add_110 rfl ?_
                  obtain ⟨xq15, exq15, hm⟩ := am_bs hm
                  refine r_geti exq15 fl_X5_24 rfl dX5_add_111 ?_
                  refine r_iload_n 3 dX5_add_114 rfl ?_
                  obtain ⟨hq16, ehq16, hm⟩ := am_bs hm
                  refine r_iast ehq16 dX5_add_115 ?_
                  refine r_aload_n 0 dX5_add_116 rfl ?_
                  obtain ⟨xq17, exq17, hm⟩ := am_bs hm
                  refine r_getr exq17 fl_X5_21 rfl dX5_add_117 ?_
                  refine r_aload_n 0 dX5_add_120 rfl ?_
                  obtain ⟨xq18, exq18, hm⟩ := am_bs hm
                  refine r_geti exq18 fl_X5_24 rfl dX5_add_121 ?_
                  refine r_iload 4 dX5_add_124 rfl ?_
                  obtain ⟨hq19, ehq19, hm⟩ := am_bs hm
                  refine r_iast ehq19 dX5_add_126 ?_
                  refine r_aload_n 0 dX5_add_127 rfl ?_
                  refine r_dup dX5_add_128 rfl ?_
                  obtain ⟨xq20, exq20, hm⟩ := am_bs hm
                  refine r_geti exq20 fl_X5_24 rfl dX5_add_129 ?_
                  refine r_iconst 1 dX5_add_132 (by decide) ?_
                  refine r_iadd dX5_add_133 ?_
                  obtain ⟨hq21, ehq21, hm⟩ := am_bs hm
                  refine r_puti ehq21 fl_X5_24 rfl rfl dX5_add_134 ?_
                  refine r_aload_n 0 dX5_add_137 rfl ?_
                  obtain ⟨xq22, exq22, hm⟩ := am_bs hm
                  refine r_geti exq22 fl_X5_24 rfl dX5_add_138 ?_
                  refine r_iconst 1 dX5_add_141 (by decide) ?_
                  refine r_isub dX5_add_142 ?_
                  cases hm
                  exact r_ireturn dX5_add_143 rfl (by decide) HK
                · rw [if_neg q] at hm
                  refine r_bipush (-4) dX5_add_75 (by decide) ?_
                  cases hm
                  exact r_ireturn dX5_add_77 rfl (by decide) HK
              · rw [if_neg q] at hm
                refine r_bipush (-3) dX5_add_63 (by decide) ?_
                cases hm
                exact r_ireturn dX5_add_65 rfl (by decide) HK
            · rw [if_neg q] at hm
              refine r_bipush (-2) dX5_add_42 (by decide) ?_
              cases hm
              exact r_ireturn dX5_add_44 rfl (by decide) HK
        · rw [if_neg (show ¬ xq4 = true from by rw [am_b0 q]; decide)] at hm
          refine r_iconst (-1) dX5_add_29 (by decide) ?_
          cases hm
          exact r_ireturn dX5_add_30 rfl (by decide) HK
def mi_X5_stopAt (f : Nat) (h : am_H) (p : Nat) (a : Int32) (b : Int32) : Option (Int32 × am_H) :=
  Option.bind (am_cls h 5 p) fun _n =>
  Option.bind (mi_X5_has f h p a) fun xq1 =>
  (if xq1 = true then
  (Option.bind (mi_X6_isTime f h b) fun xq2 =>
  (if xq2 = true then
  (Option.bind (am_gr h 5 p 3) fun xq3 =>
  Option.bind (am_li h 9 xq3 a) fun xq4 =>
  (if b = xq4 then
  (some ((-3), h))
  else (Option.bind (am_gr h 5 p 2) fun xq5 =>
  Option.bind (am_li h 9 xq5 a) fun xq6 =>
  (if xq6 ≤ b then
  (Option.bind (am_gr h 5 p 0) fun xq7 =>
  Option.bind (am_li h 9 xq7 a) fun xq8 =>
  Option.bind (am_gr h 5 p 1) fun xq9 =>
  Option.bind (am_li h 9 xq9 a) fun xq10 =>
  Option.bind (mi_X5_timesOf f h p xq8 xq10 a) fun xq11 =>
  Option.bind (am_gr h 5 p 2) fun xq12 =>
  Option.bind (am_li h 9 xq12 a) fun xq13 =>
  Option.bind (mi_X6_stretch f h xq13 b) fun xq14 =>
  (if (xq11 &&& xq14) = 0 then
  (Option.bind (am_gr h 5 p 3) fun xq15 =>
  Option.bind (am_si h 9 xq15 a b) fun hq16 =>
  some (xq4, hq16))
  else (some ((-3), h))))
  else (some ((-3), h))))))
  else (some ((-1), h))))
  else (some ((-1), h)))
theorem cs_X5_stopAt {f : Nat} {h : am_H} {p : Nat} {a : Int32} {b : Int32} {z : (Int32 × am_H)} (hm : mi_X5_stopAt f h p a b = some z) : ∃ n, h.1[p]? = some (5, n) := by
  unfold mi_X5_stopAt at hm
  obtain ⟨n, hn, -⟩ := am_bs hm
  exact ⟨n, am_cls_of hn⟩
set_option maxHeartbeats 4000000 in
set_option maxRecDepth 100000 in
theorem ct_X5_stopAt (l : Launch) {f : Nat} {h : am_H} {p : Nat} {a : Int32} {b : Int32} {r : Int32} {h2 : am_H} (hm : mi_X5_stopAt f h p a b = some (r, h2)) : am_Ct l yX5_stopAt cX5_stopAt 4 (some .int) rm_X5_stopAt [.ref p, .int a, .int b] h (some (.int r)) h2 := by
  refine am_met2 [(0, .ref p), (1, .int a), (2, .int b)] (by decide) (Nat.le_of_ble_eq_true rfl) rfl ?_
  generalize hK : (fun (v : Option Value) (h3 : am_H) => v = (some (.int r)) ∧ h3 = h2) = K
  have HK : K (some (.int r)) h2 := by rw [← hK]; exact ⟨rfl, rfl⟩
  clear hK
  unfold mi_X5_stopAt at hm
  obtain ⟨_n, _hn, hm⟩ := am_bs hm
  refine r_aload_n 0 dX5_stopAt_0 rfl ?_
  refine r_iload_n 1 dX5_stopAt_1 rfl ?_
  obtain ⟨xq1, exq1, hm⟩ := am_bs hm
  refine r_cV1 [.int a] (ct_X5_has l exq1) vm_X5_55 (cs_X5_has exq1) (by decide) ⟨rfl, rfl⟩ rfl (Nat.le_of_ble_eq_true rfl) dX5_stopAt_2 ?_
  refine r_if_eq 15 dX5_stopAt_5 (by decide) (fun q => ?_) (fun q => ?_)
  · rw [if_neg (show ¬ xq1 = true from by rw [am_b0 q]; decide)] at hm
    refine r_iconst (-1) dX5_stopAt_15 (by decide) ?_
    cases hm
    exact r_ireturn dX5_stopAt_16 rfl (by decide) HK
  · rw [if_pos (show xq1 = true from am_b1 q)] at hm
    refine r_iload_n 2 dX5_stopAt_8 rfl ?_
    obtain ⟨xq2, exq2, hm⟩ := am_bs hm
    refine r_cS1 [.int b] (ct_X6_isTime l exq2) sm_X5_36 (by decide) ⟨rfl, rfl⟩ rfl (Nat.le_of_ble_eq_true rfl) dX5_stopAt_9 ?_
    refine r_if_ne 17 dX5_stopAt_12 (by decide) (fun q => ?_) (fun q => ?_)
    · rw [if_pos (show xq2 = true from am_b1 q)] at hm
      refine r_aload_n 0 dX5_stopAt_17 rfl ?_
      obtain ⟨xq3, exq3, hm⟩ := am_bs hm
      refine r_getr exq3 fl_X5_21 rfl dX5_stopAt_18 ?_
      refine r_iload_n 1 dX5_stopAt_21 rfl ?_
      obtain ⟨xq4, exq4, hm⟩ := am_bs hm
      refine r_iald exq4 dX5_stopAt_22 ?_
      refine r_istore_n [(3, .int xq4), (0, .ref p), (1, .int a), (2, .int b)] dX5_stopAt_23 (by decide) rfl ?_
      refine r_iload_n 3 dX5_stopAt_24 rfl ?_
      refine r_iload_n 0 dX5_stopAt_25 rfl ?_
      refine r_icmp_eq 39 dX5_stopAt_26 (by decide) (fun q => ?_) (fun q => ?_)
      · rw [if_pos q] at hm
        refine r_bipush (-3) dX5_stopAt_39 (by decide) ?_
        cases hm
        exact r_ireturn dX5_stopAt_41 rfl (by decide) HK
      · rw [if_neg q] at hm
        refine r_iload_n 3 dX5_stopAt_29 rfl ?_
        refine r_aload_n 1 dX5_stopAt_30 rfl ?_
        obtain ⟨xq5, exq5, hm⟩ := am_bs hm
        refine r_getr exq5 fl_X5_18 rfl dX5_stopAt_31 ?_
        refine r_iload_n 2 dX5_stopAt_34 rfl ?_
        obtain ⟨xq6, exq6, hm⟩ := am_bs hm
        refine r_iald exq6 dX5_stopAt_35 ?_
        refine r_icmp_ge 42 dX5_stopAt_36 (by decide) (fun q => ?_) (fun q => ?_)
        · rw [if_pos q] at hm
          refine r_aload_n 1 dX5_stopAt_42 rfl ?_
          refine r_aload_n 1 dX5_stopAt_43 rfl ?_
          obtain ⟨xq7, exq7, hm⟩ := am_bs hm
          refine r_getr exq7 fl_X5_9 rfl dX5_stopAt_44 ?_
          refine r_iload_n 2 dX5_stopAt_47 rfl ?_
          obtain ⟨xq8, exq8, hm⟩ := am_bs hm
          refine r_iald exq8 dX5_stopAt_48 ?_
          refine r_aload_n 1 dX5_stopAt_49 rfl ?_
          obtain ⟨xq9, exq9, hm⟩ := am_bs hm
          refine r_getr exq9 fl_X5_15 rfl dX5_stopAt_50 ?_
          refine r_iload_n 2 dX5_stopAt_53 rfl ?_
          obtain ⟨xq10, exq10, hm⟩ := am_bs hm
          refine r_iald exq10 dX5_stopAt_54 ?_
          refine r_iload_n 2 dX5_stopAt_55 rfl ?_
          obtain ⟨xq11, exq11, hm⟩ := am_bs hm
          refine r_cV1 [.int xq8, .int xq10, .int a] (ct_X5_timesOf l exq11) vm_X5_39 (cs_X5_timesOf exq11) (by decide) ⟨rfl, rfl⟩ rfl (Nat.le_of_ble_eq_true rfl) dX5_stopAt_56 ?_
          refine r_aload_n 1 dX5_stopAt_59 rfl ?_
          obtain ⟨xq12, exq12, hm⟩ := am_bs hm
          refine r_getr exq12 fl_X5_18 rfl dX5_stopAt_60 ?_
          refine r_iload_n 2 dX5_stopAt_63 rfl ?_
          obtain ⟨xq13, exq13, hm⟩ := am_bs hm
          refine r_iald exq13 dX5_stopAt_64 ?_
          refine r_iload_n 3 dX5_stopAt_65 rfl ?_
          obtain ⟨xq14, exq14, hm⟩ := am_bs hm
          refine r_cS1 [.int xq13, .int b] (ct_X6_stretch l exq14) sm_X5_43 (by decide) ⟨rfl, rfl⟩ rfl (Nat.le_of_ble_eq_true rfl) dX5_stopAt_66 ?_
          refine r_iand dX5_stopAt_69 ?_
          refine r_if_eq 76 dX5_stopAt_70 (by decide) (fun q => ?_) (fun q => ?_)
          · rw [if_pos q] at hm
            refine r_aload_n 1 dX5_stopAt_76 rfl ?_
            obtain ⟨xq15, exq15, hm⟩ := am_bs hm
            refine r_getr exq15 fl_X5_21 rfl dX5_stopAt_77 ?_
            refine r_iload_n 2 dX5_stopAt_80 rfl ?_
            refine r_iload_n 3 dX5_stopAt_81 rfl ?_
            obtain ⟨hq16, ehq16, hm⟩ := am_bs hm
            refine r_iast ehq16 dX5_stopAt_82 ?_
            refine r_iload_n 0 dX5_stopAt_83 rfl ?_
            cases hm
            exact r_ireturn dX5_stopAt_84 rfl (by decide) HK
          · rw [if_neg q] at hm
            refine r_bipush (-3) dX5_stopAt_73 (by decide) ?_
            cases hm
            exact r_ireturn dX5_stopAt_75 rfl (by decide) HK
        · rw [if_neg q] at hm
          refine r_bipush (-3) dX5_stopAt_39 (by decide) ?_
          cases hm
          exact r_ireturn dX5_stopAt_41 rfl (by decide) HK
    · rw [if_neg (show ¬ xq2 = true from by rw [am_b0 q]; decide)] at hm
      refine r_iconst (-1) dX5_stopAt_15 (by decide) ?_
      cases hm
      exact r_ireturn dX5_stopAt_16 rfl (by decide) HK
def mi_J6_bitCount_0f7a4 (f : Nat) (h : am_H) (a : Int32) : Option Int32 :=
  some ((((((((a - ((((a).toUInt32 >>> ((1 : Int32).toUInt32 &&& Int32.toUInt32 31)).toInt32) &&& 1431655765)) &&& 858993459) + (((((a - ((((a).toUInt32 >>> ((1 : Int32).toUInt32 &&& Int32.toUInt32 31)).toInt32) &&& 1431655765))).toUInt32 >>> ((2 : Int32).toUInt32 &&& Int32.toUInt32 31)).toInt32) &&& 858993459)) + ((((((a - ((((a).toUInt32 >>> ((1 : Int32).toUInt32 &&& Int32.toUInt32 31)).toInt32) &&& 1431655765)) &&& 858993459) + (((((a - ((((a).toUInt32 >>> ((1 : Int32).toUInt32 &&& Int32.toUInt32 31)).toInt32) &&& 1431655765))).toUInt32 >>> ((2 : Int32).toUInt32 &&& Int32.toUInt32 31)).toInt32) &&& 858993459))).toUInt32 >>> ((4 : Int32).toUInt32 &&& Int32.toUInt32 31)).toInt32)) &&& 252645135) + ((((((((a - ((((a).toUInt32 >>> ((1 : Int32).toUInt32 &&& Int32.toUInt32 31)).toInt32) &&& 1431655765)) &&& 858993459) + (((((a - ((((a).toUInt32 >>> ((1 : Int32).toUInt32 &&& Int32.toUInt32 31)).toInt32) &&& 1431655765))).toUInt32 >>> ((2 : Int32).toUInt32 &&& Int32.toUInt32 31)).toInt32) &&& 858993459)) + ((((((a - ((((a).toUInt32 >>> ((1 : Int32).toUInt32 &&& Int32.toUInt32 31)).toInt32) &&& 1431655765)) &&& 858993459) + (((((a - ((((a).toUInt32 >>> ((1 : Int32).toUInt32 &&& Int32.toUInt32 31)).toInt32) &&& 1431655765))).toUInt32 >>> ((2 : Int32).toUInt32 &&& Int32.toUInt32 31)).toInt32) &&& 858993459))).toUInt32 >>> ((4 : Int32).toUInt32 &&& Int32.toUInt32 31)).toInt32)) &&& 252645135)).toUInt32 >>> ((8 : Int32).toUInt32 &&& Int32.toUInt32 31)).toInt32)) + (((((((((a - ((((a).toUInt32 >>> ((1 : Int32).toUInt32 &&& Int32.toUInt32 31)).toInt32) &&& 1431655765)) &&& 858993459) + (((((a - ((((a).toUInt32 >>> ((1 : Int32).toUInt32 &&& Int32.toUInt32 31)).toInt32) &&& 1431655765))).toUInt32 >>> ((2 : Int32).toUInt32 &&& Int32.toUInt32 31)).toInt32) &&& 858993459)) + ((((((a - ((((a).toUInt32 >>> ((1 : Int32).toUInt32 &&& Int32.toUInt32 31)).toInt32) &&& 1431655765)) &&& 858993459) + (((((a - ((((a).toUInt32 >>> ((1 : Int32).toUInt32 &&& Int32.toUInt32 31)).toInt32) &&& 1431655765))).toUInt32 >>> ((2 : Int32).toUInt32 &&& Int32.toUInt32 31)).toInt32) &&& 858993459))).toUInt32 >>> ((4 : Int32).toUInt32 &&& Int32.toUInt32 31)).toInt32)) &&& 252645135) + ((((((((a - ((((a).toUInt32 >>> ((1 : Int32).toUInt32 &&& Int32.toUInt32 31)).toInt32) &&& 1431655765)) &&& 858993459) + (((((a - ((((a).toUInt32 >>> ((1 : Int32).toUInt32 &&& Int32.toUInt32 31)).toInt32) &&& 1431655765))).toUInt32 >>> ((2 : Int32).toUInt32 &&& Int32.toUInt32 31)).toInt32) &&& 858993459)) + ((((((a - ((((a).toUInt32 >>> ((1 : Int32).toUInt32 &&& Int32.toUInt32 31)).toInt32) &&& 1431655765)) &&& 858993459) + (((((a - ((((a).toUInt32 >>> ((1 : Int32).toUInt32 &&& Int32.toUInt32 31)).toInt32) &&& 1431655765))).toUInt32 >>> ((2 : Int32).toUInt32 &&& Int32.toUInt32 31)).toInt32) &&& 858993459))).toUInt32 >>> ((4 : Int32).toUInt32 &&& Int32.toUInt32 31)).toInt32)) &&& 252645135)).toUInt32 >>> ((8 : Int32).toUInt32 &&& Int32.toUInt32 31)).toInt32))).toUInt32 >>> ((16 : Int32).toUInt32 &&& Int32.toUInt32 31)).toInt32)) &&& 63)
set_option maxHeartbeats 4000000 in
set_option maxRecDepth 100000 in
theorem ct_J6_bitCount_0f7a4 (l : Launch) {f : Nat} {h : am_H} {a : Int32} {r : Int32} (hm : mi_J6_bitCount_0f7a4 f h a = some r) : am_Ct l yJ6_bitCount_0f7a4 cJ6_bitCount_0f7a4 1 (some .int) rm_J6_bitCount_0f7a4 [.int a] h (some (.int r)) h := by
  refine am_met2 [(0, .int a)] (by decide) (Nat.le_of_ble_eq_true rfl) rfl ?_
  generalize hK : (fun (v : Option Value) (h3 : am_H) => v = (some (.int r)) ∧ h3 = h) = K
  have HK : K (some (.int r)) h := by rw [← hK]; exact ⟨rfl, rfl⟩
  clear hK
  unfold mi_J6_bitCount_0f7a4 at hm
  refine r_iload_n 0 dJ6_bitCount_0f7a4_0 rfl ?_
  refine r_iload_n 0 dJ6_bitCount_0f7a4_1 rfl ?_
  refine r_iconst 1 dJ6_bitCount_0f7a4_2 (by decide) ?_
  refine r_iushr dJ6_bitCount_0f7a4_3 ?_
  refine r_ldcw (v := 1431655765) kw_J6_265 dJ6_bitCount_0f7a4_4 ?_
  refine r_iand dJ6_bitCount_0f7a4_7 ?_
  refine r_isub dJ6_bitCount_0f7a4_8 ?_
  refine r_istore_n [(0, .int (a - ((((a).toUInt32 >>> ((1 : Int32).toUInt32 &&& Int32.toUInt32 31)).toInt32) &&& 1431655765)))] dJ6_bitCount_0f7a4_9 (by decide) rfl ?_
  refine r_iload_n 0 dJ6_bitCount_0f7a4_10 rfl ?_
  refine r_ldcw (v := 858993459) kw_J6_266 dJ6_bitCount_0f7a4_11 ?_
  refine r_iand dJ6_bitCount_0f7a4_14 ?_
  refine r_iload_n 0 dJ6_bitCount_0f7a4_15 rfl ?_
  refine r_iconst 2 dJ6_bitCount_0f7a4_16 (by decide) ?_
  refine r_iushr dJ6_bitCount_0f7a4_17 ?_
  refine r_ldcw (v := 858993459) kw_J6_266 dJ6_bitCount_0f7a4_18 ?_
  refine r_iand dJ6_bitCount_0f7a4_21 ?_
  refine r_iadd dJ6_bitCount_0f7a4_22 ?_
  refine r_istore_n [(0, .int (((a - ((((a).toUInt32 >>> ((1 : Int32).toUInt32 &&& Int32.toUInt32 31)).toInt32) &&& 1431655765)) &&& 858993459) + (((((a - ((((a).toUInt32 >>> ((1 : Int32).toUInt32 &&& Int32.toUInt32 31)).toInt32) &&& 1431655765))).toUInt32 >>> ((2 : Int32).toUInt32 &&& Int32.toUInt32 31)).toInt32) &&& 858993459)))] dJ6_bitCount_0f7a4_23 (by decide) rfl ?_
  refine r_iload_n 0 dJ6_bitCount_0f7a4_24 rfl ?_
  refine r_iload_n 0 dJ6_bitCount_0f7a4_25 rfl ?_
  refine r_iconst 4 dJ6_bitCount_0f7a4_26 (by decide) ?_
  refine r_iushr dJ6_bitCount_0f7a4_27 ?_
  refine r_iadd dJ6_bitCount_0f7a4_28 ?_
  refine r_ldcw (v := 252645135) kw_J6_267 dJ6_bitCount_0f7a4_29 ?_
  refine r_iand dJ6_bitCount_0f7a4_32 ?_
  refine r_istore_n [(0, .int (((((a - ((((a).toUInt32 >>> ((1 : Int32).toUInt32 &&& Int32.toUInt32 31)).toInt32) &&& 1431655765)) &&& 858993459) + (((((a - ((((a).toUInt32 >>> ((1 : Int32).toUInt32 &&& Int32.toUInt32 31)).toInt32) &&& 1431655765))).toUInt32 >>> ((2 : Int32).toUInt32 &&& Int32.toUInt32 31)).toInt32) &&& 858993459)) + ((((((a - ((((a).toUInt32 >>> ((1 : Int32).toUInt32 &&& Int32.toUInt32 31)).toInt32) &&& 1431655765)) &&& 858993459) + (((((a - ((((a).toUInt32 >>> ((1 : Int32).toUInt32 &&& Int32.toUInt32 31)).toInt32) &&& 1431655765))).toUInt32 >>> ((2 : Int32).toUInt32 &&& Int32.toUInt32 31)).toInt32) &&& 858993459))).toUInt32 >>> ((4 : Int32).toUInt32 &&& Int32.toUInt32 31)).toInt32)) &&& 252645135))] dJ6_bitCount_0f7a4_33 (by decide) rfl ?_
  refine r_iload_n 0 dJ6_bitCount_0f7a4_34 rfl ?_
  refine r_iload_n 0 dJ6_bitCount_0f7a4_35 rfl ?_
  refine r_bipush 8 dJ6_bitCount_0f7a4_36 (by decide) ?_
  refine r_iushr dJ6_bitCount_0f7a4_38 ?_
  refine r_iadd dJ6_bitCount_0f7a4_39 ?_
  refine r_istore_n [(0, .int ((((((a - ((((a).toUInt32 >>> ((1 : Int32).toUInt32 &&& Int32.toUInt32 31)).toInt32) &&& 1431655765)) &&& 858993459) + (((((a - ((((a).toUInt32 >>> ((1 : Int32).toUInt32 &&& Int32.toUInt32 31)).toInt32) &&& 1431655765))).toUInt32 >>> ((2 : Int32).toUInt32 &&& Int32.toUInt32 31)).toInt32) &&& 858993459)) + ((((((a - ((((a).toUInt32 >>> ((1 : Int32).toUInt32 &&& Int32.toUInt32 31)).toInt32) &&& 1431655765)) &&& 858993459) + (((((a - ((((a).toUInt32 >>> ((1 : Int32).toUInt32 &&& Int32.toUInt32 31)).toInt32) &&& 1431655765))).toUInt32 >>> ((2 : Int32).toUInt32 &&& Int32.toUInt32 31)).toInt32) &&& 858993459))).toUInt32 >>> ((4 : Int32).toUInt32 &&& Int32.toUInt32 31)).toInt32)) &&& 252645135) + ((((((((a - ((((a).toUInt32 >>> ((1 : Int32).toUInt32 &&& Int32.toUInt32 31)).toInt32) &&& 1431655765)) &&& 858993459) + (((((a - ((((a).toUInt32 >>> ((1 : Int32).toUInt32 &&& Int32.toUInt32 31)).toInt32) &&& 1431655765))).toUInt32 >>> ((2 : Int32).toUInt32 &&& Int32.toUInt32 31)).toInt32) &&& 858993459)) + ((((((a - ((((a).toUInt32 >>> ((1 : Int32).toUInt32 &&& Int32.toUInt32 31)).toInt32) &&& 1431655765)) &&& 858993459) + (((((a - ((((a).toUInt32 >>> ((1 : Int32).toUInt32 &&& Int32.toUInt32 31)).toInt32) &&& 1431655765))).toUInt32 >>> ((2 : Int32).toUInt32 &&& Int32.toUInt32 31)).toInt32) &&& 858993459))).toUInt32 >>> ((4 : Int32).toUInt32 &&& Int32.toUInt32 31)).toInt32)) &&& 252645135)).toUInt32 >>> ((8 : Int32).toUInt32 &&& Int32.toUInt32 31)).toInt32)))] dJ6_bitCount_0f7a4_40 (by decide) rfl ?_
  refine r_iload_n 0 dJ6_bitCount_0f7a4_41 rfl ?_
  refine r_iload_n 0 dJ6_bitCount_0f7a4_42 rfl ?_
  refine r_bipush 16 dJ6_bitCount_0f7a4_43 (by decide) ?_
  refine r_iushr dJ6_bitCount_0f7a4_45 ?_
  refine r_iadd dJ6_bitCount_0f7a4_46 ?_
  refine r_istore_n [(0, .int (((((((a - ((((a).toUInt32 >>> ((1 : Int32).toUInt32 &&& Int32.toUInt32 31)).toInt32) &&& 1431655765)) &&& 858993459) + (((((a - ((((a).toUInt32 >>> ((1 : Int32).toUInt32 &&& Int32.toUInt32 31)).toInt32) &&& 1431655765))).toUInt32 >>> ((2 : Int32).toUInt32 &&& Int32.toUInt32 31)).toInt32) &&& 858993459)) + ((((((a - ((((a).toUInt32 >>> ((1 : Int32).toUInt32 &&& Int32.toUInt32 31)).toInt32) &&& 1431655765)) &&& 858993459) + (((((a - ((((a).toUInt32 >>> ((1 : Int32).toUInt32 &&& Int32.toUInt32 31)).toInt32) &&& 1431655765))).toUInt32 >>> ((2 : Int32).toUInt32 &&& Int32.toUInt32 31)).toInt32) &&& 858993459))).toUInt32 >>> ((4 : Int32).toUInt32 &&& Int32.toUInt32 31)).toInt32)) &&& 252645135) + ((((((((a - ((((a).toUInt32 >>> ((1 : Int32).toUInt32 &&& Int32.toUInt32 31)).toInt32) &&& 1431655765)) &&& 858993459) + (((((a - ((((a).toUInt32 >>> ((1 : Int32).toUInt32 &&& Int32.toUInt32 31)).toInt32) &&& 1431655765))).toUInt32 >>> ((2 : Int32).toUInt32 &&& Int32.toUInt32 31)).toInt32) &&& 858993459)) + ((((((a - ((((a).toUInt32 >>> ((1 : Int32).toUInt32 &&& Int32.toUInt32 31)).toInt32) &&& 1431655765)) &&& 858993459) + (((((a - ((((a).toUInt32 >>> ((1 : Int32).toUInt32 &&& Int32.toUInt32 31)).toInt32) &&& 1431655765))).toUInt32 >>> ((2 : Int32).toUInt32 &&& Int32.toUInt32 31)).toInt32) &&& 858993459))).toUInt32 >>> ((4 : Int32).toUInt32 &&& Int32.toUInt32 31)).toInt32)) &&& 252645135)).toUInt32 >>> ((8 : Int32).toUInt32 &&& Int32.toUInt32 31)).toInt32)) + (((((((((a - ((((a).toUInt32 >>> ((1 : Int32).toUInt32 &&& Int32.toUInt32 31)).toInt32) &&& 1431655765)) &&& 858993459) + (((((a - ((((a).toUInt32 >>> ((1 : Int32).toUInt32 &&& Int32.toUInt32 31)).toInt32) &&& 1431655765))).toUInt32 >>> ((2 : Int32).toUInt32 &&& Int32.toUInt32 31)).toInt32) &&& 858993459)) + ((((((a - ((((a).toUInt32 >>> ((1 : Int32).toUInt32 &&& Int32.toUInt32 31)).toInt32) &&& 1431655765)) &&& 858993459) + (((((a - ((((a).toUInt32 >>> ((1 : Int32).toUInt32 &&& Int32.toUInt32 31)).toInt32) &&& 1431655765))).toUInt32 >>> ((2 : Int32).toUInt32 &&& Int32.toUInt32 31)).toInt32) &&& 858993459))).toUInt32 >>> ((4 : Int32).toUInt32 &&& Int32.toUInt32 31)).toInt32)) &&& 252645135) + ((((((((a - ((((a).toUInt32 >>> ((1 : Int32).toUInt32 &&& Int32.toUInt32 31)).toInt32) &&& 1431655765)) &&& 858993459) + (((((a - ((((a).toUInt32 >>> ((1 : Int32).toUInt32 &&& Int32.toUInt32 31)).toInt32) &&& 1431655765))).toUInt32 >>> ((2 : Int32).toUInt32 &&& Int32.toUInt32 31)).toInt32) &&& 858993459)) + ((((((a - ((((a).toUInt32 >>> ((1 : Int32).toUInt32 &&& Int32.toUInt32 31)).toInt32) &&& 1431655765)) &&& 858993459) + (((((a - ((((a).toUInt32 >>> ((1 : Int32).toUInt32 &&& Int32.toUInt32 31)).toInt32) &&& 1431655765))).toUInt32 >>> ((2 : Int32).toUInt32 &&& Int32.toUInt32 31)).toInt32) &&& 858993459))).toUInt32 >>> ((4 : Int32).toUInt32 &&& Int32.toUInt32 31)).toInt32)) &&& 252645135)).toUInt32 >>> ((8 : Int32).toUInt32 &&& Int32.toUInt32 31)).toInt32))).toUInt32 >>> ((16 : Int32).toUInt32 &&& Int32.toUInt32 31)).toInt32)))] dJ6_bitCount_0f7a4_47 (by decide) rfl ?_
  refine r_iload_n 0 dJ6_bitCount_0f7a4_48 rfl ?_
  refine r_bipush 63 dJ6_bitCount_0f7a4_49 (by decide) ?_
  refine r_iand dJ6_bitCount_0f7a4_51 ?_
  cases hm
  exact r_ireturn dJ6_bitCount_0f7a4_52 rfl (by decide) HK
def lo_X3_forgetLinks_7 (f : Nat) (a0 : Nat) : Nat → Int32 → am_H → Option (am_H)
  | 0, _, _ => none
  | n + 1, a1, h =>
  (if 8 ≤ a1 then
  (some h)
  else (Option.bind (am_gr h 3 a0 2) fun xq1 =>
  Option.bind (am_si h 9 xq1 a1 0) fun hq2 =>
  lo_X3_forgetLinks_7 f a0 n (a1 + 1) hq2))
set_option maxHeartbeats 4000000 in
set_option maxRecDepth 100000 in
theorem ll_X3_forgetLinks_7 (l : Launch) (f : Nat) (a0 : Nat) (K : Option Value → am_H → Prop) : ∀ (n : Nat) (a1 : Int32) (h : am_H) (z : am_H), lo_X3_forgetLinks_7 f a0 n a1 h = some z →
    am_R l yX3_forgetLinks cX3_forgetLinks 2 (none) rm_X3_forgetLinks (fun _ _ _ => True) 0 0 26 [] [] z K →
    am_R l yX3_forgetLinks cX3_forgetLinks 2 (none) rm_X3_forgetLinks (fun _ _ _ => True) 0 0 7 [(0, .ref a0), (1, .int a1)] [] h K := by
  intro n
  induction n with
  | zero =>
    intro a1 h z hm kE
    cases hm
  | succ n ih =>
    intro a1 h z hm kE
    rw [lo_X3_forgetLinks_7.eq_2] at hm
    refine r_iload_n 1 dX3_forgetLinks_7 rfl ?_
    refine r_bipush 8 dX3_forgetLinks_8 (by decide) ?_
    refine r_icmp_ge 26 dX3_forgetLinks_10 (by decide) (fun q => ?_) (fun q => ?_)
    · rw [if_pos q] at hm
      cases hm
      exact r_lv [] _ rfl kE
    · rw [if_neg q] at hm
      refine r_aload_n 0 dX3_forgetLinks_13 rfl ?_
      obtain ⟨xq1, exq1, hm⟩ := am_bs hm
      refine r_getr exq1 fl_X3_15 rfl dX3_forgetLinks_14 ?_
      refine r_iload_n 1 dX3_forgetLinks_17 rfl ?_
      refine r_iconst 0 dX3_forgetLinks_18 (by decide) ?_
      obtain ⟨hq2, ehq2, hm⟩ := am_bs hm
      refine r_iast ehq2 dX3_forgetLinks_19 ?_
      refine r_inc 1 1 [(1, .int (a1 + 1)), (0, .ref a0)] dX3_forgetLinks_20 (by decide) rfl (by decide) rfl ?_
      refine r_goto 7 dX3_forgetLinks_23 (by decide) ?_
      exact r_lv [1, 0] _ rfl (ih (a1 + 1) hq2 _ hm kE)
def mi_X3_forgetLinks (f : Nat) (h : am_H) (p : Nat) : Option am_H :=
  Option.bind (am_cls h 3 p) fun _n =>
  Option.bind (am_pi h 3 p 3 0) fun hq1 =>
  Option.bind (lo_X3_forgetLinks_7 f p f 0 hq1) fun hq2 =>
  some hq2
theorem cs_X3_forgetLinks {f : Nat} {h : am_H} {p : Nat} {z : am_H} (hm : mi_X3_forgetLinks f h p = some z) : ∃ n, h.1[p]? = some (3, n) := by
  unfold mi_X3_forgetLinks at hm
  obtain ⟨n, hn, -⟩ := am_bs hm
  exact ⟨n, am_cls_of hn⟩
set_option maxHeartbeats 4000000 in
set_option maxRecDepth 100000 in
theorem ct_X3_forgetLinks (l : Launch) {f : Nat} {h : am_H} {p : Nat} {h2 : am_H} (hm : mi_X3_forgetLinks f h p = some h2) : am_Ct l yX3_forgetLinks cX3_forgetLinks 2 (none) rm_X3_forgetLinks [.ref p] h none h2 := by
  refine am_met2 [(0, .ref p)] (by decide) (Nat.le_of_ble_eq_true rfl) rfl ?_
  generalize hK : (fun (v : Option Value) (h3 : am_H) => v = none ∧ h3 = h2) = K
  have HK : K none h2 := by rw [← hK]; exact ⟨rfl, rfl⟩
  clear hK
  unfold mi_X3_forgetLinks at hm
  obtain ⟨_n, _hn, hm⟩ := am_bs hm
  refine r_aload_n 0 dX3_forgetLinks_0 rfl ?_
  refine r_iconst 0 dX3_forgetLinks_1 (by decide) ?_
  obtain ⟨hq1, ehq1, hm⟩ := am_bs hm
  refine r_puti ehq1 fl_X3_46 rfl rfl dX3_forgetLinks_2 ?_
  refine r_iconst 0 dX3_forgetLinks_5 (by decide) ?_
  refine r_istore_n [(1, .int 0), (0, .ref p)] dX3_forgetLinks_6 (by decide) rfl ?_
  obtain ⟨hq2, ew, hm⟩ := am_bs hm
  try dsimp only at hm
  refine r_lv [1, 0] _ rfl (ll_X3_forgetLinks_7 l f p _ f 0 hq1 _ ew ?_)
  cases hm
  exact r_return dX3_forgetLinks_26 rfl (by decide) HK
def mi_X3_partners (f : Nat) (h : am_H) (p : Nat) (a : Int32) (b : Int32) : Option Int32 :=
  Option.bind (am_cls h 3 p) fun _n =>
  Option.bind ((if b = 43 then
  (Option.bind (am_gr h 3 p 2) fun xq2 =>
  Option.bind (am_li h 9 xq2 a) fun xq3 =>
  some (((255 : Int32) ^^^ ((1 : Int32) <<< (a &&& 31))) &&& (xq3 ^^^ (-1))))
  else (Option.bind (am_gr h 3 p 2) fun xq4 =>
  Option.bind (am_li h 9 xq4 a) fun xq5 =>
  some xq5))) fun jq1 =>
  some jq1
theorem cs_X3_partners {f : Nat} {h : am_H} {p : Nat} {a : Int32} {b : Int32} {z : Int32} (hm : mi_X3_partners f h p a b = some z) : ∃ n, h.1[p]? = some (3, n) := by
  unfold mi_X3_partners at hm
  obtain ⟨n, hn, -⟩ := am_bs hm
  exact ⟨n, am_cls_of hn⟩
set_option maxHeartbeats 4000000 in
set_option maxRecDepth 100000 in
theorem ct_X3_partners (l : Launch) {f : Nat} {h : am_H} {p : Nat} {a : Int32} {b : Int32} {r : Int32} (hm : mi_X3_partners f h p a b = some r) : am_Ct l yX3_partners cX3_partners 4 (some .int) rm_X3_partners [.ref p, .int a, .int b] h (some (.int r)) h := by
  refine am_met2 [(0, .ref p), (1, .int a), (2, .int b)] (by decide) (Nat.le_of_ble_eq_true rfl) rfl ?_
  generalize hK : (fun (v : Option Value) (h3 : am_H) => v = (some (.int r)) ∧ h3 = h) = K
  have HK : K (some (.int r)) h := by rw [← hK]; exact ⟨rfl, rfl⟩
  clear hK
  unfold mi_X3_partners at hm
  obtain ⟨_n, _hn, hm⟩ := am_bs hm
  refine r_sipush 255 dX3_partners_0 (by decide) ?_
  refine r_iconst 1 dX3_partners_3 (by decide) ?_
  refine r_iload_n 1 dX3_partners_4 rfl ?_
  refine r_ishl dX3_partners_5 ?_
  refine r_ixor dX3_partners_6 ?_
  refine r_istore_n [(3, .int ((255 : Int32) ^^^ ((1 : Int32) <<< (a &&& 31)))), (0, .ref p), (1, .int a), (2, .int b)] dX3_partners_7 (by decide) rfl ?_
  refine r_iload_n 3 dX3_partners_8 rfl ?_
  refine r_bipush 43 dX3_partners_9 (by decide) ?_
  obtain ⟨jq1, hw, hm⟩ := am_bs hm
  try dsimp only at hm
  have HJ : am_R l yX3_partners cX3_partners 4 (some .int) rm_X3_partners (fun _ _ _ => True) 0 0 33 [] [.int jq1] h K := by
    cases hm
    exact r_ireturn dX3_partners_33 rfl (by decide) HK
  clear hm
  have hm := hw
  clear hw
  refine r_icmp_ne 27 dX3_partners_11 (by decide) (fun q => ?_) (fun q => ?_)
  · rw [if_neg q] at hm
    refine r_aload_n 1 dX3_partners_27 rfl ?_
    obtain ⟨xq4, exq4, hm⟩ := am_bs hm
    refine r_getr exq4 fl_X3_15 rfl dX3_partners_28 ?_
    refine r_iload_n 2 dX3_partners_31 rfl ?_
    obtain ⟨xq5, exq5, hm⟩ := am_bs hm
    refine r_iald exq5 dX3_partners_32 ?_
    cases hm
    exact r_lv [] _ rfl HJ
  · rw [if_pos q] at hm
    refine r_iload_n 0 dX3_partners_14 rfl ?_
    refine r_aload_n 1 dX3_partners_15 rfl ?_
    obtain ⟨xq2, exq2, hm⟩ := am_bs hm
    refine r_getr exq2 fl_X3_15 rfl dX3_partners_16 ?_
    refine r_iload_n 2 dX3_partners_19 rfl ?_
    obtain ⟨xq3, exq3, hm⟩ := am_bs hm
    refine r_iald exq3 dX3_partners_20 ?_
    refine r_iconst (-1) dX3_partners_21 (by decide) ?_
    refine r_ixor dX3_partners_22 ?_
    refine r_iand dX3_partners_23 ?_
    refine r_goto 33 dX3_partners_24 (by decide) ?_
    cases hm
    exact r_lv [] _ rfl HJ
def mi_X3_faultOfEvent (f : Nat) (h : am_H) (p : Nat) (a : Int32) : Option Int32 :=
  Option.bind (am_cls h 3 p) fun _n =>
  Option.bind (am_gr h 3 p 0) fun xq1 =>
  Option.bind (am_li h 8 xq1 a) fun xq2 =>
  (if xq2 = 46 then
  (some (-9))
  else (Option.bind ((if xq2 = 43 then
  (some true)
  else ((if xq2 = 45 then
  (Option.bind (am_gi h 3 p 3) fun xq4 =>
  (if xq4 = 0 then
  (some false)
  else (some true)))
  else (some false))))) fun tq3 =>
  (if tq3 = true then
  (Option.bind (am_gi h 3 p 1) fun xq5 =>
  (if (a + 1) < xq5 then
  (Option.bind (am_gr h 3 p 0) fun xq6 =>
  Option.bind (am_li h 8 xq6 (a + 1)) fun xq7 =>
  Option.bind (mi_X6_isKnot f h (xq7 - 48)) fun xq8 =>
  (if xq8 = true then
  (Option.bind (mi_X3_partners f h p (xq7 - 48) xq2) fun xq9 =>
  (if xq9 = 0 then
  (some (a + 1))
  else (Option.bind (am_gi h 3 p 1) fun xq10 =>
  (if (a + 2) < xq10 then
  (Option.bind (am_gr h 3 p 0) fun xq11 =>
  Option.bind (am_li h 8 xq11 (a + 2)) fun xq12 =>
  Option.bind (mi_X6_isKnot f h (xq12 - 48)) fun xq13 =>
  Option.bind ((if xq13 = true then
  (Option.bind (mi_X3_partners f h p (xq7 - 48) xq2) fun xq15 =>
  (if ((xq15 >>> ((xq12 - 48) &&& 31)) &&& 1) = 0 then
  (some (a + 2))
  else (some (-9))))
  else (some (a + 2)))) fun jq14 =>
  some jq14)
  else (Option.bind (am_gi h 3 p 1) fun xq16 =>
  some xq16)))))
  else (some (a + 1))))
  else (Option.bind (am_gi h 3 p 1) fun xq17 =>
  some xq17)))
  else (some a))))
theorem cs_X3_faultOfEvent {f : Nat} {h : am_H} {p : Nat} {a : Int32} {z : Int32} (hm : mi_X3_faultOfEvent f h p a = some z) : ∃ n, h.1[p]? = some (3, n) := by
  unfold mi_X3_faultOfEvent at hm
  obtain ⟨n, hn, -⟩ := am_bs hm
  exact ⟨n, am_cls_of hn⟩
set_option maxHeartbeats 4000000 in
set_option maxRecDepth 100000 in
theorem ct_X3_faultOfEvent (l : Launch) {f : Nat} {h : am_H} {p : Nat} {a : Int32} {r : Int32} (hm : mi_X3_faultOfEvent f h p a = some r) : am_Ct l yX3_faultOfEvent cX3_faultOfEvent 5 (some .int) rm_X3_faultOfEvent [.ref p, .int a] h (some (.int r)) h := by
  refine am_met2 [(0, .ref p), (1, .int a)] (by decide) (Nat.le_of_ble_eq_true rfl) rfl ?_
  generalize hK : (fun (v : Option Value) (h3 : am_H) => v = (some (.int r)) ∧ h3 = h) = K
  have HK : K (some (.int r)) h := by rw [← hK]; exact ⟨rfl, rfl⟩
  clear hK
  unfold mi_X3_faultOfEvent at hm
  obtain ⟨_n, _hn, hm⟩ := am_bs hm
  refine r_aload_n 0 dX3_faultOfEvent_0 rfl ?_
  obtain ⟨xq1, exq1, hm⟩ := am_bs hm
  refine r_getr exq1 fl_X3_9 rfl dX3_faultOfEvent_1 ?_
  refine r_iload_n 1 dX3_faultOfEvent_4 rfl ?_
  obtain ⟨xq2, exq2, hm⟩ := am_bs hm
  refine r_cald exq2 dX3_faultOfEvent_5 ?_
  refine r_istore_n [(2, .int xq2), (0, .ref p), (1, .int a)] dX3_faultOfEvent_6 (by decide) rfl ?_
  refine r_iload_n 0 dX3_faultOfEvent_7 rfl ?_
  refine r_bipush 46 dX3_faultOfEvent_8 (by decide) ?_
  refine r_icmp_ne 16 dX3_faultOfEvent_10 (by decide) (fun q => ?_) (fun q => ?_)
  · rw [if_neg q] at hm
    refine r_iload_n 0 dX3_faultOfEvent_16 rfl ?_
    refine r_bipush 43 dX3_faultOfEvent_17 (by decide) ?_
    obtain ⟨tq3, hw, hm⟩ := am_bs hm
    try dsimp only at hm
    have HA : tq3 = true → am_R l yX3_faultOfEvent cX3_faultOfEvent 5 (some .int) rm_X3_faultOfEvent (fun _ _ _ => True) 0 0 37 [(2, .int xq2), (0, .ref p), (1, .int a)] [] h K := by
      intro q
      clear hw
      rw [if_pos q] at hm
      refine r_iload_n 2 dX3_faultOfEvent_37 rfl ?_
      refine r_iconst 1 dX3_faultOfEvent_38 (by decide) ?_
      refine r_iadd dX3_faultOfEvent_39 ?_
      refine r_aload_n 1 dX3_faultOfEvent_40 rfl ?_
      obtain ⟨xq5, exq5, hm⟩ := am_bs hm
      refine r_geti exq5 fl_X3_28 rfl dX3_faultOfEvent_41 ?_
      refine r_icmp_lt 52 dX3_faultOfEvent_44 (by decide) (fun q => ?_) (fun q => ?_)
      · rw [if_pos q] at hm
        refine r_aload_n 1 dX3_faultOfEvent_52 rfl ?_
        obtain ⟨xq6, exq6, hm⟩ := am_bs hm
        refine r_getr exq6 fl_X3_9 rfl dX3_faultOfEvent_53 ?_
        refine r_iload_n 2 dX3_faultOfEvent_56 rfl ?_
        refine r_iconst 1 dX3_faultOfEvent_57 (by decide) ?_
        refine r_iadd dX3_faultOfEvent_58 ?_
        obtain ⟨xq7, exq7, hm⟩ := am_bs hm
        refine r_cald exq7 dX3_faultOfEvent_59 ?_
        refine r_bipush 48 dX3_faultOfEvent_60 (by decide) ?_
        refine r_isub dX3_faultOfEvent_62 ?_
        refine r_istore_n [(3, .int (xq7 - 48)), (2, .int xq2), (0, .ref p), (1, .int a)] dX3_faultOfEvent_63 (by decide) rfl ?_
        refine r_iload_n 0 dX3_faultOfEvent_64 rfl ?_
        obtain ⟨xq8, exq8, hm⟩ := am_bs hm
        refine r_cS1 [.int (xq7 - 48)] (ct_X6_isKnot l exq8) sm_X3_49 (by decide) ⟨rfl, rfl⟩ rfl (Nat.le_of_ble_eq_true rfl) dX3_faultOfEvent_65 ?_
        refine r_if_eq 80 dX3_faultOfEvent_68 (by decide) (fun q => ?_) (fun q => ?_)
        · rw [if_neg (show ¬ xq8 = true from by rw [am_b0 q]; decide)] at hm
          refine r_iload_n 3 dX3_faultOfEvent_80 rfl ?_
          refine r_iconst 1 dX3_faultOfEvent_81 (by decide) ?_
          refine r_iadd dX3_faultOfEvent_82 ?_
          cases hm
          exact r_ireturn dX3_faultOfEvent_83 rfl (by decide) HK
        · rw [if_pos (show xq8 = true from am_b1 q)] at hm
          refine r_aload_n 2 dX3_faultOfEvent_71 rfl ?_
          refine r_iload_n 0 dX3_faultOfEvent_72 rfl ?_
          refine r_iload_n 1 dX3_faultOfEvent_73 rfl ?_
          obtain ⟨xq9, exq9, hm⟩ := am_bs hm
          refine r_cV1 [.int (xq7 - 48), .int xq2] (ct_X3_partners l exq9) vm_X3_53 (cs_X3_partners exq9) (by decide) ⟨rfl, rfl⟩ rfl (Nat.le_of_ble_eq_true rfl) dX3_faultOfEvent_74 ?_
          refine r_if_ne 84 dX3_faultOfEvent_77 (by decide) (fun q => ?_) (fun q => ?_)
          · rw [if_neg q] at hm
            refine r_iload_n 3 dX3_faultOfEvent_84 rfl ?_
            refine r_iconst 2 dX3_faultOfEvent_85 (by decide) ?_
            refine r_iadd dX3_faultOfEvent_86 ?_
            refine r_aload_n 2 dX3_faultOfEvent_87 rfl ?_
            obtain ⟨xq10, exq10, hm⟩ := am_bs hm
            refine r_geti exq10 fl_X3_28 rfl dX3_faultOfEvent_88 ?_
            refine r_icmp_lt 99 dX3_faultOfEvent_91 (by decide) (fun q => ?_) (fun q => ?_)
            · rw [if_pos q] at hm
              refine r_aload_n 2 dX3_faultOfEvent_99 rfl ?_
              obtain ⟨xq11, exq11, hm⟩ := am_bs hm
              refine r_getr exq11 fl_X3_9 rfl dX3_faultOfEvent_100 ?_
              refine r_iload_n 3 dX3_faultOfEvent_103 rfl ?_
              refine r_iconst 2 dX3_faultOfEvent_104 (by decide) ?_
              refine r_iadd dX3_faultOfEvent_105 ?_
              obtain ⟨xq12, exq12, hm⟩ := am_bs hm
              refine r_cald exq12 dX3_faultOfEvent_106 ?_
              refine r_bipush 48 dX3_faultOfEvent_107 (by decide) ?_
              refine r_isub dX3_faultOfEvent_109 ?_
              refine r_istore [(4, .int (xq12 - 48)), (3, .int (xq7 - 48)), (2, .int xq2), (0, .ref p), (1, .int a)] dX3_faultOfEvent_110 (by decide) rfl ?_
              refine r_iload 0 dX3_faultOfEvent_112 rfl ?_
              obtain ⟨xq13, exq13, hm⟩ := am_bs hm
              refine r_cS1 [.int (xq12 - 48)] (ct_X6_isKnot l exq13) sm_X3_49 (by decide) ⟨rfl, rfl⟩ rfl (Nat.le_of_ble_eq_true rfl) dX3_faultOfEvent_114 ?_
              obtain ⟨jq14, hw, hm⟩ := am_bs hm
              try dsimp only at hm
              have HJ : am_R l yX3_faultOfEvent cX3_faultOfEvent 5 (some .int) rm_X3_faultOfEvent (fun _ _ _ => True) 0 0 142 [] [.int jq14] h K := by
                cases hm
                exact r_ireturn dX3_faultOfEvent_142 rfl (by decide) HK
              clear hm
              have hm := hw
              clear hw
              refine r_if_eq 139 dX3_faultOfEvent_117 (by decide) (fun q => ?_) (fun q => ?_)
              · rw [if_neg (show ¬ xq13 = true from by rw [am_b0 q]; decide)] at hm
                refine r_iload_n 4 dX3_faultOfEvent_139 rfl ?_
                refine r_iconst 2 dX3_faultOfEvent_140 (by decide) ?_
                refine r_iadd dX3_faultOfEvent_141 ?_
                cases hm
                exact r_lv [] _ rfl HJ
              · rw [if_pos (show xq13 = true from am_b1 q)] at hm
                refine r_aload_n 3 dX3_faultOfEvent_120 rfl ?_
                refine r_iload_n 1 dX3_faultOfEvent_121 rfl ?_
                refine r_iload_n 2 dX3_faultOfEvent_122 rfl ?_
                obtain ⟨xq15, exq15, hm⟩ := am_bs hm
                refine r_cV1 [.int (xq7 - 48), .int xq2] (ct_X3_partners l exq15) vm_X3_53 (cs_X3_partners exq15) (by decide) ⟨rfl, rfl⟩ rfl (Nat.le_of_ble_eq_true rfl) dX3_faultOfEvent_123 ?_
                refine r_iload 0 dX3_faultOfEvent_126 rfl ?_
                refine r_ishr dX3_faultOfEvent_128 ?_
                refine r_iconst 1 dX3_faultOfEvent_129 (by decide) ?_
                refine r_iand dX3_faultOfEvent_130 ?_
                refine r_if_eq 139 dX3_faultOfEvent_131 (by decide) (fun q => ?_) (fun q => ?_)
                · rw [if_pos q] at hm
                  refine r_iload_n 4 dX3_faultOfEvent_139 rfl ?_
                  refine r_iconst 2 dX3_faultOfEvent_140 (by decide) ?_
                  refine r_iadd dX3_faultOfEvent_141 ?_
                  cases hm
                  exact r_lv [] _ rfl HJ
                · rw [if_neg q] at hm
                  refine r_bipush (-9) dX3_faultOfEvent_134 (by decide) ?_
                  refine r_goto 142 dX3_faultOfEvent_136 (by decide) ?_
                  cases hm
                  exact r_lv [] _ rfl HJ
            · rw [if_neg q] at hm
              refine r_aload_n 2 dX3_faultOfEvent_94 rfl ?_
              obtain ⟨xq16, exq16, hm⟩ := am_bs hm
              refine r_geti exq16 fl_X3_28 rfl dX3_faultOfEvent_95 ?_
              cases hm
              exact r_ireturn dX3_faultOfEvent_98 rfl (by decide) HK
          · rw [if_pos q] at hm
            refine r_iload_n 3 dX3_faultOfEvent_80 rfl ?_
            refine r_iconst 1 dX3_faultOfEvent_81 (by decide) ?_
            refine r_iadd dX3_faultOfEvent_82 ?_
            cases hm
            exact r_ireturn dX3_faultOfEvent_83 rfl (by decide) HK
      · rw [if_neg q] at hm
        refine r_aload_n 1 dX3_faultOfEvent_47 rfl ?_
        obtain ⟨xq17, exq17, hm⟩ := am_bs hm
        refine r_geti exq17 fl_X3_28 rfl dX3_faultOfEvent_48 ?_
        cases hm
        exact r_ireturn dX3_faultOfEvent_51 rfl (by decide) HK
    have HB : tq3 = false → am_R l yX3_faultOfEvent cX3_faultOfEvent 5 (some .int) rm_X3_faultOfEvent (fun _ _ _ => True) 0 0 35 [(2, .int xq2), (0, .ref p), (1, .int a)] [] h K := by
      intro q
      clear hw
      rw [if_neg (by rw [q]; decide)] at hm
      refine r_iload_n 2 dX3_faultOfEvent_35 rfl ?_
      cases hm
      exact r_ireturn dX3_faultOfEvent_36 rfl (by decide) HK
    clear hm
    have hm := hw
    clear hw
    refine r_icmp_eq 37 dX3_faultOfEvent_19 (by decide) (fun q => ?_) (fun q => ?_)
    · rw [if_pos q] at hm
      cases hm
      exact HA rfl
    · rw [if_neg q] at hm
      refine r_iload_n 0 dX3_faultOfEvent_22 rfl ?_
      refine r_bipush 45 dX3_faultOfEvent_23 (by decide) ?_
      refine r_icmp_ne 35 dX3_faultOfEvent_25 (by decide) (fun q => ?_) (fun q => ?_)
      · rw [if_neg q] at hm
        cases hm
        exact HB rfl
      · rw [if_pos q] at hm
        refine r_aload_n 1 dX3_faultOfEvent_28 rfl ?_
        obtain ⟨xq4, exq4, hm⟩ := am_bs hm
        refine r_geti exq4 fl_X3_46 rfl dX3_faultOfEvent_29 ?_
        refine r_if_ne 37 dX3_faultOfEvent_32 (by decide) (fun q => ?_) (fun q => ?_)
        · rw [if_neg q] at hm
          cases hm
          exact HA rfl
        · rw [if_pos q] at hm
          cases hm
          exact HB rfl
  · rw [if_pos q] at hm
    refine r_bipush (-9) dX3_faultOfEvent_13 (by decide) ?_
    cases hm
    exact r_ireturn dX3_faultOfEvent_15 rfl (by decide) HK
def mi_X3_takeEvent (f : Nat) (h : am_H) (p : Nat) (a : Int32) : Option am_H :=
  Option.bind (am_cls h 3 p) fun _n =>
  Option.bind (am_gr h 3 p 0) fun xq1 =>
  Option.bind (am_li h 8 xq1 a) fun xq2 =>
  Option.bind (am_gr h 3 p 4) fun xq3 =>
  Option.bind (am_gi h 3 p 7) fun xq4 =>
  Option.bind (am_si h 8 xq3 xq4 (vp_nar .char xq2)) fun hq5 =>
  Option.bind ((if xq2 = 46 then
  (some hq5)
  else (Option.bind (am_gr hq5 3 p 0) fun xq7 =>
  Option.bind (am_li hq5 8 xq7 (a + 1)) fun xq8 =>
  Option.bind (am_gr hq5 3 p 0) fun xq9 =>
  Option.bind (am_li hq5 8 xq9 (a + 2)) fun xq10 =>
  Option.bind (am_gr hq5 3 p 2) fun xq11 =>
  Option.bind (am_li hq5 9 xq11 (xq8 - 48)) fun xq12 =>
  Option.bind (am_si hq5 9 xq11 (xq8 - 48) (xq12 ^^^ ((1 : Int32) <<< ((xq10 - 48) &&& 31)))) fun hq13 =>
  Option.bind (am_gr hq13 3 p 2) fun xq14 =>
  Option.bind (am_li hq13 9 xq14 (xq10 - 48)) fun xq15 =>
  Option.bind (am_si hq13 9 xq14 (xq10 - 48) (xq15 ^^^ ((1 : Int32) <<< ((xq8 - 48) &&& 31)))) fun hq16 =>
  Option.bind (am_gi hq16 3 p 3) fun xq17 =>
  Option.bind ((if xq2 = 43 then
  (some 1)
  else (some (-1)))) fun jq18 =>
  Option.bind (am_pi hq16 3 p 3 (xq17 + jq18)) fun hq19 =>
  Option.bind (am_gr hq19 3 p 5) fun xq20 =>
  Option.bind (am_gi hq19 3 p 7) fun xq21 =>
  Option.bind (am_si hq19 9 xq20 xq21 (xq8 - 48)) fun hq22 =>
  Option.bind (am_gr hq22 3 p 6) fun xq23 =>
  Option.bind (am_gi hq22 3 p 7) fun xq24 =>
  Option.bind (am_si hq22 9 xq23 xq24 (xq10 - 48)) fun hq25 =>
  some hq25))) fun hq6 =>
  some hq6
theorem cs_X3_takeEvent {f : Nat} {h : am_H} {p : Nat} {a : Int32} {z : am_H} (hm : mi_X3_takeEvent f h p a = some z) : ∃ n, h.1[p]? = some (3, n) := by
  unfold mi_X3_takeEvent at hm
  obtain ⟨n, hn, -⟩ := am_bs hm
  exact ⟨n, am_cls_of hn⟩
set_option maxHeartbeats 4000000 in
set_option maxRecDepth 100000 in
theorem ct_X3_takeEvent (l : Launch) {f : Nat} {h : am_H} {p : Nat} {a : Int32} {h2 : am_H} (hm : mi_X3_takeEvent f h p a = some h2) : am_Ct l yX3_takeEvent cX3_takeEvent 5 (none) rm_X3_takeEvent [.ref p, .int a] h none h2 := by
  refine am_met2 [(0, .ref p), (1, .int a)] (by decide) (Nat.le_of_ble_eq_true rfl) rfl ?_
  generalize hK : (fun (v : Option Value) (h3 : am_H) => v = none ∧ h3 = h2) = K
  have HK : K none h2 := by rw [← hK]; exact ⟨rfl, rfl⟩
  clear hK
  unfold mi_X3_takeEvent at hm
  obtain ⟨_n, _hn, hm⟩ := am_bs hm
  refine r_aload_n 0 dX3_takeEvent_0 rfl ?_
  obtain ⟨xq1, exq1, hm⟩ := am_bs hm
  refine r_getr exq1 fl_X3_9 rfl dX3_takeEvent_1 ?_
  refine r_iload_n 1 dX3_takeEvent_4 rfl ?_
  obtain ⟨xq2, exq2, hm⟩ := am_bs hm
  refine r_cald exq2 dX3_takeEvent_5 ?_
  refine r_istore_n [(2, .int xq2), (0, .ref p), (1, .int a)] dX3_takeEvent_6 (by decide) rfl ?_
  refine r_aload_n 1 dX3_takeEvent_7 rfl ?_
  obtain ⟨xq3, exq3, hm⟩ := am_bs hm
  refine r_getr exq3 fl_X3_19 rfl dX3_takeEvent_8 ?_
  refine r_aload_n 1 dX3_takeEvent_11 rfl ?_
  obtain ⟨xq4, exq4, hm⟩ := am_bs hm
  refine r_geti exq4 fl_X3_35 rfl dX3_takeEvent_12 ?_
  refine r_iload_n 0 dX3_takeEvent_15 rfl ?_
  obtain ⟨hq5, ehq5, hm⟩ := am_bs hm
  refine r_cast ehq5 dX3_takeEvent_16 ?_
  refine r_iload_n 0 dX3_takeEvent_17 rfl ?_
  refine r_bipush 46 dX3_takeEvent_18 (by decide) ?_
  obtain ⟨hq6, hw, hm⟩ := am_bs hm
  try dsimp only at hm
  have HJ : am_R l yX3_takeEvent cX3_takeEvent 5 (none) rm_X3_takeEvent (fun _ _ _ => True) 0 0 115 [] [] hq6 K := by
    cases hm
    exact r_return dX3_takeEvent_115 rfl (by decide) HK
  clear hm
  have hm := hw
  clear hw
  refine r_icmp_eq 115 dX3_takeEvent_20 (by decide) (fun q => ?_) (fun q => ?_)
  · rw [if_pos q] at hm
    cases hm
    exact r_lv [] _ rfl HJ
  · rw [if_neg q] at hm
    refine r_aload_n 1 dX3_takeEvent_23 rfl ?_
    obtain ⟨xq7, exq7, hm⟩ := am_bs hm
    refine r_getr exq7 fl_X3_9 rfl dX3_takeEvent_24 ?_
    refine r_iload_n 2 dX3_takeEvent_27 rfl ?_
    refine r_iconst 1 dX3_takeEvent_28 (by decide) ?_
    refine r_iadd dX3_takeEvent_29 ?_
    obtain ⟨xq8, exq8, hm⟩ := am_bs hm
    refine r_cald exq8 dX3_takeEvent_30 ?_
    refine r_bipush 48 dX3_takeEvent_31 (by decide) ?_
    refine r_isub dX3_takeEvent_33 ?_
    refine r_istore_n [(3, .int (xq8 - 48)), (2, .int xq2), (0, .ref p), (1, .int a)] dX3_takeEvent_34 (by decide) rfl ?_
    refine r_aload_n 2 dX3_takeEvent_35 rfl ?_
    obtain ⟨xq9, exq9, hm⟩ := am_bs hm
    refine r_getr exq9 fl_X3_9 rfl dX3_takeEvent_36 ?_
    refine r_iload_n 3 dX3_takeEvent_39 rfl ?_
    refine r_iconst 2 dX3_takeEvent_40 (by decide) ?_
    refine r_iadd dX3_takeEvent_41 ?_
    obtain ⟨xq10, exq10, hm⟩ := am_bs hm
    refine r_cald exq10 dX3_takeEvent_42 ?_
    refine r_bipush 48 dX3_takeEvent_43 (by decide) ?_
    refine r_isub dX3_takeEvent_45 ?_
    refine r_istore [(4, .int (xq10 - 48)), (3, .int (xq8 - 48)), (2, .int xq2), (0, .ref p), (1, .int a)] dX3_takeEvent_46 (by decide) rfl ?_
    refine r_aload_n 3 dX3_takeEvent_48 rfl ?_
    obtain ⟨xq11, exq11, hm⟩ := am_bs hm
    refine r_getr exq11 fl_X3_15 rfl dX3_takeEvent_49 ?_
    refine r_iload_n 1 dX3_takeEvent_52 rfl ?_
    refine r_dup2 dX3_takeEvent_53 rfl rfl ?_
    obtain ⟨xq12, exq12, hm⟩ := am_bs hm
    refine r_iald exq12 dX3_takeEvent_54 ?_
    refine r_iconst 1 dX3_takeEvent_55 (by decide) ?_
    refine r_iload 0 dX3_takeEvent_56 rfl ?_
    refine r_ishl dX3_takeEvent_58 ?_
    refine r_ixor dX3_takeEvent_59 ?_
    obtain ⟨hq13, ehq13, hm⟩ := am_bs hm
    refine r_iast ehq13 dX3_takeEvent_60 ?_
    refine r_aload_n 3 dX3_takeEvent_61 rfl ?_
    obtain ⟨xq14, exq14, hm⟩ := am_bs hm
    refine r_getr exq14 fl_X3_15 rfl dX3_takeEvent_62 ?_
    refine r_iload 0 dX3_takeEvent_65 rfl ?_
    refine r_dup2 dX3_takeEvent_67 rfl rfl ?_
    obtain ⟨xq15, exq15, hm⟩ := am_bs hm
    refine r_iald exq15 dX3_takeEvent_68 ?_
    refine r_iconst 1 dX3_takeEvent_69 (by decide) ?_
    refine r_iload_n 1 dX3_takeEvent_70 rfl ?_
    refine r_ishl dX3_takeEvent_71 ?_
    refine r_ixor dX3_takeEvent_72 ?_
    obtain ⟨hq16, ehq16, hm⟩ := am_bs hm
    refine r_iast ehq16 dX3_takeEvent_73 ?_
    refine r_aload_n 3 dX3_takeEvent_74 rfl ?_
    refine r_dup dX3_takeEvent_75 rfl ?_
    obtain ⟨xq17, exq17, hm⟩ := am_bs hm
    refine r_geti exq17 fl_X3_46 rfl dX3_takeEvent_76 ?_
    refine r_iload_n 2 dX3_takeEvent_79 rfl ?_
    refine r_bipush 43 dX3_takeEvent_80 (by decide) ?_
    obtain ⟨jq18, hw, hm⟩ := am_bs hm
    try dsimp only at hm
    have HJ : am_R l yX3_takeEvent cX3_takeEvent 5 (none) rm_X3_takeEvent (fun _ _ _ => True) 0 0 90 [(0, .ref p), (3, .int (xq8 - 48)), (4, .int (xq10 - 48))] [.int jq18, .int xq17, .ref p] hq16 K := by
      refine r_iadd dX3_takeEvent_90 ?_
      obtain ⟨hq19, ehq19, hm⟩ := am_bs hm
      refine r_puti ehq19 fl_X3_46 rfl rfl dX3_takeEvent_91 ?_
      refine r_aload_n 0 dX3_takeEvent_94 rfl ?_
      obtain ⟨xq20, exq20, hm⟩ := am_bs hm
      refine r_getr exq20 fl_X3_22 rfl dX3_takeEvent_95 ?_
      refine r_aload_n 0 dX3_takeEvent_98 rfl ?_
      obtain ⟨xq21, exq21, hm⟩ := am_bs hm
      refine r_geti exq21 fl_X3_35 rfl dX3_takeEvent_99 ?_
      refine r_iload_n 1 dX3_takeEvent_102 rfl ?_
      obtain ⟨hq22, ehq22, hm⟩ := am_bs hm
      refine r_iast ehq22 dX3_takeEvent_103 ?_
      refine r_aload_n 0 dX3_takeEvent_104 rfl ?_
      obtain ⟨xq23, exq23, hm⟩ := am_bs hm
      refine r_getr exq23 fl_X3_25 rfl dX3_takeEvent_105 ?_
      refine r_aload_n 0 dX3_takeEvent_108 rfl ?_
      obtain ⟨xq24, exq24, hm⟩ := am_bs hm
      refine r_geti exq24 fl_X3_35 rfl dX3_takeEvent_109 ?_
      refine r_iload 2 dX3_takeEvent_112 rfl ?_
      obtain ⟨hq25, ehq25, hm⟩ := am_bs hm
      refine r_iast ehq25 dX3_takeEvent_114 ?_
      cases hm
      exact r_lv [] _ rfl HJ
    clear hm
    have hm := hw
    clear hw
    refine r_icmp_ne 89 dX3_takeEvent_82 (by decide) (fun q => ?_) (fun q => ?_)
    · rw [if_neg q] at hm
      refine r_iconst (-1) dX3_takeEvent_89 (by decide) ?_
      cases hm
      exact r_lv [3, 1, 0] _ rfl HJ
    · rw [if_pos q] at hm
      refine r_iconst 1 dX3_takeEvent_85 (by decide) ?_
      refine r_goto 90 dX3_takeEvent_86 (by decide) ?_
      cases hm
      exact r_lv [3, 1, 0] _ rfl HJ
def lo_X3_firstFault_31 (f : Nat) (a0 : Nat) : Nat → Int32 → am_H → Option ((Int32 × am_H) ⊕ (Int32 × am_H))
  | 0, _, _ => none
  | n + 1, a1, h =>
  Option.bind (am_gi h 3 a0 7) fun xq1 =>
  (if 16 ≤ xq1 then
  (some (.inl (a1, h)))
  else (Option.bind (am_gi h 3 a0 1) fun xq2 =>
  (if xq2 ≤ a1 then
  (some (.inl (a1, h)))
  else (Option.bind (mi_X3_faultOfEvent f h a0 a1) fun xq3 =>
  (if xq3 = (-9) then
  (Option.bind (mi_X3_takeEvent f h a0 a1) fun hq5 =>
  Option.bind (am_gr hq5 3 a0 0) fun xq6 =>
  Option.bind (am_li hq5 8 xq6 a1) fun xq7 =>
  Option.bind ((if xq7 = 46 then
  (some 1)
  else (some 3))) fun jq8 =>
  Option.bind (am_gi hq5 3 a0 7) fun xq9 =>
  Option.bind (am_pi hq5 3 a0 7 (xq9 + 1)) fun hq10 =>
  lo_X3_firstFault_31 f a0 n (a1 + jq8) hq10)
  else (some (.inr (xq3, h))))))))
set_option maxHeartbeats 4000000 in
set_option maxRecDepth 100000 in
theorem ll_X3_firstFault_31 (l : Launch) (f : Nat) (a0 : Nat) (K : Option Value → am_H → Prop) : ∀ (n : Nat) (a1 : Int32) (h : am_H) (w : ((Int32 × am_H) ⊕ (Int32 × am_H))), lo_X3_firstFault_31 f a0 n a1 h = some w →
    (∀ (z : Int32 × am_H), w = .inl z → am_R l yX3_firstFault cX3_firstFault 3 (some .int) rm_X3_firstFault (fun _ _ _ => True) 0 0 99 [(0, .ref a0), (1, .int z.1)] [] z.2 K) → (∀ (z : Int32 × am_H), w = .inr z → K (some (.int z.1)) z.2) →
    am_R l yX3_firstFault cX3_firstFault 3 (some .int) rm_X3_firstFault (fun _ _ _ => True) 0 0 31 [(0, .ref a0), (1, .int a1)] [] h K := by
  intro n
  induction n with
  | zero =>
    intro a1 h w hm kE kR
    cases hm
  | succ n ih =>
    intro a1 h w hm kE kR
    rw [lo_X3_firstFault_31.eq_2] at hm
    refine r_aload_n 0 dX3_firstFault_31 rfl ?_
    obtain ⟨xq1, exq1, hm⟩ := am_bs hm
    refine r_geti exq1 fl_X3_35 rfl dX3_firstFault_32 ?_
    refine r_bipush 16 dX3_firstFault_35 (by decide) ?_
    refine r_icmp_ge 99 dX3_firstFault_37 (by decide) (fun q => ?_) (fun q => ?_)
    · rw [if_pos q] at hm
      cases hm
      exact r_lv [0, 1] _ rfl (kE _ rfl)
    · rw [if_neg q] at hm
      refine r_iload_n 1 dX3_firstFault_40 rfl ?_
      refine r_aload_n 0 dX3_firstFault_41 rfl ?_
      obtain ⟨xq2, exq2, hm⟩ := am_bs hm
      refine r_geti exq2 fl_X3_28 rfl dX3_firstFault_42 ?_
      refine r_icmp_ge 99 dX3_firstFault_45 (by decide) (fun q => ?_) (fun q => ?_)
      · rw [if_pos q] at hm
        cases hm
        exact r_lv [0, 1] _ rfl (kE _ rfl)
      · rw [if_neg q] at hm
        refine r_aload_n 0 dX3_firstFault_48 rfl ?_
        refine r_iload_n 1 dX3_firstFault_49 rfl ?_
        obtain ⟨xq3, exq3, hm⟩ := am_bs hm
        refine r_cV1 [.int a1] (ct_X3_faultOfEvent l exq3) vm_X3_38 (cs_X3_faultOfEvent exq3) (by decide) ⟨rfl, rfl⟩ rfl (Nat.le_of_ble_eq_true rfl) dX3_firstFault_50 ?_
        refine r_istore_n [(2, .int xq3), (0, .ref a0), (1, .int a1)] dX3_firstFault_53 (by decide) rfl ?_
        refine r_iload_n 0 dX3_firstFault_54 rfl ?_
        refine r_bipush (-9) dX3_firstFault_55 (by decide) ?_
        refine r_icmp_eq 62 dX3_firstFault_57 (by decide) (fun q => ?_) (fun q => ?_)
        · rw [if_pos q] at hm
          refine r_aload_n 1 dX3_firstFault_62 rfl ?_
          refine r_iload_n 2 dX3_firstFault_63 rfl ?_
          obtain ⟨hq5, exq4, hm⟩ := am_bs hm
          refine r_cV0 [.int a1] (ct_X3_takeEvent l exq4) vm_X3_42 (cs_X3_takeEvent exq4) (by decide) ⟨rfl, rfl⟩ rfl (Nat.le_of_ble_eq_true rfl) dX3_firstFault_64 ?_
          refine r_iload_n 2 dX3_firstFault_67 rfl ?_
          refine r_aload_n 1 dX3_firstFault_68 rfl ?_
          obtain ⟨xq6, exq6, hm⟩ := am_bs hm
          refine r_getr exq6 fl_X3_9 rfl dX3_firstFault_69 ?_
          refine r_iload_n 2 dX3_firstFault_72 rfl ?_
          obtain ⟨xq7, exq7, hm⟩ := am_bs hm
          refine r_cald exq7 dX3_firstFault_73 ?_
          refine r_bipush 46 dX3_firstFault_74 (by decide) ?_
          obtain ⟨jq8, hw, hm⟩ := am_bs hm
          try dsimp only at hm
          have HJ : am_R l yX3_firstFault cX3_firstFault 3 (some .int) rm_X3_firstFault (fun _ _ _ => True) 0 0 84 [(0, .ref a0)] [.int jq8, .int a1] hq5 K := by
            refine r_iadd dX3_firstFault_84 ?_
            refine r_istore_n [(1, .int (a1 + jq8)), (0, .ref a0)] dX3_firstFault_85 (by decide) rfl ?_
            refine r_aload_n 1 dX3_firstFault_86 rfl ?_
            refine r_dup dX3_firstFault_87 rfl ?_
            obtain ⟨xq9, exq9, hm⟩ := am_bs hm
            refine r_geti exq9 fl_X3_35 rfl dX3_firstFault_88 ?_
            refine r_iconst 1 dX3_firstFault_91 (by decide) ?_
            refine r_iadd dX3_firstFault_92 ?_
            obtain ⟨hq10, ehq10, hm⟩ := am_bs hm
            refine r_puti ehq10 fl_X3_35 rfl rfl dX3_firstFault_93 ?_
            refine r_goto 31 dX3_firstFault_96 (by decide) ?_
            exact r_lv [1, 0] _ rfl (ih (a1 + jq8) hq10 _ hm kE kR)
          clear hm
          have hm := hw
          clear hw
          refine r_icmp_ne 83 dX3_firstFault_76 (by decide) (fun q => ?_) (fun q => ?_)
          · rw [if_neg q] at hm
            refine r_iconst 3 dX3_firstFault_83 (by decide) ?_
            cases hm
            exact r_lv [1] _ rfl HJ
          · rw [if_pos q] at hm
            refine r_iconst 1 dX3_firstFault_79 (by decide) ?_
            refine r_goto 84 dX3_firstFault_80 (by decide) ?_
            cases hm
            exact r_lv [1] _ rfl HJ
        · rw [if_neg q] at hm
          refine r_iload_n 0 dX3_firstFault_60 rfl ?_
          cases hm
          exact r_ireturn dX3_firstFault_61 rfl (by decide) (kR _ rfl)
def mi_X3_firstFault (f : Nat) (h : am_H) (p : Nat) : Option (Int32 × am_H) :=
  Option.bind (am_cls h 3 p) fun _n =>
  Option.bind (mi_X3_forgetLinks f h p) fun hq2 =>
  Option.bind (am_gi hq2 3 p 1) fun xq3 =>
  (if xq3 = 0 then
  (some (0, hq2))
  else (Option.bind (am_gr hq2 3 p 0) fun xq4 =>
  Option.bind (am_li hq2 8 xq4 0) fun xq5 =>
  (if xq5 = 76 then
  (Option.bind (am_pi hq2 3 p 7 0) fun hq6 =>
  Option.bind (lo_X3_firstFault_31 f p f 1 hq6) fun wq11 => match wq11 with
  | .inl (oq7, hq8) => (Option.bind (am_gi hq8 3 p 1) fun xq9 =>
  Option.bind ((if xq9 ≤ oq7 then
  (some (-9))
  else (some oq7))) fun jq10 =>
  some (jq10, hq8))
  | .inr (rq12, hq13) => (some (rq12, hq13)))
  else (some (0, hq2)))))
theorem cs_X3_firstFault {f : Nat} {h : am_H} {p : Nat} {z : (Int32 × am_H)} (hm : mi_X3_firstFault f h p = some z) : ∃ n, h.1[p]? = some (3, n) := by
  unfold mi_X3_firstFault at hm
  obtain ⟨n, hn, -⟩ := am_bs hm
  exact ⟨n, am_cls_of hn⟩
set_option maxHeartbeats 4000000 in
set_option maxRecDepth 100000 in
theorem ct_X3_firstFault (l : Launch) {f : Nat} {h : am_H} {p : Nat} {r : Int32} {h2 : am_H} (hm : mi_X3_firstFault f h p = some (r, h2)) : am_Ct l yX3_firstFault cX3_firstFault 3 (some .int) rm_X3_firstFault [.ref p] h (some (.int r)) h2 := by
  refine am_met2 [(0, .ref p)] (by decide) (Nat.le_of_ble_eq_true rfl) rfl ?_
  generalize hK : (fun (v : Option Value) (h3 : am_H) => v = (some (.int r)) ∧ h3 = h2) = K
  have HK : K (some (.int r)) h2 := by rw [← hK]; exact ⟨rfl, rfl⟩
  clear hK
  unfold mi_X3_firstFault at hm
  obtain ⟨_n, _hn, hm⟩ := am_bs hm
  refine r_aload_n 0 dX3_firstFault_0 rfl ?_
  obtain ⟨hq2, exq1, hm⟩ := am_bs hm
  refine r_cV0 [] (ct_X3_forgetLinks l exq1) vm_X3_32 (cs_X3_forgetLinks exq1) (by decide) ⟨rfl, rfl⟩ rfl (Nat.le_of_ble_eq_true rfl) dX3_firstFault_1 ?_
  refine r_aload_n 0 dX3_firstFault_4 rfl ?_
  obtain ⟨xq3, exq3, hm⟩ := am_bs hm
  refine r_geti exq3 fl_X3_28 rfl dX3_firstFault_5 ?_
  refine r_if_eq 22 dX3_firstFault_8 (by decide) (fun q => ?_) (fun q => ?_)
  · rw [if_pos q] at hm
    refine r_iconst 0 dX3_firstFault_22 (by decide) ?_
    cases hm
    exact r_ireturn dX3_firstFault_23 rfl (by decide) HK
  · rw [if_neg q] at hm
    refine r_aload_n 0 dX3_firstFault_11 rfl ?_
    obtain ⟨xq4, exq4, hm⟩ := am_bs hm
    refine r_getr exq4 fl_X3_9 rfl dX3_firstFault_12 ?_
    refine r_iconst 0 dX3_firstFault_15 (by decide) ?_
    obtain ⟨xq5, exq5, hm⟩ := am_bs hm
    refine r_cald exq5 dX3_firstFault_16 ?_
    refine r_bipush 76 dX3_firstFault_17 (by decide) ?_
    refine r_icmp_eq 24 dX3_firstFault_19 (by decide) (fun q => ?_) (fun q => ?_)
    · rw [if_pos q] at hm
      refine r_iconst 1 dX3_firstFault_24 (by decide) ?_
      refine r_istore_n [(1, .int 1), (0, .ref p)] dX3_firstFault_25 (by decide) rfl ?_
      refine r_aload_n 1 dX3_firstFault_26 rfl ?_
      refine r_iconst 0 dX3_firstFault_27 (by decide) ?_
      obtain ⟨hq6, ehq6, hm⟩ := am_bs hm
      refine r_puti ehq6 fl_X3_35 rfl rfl dX3_firstFault_28 ?_
      obtain ⟨wq11, ew, hm⟩ := am_bs hm
      refine r_lv [1, 0] _ rfl (ll_X3_firstFault_31 l f p _ f 1 hq6 _ ew (fun z q => ?_) (fun z q => ?_))
      · subst q
        obtain ⟨oq7, hq8⟩ := z
        dsimp only at hm
        refine r_iload_n 1 dX3_firstFault_99 rfl ?_
        refine r_aload_n 0 dX3_firstFault_100 rfl ?_
        obtain ⟨xq9, exq9, hm⟩ := am_bs hm
        refine r_geti exq9 fl_X3_28 rfl dX3_firstFault_101 ?_
        obtain ⟨jq10, hw, hm⟩ := am_bs hm
        try dsimp only at hm
        have HJ : am_R l yX3_firstFault cX3_firstFault 3 (some .int) rm_X3_firstFault (fun _ _ _ => True) 0 0 113 [] [.int jq10] hq8 K := by
          cases hm
          exact r_ireturn dX3_firstFault_113 rfl (by decide) HK
        clear hm
        have hm := hw
        clear hw
        refine r_icmp_ge 111 dX3_firstFault_104 (by decide) (fun q => ?_) (fun q => ?_)
        · rw [if_pos q] at hm
          refine r_bipush (-9) dX3_firstFault_111 (by decide) ?_
          cases hm
          exact r_lv [] _ rfl HJ
        · rw [if_neg q] at hm
          refine r_iload_n 1 dX3_firstFault_107 rfl ?_
          refine r_goto 113 dX3_firstFault_108 (by decide) ?_
          cases hm
          exact r_lv [] _ rfl HJ
      · subst q
        obtain ⟨rq12, hq13⟩ := z
        dsimp only at hm
        cases hm
        exact HK
    · rw [if_neg q] at hm
      refine r_iconst 0 dX3_firstFault_22 (by decide) ?_
      cases hm
      exact r_ireturn dX3_firstFault_23 rfl (by decide) HK
def mi_X2_areJoined (f : Nat) (h : am_H) (p : Nat) (a : Int32) (b : Int32) : Option Bool :=
  Option.bind (am_cls h 2 p) fun _n =>
  Option.bind (mi_X2_rootOf f h p a) fun xq1 =>
  Option.bind (mi_X2_rootOf f h p b) fun xq2 =>
  Option.bind ((if xq1 = xq2 then
  (some true)
  else (some false))) fun jq3 =>
  some jq3
theorem cs_X2_areJoined {f : Nat} {h : am_H} {p : Nat} {a : Int32} {b : Int32} {z : Bool} (hm : mi_X2_areJoined f h p a b = some z) : ∃ n, h.1[p]? = some (2, n) := by
  unfold mi_X2_areJoined at hm
  obtain ⟨n, hn, -⟩ := am_bs hm
  exact ⟨n, am_cls_of hn⟩
set_option maxHeartbeats 4000000 in
set_option maxRecDepth 100000 in
theorem ct_X2_areJoined (l : Launch) {f : Nat} {h : am_H} {p : Nat} {a : Int32} {b : Int32} {r : Bool} (hm : mi_X2_areJoined f h p a b = some r) : am_Ct l yX2_areJoined cX2_areJoined 3 (some .boolean) rm_X2_areJoined [.ref p, .int a, .int b] h (some (.int (am_b r))) h := by
  refine am_met2 [(0, .ref p), (1, .int a), (2, .int b)] (by decide) (Nat.le_of_ble_eq_true rfl) rfl ?_
  generalize hK : (fun (v : Option Value) (h3 : am_H) => v = (some (.int (am_b r))) ∧ h3 = h) = K
  have HK : K (some (.int (am_b r))) h := by rw [← hK]; exact ⟨rfl, rfl⟩
  clear hK
  unfold mi_X2_areJoined at hm
  obtain ⟨_n, _hn, hm⟩ := am_bs hm
  refine r_aload_n 0 dX2_areJoined_0 rfl ?_
  refine r_iload_n 1 dX2_areJoined_1 rfl ?_
  obtain ⟨xq1, exq1, hm⟩ := am_bs hm
  refine r_cV1 [.int a] (ct_X2_rootOf l exq1) vm_X2_53 (cs_X2_rootOf exq1) (by decide) ⟨rfl, rfl⟩ rfl (Nat.le_of_ble_eq_true rfl) dX2_areJoined_2 ?_
  refine r_aload_n 0 dX2_areJoined_5 rfl ?_
  refine r_iload_n 2 dX2_areJoined_6 rfl ?_
  obtain ⟨xq2, exq2, hm⟩ := am_bs hm
  refine r_cV1 [.int b] (ct_X2_rootOf l exq2) vm_X2_53 (cs_X2_rootOf exq2) (by decide) ⟨rfl, rfl⟩ rfl (Nat.le_of_ble_eq_true rfl) dX2_areJoined_7 ?_
  obtain ⟨jq3, hw, hm⟩ := am_bs hm
  try dsimp only at hm
  have HJ : am_R l yX2_areJoined cX2_areJoined 3 (some .boolean) rm_X2_areJoined (fun _ _ _ => True) 0 0 18 [] [.int (am_b jq3)] h K := by
    cases hm
    exact r_zreturn _ dX2_areJoined_18 rfl (by decide) HK
  clear hm
  have hm := hw
  clear hw
  refine r_icmp_ne 17 dX2_areJoined_10 (by decide) (fun q => ?_) (fun q => ?_)
  · rw [if_neg q] at hm
    refine r_iconst 0 dX2_areJoined_17 (by decide) ?_
    cases hm
    exact r_lv [] _ rfl HJ
  · rw [if_pos q] at hm
    refine r_iconst 1 dX2_areJoined_13 (by decide) ?_
    refine r_goto 18 dX2_areJoined_14 (by decide) ?_
    cases hm
    exact r_lv [] _ rfl HJ
def lo_X1_numbersOf_4 (f : Nat) (h : am_H) (a0 : Nat) (a1 : Int32) : Nat → Int32 → Int32 → Option (Int32)
  | 0, _, _ => none
  | n + 1, a2, a3 =>
  Option.bind (am_gi h 1 a0 4) fun xq1 =>
  (if xq1 ≤ a3 then
  (some a2)
  else (Option.bind ((if ((a1 >>> (a3 &&& 31)) &&& 1) = 0 then
  (some a2)
  else (Option.bind (am_gr h 1 a0 0) fun xq3 =>
  Option.bind (am_li h 9 xq3 a3) fun xq4 =>
  some (a2 ||| ((1 : Int32) <<< (xq4 &&& 31)))))) fun jq2 =>
  lo_X1_numbersOf_4 f h a0 a1 n jq2 (a3 + 1)))
set_option maxHeartbeats 4000000 in
set_option maxRecDepth 100000 in
theorem ll_X1_numbersOf_4 (l : Launch) (f : Nat) (h : am_H) (a0 : Nat) (a1 : Int32) (K : Option Value → am_H → Prop) : ∀ (n : Nat) (a2 : Int32) (a3 : Int32) (z : Int32), lo_X1_numbersOf_4 f h a0 a1 n a2 a3 = some z →
    am_R l yX1_numbersOf cX1_numbersOf 4 (some .int) rm_X1_numbersOf (fun _ _ _ => True) 0 0 37 [(2, .int z)] [] h K →
    am_R l yX1_numbersOf cX1_numbersOf 4 (some .int) rm_X1_numbersOf (fun _ _ _ => True) 0 0 4 [(0, .ref a0), (1, .int a1), (2, .int a2), (3, .int a3)] [] h K := by
  intro n
  induction n with
  | zero =>
    intro a2 a3 z hm kE
    cases hm
  | succ n ih =>
    intro a2 a3 z hm kE
    rw [lo_X1_numbersOf_4.eq_2] at hm
    refine r_iload_n 3 dX1_numbersOf_4 rfl ?_
    refine r_aload_n 0 dX1_numbersOf_5 rfl ?_
    obtain ⟨xq1, exq1, hm⟩ := am_bs hm
    refine r_geti exq1 fl_X1_24 rfl dX1_numbersOf_6 ?_
    refine r_icmp_ge 37 dX1_numbersOf_9 (by decide) (fun q => ?_) (fun q => ?_)
    · rw [if_pos q] at hm
      cases hm
      exact r_lv [2] _ rfl kE
    · rw [if_neg q] at hm
      refine r_iload_n 1 dX1_numbersOf_12 rfl ?_
      refine r_iload_n 3 dX1_numbersOf_13 rfl ?_
      refine r_ishr dX1_numbersOf_14 ?_
      refine r_iconst 1 dX1_numbersOf_15 (by decide) ?_
      refine r_iand dX1_numbersOf_16 ?_
      obtain ⟨jq2, hw, hm⟩ := am_bs hm
      try dsimp only at hm
      have HJ : am_R l yX1_numbersOf cX1_numbersOf 4 (some .int) rm_X1_numbersOf (fun _ _ _ => True) 0 0 31 [(0, .ref a0), (1, .int a1), (2, .int jq2), (3, .int a3)] [] h K := by
        refine r_inc 1 3 [(3, .int (a3 + 1)), (0, .ref a0), (1, .int a1), (2, .int jq2)] dX1_numbersOf_31 (by decide) rfl (by decide) rfl ?_
        refine r_goto 4 dX1_numbersOf_34 (by decide) ?_
        exact r_lv [1, 2, 3, 0] _ rfl (ih jq2 (a3 + 1) _ hm kE)
      clear hm
      have hm := hw
      clear hw
      refine r_if_eq 31 dX1_numbersOf_17 (by decide) (fun q => ?_) (fun q => ?_)
      · rw [if_pos q] at hm
        cases hm
        exact r_lv [0, 1, 2, 3] _ rfl HJ
      · rw [if_neg q] at hm
        refine r_iload_n 2 dX1_numbersOf_20 rfl ?_
        refine r_iconst 1 dX1_numbersOf_21 (by decide) ?_
        refine r_aload_n 0 dX1_numbersOf_22 rfl ?_
        obtain ⟨xq3, exq3, hm⟩ := am_bs hm
        refine r_getr exq3 fl_X1_9 rfl dX1_numbersOf_23 ?_
        refine r_iload_n 3 dX1_numbersOf_26 rfl ?_
        obtain ⟨xq4, exq4, hm⟩ := am_bs hm
        refine r_iald exq4 dX1_numbersOf_27 ?_
        refine r_ishl dX1_numbersOf_28 ?_
        refine r_ior dX1_numbersOf_29 ?_
        refine r_istore_n [(2, .int (a2 ||| ((1 : Int32) <<< (xq4 &&& 31)))), (0, .ref a0), (1, .int a1), (3, .int a3)] dX1_numbersOf_30 (by decide) rfl ?_
        cases hm
        exact r_lv [1, 2, 0, 3] _ rfl HJ
def mi_X1_numbersOf (f : Nat) (h : am_H) (p : Nat) (a : Int32) : Option Int32 :=
  Option.bind (am_cls h 1 p) fun _n =>
  Option.bind (lo_X1_numbersOf_4 f h p a f 0 0) fun oq1 =>
  some oq1
theorem cs_X1_numbersOf {f : Nat} {h : am_H} {p : Nat} {a : Int32} {z : Int32} (hm : mi_X1_numbersOf f h p a = some z) : ∃ n, h.1[p]? = some (1, n) := by
  unfold mi_X1_numbersOf at hm
  obtain ⟨n, hn, -⟩ := am_bs hm
  exact ⟨n, am_cls_of hn⟩
set_option maxHeartbeats 4000000 in
set_option maxRecDepth 100000 in
theorem ct_X1_numbersOf (l : Launch) {f : Nat} {h : am_H} {p : Nat} {a : Int32} {r : Int32} (hm : mi_X1_numbersOf f h p a = some r) : am_Ct l yX1_numbersOf cX1_numbersOf 4 (some .int) rm_X1_numbersOf [.ref p, .int a] h (some (.int r)) h := by
  refine am_met2 [(0, .ref p), (1, .int a)] (by decide) (Nat.le_of_ble_eq_true rfl) rfl ?_
  generalize hK : (fun (v : Option Value) (h3 : am_H) => v = (some (.int r)) ∧ h3 = h) = K
  have HK : K (some (.int r)) h := by rw [← hK]; exact ⟨rfl, rfl⟩
  clear hK
  unfold mi_X1_numbersOf at hm
  obtain ⟨_n, _hn, hm⟩ := am_bs hm
  refine r_iconst 0 dX1_numbersOf_0 (by decide) ?_
  refine r_istore_n [(2, .int 0), (0, .ref p), (1, .int a)] dX1_numbersOf_1 (by decide) rfl ?_
  refine r_iconst 0 dX1_numbersOf_2 (by decide) ?_
  refine r_istore_n [(3, .int 0), (2, .int 0), (0, .ref p), (1, .int a)] dX1_numbersOf_3 (by decide) rfl ?_
  obtain ⟨oq1, ew, hm⟩ := am_bs hm
  try dsimp only at hm
  refine r_lv [2, 3, 1, 0] _ rfl (ll_X1_numbersOf_4 l f h p a _ f 0 0 _ ew ?_)
  refine r_iload_n 0 dX1_numbersOf_37 rfl ?_
  cases hm
  exact r_ireturn dX1_numbersOf_38 rfl (by decide) HK
def lo_X5_lastOf_7 (f : Nat) (h : am_H) (a0 : Nat) (a1 : Int32) (a2 : Int32) : Nat → Int32 → Option ((Unit) ⊕ (Int32))
  | 0, _ => none
  | n + 1, a3 =>
  (if a3 < 0 then
  (some (.inl ()))
  else (Option.bind (mi_X5_isOf f h a0 a3 a1 a2) fun xq1 =>
  (if xq1 = true then
  (some (.inr a3))
  else (lo_X5_lastOf_7 f h a0 a1 a2 n (a3 + (-1))))))
set_option maxHeartbeats 4000000 in
set_option maxRecDepth 100000 in
theorem ll_X5_lastOf_7 (l : Launch) (f : Nat) (h : am_H) (a0 : Nat) (a1 : Int32) (a2 : Int32) (K : Option Value → am_H → Prop) : ∀ (n : Nat) (a3 : Int32) (w : ((Unit) ⊕ (Int32))), lo_X5_lastOf_7 f h a0 a1 a2 n a3 = some w →
    (∀ (z : Unit), w = .inl z → am_R l yX5_lastOf cX5_lastOf 4 (some .int) rm_X5_lastOf (fun _ _ _ => True) 0 0 29 [] [] h K) → (∀ (z : Int32), w = .inr z → K (some (.int z)) h) →
    am_R l yX5_lastOf cX5_lastOf 4 (some .int) rm_X5_lastOf (fun _ _ _ => True) 0 0 7 [(0, .ref a0), (1, .int a1), (2, .int a2), (3, .int a3)] [] h K := by
  intro n
  induction n with
  | zero =>
    intro a3 w hm kE kR
    cases hm
  | succ n ih =>
    intro a3 w hm kE kR
    rw [lo_X5_lastOf_7.eq_2] at hm
    refine r_iload_n 3 dX5_lastOf_7 rfl ?_
    refine r_if_lt 29 dX5_lastOf_8 (by decide) (fun q => ?_) (fun q => ?_)
    · rw [if_pos q] at hm
      cases hm
      exact r_lv [] _ rfl (kE _ rfl)
    · rw [if_neg q] at hm
      refine r_aload_n 0 dX5_lastOf_11 rfl ?_
      refine r_iload_n 3 dX5_lastOf_12 rfl ?_
      refine r_iload_n 1 dX5_lastOf_13 rfl ?_
      refine r_iload_n 2 dX5_lastOf_14 rfl ?_
      obtain ⟨xq1, exq1, hm⟩ := am_bs hm
      refine r_cV1 [.int a3, .int a1, .int a2] (ct_X5_isOf l exq1) vm_X5_58 (cs_X5_isOf exq1) (by decide) ⟨rfl, rfl⟩ rfl (Nat.le_of_ble_eq_true rfl) dX5_lastOf_15 ?_
      refine r_if_eq 23 dX5_lastOf_18 (by decide) (fun q => ?_) (fun q => ?_)
      · rw [if_neg (show ¬ xq1 = true from by rw [am_b0 q]; decide)] at hm
        refine r_inc (-1) 3 [(3, .int (a3 + (-1))), (0, .ref a0), (1, .int a1), (2, .int a2)] dX5_lastOf_23 (by decide) rfl (by decide) rfl ?_
        refine r_goto 7 dX5_lastOf_26 (by decide) ?_
        exact r_lv [1, 2, 3, 0] _ rfl (ih (a3 + (-1)) _ hm kE kR)
      · rw [if_pos (show xq1 = true from am_b1 q)] at hm
        refine r_iload_n 3 dX5_lastOf_21 rfl ?_
        cases hm
        exact r_ireturn dX5_lastOf_22 rfl (by decide) (kR _ rfl)
def mi_X5_lastOf (f : Nat) (h : am_H) (p : Nat) (a : Int32) (b : Int32) : Option Int32 :=
  Option.bind (am_cls h 5 p) fun _n =>
  Option.bind (am_gi h 5 p 4) fun xq1 =>
  Option.bind (lo_X5_lastOf_7 f h p a b f (xq1 - 1)) fun wq2 => match wq2 with
  | .inl _ => (some (-9))
  | .inr rq3 => (some rq3)
theorem cs_X5_lastOf {f : Nat} {h : am_H} {p : Nat} {a : Int32} {b : Int32} {z : Int32} (hm : mi_X5_lastOf f h p a b = some z) : ∃ n, h.1[p]? = some (5, n) := by
  unfold mi_X5_lastOf at hm
  obtain ⟨n, hn, -⟩ := am_bs hm
  exact ⟨n, am_cls_of hn⟩
set_option maxHeartbeats 4000000 in
set_option maxRecDepth 100000 in
theorem ct_X5_lastOf (l : Launch) {f : Nat} {h : am_H} {p : Nat} {a : Int32} {b : Int32} {r : Int32} (hm : mi_X5_lastOf f h p a b = some r) : am_Ct l yX5_lastOf cX5_lastOf 4 (some .int) rm_X5_lastOf [.ref p, .int a, .int b] h (some (.int r)) h := by
  refine am_met2 [(0, .ref p), (1, .int a), (2, .int b)] (by decide) (Nat.le_of_ble_eq_true rfl) rfl ?_
  generalize hK : (fun (v : Option Value) (h3 : am_H) => v = (some (.int r)) ∧ h3 = h) = K
  have HK : K (some (.int r)) h := by rw [← hK]; exact ⟨rfl, rfl⟩
  clear hK
  unfold mi_X5_lastOf at hm
  obtain ⟨_n, _hn, hm⟩ := am_bs hm
  refine r_aload_n 0 dX5_lastOf_0 rfl ?_
  obtain ⟨xq1, exq1, hm⟩ := am_bs hm
  refine r_geti exq1 fl_X5_24 rfl dX5_lastOf_1 ?_
  refine r_iconst 1 dX5_lastOf_4 (by decide) ?_
  refine r_isub dX5_lastOf_5 ?_
  refine r_istore_n [(3, .int (xq1 - 1)), (0, .ref p), (1, .int a), (2, .int b)] dX5_lastOf_6 (by decide) rfl ?_
  obtain ⟨wq2, ew, hm⟩ := am_bs hm
  refine r_lv [1, 2, 3, 0] _ rfl (ll_X5_lastOf_7 l f h p a b _ f (xq1 - 1) _ ew (fun z q => ?_) (fun z q => ?_))
  · subst q
    dsimp only at hm
    refine r_bipush (-9) dX5_lastOf_29 (by decide) ?_
    cases hm
    exact r_ireturn dX5_lastOf_31 rfl (by decide) HK
  · obtain ⟨rq3, rfl⟩ : ∃ x, x = z := ⟨_, rfl⟩
    subst q
    dsimp only at hm
    cases hm
    exact HK
def lo_X3_layOut_7 (f : Nat) (a0 : Nat) (a1 : Nat) : Nat → Int32 → am_H → Option (am_H)
  | 0, _, _ => none
  | n + 1, a2, h =>
  Option.bind (am_gi h 3 a0 7) fun xq1 =>
  (if xq1 ≤ a2 then
  (some h)
  else (Option.bind (am_gr h 3 a0 4) fun xq2 =>
  Option.bind (am_li h 8 xq2 a2) fun xq3 =>
  Option.bind ((if xq3 = 43 then
  (Option.bind (am_gr h 3 a0 5) fun xq16 =>
  Option.bind (am_li h 9 xq16 a2) fun xq17 =>
  Option.bind (am_gr h 3 a0 6) fun xq18 =>
  Option.bind (am_li h 9 xq18 a2) fun xq19 =>
  Option.bind (mi_X5_add f h a1 xq17 xq19 a2 15) fun (xq20, hq21) =>
  some hq21)
  else (some h))) fun hq4 =>
  Option.bind (am_gr hq4 3 a0 4) fun xq5 =>
  Option.bind (am_li hq4 8 xq5 a2) fun xq6 =>
  Option.bind ((if xq6 = 45 then
  (Option.bind (am_gr hq4 3 a0 5) fun xq8 =>
  Option.bind (am_li hq4 9 xq8 a2) fun xq9 =>
  Option.bind (am_gr hq4 3 a0 6) fun xq10 =>
  Option.bind (am_li hq4 9 xq10 a2) fun xq11 =>
  Option.bind (mi_X5_lastOf f hq4 a1 xq9 xq11) fun xq12 =>
  Option.bind (mi_X5_stopAt f hq4 a1 xq12 (a2 - 1)) fun (xq13, hq14) =>
  some hq14)
  else (some hq4))) fun hq7 =>
  lo_X3_layOut_7 f a0 a1 n (a2 + 1) hq7))
set_option maxHeartbeats 4000000 in
set_option maxRecDepth 100000 in
theorem ll_X3_layOut_7 (l : Launch) (f : Nat) (a0 : Nat) (a1 : Nat) (K : Option Value → am_H → Prop) : ∀ (n : Nat) (a2 : Int32) (h : am_H) (z : am_H), lo_X3_layOut_7 f a0 a1 n a2 h = some z →
    am_R l yX3_layOut cX3_layOut 3 (none) rm_X3_layOut (fun _ _ _ => True) 0 0 87 [] [] z K →
    am_R l yX3_layOut cX3_layOut 3 (none) rm_X3_layOut (fun _ _ _ => True) 0 0 7 [(0, .ref a0), (1, .ref a1), (2, .int a2)] [] h K := by
  intro n
  induction n with
  | zero =>
    intro a2 h z hm kE
    cases hm
  | succ n ih =>
    intro a2 h z hm kE
    rw [lo_X3_layOut_7.eq_2] at hm
    refine r_iload_n 2 dX3_layOut_7 rfl ?_
    refine r_aload_n 0 dX3_layOut_8 rfl ?_
    obtain ⟨xq1, exq1, hm⟩ := am_bs hm
    refine r_geti exq1 fl_X3_35 rfl dX3_layOut_9 ?_
    refine r_icmp_ge 87 dX3_layOut_12 (by decide) (fun q => ?_) (fun q => ?_)
    · rw [if_pos q] at hm
      cases hm
      exact r_lv [] _ rfl kE
    · rw [if_neg q] at hm
      refine r_aload_n 0 dX3_layOut_15 rfl ?_
      obtain ⟨xq2, exq2, hm⟩ := am_bs hm
      refine r_getr exq2 fl_X3_19 rfl dX3_layOut_16 ?_
      refine r_iload_n 2 dX3_layOut_19 rfl ?_
      obtain ⟨xq3, exq3, hm⟩ := am_bs hm
      refine r_cald exq3 dX3_layOut_20 ?_
      refine r_bipush 43 dX3_layOut_21 (by decide) ?_
      obtain ⟨hq4, hw, hm⟩ := am_bs hm
      try dsimp only at hm
      have HJ : am_R l yX3_layOut cX3_layOut 3 (none) rm_X3_layOut (fun _ _ _ => True) 0 0 46 [(0, .ref a0), (1, .ref a1), (2, .int a2)] [] hq4 K := by
        refine r_aload_n 0 dX3_layOut_46 rfl ?_
        obtain ⟨xq5, exq5, hm⟩ := am_bs hm
        refine r_getr exq5 fl_X3_19 rfl dX3_layOut_47 ?_
        refine r_iload_n 2 dX3_layOut_50 rfl ?_
        obtain ⟨xq6, exq6, hm⟩ := am_bs hm
        refine r_cald exq6 dX3_layOut_51 ?_
        refine r_bipush 45 dX3_layOut_52 (by decide) ?_
        obtain ⟨hq7, hw, hm⟩ := am_bs hm
        try dsimp only at hm
        have HJ : am_R l yX3_layOut cX3_layOut 3 (none) rm_X3_layOut (fun _ _ _ => True) 0 0 81 [(0, .ref a0), (1, .ref a1), (2, .int a2)] [] hq7 K := by
          refine r_inc 1 2 [(2, .int (a2 + 1)), (0, .ref a0), (1, .ref a1)] dX3_layOut_81 (by decide) rfl (by decide) rfl ?_
          refine r_goto 7 dX3_layOut_84 (by decide) ?_
          exact r_lv [1, 2, 0] _ rfl (ih (a2 + 1) hq7 _ hm kE)
        clear hm
        have hm := hw
        clear hw
        refine r_icmp_ne 81 dX3_layOut_54 (by decide) (fun q => ?_) (fun q => ?_)
        · rw [if_neg q] at hm
          cases hm
          exact r_lv [0, 1, 2] _ rfl HJ
        · rw [if_pos q] at hm
          refine r_aload_n 1 dX3_layOut_57 rfl ?_
          refine r_aload_n 1 dX3_layOut_58 rfl ?_
          refine r_aload_n 0 dX3_layOut_59 rfl ?_
          obtain ⟨xq8, exq8, hm⟩ := am_bs hm
          refine r_getr exq8 fl_X3_22 rfl dX3_layOut_60 ?_
          refine r_iload_n 2 dX3_layOut_63 rfl ?_
          obtain ⟨xq9, exq9, hm⟩ := am_bs hm
          refine r_iald exq9 dX3_layOut_64 ?_
          refine r_aload_n 0 dX3_layOut_65 rfl ?_
          obtain ⟨xq10, exq10, hm⟩ := am_bs hm
          refine r_getr exq10 fl_X3_25 rfl dX3_layOut_66 ?_
          refine r_iload_n 2 dX3_layOut_69 rfl ?_
          obtain ⟨xq11, exq11, hm⟩ := am_bs hm
          refine r_iald exq11 dX3_layOut_70 ?_
          obtain ⟨xq12, exq12, hm⟩ := am_bs hm
          refine r_cV1 [.int xq9, .int xq11] (ct_X5_lastOf l exq12) vm_X3_66 (cs_X5_lastOf exq12) (by decide) ⟨rfl, rfl⟩ rfl (Nat.le_of_ble_eq_true rfl) dX3_layOut_71 ?_
          refine r_iload_n 2 dX3_layOut_74 rfl ?_
          refine r_iconst 1 dX3_layOut_75 (by decide) ?_
          refine r_isub dX3_layOut_76 ?_
          obtain ⟨⟨xq13, hq14⟩, exq13, hm⟩ := am_bs hm
          try dsimp only at hm
          refine r_cV1 [.int xq12, .int (a2 - 1)] (ct_X5_stopAt l exq13) vm_X3_70 (cs_X5_stopAt exq13) (by decide) ⟨rfl, rfl⟩ rfl (Nat.le_of_ble_eq_true rfl) dX3_layOut_77 ?_
          refine r_pop dX3_layOut_80 rfl ?_
          cases hm
          exact r_lv [0, 1, 2] _ rfl HJ
      clear hm
      have hm := hw
      clear hw
      refine r_icmp_ne 46 dX3_layOut_23 (by decide) (fun q => ?_) (fun q => ?_)
      · rw [if_neg q] at hm
        cases hm
        exact r_lv [0, 1, 2] _ rfl HJ
      · rw [if_pos q] at hm
        refine r_aload_n 1 dX3_layOut_26 rfl ?_
        refine r_aload_n 0 dX3_layOut_27 rfl ?_
        obtain ⟨xq16, exq16, hm⟩ := am_bs hm
        refine r_getr exq16 fl_X3_22 rfl dX3_layOut_28 ?_
        refine r_iload_n 2 dX3_layOut_31 rfl ?_
        obtain ⟨xq17, exq17, hm⟩ := am_bs hm
        refine r_iald exq17 dX3_layOut_32 ?_
        refine r_aload_n 0 dX3_layOut_33 rfl ?_
        obtain ⟨xq18, exq18, hm⟩ := am_bs hm
        refine r_getr exq18 fl_X3_25 rfl dX3_layOut_34 ?_
        refine r_iload_n 2 dX3_layOut_37 rfl ?_
        obtain ⟨xq19, exq19, hm⟩ := am_bs hm
        refine r_iald exq19 dX3_layOut_38 ?_
        refine r_iload_n 2 dX3_layOut_39 rfl ?_
        refine r_bipush 15 dX3_layOut_40 (by decide) ?_
        obtain ⟨⟨xq20, hq21⟩, exq20, hm⟩ := am_bs hm
        try dsimp only at hm
        refine r_cV1 [.int xq17, .int xq19, .int a2, .int 15] (ct_X5_add l exq20) vm_X3_62 (cs_X5_add exq20) (by decide) ⟨rfl, rfl⟩ rfl (Nat.le_of_ble_eq_true rfl) dX3_layOut_42 ?_
        refine r_pop dX3_layOut_45 rfl ?_
        cases hm
        exact r_lv [0, 1, 2] _ rfl HJ
def mi_X3_layOut (f : Nat) (h : am_H) (p : Nat) (a : Nat) : Option am_H :=
  Option.bind (am_cls h 3 p) fun _n =>
  Option.bind (am_pi h 5 a 4 0) fun hq1 =>
  Option.bind (lo_X3_layOut_7 f p a f 0 hq1) fun hq2 =>
  some hq2
theorem cs_X3_layOut {f : Nat} {h : am_H} {p : Nat} {a : Nat} {z : am_H} (hm : mi_X3_layOut f h p a = some z) : ∃ n, h.1[p]? = some (3, n) := by
  unfold mi_X3_layOut at hm
  obtain ⟨n, hn, -⟩ := am_bs hm
  exact ⟨n, am_cls_of hn⟩
set_option maxHeartbeats 4000000 in
set_option maxRecDepth 100000 in
theorem ct_X3_layOut (l : Launch) {f : Nat} {h : am_H} {p : Nat} {a : Nat} {h2 : am_H} (hm : mi_X3_layOut f h p a = some h2) : am_Ct l yX3_layOut cX3_layOut 3 (none) rm_X3_layOut [.ref p, .ref a] h none h2 := by
  refine am_met2 [(0, .ref p), (1, .ref a)] (by decide) (Nat.le_of_ble_eq_true rfl) rfl ?_
  generalize hK : (fun (v : Option Value) (h3 : am_H) => v = none ∧ h3 = h2) = K
  have HK : K none h2 := by rw [← hK]; exact ⟨rfl, rfl⟩
  clear hK
  unfold mi_X3_layOut at hm
  obtain ⟨_n, _hn, hm⟩ := am_bs hm
  refine r_aload_n 1 dX3_layOut_0 rfl ?_
  refine r_iconst 0 dX3_layOut_1 (by decide) ?_
  obtain ⟨hq1, ehq1, hm⟩ := am_bs hm
  refine r_puti ehq1 fl_X3_57 rfl rfl dX3_layOut_2 ?_
  refine r_iconst 0 dX3_layOut_5 (by decide) ?_
  refine r_istore_n [(2, .int 0), (0, .ref p), (1, .ref a)] dX3_layOut_6 (by decide) rfl ?_
  obtain ⟨hq2, ew, hm⟩ := am_bs hm
  try dsimp only at hm
  refine r_lv [1, 2, 0] _ rfl (ll_X3_layOut_7 l f p a _ f 0 hq1 _ ew ?_)
  cases hm
  exact r_return dX3_layOut_87 rfl (by decide) HK
def lo_X4_lookAt_2 (f : Nat) (a0 : Nat) (a1 : Nat) (a2 : Nat) : Nat → Int32 → am_H → Option (am_H)
  | 0, _, _ => none
  | n + 1, a3, h =>
  Option.bind (am_gi h 4 a0 6) fun xq1 =>
  (if xq1 ≤ a3 then
  (some h)
  else (Option.bind (am_gr h 4 a0 0) fun xq2 =>
  Option.bind (am_li h 9 xq2 a3) fun xq3 =>
  Option.bind (mi_X1_gather f h a2 a1 xq3) fun hq5 =>
  Option.bind (am_gr hq5 4 a0 4) fun xq6 =>
  Option.bind (am_gr hq5 4 a0 1) fun xq7 =>
  Option.bind (am_li hq5 9 xq7 a3) fun xq8 =>
  Option.bind (mi_X1_all f hq5 a2) fun xq9 =>
  Option.bind (mi_X1_reach f hq5 a2 xq8 xq9) fun xq10 =>
  Option.bind (am_si hq5 9 xq6 a3 xq10) fun hq11 =>
  Option.bind (am_gr hq11 4 a0 5) fun xq12 =>
  Option.bind (am_gr hq11 4 a0 2) fun xq13 =>
  Option.bind (am_li hq11 9 xq13 a3) fun xq14 =>
  Option.bind (mi_X1_all f hq11 a2) fun xq15 =>
  Option.bind (mi_X1_reach f hq11 a2 xq14 xq15) fun xq16 =>
  Option.bind (am_si hq11 9 xq12 a3 xq16) fun hq17 =>
  lo_X4_lookAt_2 f a0 a1 a2 n (a3 + 1) hq17))
set_option maxHeartbeats 4000000 in
set_option maxRecDepth 100000 in
theorem ll_X4_lookAt_2 (l : Launch) (f : Nat) (a0 : Nat) (a1 : Nat) (a2 : Nat) (K : Option Value → am_H → Prop) : ∀ (n : Nat) (a3 : Int32) (h : am_H) (z : am_H), lo_X4_lookAt_2 f a0 a1 a2 n a3 h = some z →
    am_R l yX4_lookAt cX4_lookAt 4 (none) rm_X4_lookAt (fun _ _ _ => True) 0 0 67 [] [] z K →
    am_R l yX4_lookAt cX4_lookAt 4 (none) rm_X4_lookAt (fun _ _ _ => True) 0 0 2 [(0, .ref a0), (1, .ref a1), (2, .ref a2), (3, .int a3)] [] h K := by
  intro n
  induction n with
  | zero =>
    intro a3 h z hm kE
    cases hm
  | succ n ih =>
    intro a3 h z hm kE
    rw [lo_X4_lookAt_2.eq_2] at hm
    refine r_iload_n 3 dX4_lookAt_2 rfl ?_
    refine r_aload_n 0 dX4_lookAt_3 rfl ?_
    obtain ⟨xq1, exq1, hm⟩ := am_bs hm
    refine r_geti exq1 fl_X4_31 rfl dX4_lookAt_4 ?_
    refine r_icmp_ge 67 dX4_lookAt_7 (by decide) (fun q => ?_) (fun q => ?_)
    · rw [if_pos q] at hm
      cases hm
      exact r_lv [] _ rfl kE
    · rw [if_neg q] at hm
      refine r_aload_n 2 dX4_lookAt_10 rfl ?_
      refine r_aload_n 1 dX4_lookAt_11 rfl ?_
      refine r_aload_n 0 dX4_lookAt_12 rfl ?_
      obtain ⟨xq2, exq2, hm⟩ := am_bs hm
      refine r_getr exq2 fl_X4_9 rfl dX4_lookAt_13 ?_
      refine r_iload_n 3 dX4_lookAt_16 rfl ?_
      obtain ⟨xq3, exq3, hm⟩ := am_bs hm
      refine r_iald exq3 dX4_lookAt_17 ?_
      obtain ⟨hq5, exq4, hm⟩ := am_bs hm
      refine r_cV0 [.ref a1, .int xq3] (ct_X1_gather l exq4) vm_X4_35 (cs_X1_gather exq4) (by decide) ⟨rfl, rfl⟩ rfl (Nat.le_of_ble_eq_true rfl) dX4_lookAt_18 ?_
      refine r_aload_n 0 dX4_lookAt_21 rfl ?_
      obtain ⟨xq6, exq6, hm⟩ := am_bs hm
      refine r_getr exq6 fl_X4_25 rfl dX4_lookAt_22 ?_
      refine r_iload_n 3 dX4_lookAt_25 rfl ?_
      refine r_aload_n 2 dX4_lookAt_26 rfl ?_
      refine r_aload_n 0 dX4_lookAt_27 rfl ?_
      obtain ⟨xq7, exq7, hm⟩ := am_bs hm
      refine r_getr exq7 fl_X4_15 rfl dX4_lookAt_28 ?_
      refine r_iload_n 3 dX4_lookAt_31 rfl ?_
      obtain ⟨xq8, exq8, hm⟩ := am_bs hm
      refine r_iald exq8 dX4_lookAt_32 ?_
      refine r_aload_n 2 dX4_lookAt_33 rfl ?_
      obtain ⟨xq9, exq9, hm⟩ := am_bs hm
      refine r_cV1 [] (ct_X1_all l exq9) vm_X4_41 (cs_X1_all exq9) (by decide) ⟨rfl, rfl⟩ rfl (Nat.le_of_ble_eq_true rfl) dX4_lookAt_34 ?_
      obtain ⟨xq10, exq10, hm⟩ := am_bs hm
      refine r_cV1 [.int xq8, .int xq9] (ct_X1_reach l exq10) vm_X4_45 (cs_X1_reach exq10) (by decide) ⟨rfl, rfl⟩ rfl (Nat.le_of_ble_eq_true rfl) dX4_lookAt_37 ?_
      obtain ⟨hq11, ehq11, hm⟩ := am_bs hm
      refine r_iast ehq11 dX4_lookAt_40 ?_
      refine r_aload_n 0 dX4_lookAt_41 rfl ?_
      obtain ⟨xq12, exq12, hm⟩ := am_bs hm
      refine r_getr exq12 fl_X4_28 rfl dX4_lookAt_42 ?_
      refine r_iload_n 3 dX4_lookAt_45 rfl ?_
      refine r_aload_n 2 dX4_lookAt_46 rfl ?_
      refine r_aload_n 0 dX4_lookAt_47 rfl ?_
      obtain ⟨xq13, exq13, hm⟩ := am_bs hm
      refine r_getr exq13 fl_X4_18 rfl dX4_lookAt_48 ?_
      refine r_iload_n 3 dX4_lookAt_51 rfl ?_
      obtain ⟨xq14, exq14, hm⟩ := am_bs hm
      refine r_iald exq14 dX4_lookAt_52 ?_
      refine r_aload_n 2 dX4_lookAt_53 rfl ?_
      obtain ⟨xq15, exq15, hm⟩ := am_bs hm
      refine r_cV1 [] (ct_X1_all l exq15) vm_X4_41 (cs_X1_all exq15) (by decide) ⟨rfl, rfl⟩ rfl (Nat.le_of_ble_eq_true rfl) dX4_lookAt_54 ?_
      obtain ⟨xq16, exq16, hm⟩ := am_bs hm
      refine r_cV1 [.int xq14, .int xq15] (ct_X1_reach l exq16) vm_X4_45 (cs_X1_reach exq16) (by decide) ⟨rfl, rfl⟩ rfl (Nat.le_of_ble_eq_true rfl) dX4_lookAt_57 ?_
      obtain ⟨hq17, ehq17, hm⟩ := am_bs hm
      refine r_iast ehq17 dX4_lookAt_60 ?_
      refine r_inc 1 3 [(3, .int (a3 + 1)), (0, .ref a0), (1, .ref a1), (2, .ref a2)] dX4_lookAt_61 (by decide) rfl (by decide) rfl ?_
      refine r_goto 2 dX4_lookAt_64 (by decide) ?_
      exact r_lv [1, 2, 3, 0] _ rfl (ih (a3 + 1) hq17 _ hm kE)
def mi_X4_lookAt (f : Nat) (h : am_H) (p : Nat) (a : Nat) (b : Nat) : Option am_H :=
  Option.bind (am_cls h 4 p) fun _n =>
  Option.bind (lo_X4_lookAt_2 f p a b f 0 h) fun hq1 =>
  some hq1
theorem cs_X4_lookAt {f : Nat} {h : am_H} {p : Nat} {a : Nat} {b : Nat} {z : am_H} (hm : mi_X4_lookAt f h p a b = some z) : ∃ n, h.1[p]? = some (4, n) := by
  unfold mi_X4_lookAt at hm
  obtain ⟨n, hn, -⟩ := am_bs hm
  exact ⟨n, am_cls_of hn⟩
set_option maxHeartbeats 4000000 in
set_option maxRecDepth 100000 in
theorem ct_X4_lookAt (l : Launch) {f : Nat} {h : am_H} {p : Nat} {a : Nat} {b : Nat} {h2 : am_H} (hm : mi_X4_lookAt f h p a b = some h2) : am_Ct l yX4_lookAt cX4_lookAt 4 (none) rm_X4_lookAt [.ref p, .ref a, .ref b] h none h2 := by
  refine am_met2 [(0, .ref p), (1, .ref a), (2, .ref b)] (by decide) (Nat.le_of_ble_eq_true rfl) rfl ?_
  generalize hK : (fun (v : Option Value) (h3 : am_H) => v = none ∧ h3 = h2) = K
  have HK : K none h2 := by rw [← hK]; exact ⟨rfl, rfl⟩
  clear hK
  unfold mi_X4_lookAt at hm
  obtain ⟨_n, _hn, hm⟩ := am_bs hm
  refine r_iconst 0 dX4_lookAt_0 (by decide) ?_
  refine r_istore_n [(3, .int 0), (0, .ref p), (1, .ref a), (2, .ref b)] dX4_lookAt_1 (by decide) rfl ?_
  obtain ⟨hq1, ew, hm⟩ := am_bs hm
  try dsimp only at hm
  refine r_lv [1, 2, 3, 0] _ rfl (ll_X4_lookAt_2 l f p a b _ f 0 h _ ew ?_)
  cases hm
  exact r_return dX4_lookAt_67 rfl (by decide) HK
def mi_X4_leads (f : Nat) (h : am_H) (p : Nat) (a : Int32) (b : Int32) (c : Int32) : Option Bool :=
  Option.bind (am_cls h 4 p) fun _n =>
  Option.bind (am_gr h 4 p 4) fun xq1 =>
  Option.bind (am_li h 9 xq1 a) fun xq2 =>
  Option.bind ((if ((xq2 >>> (b &&& 31)) &&& 1) = 0 then
  (some false)
  else (Option.bind (am_gr h 4 p 5) fun xq4 =>
  Option.bind (am_li h 9 xq4 a) fun xq5 =>
  (if ((xq5 >>> (c &&& 31)) &&& 1) = 0 then
  (some false)
  else (some true))))) fun jq3 =>
  some jq3
theorem cs_X4_leads {f : Nat} {h : am_H} {p : Nat} {a : Int32} {b : Int32} {c : Int32} {z : Bool} (hm : mi_X4_leads f h p a b c = some z) : ∃ n, h.1[p]? = some (4, n) := by
  unfold mi_X4_leads at hm
  obtain ⟨n, hn, -⟩ := am_bs hm
  exact ⟨n, am_cls_of hn⟩
set_option maxHeartbeats 4000000 in
set_option maxRecDepth 100000 in
theorem ct_X4_leads (l : Launch) {f : Nat} {h : am_H} {p : Nat} {a : Int32} {b : Int32} {c : Int32} {r : Bool} (hm : mi_X4_leads f h p a b c = some r) : am_Ct l yX4_leads cX4_leads 4 (some .boolean) rm_X4_leads [.ref p, .int a, .int b, .int c] h (some (.int (am_b r))) h := by
  refine am_met2 [(0, .ref p), (1, .int a), (2, .int b), (3, .int c)] (by decide) (Nat.le_of_ble_eq_true rfl) rfl ?_
  generalize hK : (fun (v : Option Value) (h3 : am_H) => v = (some (.int (am_b r))) ∧ h3 = h) = K
  have HK : K (some (.int (am_b r))) h := by rw [← hK]; exact ⟨rfl, rfl⟩
  clear hK
  unfold mi_X4_leads at hm
  obtain ⟨_n, _hn, hm⟩ := am_bs hm
  refine r_aload_n 0 dX4_leads_0 rfl ?_
  obtain ⟨xq1, exq1, hm⟩ := am_bs hm
  refine r_getr exq1 fl_X4_25 rfl dX4_leads_1 ?_
  refine r_iload_n 1 dX4_leads_4 rfl ?_
  obtain ⟨xq2, exq2, hm⟩ := am_bs hm
  refine r_iald exq2 dX4_leads_5 ?_
  refine r_iload_n 2 dX4_leads_6 rfl ?_
  refine r_ishr dX4_leads_7 ?_
  refine r_iconst 1 dX4_leads_8 (by decide) ?_
  refine r_iand dX4_leads_9 ?_
  obtain ⟨jq3, hw, hm⟩ := am_bs hm
  try dsimp only at hm
  have HJ : am_R l yX4_leads cX4_leads 4 (some .boolean) rm_X4_leads (fun _ _ _ => True) 0 0 31 [] [.int (am_b jq3)] h K := by
    cases hm
    exact r_zreturn _ dX4_leads_31 rfl (by decide) HK
  clear hm
  have hm := hw
  clear hw
  refine r_if_eq 30 dX4_leads_10 (by decide) (fun q => ?_) (fun q => ?_)
  · rw [if_pos q] at hm
    refine r_iconst 0 dX4_leads_30 (by decide) ?_
    cases hm
    exact r_lv [] _ rfl HJ
  · rw [if_neg q] at hm
    refine r_aload_n 0 dX4_leads_13 rfl ?_
    obtain ⟨xq4, exq4, hm⟩ := am_bs hm
    refine r_getr exq4 fl_X4_28 rfl dX4_leads_14 ?_
    refine r_iload_n 1 dX4_leads_17 rfl ?_
    obtain ⟨xq5, exq5, hm⟩ := am_bs hm
    refine r_iald exq5 dX4_leads_18 ?_
    refine r_iload_n 3 dX4_leads_19 rfl ?_
    refine r_ishr dX4_leads_20 ?_
    refine r_iconst 1 dX4_leads_21 (by decide) ?_
    refine r_iand dX4_leads_22 ?_
    refine r_if_eq 30 dX4_leads_23 (by decide) (fun q => ?_) (fun q => ?_)
    · rw [if_pos q] at hm
      refine r_iconst 0 dX4_leads_30 (by decide) ?_
      cases hm
      exact r_lv [] _ rfl HJ
    · rw [if_neg q] at hm
      refine r_iconst 1 dX4_leads_26 (by decide) ?_
      refine r_goto 31 dX4_leads_27 (by decide) ?_
      cases hm
      exact r_lv [] _ rfl HJ
def mi_X4_joinedWith (f : Nat) (h : am_H) (p : Nat) (a : Int32) (b : Int32) (c : Int32) (d : Int32) : Option Bool :=
  Option.bind (am_cls h 4 p) fun _n =>
  Option.bind (am_gr h 4 p 4) fun xq1 =>
  Option.bind (am_li h 9 xq1 a) fun xq2 =>
  Option.bind (am_gr h 4 p 5) fun xq3 =>
  Option.bind (am_li h 9 xq3 a) fun xq4 =>
  (if xq2 = xq4 then
  (some true)
  else (Option.bind (am_gr h 4 p 0) fun xq5 =>
  Option.bind (am_li h 9 xq5 a) fun xq6 =>
  (if ((d >>> (xq6 &&& 31)) &&& 1) = 0 then
  (some false)
  else (Option.bind (mi_X4_leads f h p a b c) fun xq7 =>
  Option.bind ((if xq7 = true then
  (some true)
  else (Option.bind (mi_X4_leads f h p a c b) fun xq9 =>
  (if xq9 = true then
  (some true)
  else (some false))))) fun jq8 =>
  some jq8))))
theorem cs_X4_joinedWith {f : Nat} {h : am_H} {p : Nat} {a : Int32} {b : Int32} {c : Int32} {d : Int32} {z : Bool} (hm : mi_X4_joinedWith f h p a b c d = some z) : ∃ n, h.1[p]? = some (4, n) := by
  unfold mi_X4_joinedWith at hm
  obtain ⟨n, hn, -⟩ := am_bs hm
  exact ⟨n, am_cls_of hn⟩
set_option maxHeartbeats 4000000 in
set_option maxRecDepth 100000 in
theorem ct_X4_joinedWith (l : Launch) {f : Nat} {h : am_H} {p : Nat} {a : Int32} {b : Int32} {c : Int32} {d : Int32} {r : Bool} (hm : mi_X4_joinedWith f h p a b c d = some r) : am_Ct l yX4_joinedWith cX4_joinedWith 5 (some .boolean) rm_X4_joinedWith [.ref p, .int a, .int b, .int c, .int d] h (some (.int (am_b r))) h := by
  refine am_met2 [(0, .ref p), (1, .int a), (2, .int b), (3, .int c), (4, .int d)] (by decide) (Nat.le_of_ble_eq_true rfl) rfl ?_
  generalize hK : (fun (v : Option Value) (h3 : am_H) => v = (some (.int (am_b r))) ∧ h3 = h) = K
  have HK : K (some (.int (am_b r))) h := by rw [← hK]; exact ⟨rfl, rfl⟩
  clear hK
  unfold mi_X4_joinedWith at hm
  obtain ⟨_n, _hn, hm⟩ := am_bs hm
  refine r_aload_n 0 dX4_joinedWith_0 rfl ?_
  obtain ⟨xq1, exq1, hm⟩ := am_bs hm
  refine r_getr exq1 fl_X4_25 rfl dX4_joinedWith_1 ?_
  refine r_iload_n 1 dX4_joinedWith_4 rfl ?_
  obtain ⟨xq2, exq2, hm⟩ := am_bs hm
  refine r_iald exq2 dX4_joinedWith_5 ?_
  refine r_aload_n 0 dX4_joinedWith_6 rfl ?_
  obtain ⟨xq3, exq3, hm⟩ := am_bs hm
  refine r_getr exq3 fl_X4_28 rfl dX4_joinedWith_7 ?_
  refine r_iload_n 1 dX4_joinedWith_10 rfl ?_
  obtain ⟨xq4, exq4, hm⟩ := am_bs hm
  refine r_iald exq4 dX4_joinedWith_11 ?_
  refine r_icmp_ne 17 dX4_joinedWith_12 (by decide) (fun q => ?_) (fun q => ?_)
  · rw [if_neg q] at hm
    refine r_iload 4 dX4_joinedWith_17 rfl ?_
    refine r_aload_n 0 dX4_joinedWith_19 rfl ?_
    obtain ⟨xq5, exq5, hm⟩ := am_bs hm
    refine r_getr exq5 fl_X4_9 rfl dX4_joinedWith_20 ?_
    refine r_iload_n 1 dX4_joinedWith_23 rfl ?_
    obtain ⟨xq6, exq6, hm⟩ := am_bs hm
    refine r_iald exq6 dX4_joinedWith_24 ?_
    refine r_ishr dX4_joinedWith_25 ?_
    refine r_iconst 1 dX4_joinedWith_26 (by decide) ?_
    refine r_iand dX4_joinedWith_27 ?_
    refine r_if_ne 33 dX4_joinedWith_28 (by decide) (fun q => ?_) (fun q => ?_)
    · rw [if_neg q] at hm
      refine r_aload_n 0 dX4_joinedWith_33 rfl ?_
      refine r_iload_n 1 dX4_joinedWith_34 rfl ?_
      refine r_iload_n 2 dX4_joinedWith_35 rfl ?_
      refine r_iload_n 3 dX4_joinedWith_36 rfl ?_
      obtain ⟨xq7, exq7, hm⟩ := am_bs hm
      refine r_cV1 [.int a, .int b, .int c] (ct_X4_leads l exq7) vm_X4_53 (cs_X4_leads exq7) (by decide) ⟨rfl, rfl⟩ rfl (Nat.le_of_ble_eq_true rfl) dX4_joinedWith_37 ?_
      obtain ⟨jq8, hw, hm⟩ := am_bs hm
      try dsimp only at hm
      have HJ : am_R l yX4_joinedWith cX4_joinedWith 5 (some .boolean) rm_X4_joinedWith (fun _ _ _ => True) 0 0 58 [] [.int (am_b jq8)] h K := by
        cases hm
        exact r_zreturn _ dX4_joinedWith_58 rfl (by decide) HK
      clear hm
      have hm := hw
      clear hw
      refine r_if_ne 53 dX4_joinedWith_40 (by decide) (fun q => ?_) (fun q => ?_)
      · rw [if_pos (show xq7 = true from am_b1 q)] at hm
        refine r_iconst 1 dX4_joinedWith_53 (by decide) ?_
        refine r_goto 58 dX4_joinedWith_54 (by decide) ?_
        cases hm
        exact r_lv [] _ rfl HJ
      · rw [if_neg (show ¬ xq7 = true from by rw [am_b0 q]; decide)] at hm
        refine r_aload_n 0 dX4_joinedWith_43 rfl ?_
        refine r_iload_n 1 dX4_joinedWith_44 rfl ?_
        refine r_iload_n 3 dX4_joinedWith_45 rfl ?_
        refine r_iload_n 2 dX4_joinedWith_46 rfl ?_
        obtain ⟨xq9, exq9, hm⟩ := am_bs hm
        refine r_cV1 [.int a, .int c, .int b] (ct_X4_leads l exq9) vm_X4_53 (cs_X4_leads exq9) (by decide) ⟨rfl, rfl⟩ rfl (Nat.le_of_ble_eq_true rfl) dX4_joinedWith_47 ?_
        refine r_if_eq 57 dX4_joinedWith_50 (by decide) (fun q => ?_) (fun q => ?_)
        · rw [if_neg (show ¬ xq9 = true from by rw [am_b0 q]; decide)] at hm
          refine r_iconst 0 dX4_joinedWith_57 (by decide) ?_
          cases hm
          exact r_lv [] _ rfl HJ
        · rw [if_pos (show xq9 = true from am_b1 q)] at hm
          refine r_iconst 1 dX4_joinedWith_53 (by decide) ?_
          refine r_goto 58 dX4_joinedWith_54 (by decide) ?_
          cases hm
          exact r_lv [] _ rfl HJ
    · rw [if_pos q] at hm
      refine r_iconst 0 dX4_joinedWith_31 (by decide) ?_
      cases hm
      exact r_zreturn false dX4_joinedWith_32 rfl (by decide) HK
  · rw [if_pos q] at hm
    refine r_iconst 1 dX4_joinedWith_15 (by decide) ?_
    cases hm
    exact r_zreturn true dX4_joinedWith_16 rfl (by decide) HK
def lo_X4_allSoWith_3 (f : Nat) (h : am_H) (a0 : Nat) (a1 : Int32) (a2 : Int32) (a3 : Int32) : Nat → Int32 → Option ((Unit) ⊕ (Bool))
  | 0, _ => none
  | n + 1, a4 =>
  Option.bind (am_gi h 4 a0 6) fun xq1 =>
  (if xq1 ≤ a4 then
  (some (.inl ()))
  else (Option.bind (mi_X4_joinedWith f h a0 a4 a1 a2 a3) fun xq2 =>
  Option.bind (am_gr h 4 a0 3) fun xq3 =>
  Option.bind (am_li h 10 xq3 a4) fun xq4 =>
  (if (am_b xq2) = xq4 then
  (lo_X4_allSoWith_3 f h a0 a1 a2 a3 n (a4 + 1))
  else (some (.inr false)))))
set_option maxHeartbeats 4000000 in
set_option maxRecDepth 100000 in
theorem ll_X4_allSoWith_3 (l : Launch) (f : Nat) (h : am_H) (a0 : Nat) (a1 : Int32) (a2 : Int32) (a3 : Int32) (K : Option Value → am_H → Prop) : ∀ (n : Nat) (a4 : Int32) (w : ((Unit) ⊕ (Bool))), lo_X4_allSoWith_3 f h a0 a1 a2 a3 n a4 = some w →
    (∀ (z : Unit), w = .inl z → am_R l yX4_allSoWith cX4_allSoWith 5 (some .boolean) rm_X4_allSoWith (fun _ _ _ => True) 0 0 39 [] [] h K) → (∀ (z : Bool), w = .inr z → K (some (.int (am_b z))) h) →
    am_R l yX4_allSoWith cX4_allSoWith 5 (some .boolean) rm_X4_allSoWith (fun _ _ _ => True) 0 0 3 [(0, .ref a0), (1, .int a1), (2, .int a2), (3, .int a3), (4, .int a4)] [] h K := by
  intro n
  induction n with
  | zero =>
    intro a4 w hm kE kR
    cases hm
  | succ n ih =>
    intro a4 w hm kE kR
    rw [lo_X4_allSoWith_3.eq_2] at hm
    refine r_iload 4 dX4_allSoWith_3 rfl ?_
    refine r_aload_n 0 dX4_allSoWith_5 rfl ?_
    obtain ⟨xq1, exq1, hm⟩ := am_bs hm
    refine r_geti exq1 fl_X4_31 rfl dX4_allSoWith_6 ?_
    refine r_icmp_ge 39 dX4_allSoWith_9 (by decide) (fun q => ?_) (fun q => ?_)
    · rw [if_pos q] at hm
      cases hm
      exact r_lv [] _ rfl (kE _ rfl)
    · rw [if_neg q] at hm
      refine r_aload_n 0 dX4_allSoWith_12 rfl ?_
      refine r_iload 4 dX4_allSoWith_13 rfl ?_
      refine r_iload_n 1 dX4_allSoWith_15 rfl ?_
      refine r_iload_n 2 dX4_allSoWith_16 rfl ?_
      refine r_iload_n 3 dX4_allSoWith_17 rfl ?_
      obtain ⟨xq2, exq2, hm⟩ := am_bs hm
      refine r_cV1 [.int a4, .int a1, .int a2, .int a3] (ct_X4_joinedWith l exq2) vm_X4_49 (cs_X4_joinedWith exq2) (by decide) ⟨rfl, rfl⟩ rfl (Nat.le_of_ble_eq_true rfl) dX4_allSoWith_18 ?_
      refine r_aload_n 0 dX4_allSoWith_21 rfl ?_
      obtain ⟨xq3, exq3, hm⟩ := am_bs hm
      refine r_getr exq3 fl_X4_21 rfl dX4_allSoWith_22 ?_
      refine r_iload 4 dX4_allSoWith_25 rfl ?_
      obtain ⟨xq4, exq4, hm⟩ := am_bs hm
      refine r_zald exq4 dX4_allSoWith_27 ?_
      refine r_icmp_eq 33 dX4_allSoWith_28 (by decide) (fun q => ?_) (fun q => ?_)
      · rw [if_pos q] at hm
        refine r_inc 1 4 [(4, .int (a4 + 1)), (0, .ref a0), (1, .int a1), (2, .int a2), (3, .int a3)] dX4_allSoWith_33 (by decide) rfl (by decide) rfl ?_
        refine r_goto 3 dX4_allSoWith_36 (by decide) ?_
        exact r_lv [1, 2, 3, 4, 0] _ rfl (ih (a4 + 1) _ hm kE kR)
      · rw [if_neg q] at hm
        refine r_iconst 0 dX4_allSoWith_31 (by decide) ?_
        cases hm
        exact r_zreturn false dX4_allSoWith_32 rfl (by decide) (kR _ rfl)
def mi_X4_allSoWith (f : Nat) (h : am_H) (p : Nat) (a : Int32) (b : Int32) (c : Int32) : Option Bool :=
  Option.bind (am_cls h 4 p) fun _n =>
  Option.bind (lo_X4_allSoWith_3 f h p a b c f 0) fun wq1 => match wq1 with
  | .inl _ => (some true)
  | .inr rq2 => (some rq2)
theorem cs_X4_allSoWith {f : Nat} {h : am_H} {p : Nat} {a : Int32} {b : Int32} {c : Int32} {z : Bool} (hm : mi_X4_allSoWith f h p a b c = some z) : ∃ n, h.1[p]? = some (4, n) := by
  unfold mi_X4_allSoWith at hm
  obtain ⟨n, hn, -⟩ := am_bs hm
  exact ⟨n, am_cls_of hn⟩
set_option maxHeartbeats 4000000 in
set_option maxRecDepth 100000 in
theorem ct_X4_allSoWith (l : Launch) {f : Nat} {h : am_H} {p : Nat} {a : Int32} {b : Int32} {c : Int32} {r : Bool} (hm : mi_X4_allSoWith f h p a b c = some r) : am_Ct l yX4_allSoWith cX4_allSoWith 5 (some .boolean) rm_X4_allSoWith [.ref p, .int a, .int b, .int c] h (some (.int (am_b r))) h := by
  refine am_met2 [(0, .ref p), (1, .int a), (2, .int b), (3, .int c)] (by decide) (Nat.le_of_ble_eq_true rfl) rfl ?_
  generalize hK : (fun (v : Option Value) (h3 : am_H) => v = (some (.int (am_b r))) ∧ h3 = h) = K
  have HK : K (some (.int (am_b r))) h := by rw [← hK]; exact ⟨rfl, rfl⟩
  clear hK
  unfold mi_X4_allSoWith at hm
  obtain ⟨_n, _hn, hm⟩ := am_bs hm
  refine r_iconst 0 dX4_allSoWith_0 (by decide) ?_
  refine r_istore [(4, .int 0), (0, .ref p), (1, .int a), (2, .int b), (3, .int c)] dX4_allSoWith_1 (by decide) rfl ?_
  obtain ⟨wq1, ew, hm⟩ := am_bs hm
  refine r_lv [1, 2, 3, 4, 0] _ rfl (ll_X4_allSoWith_3 l f h p a b c _ f 0 _ ew (fun z q => ?_) (fun z q => ?_))
  · subst q
    dsimp only at hm
    refine r_iconst 1 dX4_allSoWith_39 (by decide) ?_
    cases hm
    exact r_zreturn true dX4_allSoWith_40 rfl (by decide) HK
  · obtain ⟨rq2, rfl⟩ : ∃ x, x = z := ⟨_, rfl⟩
    subst q
    dsimp only at hm
    cases hm
    exact HK
def lo_X5_lyingOn_4 (f : Nat) (h : am_H) (a0 : Nat) (a1 : Int32) : Nat → Int32 → Int32 → Option (Int32)
  | 0, _, _ => none
  | n + 1, a2, a3 =>
  Option.bind (am_gi h 5 a0 4) fun xq1 =>
  (if xq1 ≤ a3 then
  (some a2)
  else (Option.bind (mi_X5_lies f h a0 a3 a1) fun xq2 =>
  Option.bind ((if xq2 = true then
  (some (a2 ||| ((1 : Int32) <<< (a3 &&& 31))))
  else (some a2))) fun jq3 =>
  lo_X5_lyingOn_4 f h a0 a1 n jq3 (a3 + 1)))
set_option maxHeartbeats 4000000 in
set_option maxRecDepth 100000 in
theorem ll_X5_lyingOn_4 (l : Launch) (f : Nat) (h : am_H) (a0 : Nat) (a1 : Int32) (K : Option Value → am_H → Prop) : ∀ (n : Nat) (a2 : Int32) (a3 : Int32) (z : Int32), lo_X5_lyingOn_4 f h a0 a1 n a2 a3 = some z →
    am_R l yX5_lyingOn cX5_lyingOn 4 (some .int) rm_X5_lyingOn (fun _ _ _ => True) 0 0 33 [(2, .int z)] [] h K →
    am_R l yX5_lyingOn cX5_lyingOn 4 (some .int) rm_X5_lyingOn (fun _ _ _ => True) 0 0 4 [(0, .ref a0), (1, .int a1), (2, .int a2), (3, .int a3)] [] h K := by
  intro n
  induction n with
  | zero =>
    intro a2 a3 z hm kE
    cases hm
  | succ n ih =>
    intro a2 a3 z hm kE
    rw [lo_X5_lyingOn_4.eq_2] at hm
    refine r_iload_n 3 dX5_lyingOn_4 rfl ?_
    refine r_aload_n 0 dX5_lyingOn_5 rfl ?_
    obtain ⟨xq1, exq1, hm⟩ := am_bs hm
    refine r_geti exq1 fl_X5_24 rfl dX5_lyingOn_6 ?_
    refine r_icmp_ge 33 dX5_lyingOn_9 (by decide) (fun q => ?_) (fun q => ?_)
    · rw [if_pos q] at hm
      cases hm
      exact r_lv [2] _ rfl kE
    · rw [if_neg q] at hm
      refine r_aload_n 0 dX5_lyingOn_12 rfl ?_
      refine r_iload_n 3 dX5_lyingOn_13 rfl ?_
      refine r_iload_n 1 dX5_lyingOn_14 rfl ?_
      obtain ⟨xq2, exq2, hm⟩ := am_bs hm
      refine r_cV1 [.int a3, .int a1] (ct_X5_lies l exq2) vm_X5_69 (cs_X5_lies exq2) (by decide) ⟨rfl, rfl⟩ rfl (Nat.le_of_ble_eq_true rfl) dX5_lyingOn_15 ?_
      obtain ⟨jq3, hw, hm⟩ := am_bs hm
      try dsimp only at hm
      have HJ : am_R l yX5_lyingOn cX5_lyingOn 4 (some .int) rm_X5_lyingOn (fun _ _ _ => True) 0 0 27 [(0, .ref a0), (1, .int a1), (2, .int jq3), (3, .int a3)] [] h K := by
        refine r_inc 1 3 [(3, .int (a3 + 1)), (0, .ref a0), (1, .int a1), (2, .int jq3)] dX5_lyingOn_27 (by decide) rfl (by decide) rfl ?_
        refine r_goto 4 dX5_lyingOn_30 (by decide) ?_
        exact r_lv [1, 2, 3, 0] _ rfl (ih jq3 (a3 + 1) _ hm kE)
      clear hm
      have hm := hw
      clear hw
      refine r_if_eq 27 dX5_lyingOn_18 (by decide) (fun q => ?_) (fun q => ?_)
      · rw [if_neg (show ¬ xq2 = true from by rw [am_b0 q]; decide)] at hm
        cases hm
        exact r_lv [0, 1, 2, 3] _ rfl HJ
      · rw [if_pos (show xq2 = true from am_b1 q)] at hm
        refine r_iload_n 2 dX5_lyingOn_21 rfl ?_
        refine r_iconst 1 dX5_lyingOn_22 (by decide) ?_
        refine r_iload_n 3 dX5_lyingOn_23 rfl ?_
        refine r_ishl dX5_lyingOn_24 ?_
        refine r_ior dX5_lyingOn_25 ?_
        refine r_istore_n [(2, .int (a2 ||| ((1 : Int32) <<< (a3 &&& 31)))), (0, .ref a0), (1, .int a1), (3, .int a3)] dX5_lyingOn_26 (by decide) rfl ?_
        cases hm
        exact r_lv [1, 2, 0, 3] _ rfl HJ
def mi_X5_lyingOn (f : Nat) (h : am_H) (p : Nat) (a : Int32) : Option Int32 :=
  Option.bind (am_cls h 5 p) fun _n =>
  Option.bind (lo_X5_lyingOn_4 f h p a f 0 0) fun oq1 =>
  some oq1
theorem cs_X5_lyingOn {f : Nat} {h : am_H} {p : Nat} {a : Int32} {z : Int32} (hm : mi_X5_lyingOn f h p a = some z) : ∃ n, h.1[p]? = some (5, n) := by
  unfold mi_X5_lyingOn at hm
  obtain ⟨n, hn, -⟩ := am_bs hm
  exact ⟨n, am_cls_of hn⟩
set_option maxHeartbeats 4000000 in
set_option maxRecDepth 100000 in
theorem ct_X5_lyingOn (l : Launch) {f : Nat} {h : am_H} {p : Nat} {a : Int32} {r : Int32} (hm : mi_X5_lyingOn f h p a = some r) : am_Ct l yX5_lyingOn cX5_lyingOn 4 (some .int) rm_X5_lyingOn [.ref p, .int a] h (some (.int r)) h := by
  refine am_met2 [(0, .ref p), (1, .int a)] (by decide) (Nat.le_of_ble_eq_true rfl) rfl ?_
  generalize hK : (fun (v : Option Value) (h3 : am_H) => v = (some (.int r)) ∧ h3 = h) = K
  have HK : K (some (.int r)) h := by rw [← hK]; exact ⟨rfl, rfl⟩
  clear hK
  unfold mi_X5_lyingOn at hm
  obtain ⟨_n, _hn, hm⟩ := am_bs hm
  refine r_iconst 0 dX5_lyingOn_0 (by decide) ?_
  refine r_istore_n [(2, .int 0), (0, .ref p), (1, .int a)] dX5_lyingOn_1 (by decide) rfl ?_
  refine r_iconst 0 dX5_lyingOn_2 (by decide) ?_
  refine r_istore_n [(3, .int 0), (2, .int 0), (0, .ref p), (1, .int a)] dX5_lyingOn_3 (by decide) rfl ?_
  obtain ⟨oq1, ew, hm⟩ := am_bs hm
  try dsimp only at hm
  refine r_lv [2, 3, 1, 0] _ rfl (ll_X5_lyingOn_4 l f h p a _ f 0 0 _ ew ?_)
  refine r_iload_n 0 dX5_lyingOn_33 rfl ?_
  cases hm
  exact r_ireturn dX5_lyingOn_34 rfl (by decide) HK
def mi_X4_add (f : Nat) (h : am_H) (p : Nat) (a : Int32) (b : Int32) (c : Int32) (d : Bool) : Option (Int32 × am_H) :=
  Option.bind (am_cls h 4 p) fun _n =>
  Option.bind (am_gi h 4 p 6) fun xq1 =>
  (if xq1 < 6 then
  (Option.bind (am_gr h 4 p 0) fun xq2 =>
  Option.bind (am_gi h 4 p 6) fun xq3 =>
  Option.bind (am_si h 9 xq2 xq3 a) fun hq4 =>
  Option.bind (am_gr hq4 4 p 1) fun xq5 =>
  Option.bind (am_gi hq4 4 p 6) fun xq6 =>
  Option.bind (am_si hq4 9 xq5 xq6 b) fun hq7 =>
  Option.bind (am_gr hq7 4 p 2) fun xq8 =>
  Option.bind (am_gi hq7 4 p 6) fun xq9 =>
  Option.bind (am_si hq7 9 xq8 xq9 c) fun hq10 =>
  Option.bind (am_gr hq10 4 p 3) fun xq11 =>
  Option.bind (am_gi hq10 4 p 6) fun xq12 =>
  Option.bind (am_si hq10 10 xq11 xq12 (vp_nar .boolean (am_b d))) fun hq13 =>
  Option.bind (am_gi hq13 4 p 6) fun xq14 =>
  Option.bind (am_pi hq13 4 p 6 (xq14 + 1)) fun hq15 =>
  Option.bind (am_gi hq15 4 p 6) fun xq16 =>
  some (xq16, hq15))
  else (some ((-4), h)))
theorem cs_X4_add {f : Nat} {h : am_H} {p : Nat} {a : Int32} {b : Int32} {c : Int32} {d : Bool} {z : (Int32 × am_H)} (hm : mi_X4_add f h p a b c d = some z) : ∃ n, h.1[p]? = some (4, n) := by
  unfold mi_X4_add at hm
  obtain ⟨n, hn, -⟩ := am_bs hm
  exact ⟨n, am_cls_of hn⟩
set_option maxHeartbeats 4000000 in
set_option maxRecDepth 100000 in
theorem ct_X4_add (l : Launch) {f : Nat} {h : am_H} {p : Nat} {a : Int32} {b : Int32} {c : Int32} {d : Bool} {r : Int32} {h2 : am_H} (hm : mi_X4_add f h p a b c d = some (r, h2)) : am_Ct l yX4_add cX4_add 5 (some .int) rm_X4_add [.ref p, .int a, .int b, .int c, .int (am_b d)] h (some (.int r)) h2 := by
  refine am_met2 [(0, .ref p), (1, .int a), (2, .int b), (3, .int c), (4, .int (am_b d))] (by decide) (Nat.le_of_ble_eq_true rfl) rfl ?_
  generalize hK : (fun (v : Option Value) (h3 : am_H) => v = (some (.int r)) ∧ h3 = h2) = K
  have HK : K (some (.int r)) h2 := by rw [← hK]; exact ⟨rfl, rfl⟩
  clear hK
  unfold mi_X4_add at hm
  obtain ⟨_n, _hn, hm⟩ := am_bs hm
  refine r_aload_n 0 dX4_add_0 rfl ?_
  obtain ⟨xq1, exq1, hm⟩ := am_bs hm
  refine r_geti exq1 fl_X4_31 rfl dX4_add_1 ?_
  refine r_bipush 6 dX4_add_4 (by decide) ?_
  refine r_icmp_lt 12 dX4_add_6 (by decide) (fun q => ?_) (fun q => ?_)
  · rw [if_pos q] at hm
    refine r_aload_n 0 dX4_add_12 rfl ?_
    obtain ⟨xq2, exq2, hm⟩ := am_bs hm
    refine r_getr exq2 fl_X4_9 rfl dX4_add_13 ?_
    refine r_aload_n 0 dX4_add_16 rfl ?_
    obtain ⟨xq3, exq3, hm⟩ := am_bs hm
    refine r_geti exq3 fl_X4_31 rfl dX4_add_17 ?_
    refine r_iload_n 1 dX4_add_20 rfl ?_
    obtain ⟨hq4, ehq4, hm⟩ := am_bs hm
    refine r_iast ehq4 dX4_add_21 ?_
    refine r_aload_n 0 dX4_add_22 rfl ?_
    obtain ⟨xq5, exq5, hm⟩ := am_bs hm
    refine r_getr exq5 fl_X4_15 rfl dX4_add_23 ?_
    refine r_aload_n 0 dX4_add_26 rfl ?_
    obtain ⟨xq6, exq6, hm⟩ := am_bs hm
    refine r_geti exq6 fl_X4_31 rfl dX4_add_27 ?_
    refine r_iload_n 2 dX4_add_30 rfl ?_
    obtain ⟨hq7, ehq7, hm⟩ := am_bs hm
    refine r_iast ehq7 dX4_add_31 ?_
    refine r_aload_n 0 dX4_add_32 rfl ?_
    obtain ⟨xq8, exq8, hm⟩ := am_bs hm
    refine r_getr exq8 fl_X4_18 rfl dX4_add_33 ?_
    refine r_aload_n 0 dX4_add_36 rfl ?_
    obtain ⟨xq9, exq9, hm⟩ := am_bs hm
    refine r_geti exq9 fl_X4_31 rfl dX4_add_37 ?_
    refine r_iload_n 3 dX4_add_40 rfl ?_
    obtain ⟨hq10, ehq10, hm⟩ := am_bs hm
    refine r_iast ehq10 dX4_add_41 ?_
    refine r_aload_n 0 dX4_add_42 rfl ?_
    obtain ⟨xq11, exq11, hm⟩ := am_bs hm
    refine r_getr exq11 fl_X4_21 rfl dX4_add_43 ?_
    refine r_aload_n 0 dX4_add_46 rfl ?_
    obtain ⟨xq12, exq12, hm⟩ := am_bs hm
    refine r_geti exq12 fl_X4_31 rfl dX4_add_47 ?_
    refine r_iload 4 dX4_add_50 rfl ?_
    obtain ⟨hq13, ehq13, hm⟩ := am_bs hm
    refine r_zast ehq13 dX4_add_52 ?_
    refine r_aload_n 0 dX4_add_53 rfl ?_
    refine r_dup dX4_add_54 rfl ?_
    obtain ⟨xq14, exq14, hm⟩ := am_bs hm
    refine r_geti exq14 fl_X4_31 rfl dX4_add_55 ?_
    refine r_iconst 1 dX4_add_58 (by decide) ?_
    refine r_iadd dX4_add_59 ?_
    obtain ⟨hq15, ehq15, hm⟩ := am_bs hm
    refine r_puti ehq15 fl_X4_31 rfl rfl dX4_add_60 ?_
    refine r_aload_n 0 dX4_add_63 rfl ?_
    obtain ⟨xq16, exq16, hm⟩ := am_bs hm
    refine r_geti exq16 fl_X4_31 rfl dX4_add_64 ?_
    cases hm
    exact r_ireturn dX4_add_67 rfl (by decide) HK
  · rw [if_neg q] at hm
    refine r_bipush (-4) dX4_add_9 (by decide) ?_
    cases hm
    exact r_ireturn dX4_add_11 rfl (by decide) HK
def lo_X1_placeOf_2 (f : Nat) (h : am_H) (a0 : Nat) (a1 : Int32) : Nat → Int32 → Option ((Unit) ⊕ (Int32))
  | 0, _ => none
  | n + 1, a2 =>
  Option.bind (am_gi h 1 a0 4) fun xq1 =>
  (if xq1 ≤ a2 then
  (some (.inl ()))
  else (Option.bind (am_gr h 1 a0 0) fun xq2 =>
  Option.bind (am_li h 9 xq2 a2) fun xq3 =>
  (if xq3 = a1 then
  (some (.inr a2))
  else (lo_X1_placeOf_2 f h a0 a1 n (a2 + 1)))))
set_option maxHeartbeats 4000000 in
set_option maxRecDepth 100000 in
theorem ll_X1_placeOf_2 (l : Launch) (f : Nat) (h : am_H) (a0 : Nat) (a1 : Int32) (K : Option Value → am_H → Prop) : ∀ (n : Nat) (a2 : Int32) (w : ((Unit) ⊕ (Int32))), lo_X1_placeOf_2 f h a0 a1 n a2 = some w →
    (∀ (z : Unit), w = .inl z → am_R l yX1_placeOf cX1_placeOf 3 (some .int) rm_X1_placeOf (fun _ _ _ => True) 0 0 28 [] [] h K) → (∀ (z : Int32), w = .inr z → K (some (.int z)) h) →
    am_R l yX1_placeOf cX1_placeOf 3 (some .int) rm_X1_placeOf (fun _ _ _ => True) 0 0 2 [(0, .ref a0), (1, .int a1), (2, .int a2)] [] h K := by
  intro n
  induction n with
  | zero =>
    intro a2 w hm kE kR
    cases hm
  | succ n ih =>
    intro a2 w hm kE kR
    rw [lo_X1_placeOf_2.eq_2] at hm
    refine r_iload_n 2 dX1_placeOf_2 rfl ?_
    refine r_aload_n 0 dX1_placeOf_3 rfl ?_
    obtain ⟨xq1, exq1, hm⟩ := am_bs hm
    refine r_geti exq1 fl_X1_24 rfl dX1_placeOf_4 ?_
    refine r_icmp_ge 28 dX1_placeOf_7 (by decide) (fun q => ?_) (fun q => ?_)
    · rw [if_pos q] at hm
      cases hm
      exact r_lv [] _ rfl (kE _ rfl)
    · rw [if_neg q] at hm
      refine r_aload_n 0 dX1_placeOf_10 rfl ?_
      obtain ⟨xq2, exq2, hm⟩ := am_bs hm
      refine r_getr exq2 fl_X1_9 rfl dX1_placeOf_11 ?_
      refine r_iload_n 2 dX1_placeOf_14 rfl ?_
      obtain ⟨xq3, exq3, hm⟩ := am_bs hm
      refine r_iald exq3 dX1_placeOf_15 ?_
      refine r_iload_n 1 dX1_placeOf_16 rfl ?_
      refine r_icmp_ne 22 dX1_placeOf_17 (by decide) (fun q => ?_) (fun q => ?_)
      · rw [if_neg q] at hm
        refine r_inc 1 2 [(2, .int (a2 + 1)), (0, .ref a0), (1, .int a1)] dX1_placeOf_22 (by decide) rfl (by decide) rfl ?_
        refine r_goto 2 dX1_placeOf_25 (by decide) ?_
        exact r_lv [1, 2, 0] _ rfl (ih (a2 + 1) _ hm kE kR)
      · rw [if_pos q] at hm
        refine r_iload_n 2 dX1_placeOf_20 rfl ?_
        cases hm
        exact r_ireturn dX1_placeOf_21 rfl (by decide) (kR _ rfl)
def mi_X1_placeOf (f : Nat) (h : am_H) (p : Nat) (a : Int32) : Option Int32 :=
  Option.bind (am_cls h 1 p) fun _n =>
  Option.bind (lo_X1_placeOf_2 f h p a f 0) fun wq1 => match wq1 with
  | .inl _ => (some (-9))
  | .inr rq2 => (some rq2)
theorem cs_X1_placeOf {f : Nat} {h : am_H} {p : Nat} {a : Int32} {z : Int32} (hm : mi_X1_placeOf f h p a = some z) : ∃ n, h.1[p]? = some (1, n) := by
  unfold mi_X1_placeOf at hm
  obtain ⟨n, hn, -⟩ := am_bs hm
  exact ⟨n, am_cls_of hn⟩
set_option maxHeartbeats 4000000 in
set_option maxRecDepth 100000 in
theorem ct_X1_placeOf (l : Launch) {f : Nat} {h : am_H} {p : Nat} {a : Int32} {r : Int32} (hm : mi_X1_placeOf f h p a = some r) : am_Ct l yX1_placeOf cX1_placeOf 3 (some .int) rm_X1_placeOf [.ref p, .int a] h (some (.int r)) h := by
  refine am_met2 [(0, .ref p), (1, .int a)] (by decide) (Nat.le_of_ble_eq_true rfl) rfl ?_
  generalize hK : (fun (v : Option Value) (h3 : am_H) => v = (some (.int r)) ∧ h3 = h) = K
  have HK : K (some (.int r)) h := by rw [← hK]; exact ⟨rfl, rfl⟩
  clear hK
  unfold mi_X1_placeOf at hm
  obtain ⟨_n, _hn, hm⟩ := am_bs hm
  refine r_iconst 0 dX1_placeOf_0 (by decide) ?_
  refine r_istore_n [(2, .int 0), (0, .ref p), (1, .int a)] dX1_placeOf_1 (by decide) rfl ?_
  obtain ⟨wq1, ew, hm⟩ := am_bs hm
  refine r_lv [1, 2, 0] _ rfl (ll_X1_placeOf_2 l f h p a _ f 0 _ ew (fun z q => ?_) (fun z q => ?_))
  · subst q
    dsimp only at hm
    refine r_bipush (-9) dX1_placeOf_28 (by decide) ?_
    cases hm
    exact r_ireturn dX1_placeOf_30 rfl (by decide) HK
  · obtain ⟨rq2, rfl⟩ : ∃ x, x = z := ⟨_, rfl⟩
    subst q
    dsimp only at hm
    cases hm
    exact HK
def lo_X5_howManyNodes_4 (f : Nat) (h : am_H) (a0 : Nat) (a1 : Int32) : Nat → Int32 → Int32 → Option (Int32)
  | 0, _, _ => none
  | n + 1, a2, a3 =>
  (if 31 < a3 then
  (some a2)
  else (Option.bind (mi_X5_lies f h a0 a1 a3) fun xq1 =>
  Option.bind ((if xq1 = true then
  (some (a2 + 1))
  else (some a2))) fun jq2 =>
  lo_X5_howManyNodes_4 f h a0 a1 n jq2 (a3 + 1)))
set_option maxHeartbeats 4000000 in
set_option maxRecDepth 100000 in
theorem ll_X5_howManyNodes_4 (l : Launch) (f : Nat) (h : am_H) (a0 : Nat) (a1 : Int32) (K : Option Value → am_H → Prop) : ∀ (n : Nat) (a2 : Int32) (a3 : Int32) (z : Int32), lo_X5_howManyNodes_4 f h a0 a1 n a2 a3 = some z →
    am_R l yX5_howManyNodes cX5_howManyNodes 4 (some .int) rm_X5_howManyNodes (fun _ _ _ => True) 0 0 28 [(2, .int z)] [] h K →
    am_R l yX5_howManyNodes cX5_howManyNodes 4 (some .int) rm_X5_howManyNodes (fun _ _ _ => True) 0 0 4 [(0, .ref a0), (1, .int a1), (2, .int a2), (3, .int a3)] [] h K := by
  intro n
  induction n with
  | zero =>
    intro a2 a3 z hm kE
    cases hm
  | succ n ih =>
    intro a2 a3 z hm kE
    rw [lo_X5_howManyNodes_4.eq_2] at hm
    refine r_iload_n 3 dX5_howManyNodes_4 rfl ?_
    refine r_bipush 31 dX5_howManyNodes_5 (by decide) ?_
    refine r_icmp_gt 28 dX5_howManyNodes_7 (by decide) (fun q => ?_) (fun q => ?_)
    · rw [if_pos q] at hm
      cases hm
      exact r_lv [2] _ rfl kE
    · rw [if_neg q] at hm
      refine r_aload_n 0 dX5_howManyNodes_10 rfl ?_
      refine r_iload_n 1 dX5_howManyNodes_11 rfl ?_
      refine r_iload_n 3 dX5_howManyNodes_12 rfl ?_
      obtain ⟨xq1, exq1, hm⟩ := am_bs hm
      refine r_cV1 [.int a1, .int a3] (ct_X5_lies l exq1) vm_X5_69 (cs_X5_lies exq1) (by decide) ⟨rfl, rfl⟩ rfl (Nat.le_of_ble_eq_true rfl) dX5_howManyNodes_13 ?_
      obtain ⟨jq2, hw, hm⟩ := am_bs hm
      try dsimp only at hm
      have HJ : am_R l yX5_howManyNodes cX5_howManyNodes 4 (some .int) rm_X5_howManyNodes (fun _ _ _ => True) 0 0 22 [(0, .ref a0), (1, .int a1), (2, .int jq2), (3, .int a3)] [] h K := by
        refine r_inc 1 3 [(3, .int (a3 + 1)), (0, .ref a0), (1, .int a1), (2, .int jq2)] dX5_howManyNodes_22 (by decide) rfl (by decide) rfl ?_
        refine r_goto 4 dX5_howManyNodes_25 (by decide) ?_
        exact r_lv [1, 2, 3, 0] _ rfl (ih jq2 (a3 + 1) _ hm kE)
      clear hm
      have hm := hw
      clear hw
      refine r_if_eq 22 dX5_howManyNodes_16 (by decide) (fun q => ?_) (fun q => ?_)
      · rw [if_neg (show ¬ xq1 = true from by rw [am_b0 q]; decide)] at hm
        cases hm
        exact r_lv [0, 1, 2, 3] _ rfl HJ
      · rw [if_pos (show xq1 = true from am_b1 q)] at hm
        refine r_inc 1 2 [(2, .int (a2 + 1)), (0, .ref a0), (1, .int a1), (3, .int a3)] dX5_howManyNodes_19 (by decide) rfl (by decide) rfl ?_
        cases hm
        exact r_lv [1, 2, 0, 3] _ rfl HJ
def mi_X5_howManyNodes (f : Nat) (h : am_H) (p : Nat) (a : Int32) : Option Int32 :=
  Option.bind (am_cls h 5 p) fun _n =>
  Option.bind (lo_X5_howManyNodes_4 f h p a f 0 1) fun oq1 =>
  some oq1
theorem cs_X5_howManyNodes {f : Nat} {h : am_H} {p : Nat} {a : Int32} {z : Int32} (hm : mi_X5_howManyNodes f h p a = some z) : ∃ n, h.1[p]? = some (5, n) := by
  unfold mi_X5_howManyNodes at hm
  obtain ⟨n, hn, -⟩ := am_bs hm
  exact ⟨n, am_cls_of hn⟩
set_option maxHeartbeats 4000000 in
set_option maxRecDepth 100000 in
theorem ct_X5_howManyNodes (l : Launch) {f : Nat} {h : am_H} {p : Nat} {a : Int32} {r : Int32} (hm : mi_X5_howManyNodes f h p a = some r) : am_Ct l yX5_howManyNodes cX5_howManyNodes 4 (some .int) rm_X5_howManyNodes [.ref p, .int a] h (some (.int r)) h := by
  refine am_met2 [(0, .ref p), (1, .int a)] (by decide) (Nat.le_of_ble_eq_true rfl) rfl ?_
  generalize hK : (fun (v : Option Value) (h3 : am_H) => v = (some (.int r)) ∧ h3 = h) = K
  have HK : K (some (.int r)) h := by rw [← hK]; exact ⟨rfl, rfl⟩
  clear hK
  unfold mi_X5_howManyNodes at hm
  obtain ⟨_n, _hn, hm⟩ := am_bs hm
  refine r_iconst 0 dX5_howManyNodes_0 (by decide) ?_
  refine r_istore_n [(2, .int 0), (0, .ref p), (1, .int a)] dX5_howManyNodes_1 (by decide) rfl ?_
  refine r_iconst 1 dX5_howManyNodes_2 (by decide) ?_
  refine r_istore_n [(3, .int 1), (2, .int 0), (0, .ref p), (1, .int a)] dX5_howManyNodes_3 (by decide) rfl ?_
  obtain ⟨oq1, ew, hm⟩ := am_bs hm
  try dsimp only at hm
  refine r_lv [2, 3, 1, 0] _ rfl (ll_X5_howManyNodes_4 l f h p a _ f 0 1 _ ew ?_)
  refine r_iload_n 0 dX5_howManyNodes_28 rfl ?_
  cases hm
  exact r_ireturn dX5_howManyNodes_29 rfl (by decide) HK
def mi_X0_takeBackLast (f : Nat) (h : am_H) (p : Nat) (a : Nat) : Option am_H :=
  Option.bind (am_cls h 0 p) fun _n =>
  Option.bind (am_gi h 0 p 1) fun xq1 =>
  Option.bind ((if xq1 ≤ 0 then
  (some h)
  else (Option.bind (am_gi h 0 p 1) fun xq3 =>
  Option.bind (am_pi h 0 p 1 (xq3 - 1)) fun hq4 =>
  Option.bind (am_gr hq4 0 p 0) fun xq5 =>
  Option.bind (am_gi hq4 0 p 1) fun xq6 =>
  Option.bind (am_lr hq4 xq5 xq6) fun xq7 =>
  Option.bind (mi_X5_copyOf f hq4 a xq7) fun hq9 =>
  some hq9))) fun hq2 =>
  some hq2
theorem cs_X0_takeBackLast {f : Nat} {h : am_H} {p : Nat} {a : Nat} {z : am_H} (hm : mi_X0_takeBackLast f h p a = some z) : ∃ n, h.1[p]? = some (0, n) := by
  unfold mi_X0_takeBackLast at hm
  obtain ⟨n, hn, -⟩ := am_bs hm
  exact ⟨n, am_cls_of hn⟩
set_option maxHeartbeats 4000000 in
set_option maxRecDepth 100000 in
theorem ct_X0_takeBackLast (l : Launch) {f : Nat} {h : am_H} {p : Nat} {a : Nat} {h2 : am_H} (hm : mi_X0_takeBackLast f h p a = some h2) : am_Ct l yX0_takeBackLast cX0_takeBackLast 2 (none) rm_X0_takeBackLast [.ref p, .ref a] h none h2 := by
  refine am_met2 [(0, .ref p), (1, .ref a)] (by decide) (Nat.le_of_ble_eq_true rfl) rfl ?_
  generalize hK : (fun (v : Option Value) (h3 : am_H) => v = none ∧ h3 = h2) = K
  have HK : K none h2 := by rw [← hK]; exact ⟨rfl, rfl⟩
  clear hK
  unfold mi_X0_takeBackLast at hm
  obtain ⟨_n, _hn, hm⟩ := am_bs hm
  refine r_aload_n 0 dX0_takeBackLast_0 rfl ?_
  obtain ⟨xq1, exq1, hm⟩ := am_bs hm
  refine r_geti exq1 fl_X0_18 rfl dX0_takeBackLast_1 ?_
  obtain ⟨hq2, hw, hm⟩ := am_bs hm
  try dsimp only at hm
  have HJ : am_R l yX0_takeBackLast cX0_takeBackLast 2 (none) rm_X0_takeBackLast (fun _ _ _ => True) 0 0 30 [] [] hq2 K := by
    cases hm
    exact r_return dX0_takeBackLast_30 rfl (by decide) HK
  clear hm
  have hm := hw
  clear hw
  refine r_if_le 30 dX0_takeBackLast_4 (by decide) (fun q => ?_) (fun q => ?_)
  · rw [if_pos q] at hm
    cases hm
    exact r_lv [] _ rfl HJ
  · rw [if_neg q] at hm
    refine r_aload_n 0 dX0_takeBackLast_7 rfl ?_
    refine r_dup dX0_takeBackLast_8 rfl ?_
    obtain ⟨xq3, exq3, hm⟩ := am_bs hm
    refine r_geti exq3 fl_X0_18 rfl dX0_takeBackLast_9 ?_
    refine r_iconst 1 dX0_takeBackLast_12 (by decide) ?_
    refine r_isub dX0_takeBackLast_13 ?_
    obtain ⟨hq4, ehq4, hm⟩ := am_bs hm
    refine r_puti ehq4 fl_X0_18 rfl rfl dX0_takeBackLast_14 ?_
    refine r_aload_n 1 dX0_takeBackLast_17 rfl ?_
    refine r_aload_n 0 dX0_takeBackLast_18 rfl ?_
    obtain ⟨xq5, exq5, hm⟩ := am_bs hm
    refine r_getr exq5 fl_X0_11 rfl dX0_takeBackLast_19 ?_
    refine r_aload_n 0 dX0_takeBackLast_22 rfl ?_
    obtain ⟨xq6, exq6, hm⟩ := am_bs hm
    refine r_geti exq6 fl_X0_18 rfl dX0_takeBackLast_23 ?_
    obtain ⟨xq7, exq7, hm⟩ := am_bs hm
    refine r_aald exq7 dX0_takeBackLast_26 ?_
    obtain ⟨hq9, exq8, hm⟩ := am_bs hm
    refine r_cV0 [.ref xq7] (ct_X5_copyOf l exq8) vm_X0_25 (cs_X5_copyOf exq8) (by decide) ⟨rfl, rfl⟩ rfl (Nat.le_of_ble_eq_true rfl) dX0_takeBackLast_27 ?_
    cases hm
    exact r_lv [] _ rfl HJ
def mi_X3_append (f : Nat) (h : am_H) (p : Nat) (a : Int32) : Option (Int32 × am_H) :=
  Option.bind (am_cls h 3 p) fun _n =>
  Option.bind (am_gi h 3 p 1) fun xq1 =>
  (if xq1 < 64 then
  (Option.bind (am_gr h 3 p 0) fun xq2 =>
  Option.bind (am_gi h 3 p 1) fun xq3 =>
  Option.bind (am_si h 8 xq2 xq3 (vp_nar .char (((a : Int32).toUInt32 % 65536).toInt32))) fun hq4 =>
  Option.bind (am_gi hq4 3 p 1) fun xq5 =>
  Option.bind (am_pi hq4 3 p 1 (xq5 + 1)) fun hq6 =>
  Option.bind (am_gi hq6 3 p 1) fun xq7 =>
  some (xq7, hq6))
  else (some ((-4), h)))
theorem cs_X3_append {f : Nat} {h : am_H} {p : Nat} {a : Int32} {z : (Int32 × am_H)} (hm : mi_X3_append f h p a = some z) : ∃ n, h.1[p]? = some (3, n) := by
  unfold mi_X3_append at hm
  obtain ⟨n, hn, -⟩ := am_bs hm
  exact ⟨n, am_cls_of hn⟩
set_option maxHeartbeats 4000000 in
set_option maxRecDepth 100000 in
theorem ct_X3_append (l : Launch) {f : Nat} {h : am_H} {p : Nat} {a : Int32} {r : Int32} {h2 : am_H} (hm : mi_X3_append f h p a = some (r, h2)) : am_Ct l yX3_append cX3_append 2 (some .int) rm_X3_append [.ref p, .int a] h (some (.int r)) h2 := by
  refine am_met2 [(0, .ref p), (1, .int a)] (by decide) (Nat.le_of_ble_eq_true rfl) rfl ?_
  generalize hK : (fun (v : Option Value) (h3 : am_H) => v = (some (.int r)) ∧ h3 = h2) = K
  have HK : K (some (.int r)) h2 := by rw [← hK]; exact ⟨rfl, rfl⟩
  clear hK
  unfold mi_X3_append at hm
  obtain ⟨_n, _hn, hm⟩ := am_bs hm
  refine r_aload_n 0 dX3_append_0 rfl ?_
  obtain ⟨xq1, exq1, hm⟩ := am_bs hm
  refine r_geti exq1 fl_X3_28 rfl dX3_append_1 ?_
  refine r_bipush 64 dX3_append_4 (by decide) ?_
  refine r_icmp_lt 12 dX3_append_6 (by decide) (fun q => ?_) (fun q => ?_)
  · rw [if_pos q] at hm
    refine r_aload_n 0 dX3_append_12 rfl ?_
    obtain ⟨xq2, exq2, hm⟩ := am_bs hm
    refine r_getr exq2 fl_X3_9 rfl dX3_append_13 ?_
    refine r_aload_n 0 dX3_append_16 rfl ?_
    obtain ⟨xq3, exq3, hm⟩ := am_bs hm
    refine r_geti exq3 fl_X3_28 rfl dX3_append_17 ?_
    refine r_iload_n 1 dX3_append_20 rfl ?_
    refine r_i2c dX3_append_21 ?_
    obtain ⟨hq4, ehq4, hm⟩ := am_bs hm
    refine r_cast ehq4 dX3_append_22 ?_
    refine r_aload_n 0 dX3_append_23 rfl ?_
    refine r_dup dX3_append_24 rfl ?_
    obtain ⟨xq5, exq5, hm⟩ := am_bs hm
    refine r_geti exq5 fl_X3_28 rfl dX3_append_25 ?_
    refine r_iconst 1 dX3_append_28 (by decide) ?_
    refine r_iadd dX3_append_29 ?_
    obtain ⟨hq6, ehq6, hm⟩ := am_bs hm
    refine r_puti ehq6 fl_X3_28 rfl rfl dX3_append_30 ?_
    refine r_aload_n 0 dX3_append_33 rfl ?_
    obtain ⟨xq7, exq7, hm⟩ := am_bs hm
    refine r_geti exq7 fl_X3_28 rfl dX3_append_34 ?_
    cases hm
    exact r_ireturn dX3_append_37 rfl (by decide) HK
  · rw [if_neg q] at hm
    refine r_bipush (-4) dX3_append_9 (by decide) ?_
    cases hm
    exact r_ireturn dX3_append_11 rfl (by decide) HK
