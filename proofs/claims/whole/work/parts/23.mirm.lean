def mi_X7_in (f : Nat) (h : am_H) (a : Int64) (b : Int64) (c : Int64) : Option Bool :=
  Option.bind ((if (lg_cmp a b) < 0 then
  (some false)
  else ((if 0 < (lg_cmp a c) then
  (some false)
  else (some true))))) fun jq1 =>
  some jq1
set_option maxHeartbeats 4000000 in
set_option maxRecDepth 100000 in
theorem ct_X7_in (l : Launch) {f : Nat} {h : am_H} {a : Int64} {b : Int64} {c : Int64} {r : Bool} (hm : mi_X7_in f h a b c = some r) : am_Ct l yX7_in cX7_in 6 (some .boolean) rm_X7_in [.long a, .long b, .long c] h (some (.int (am_b r))) h := by
  refine am_met2 [(0, .long a), (2, .long b), (4, .long c)] (by decide) (Nat.le_of_ble_eq_true rfl) rfl ?_
  generalize hK : (fun (v : Option Value) (h3 : am_H) => v = (some (.int (am_b r))) ∧ h3 = h) = K
  have HK : K (some (.int (am_b r))) h := by rw [← hK]; exact ⟨rfl, rfl⟩
  clear hK
  unfold mi_X7_in at hm
  refine r_lload_n 0 dX7_in_0 rfl ?_
  refine r_lload_n 1 dX7_in_1 rfl ?_
  refine r_lcmp dX7_in_2 ?_
  obtain ⟨jq1, hw, hm⟩ := am_bs hm
  try dsimp only at hm
  have HJ : am_R l yX7_in cX7_in 6 (some .boolean) rm_X7_in (fun _ _ _ => True) 0 0 18 [] [.int (am_b jq1)] h K := by
    cases hm
    exact r_zreturn _ dX7_in_18 rfl (by decide) HK
  clear hm
  have hm := hw
  clear hw
  refine r_if_lt 17 dX7_in_3 (by decide) (fun q => ?_) (fun q => ?_)
  · rw [if_pos q] at hm
    refine r_iconst 0 dX7_in_17 (by decide) ?_
    cases hm
    exact r_lv [] _ rfl HJ
  · rw [if_neg q] at hm
    refine r_lload_n 0 dX7_in_6 rfl ?_
    refine r_lload 2 dX7_in_7 rfl ?_
    refine r_lcmp dX7_in_9 ?_
    refine r_if_gt 17 dX7_in_10 (by decide) (fun q => ?_) (fun q => ?_)
    · rw [if_pos q] at hm
      refine r_iconst 0 dX7_in_17 (by decide) ?_
      cases hm
      exact r_lv [] _ rfl HJ
    · rw [if_neg q] at hm
      refine r_iconst 1 dX7_in_13 (by decide) ?_
      refine r_goto 18 dX7_in_14 (by decide) ?_
      cases hm
      exact r_lv [] _ rfl HJ
def mi_X7_many (f : Nat) (h : am_H) (p : Nat) (a : Int32) : Option Int32 :=
  Option.bind (am_cls h 7 p) fun _n =>
  Option.bind (am_gr h 7 p 0) fun xq1 =>
  Option.bind (am_li h 9 xq1 ((17 : Int32) * a)) fun xq2 =>
  some xq2
theorem cs_X7_many {f : Nat} {h : am_H} {p : Nat} {a : Int32} {z : Int32} (hm : mi_X7_many f h p a = some z) : ∃ n, h.1[p]? = some (7, n) := by
  unfold mi_X7_many at hm
  obtain ⟨n, hn, -⟩ := am_bs hm
  exact ⟨n, am_cls_of hn⟩
set_option maxHeartbeats 4000000 in
set_option maxRecDepth 100000 in
theorem ct_X7_many (l : Launch) {f : Nat} {h : am_H} {p : Nat} {a : Int32} {r : Int32} (hm : mi_X7_many f h p a = some r) : am_Ct l yX7_many cX7_many 2 (some .int) rm_X7_many [.ref p, .int a] h (some (.int r)) h := by
  refine am_met2 [(0, .ref p), (1, .int a)] (by decide) (Nat.le_of_ble_eq_true rfl) rfl ?_
  generalize hK : (fun (v : Option Value) (h3 : am_H) => v = (some (.int r)) ∧ h3 = h) = K
  have HK : K (some (.int r)) h := by rw [← hK]; exact ⟨rfl, rfl⟩
  clear hK
  unfold mi_X7_many at hm
  obtain ⟨_n, _hn, hm⟩ := am_bs hm
  refine r_aload_n 0 dX7_many_0 rfl ?_
  obtain ⟨xq1, exq1, hm⟩ := am_bs hm
  refine r_getr exq1 fl_X7_7 rfl dX7_many_1 ?_
  refine r_bipush 17 dX7_many_4 (by decide) ?_
  refine r_iload_n 1 dX7_many_6 rfl ?_
  refine r_imul dX7_many_7 ?_
  obtain ⟨xq2, exq2, hm⟩ := am_bs hm
  refine r_iald exq2 dX7_many_8 ?_
  cases hm
  exact r_ireturn dX7_many_9 rfl (by decide) HK
def lo_X7_again_26 (f : Nat) (a0 : Nat) (a1 : Int32) : Nat → Int32 → am_H → Option (am_H)
  | 0, _, _ => none
  | n + 1, a2, h =>
  (if 17 ≤ a2 then
  (some h)
  else (Option.bind (am_gr h 7 a0 0) fun xq1 =>
  Option.bind (am_gr h 7 a0 19) fun xq2 =>
  Option.bind (am_li h 9 xq2 (((17 : Int32) * a1) + a2)) fun xq3 =>
  Option.bind (am_si h 9 xq1 a2 xq3) fun hq4 =>
  lo_X7_again_26 f a0 a1 n (a2 + 1) hq4))
set_option maxHeartbeats 4000000 in
set_option maxRecDepth 100000 in
theorem ll_X7_again_26 (l : Launch) (f : Nat) (a0 : Nat) (a1 : Int32) (K : Option Value → am_H → Prop) : ∀ (n : Nat) (a2 : Int32) (h : am_H) (z : am_H), lo_X7_again_26 f a0 a1 n a2 h = some z →
    am_R l yX7_again cX7_again 3 (some .int) rm_X7_again (fun _ _ _ => True) 0 0 55 [(0, .ref a0)] [] z K →
    am_R l yX7_again cX7_again 3 (some .int) rm_X7_again (fun _ _ _ => True) 0 0 26 [(0, .ref a0), (1, .int a1), (2, .int a2)] [] h K := by
  intro n
  induction n with
  | zero =>
    intro a2 h z hm kE
    cases hm
  | succ n ih =>
    intro a2 h z hm kE
    rw [lo_X7_again_26.eq_2] at hm
    refine r_iload_n 2 dX7_again_26 rfl ?_
    refine r_bipush 17 dX7_again_27 (by decide) ?_
    refine r_icmp_ge 55 dX7_again_29 (by decide) (fun q => ?_) (fun q => ?_)
    · rw [if_pos q] at hm
      cases hm
      exact r_lv [0] _ rfl kE
    · rw [if_neg q] at hm
      refine r_aload_n 0 dX7_again_32 rfl ?_
      obtain ⟨xq1, exq1, hm⟩ := am_bs hm
      refine r_getr exq1 fl_X7_7 rfl dX7_again_33 ?_
      refine r_iload_n 2 dX7_again_36 rfl ?_
      refine r_aload_n 0 dX7_again_37 rfl ?_
      obtain ⟨xq2, exq2, hm⟩ := am_bs hm
      refine r_getr exq2 fl_X7_53 rfl dX7_again_38 ?_
      refine r_bipush 17 dX7_again_41 (by decide) ?_
      refine r_iload_n 1 dX7_again_43 rfl ?_
      refine r_imul dX7_again_44 ?_
      refine r_iload_n 2 dX7_again_45 rfl ?_
      refine r_iadd dX7_again_46 ?_
      obtain ⟨xq3, exq3, hm⟩ := am_bs hm
      refine r_iald exq3 dX7_again_47 ?_
      obtain ⟨hq4, ehq4, hm⟩ := am_bs hm
      refine r_iast ehq4 dX7_again_48 ?_
      refine r_inc 1 2 [(2, .int (a2 + 1)), (0, .ref a0), (1, .int a1)] dX7_again_49 (by decide) rfl (by decide) rfl ?_
      refine r_goto 26 dX7_again_52 (by decide) ?_
      exact r_lv [1, 2, 0] _ rfl (ih (a2 + 1) hq4 _ hm kE)
def mi_X7_again (f : Nat) (h : am_H) (p : Nat) (a : Int32) : Option (Int32 × am_H) :=
  Option.bind (am_cls h 7 p) fun _n =>
  Option.bind (mi_X7_in f h ((a : Int32).toInt64) 0 1) fun xq1 =>
  (if xq1 = true then
  (Option.bind (am_gr h 7 p 18) fun xq2 =>
  Option.bind (am_li h 10 xq2 a) fun xq3 =>
  (if xq3 = 0 then
  (some ((-3), h))
  else (Option.bind (lo_X7_again_26 f p a f 0 h) fun hq4 =>
  Option.bind (am_pi hq4 7 p 4 0) fun hq5 =>
  Option.bind (mi_X7_many f hq5 p 0) fun xq6 =>
  some (xq6, hq5))))
  else (some ((-1), h)))
theorem cs_X7_again {f : Nat} {h : am_H} {p : Nat} {a : Int32} {z : (Int32 × am_H)} (hm : mi_X7_again f h p a = some z) : ∃ n, h.1[p]? = some (7, n) := by
  unfold mi_X7_again at hm
  obtain ⟨n, hn, -⟩ := am_bs hm
  exact ⟨n, am_cls_of hn⟩
set_option maxHeartbeats 4000000 in
set_option maxRecDepth 100000 in
theorem ct_X7_again (l : Launch) {f : Nat} {h : am_H} {p : Nat} {a : Int32} {r : Int32} {h2 : am_H} (hm : mi_X7_again f h p a = some (r, h2)) : am_Ct l yX7_again cX7_again 3 (some .int) rm_X7_again [.ref p, .int a] h (some (.int r)) h2 := by
  refine am_met2 [(0, .ref p), (1, .int a)] (by decide) (Nat.le_of_ble_eq_true rfl) rfl ?_
  generalize hK : (fun (v : Option Value) (h3 : am_H) => v = (some (.int r)) ∧ h3 = h2) = K
  have HK : K (some (.int r)) h2 := by rw [← hK]; exact ⟨rfl, rfl⟩
  clear hK
  unfold mi_X7_again at hm
  obtain ⟨_n, _hn, hm⟩ := am_bs hm
  refine r_iload_n 1 dX7_again_0 rfl ?_
  refine r_i2l dX7_again_1 ?_
  refine r_lconst 0 dX7_again_2 (by decide) ?_
  refine r_lconst 1 dX7_again_3 (by decide) ?_
  obtain ⟨xq1, exq1, hm⟩ := am_bs hm
  refine r_cS1 [.long ((a : Int32).toInt64), .long 0, .long 1] (ct_X7_in l exq1) sm_X7_58 (by decide) ⟨rfl, rfl⟩ rfl (Nat.le_of_ble_eq_true rfl) dX7_again_4 ?_
  refine r_if_ne 12 dX7_again_7 (by decide) (fun q => ?_) (fun q => ?_)
  · rw [if_pos (show xq1 = true from am_b1 q)] at hm
    refine r_aload_n 0 dX7_again_12 rfl ?_
    obtain ⟨xq2, exq2, hm⟩ := am_bs hm
    refine r_getr exq2 fl_X7_49 rfl dX7_again_13 ?_
    refine r_iload_n 1 dX7_again_16 rfl ?_
    obtain ⟨xq3, exq3, hm⟩ := am_bs hm
    refine r_zald exq3 dX7_again_17 ?_
    refine r_if_ne 24 dX7_again_18 (by decide) (fun q => ?_) (fun q => ?_)
    · rw [if_neg q] at hm
      refine r_iconst 0 dX7_again_24 (by decide) ?_
      refine r_istore_n [(2, .int 0), (0, .ref p), (1, .int a)] dX7_again_25 (by decide) rfl ?_
      obtain ⟨hq4, ew, hm⟩ := am_bs hm
      try dsimp only at hm
      refine r_lv [1, 2, 0] _ rfl (ll_X7_again_26 l f p a _ f 0 h _ ew ?_)
      refine r_aload_n 0 dX7_again_55 rfl ?_
      refine r_iconst 0 dX7_again_56 (by decide) ?_
      obtain ⟨hq5, ehq5, hm⟩ := am_bs hm
      refine r_puti ehq5 fl_X7_102 rfl rfl dX7_again_57 ?_
      refine r_aload_n 0 dX7_again_60 rfl ?_
      refine r_iconst 0 dX7_again_61 (by decide) ?_
      obtain ⟨xq6, exq6, hm⟩ := am_bs hm
      refine r_cV1 [.int 0] (ct_X7_many l exq6) vm_X7_105 (cs_X7_many exq6) (by decide) ⟨rfl, rfl⟩ rfl (Nat.le_of_ble_eq_true rfl) dX7_again_62 ?_
      cases hm
      exact r_ireturn dX7_again_65 rfl (by decide) HK
    · rw [if_pos q] at hm
      refine r_bipush (-3) dX7_again_21 (by decide) ?_
      cases hm
      exact r_ireturn dX7_again_23 rfl (by decide) HK
  · rw [if_neg (show ¬ xq1 = true from by rw [am_b0 q]; decide)] at hm
    refine r_iconst (-1) dX7_again_10 (by decide) ?_
    cases hm
    exact r_ireturn dX7_again_11 rfl (by decide) HK
def mi_X7_isTime (f : Nat) (h : am_H) (a : Int32) : Option Bool :=
  Option.bind (mi_X7_in f h ((a : Int32).toInt64) 0 15) fun xq1 =>
  some xq1
set_option maxHeartbeats 4000000 in
set_option maxRecDepth 100000 in
theorem ct_X7_isTime (l : Launch) {f : Nat} {h : am_H} {a : Int32} {r : Bool} (hm : mi_X7_isTime f h a = some r) : am_Ct l yX7_isTime cX7_isTime 1 (some .boolean) rm_X7_isTime [.int a] h (some (.int (am_b r))) h := by
  refine am_met2 [(0, .int a)] (by decide) (Nat.le_of_ble_eq_true rfl) rfl ?_
  generalize hK : (fun (v : Option Value) (h3 : am_H) => v = (some (.int (am_b r))) ∧ h3 = h) = K
  have HK : K (some (.int (am_b r))) h := by rw [← hK]; exact ⟨rfl, rfl⟩
  clear hK
  unfold mi_X7_isTime at hm
  refine r_iload_n 0 dX7_isTime_0 rfl ?_
  refine r_i2l dX7_isTime_1 ?_
  refine r_lconst 0 dX7_isTime_2 (by decide) ?_
  refine r_ldc2 (v := 15) kw_X7_62 dX7_isTime_3 ?_
  obtain ⟨xq1, exq1, hm⟩ := am_bs hm
  refine r_cS1 [.long ((a : Int32).toInt64), .long 0, .long 15] (ct_X7_in l exq1) sm_X7_58 (by decide) ⟨rfl, rfl⟩ rfl (Nat.le_of_ble_eq_true rfl) dX7_isTime_6 ?_
  cases hm
  exact r_zreturn _ dX7_isTime_9 rfl (by decide) HK
def lo_X7_clearKnots_2 (f : Nat) (a0 : Nat) : Nat → Int32 → am_H → Option (am_H)
  | 0, _, _ => none
  | n + 1, a1, h =>
  (if 8 ≤ a1 then
  (some h)
  else (Option.bind (am_gr h 7 a0 7) fun xq1 =>
  Option.bind (am_si h 9 xq1 a1 a1) fun hq2 =>
  Option.bind (am_gr hq2 7 a0 8) fun xq3 =>
  Option.bind (am_si hq2 9 xq3 a1 1) fun hq4 =>
  lo_X7_clearKnots_2 f a0 n (a1 + 1) hq4))
set_option maxHeartbeats 4000000 in
set_option maxRecDepth 100000 in
theorem ll_X7_clearKnots_2 (l : Launch) (f : Nat) (a0 : Nat) (K : Option Value → am_H → Prop) : ∀ (n : Nat) (a1 : Int32) (h : am_H) (z : am_H), lo_X7_clearKnots_2 f a0 n a1 h = some z →
    am_R l yX7_clearKnots cX7_clearKnots 2 (none) rm_X7_clearKnots (fun _ _ _ => True) 0 0 28 [] [] z K →
    am_R l yX7_clearKnots cX7_clearKnots 2 (none) rm_X7_clearKnots (fun _ _ _ => True) 0 0 2 [(0, .ref a0), (1, .int a1)] [] h K := by
  intro n
  induction n with
  | zero =>
    intro a1 h z hm kE
    cases hm
  | succ n ih =>
    intro a1 h z hm kE
    rw [lo_X7_clearKnots_2.eq_2] at hm
    refine r_iload_n 1 dX7_clearKnots_2 rfl ?_
    refine r_bipush 8 dX7_clearKnots_3 (by decide) ?_
    refine r_icmp_ge 28 dX7_clearKnots_5 (by decide) (fun q => ?_) (fun q => ?_)
    · rw [if_pos q] at hm
      cases hm
      exact r_lv [] _ rfl kE
    · rw [if_neg q] at hm
      refine r_aload_n 0 dX7_clearKnots_8 rfl ?_
      obtain ⟨xq1, exq1, hm⟩ := am_bs hm
      refine r_getr exq1 fl_X7_22 rfl dX7_clearKnots_9 ?_
      refine r_iload_n 1 dX7_clearKnots_12 rfl ?_
      refine r_iload_n 1 dX7_clearKnots_13 rfl ?_
      obtain ⟨hq2, ehq2, hm⟩ := am_bs hm
      refine r_iast ehq2 dX7_clearKnots_14 ?_
      refine r_aload_n 0 dX7_clearKnots_15 rfl ?_
      obtain ⟨xq3, exq3, hm⟩ := am_bs hm
      refine r_getr exq3 fl_X7_25 rfl dX7_clearKnots_16 ?_
      refine r_iload_n 1 dX7_clearKnots_19 rfl ?_
      refine r_iconst 1 dX7_clearKnots_20 (by decide) ?_
      obtain ⟨hq4, ehq4, hm⟩ := am_bs hm
      refine r_iast ehq4 dX7_clearKnots_21 ?_
      refine r_inc 1 1 [(1, .int (a1 + 1)), (0, .ref a0)] dX7_clearKnots_22 (by decide) rfl (by decide) rfl ?_
      refine r_goto 2 dX7_clearKnots_25 (by decide) ?_
      exact r_lv [1, 0] _ rfl (ih (a1 + 1) hq4 _ hm kE)
def mi_X7_clearKnots (f : Nat) (h : am_H) (p : Nat) : Option am_H :=
  Option.bind (am_cls h 7 p) fun _n =>
  Option.bind (lo_X7_clearKnots_2 f p f 0 h) fun hq1 =>
  some hq1
theorem cs_X7_clearKnots {f : Nat} {h : am_H} {p : Nat} {z : am_H} (hm : mi_X7_clearKnots f h p = some z) : ∃ n, h.1[p]? = some (7, n) := by
  unfold mi_X7_clearKnots at hm
  obtain ⟨n, hn, -⟩ := am_bs hm
  exact ⟨n, am_cls_of hn⟩
set_option maxHeartbeats 4000000 in
set_option maxRecDepth 100000 in
theorem ct_X7_clearKnots (l : Launch) {f : Nat} {h : am_H} {p : Nat} {h2 : am_H} (hm : mi_X7_clearKnots f h p = some h2) : am_Ct l yX7_clearKnots cX7_clearKnots 2 (none) rm_X7_clearKnots [.ref p] h none h2 := by
  refine am_met2 [(0, .ref p)] (by decide) (Nat.le_of_ble_eq_true rfl) rfl ?_
  generalize hK : (fun (v : Option Value) (h3 : am_H) => v = none ∧ h3 = h2) = K
  have HK : K none h2 := by rw [← hK]; exact ⟨rfl, rfl⟩
  clear hK
  unfold mi_X7_clearKnots at hm
  obtain ⟨_n, _hn, hm⟩ := am_bs hm
  refine r_iconst 0 dX7_clearKnots_0 (by decide) ?_
  refine r_istore_n [(1, .int 0), (0, .ref p)] dX7_clearKnots_1 (by decide) rfl ?_
  obtain ⟨hq1, ew, hm⟩ := am_bs hm
  try dsimp only at hm
  refine r_lv [1, 0] _ rfl (ll_X7_clearKnots_2 l f p _ f 0 h _ ew ?_)
  cases hm
  exact r_return dX7_clearKnots_28 rfl (by decide) HK
def mi_X7_has (f : Nat) (h : am_H) (a : Int32) (b : Int32) : Option Bool :=
  Option.bind ((if ((a >>> (b &&& 31)) &&& 1) = 1 then
  (some true)
  else (some false))) fun jq1 =>
  some jq1
set_option maxHeartbeats 4000000 in
set_option maxRecDepth 100000 in
theorem ct_X7_has (l : Launch) {f : Nat} {h : am_H} {a : Int32} {b : Int32} {r : Bool} (hm : mi_X7_has f h a b = some r) : am_Ct l yX7_has cX7_has 2 (some .boolean) rm_X7_has [.int a, .int b] h (some (.int (am_b r))) h := by
  refine am_met2 [(0, .int a), (1, .int b)] (by decide) (Nat.le_of_ble_eq_true rfl) rfl ?_
  generalize hK : (fun (v : Option Value) (h3 : am_H) => v = (some (.int (am_b r))) ∧ h3 = h) = K
  have HK : K (some (.int (am_b r))) h := by rw [← hK]; exact ⟨rfl, rfl⟩
  clear hK
  unfold mi_X7_has at hm
  refine r_iload_n 0 dX7_has_0 rfl ?_
  refine r_iload_n 1 dX7_has_1 rfl ?_
  refine r_ishr dX7_has_2 ?_
  refine r_iconst 1 dX7_has_3 (by decide) ?_
  refine r_iand dX7_has_4 ?_
  refine r_iconst 1 dX7_has_5 (by decide) ?_
  obtain ⟨jq1, hw, hm⟩ := am_bs hm
  try dsimp only at hm
  have HJ : am_R l yX7_has cX7_has 2 (some .boolean) rm_X7_has (fun _ _ _ => True) 0 0 14 [] [.int (am_b jq1)] h K := by
    cases hm
    exact r_zreturn _ dX7_has_14 rfl (by decide) HK
  clear hm
  have hm := hw
  clear hw
  refine r_icmp_ne 13 dX7_has_6 (by decide) (fun q => ?_) (fun q => ?_)
  · rw [if_neg q] at hm
    refine r_iconst 0 dX7_has_13 (by decide) ?_
    cases hm
    exact r_lv [] _ rfl HJ
  · rw [if_pos q] at hm
    refine r_iconst 1 dX7_has_9 (by decide) ?_
    refine r_goto 14 dX7_has_10 (by decide) ?_
    cases hm
    exact r_lv [] _ rfl HJ
def mi_X7_spanOf (f : Nat) (h : am_H) (p : Nat) (a : Int32) (b : Int32) : Option Int32 :=
  Option.bind (am_cls h 7 p) fun _n =>
  Option.bind (am_gr h 7 p 0) fun xq1 =>
  Option.bind (am_li h 9 xq1 ((((17 : Int32) * a) + 1) + b)) fun xq2 =>
  some xq2
theorem cs_X7_spanOf {f : Nat} {h : am_H} {p : Nat} {a : Int32} {b : Int32} {z : Int32} (hm : mi_X7_spanOf f h p a b = some z) : ∃ n, h.1[p]? = some (7, n) := by
  unfold mi_X7_spanOf at hm
  obtain ⟨n, hn, -⟩ := am_bs hm
  exact ⟨n, am_cls_of hn⟩
set_option maxHeartbeats 4000000 in
set_option maxRecDepth 100000 in
theorem ct_X7_spanOf (l : Launch) {f : Nat} {h : am_H} {p : Nat} {a : Int32} {b : Int32} {r : Int32} (hm : mi_X7_spanOf f h p a b = some r) : am_Ct l yX7_spanOf cX7_spanOf 3 (some .int) rm_X7_spanOf [.ref p, .int a, .int b] h (some (.int r)) h := by
  refine am_met2 [(0, .ref p), (1, .int a), (2, .int b)] (by decide) (Nat.le_of_ble_eq_true rfl) rfl ?_
  generalize hK : (fun (v : Option Value) (h3 : am_H) => v = (some (.int r)) ∧ h3 = h) = K
  have HK : K (some (.int r)) h := by rw [← hK]; exact ⟨rfl, rfl⟩
  clear hK
  unfold mi_X7_spanOf at hm
  obtain ⟨_n, _hn, hm⟩ := am_bs hm
  refine r_aload_n 0 dX7_spanOf_0 rfl ?_
  obtain ⟨xq1, exq1, hm⟩ := am_bs hm
  refine r_getr exq1 fl_X7_7 rfl dX7_spanOf_1 ?_
  refine r_bipush 17 dX7_spanOf_4 (by decide) ?_
  refine r_iload_n 1 dX7_spanOf_6 rfl ?_
  refine r_imul dX7_spanOf_7 ?_
  refine r_iconst 1 dX7_spanOf_8 (by decide) ?_
  refine r_iadd dX7_spanOf_9 ?_
  refine r_iload_n 2 dX7_spanOf_10 rfl ?_
  refine r_iadd dX7_spanOf_11 ?_
  obtain ⟨xq2, exq2, hm⟩ := am_bs hm
  refine r_iald exq2 dX7_spanOf_12 ?_
  cases hm
  exact r_ireturn dX7_spanOf_13 rfl (by decide) HK
def mi_X7_fromOf (f : Nat) (h : am_H) (a : Int32) : Option Int32 :=
  some ((a / 16) - (a / 16) / 16 * 16)
set_option maxHeartbeats 4000000 in
set_option maxRecDepth 100000 in
theorem ct_X7_fromOf (l : Launch) {f : Nat} {h : am_H} {a : Int32} {r : Int32} (hm : mi_X7_fromOf f h a = some r) : am_Ct l yX7_fromOf cX7_fromOf 1 (some .int) rm_X7_fromOf [.int a] h (some (.int r)) h := by
  refine am_met2 [(0, .int a)] (by decide) (Nat.le_of_ble_eq_true rfl) rfl ?_
  generalize hK : (fun (v : Option Value) (h3 : am_H) => v = (some (.int r)) ∧ h3 = h) = K
  have HK : K (some (.int r)) h := by rw [← hK]; exact ⟨rfl, rfl⟩
  clear hK
  unfold mi_X7_fromOf at hm
  refine r_iload_n 0 dX7_fromOf_0 rfl ?_
  refine r_bipush 16 dX7_fromOf_1 (by decide) ?_
  refine r_idiv dX7_fromOf_3 (by decide) ?_
  refine r_bipush 16 dX7_fromOf_4 (by decide) ?_
  refine r_irem dX7_fromOf_6 (by decide) ?_
  cases hm
  exact r_ireturn dX7_fromOf_7 rfl (by decide) HK
def mi_X7_toOf (f : Nat) (h : am_H) (a : Int32) : Option Int32 :=
  some (a - a / 16 * 16)
set_option maxHeartbeats 4000000 in
set_option maxRecDepth 100000 in
theorem ct_X7_toOf (l : Launch) {f : Nat} {h : am_H} {a : Int32} {r : Int32} (hm : mi_X7_toOf f h a = some r) : am_Ct l yX7_toOf cX7_toOf 1 (some .int) rm_X7_toOf [.int a] h (some (.int r)) h := by
  refine am_met2 [(0, .int a)] (by decide) (Nat.le_of_ble_eq_true rfl) rfl ?_
  generalize hK : (fun (v : Option Value) (h3 : am_H) => v = (some (.int r)) ∧ h3 = h) = K
  have HK : K (some (.int r)) h := by rw [← hK]; exact ⟨rfl, rfl⟩
  clear hK
  unfold mi_X7_toOf at hm
  refine r_iload_n 0 dX7_toOf_0 rfl ?_
  refine r_bipush 16 dX7_toOf_1 (by decide) ?_
  refine r_irem dX7_toOf_3 (by decide) ?_
  cases hm
  exact r_ireturn dX7_toOf_4 rfl (by decide) HK
def mi_X7_livesAt (f : Nat) (h : am_H) (a : Int32) (b : Int32) : Option Bool :=
  Option.bind (mi_X7_fromOf f h a) fun xq1 =>
  Option.bind ((if b < xq1 then
  (some false)
  else (Option.bind (mi_X7_toOf f h a) fun xq3 =>
  (if xq3 < b then
  (some false)
  else (some true))))) fun jq2 =>
  some jq2
set_option maxHeartbeats 4000000 in
set_option maxRecDepth 100000 in
theorem ct_X7_livesAt (l : Launch) {f : Nat} {h : am_H} {a : Int32} {b : Int32} {r : Bool} (hm : mi_X7_livesAt f h a b = some r) : am_Ct l yX7_livesAt cX7_livesAt 2 (some .boolean) rm_X7_livesAt [.int a, .int b] h (some (.int (am_b r))) h := by
  refine am_met2 [(0, .int a), (1, .int b)] (by decide) (Nat.le_of_ble_eq_true rfl) rfl ?_
  generalize hK : (fun (v : Option Value) (h3 : am_H) => v = (some (.int (am_b r))) ∧ h3 = h) = K
  have HK : K (some (.int (am_b r))) h := by rw [← hK]; exact ⟨rfl, rfl⟩
  clear hK
  unfold mi_X7_livesAt at hm
  refine r_iload_n 1 dX7_livesAt_0 rfl ?_
  refine r_iload_n 0 dX7_livesAt_1 rfl ?_
  obtain ⟨xq1, exq1, hm⟩ := am_bs hm
  refine r_cS1 [.int a] (ct_X7_fromOf l exq1) sm_X7_64 (by decide) ⟨rfl, rfl⟩ rfl (Nat.le_of_ble_eq_true rfl) dX7_livesAt_2 ?_
  obtain ⟨jq2, hw, hm⟩ := am_bs hm
  try dsimp only at hm
  have HJ : am_R l yX7_livesAt cX7_livesAt 2 (some .boolean) rm_X7_livesAt (fun _ _ _ => True) 0 0 21 [] [.int (am_b jq2)] h K := by
    cases hm
    exact r_zreturn _ dX7_livesAt_21 rfl (by decide) HK
  clear hm
  have hm := hw
  clear hw
  refine r_icmp_lt 20 dX7_livesAt_5 (by decide) (fun q => ?_) (fun q => ?_)
  · rw [if_pos q] at hm
    refine r_iconst 0 dX7_livesAt_20 (by decide) ?_
    cases hm
    exact r_lv [] _ rfl HJ
  · rw [if_neg q] at hm
    refine r_iload_n 1 dX7_livesAt_8 rfl ?_
    refine r_iload_n 0 dX7_livesAt_9 rfl ?_
    obtain ⟨xq3, exq3, hm⟩ := am_bs hm
    refine r_cS1 [.int a] (ct_X7_toOf l exq3) sm_X7_68 (by decide) ⟨rfl, rfl⟩ rfl (Nat.le_of_ble_eq_true rfl) dX7_livesAt_10 ?_
    refine r_icmp_gt 20 dX7_livesAt_13 (by decide) (fun q => ?_) (fun q => ?_)
    · rw [if_pos q] at hm
      refine r_iconst 0 dX7_livesAt_20 (by decide) ?_
      cases hm
      exact r_lv [] _ rfl HJ
    · rw [if_neg q] at hm
      refine r_iconst 1 dX7_livesAt_16 (by decide) ?_
      refine r_goto 21 dX7_livesAt_17 (by decide) ?_
      cases hm
      exact r_lv [] _ rfl HJ
def mi_X7_lowOf (f : Nat) (h : am_H) (a : Int32) : Option Int32 :=
  some (a / 2048)
set_option maxHeartbeats 4000000 in
set_option maxRecDepth 100000 in
theorem ct_X7_lowOf (l : Launch) {f : Nat} {h : am_H} {a : Int32} {r : Int32} (hm : mi_X7_lowOf f h a = some r) : am_Ct l yX7_lowOf cX7_lowOf 1 (some .int) rm_X7_lowOf [.int a] h (some (.int r)) h := by
  refine am_met2 [(0, .int a)] (by decide) (Nat.le_of_ble_eq_true rfl) rfl ?_
  generalize hK : (fun (v : Option Value) (h3 : am_H) => v = (some (.int r)) ∧ h3 = h) = K
  have HK : K (some (.int r)) h := by rw [← hK]; exact ⟨rfl, rfl⟩
  clear hK
  unfold mi_X7_lowOf at hm
  refine r_iload_n 0 dX7_lowOf_0 rfl ?_
  refine r_sipush 2048 dX7_lowOf_1 (by decide) ?_
  refine r_idiv dX7_lowOf_4 (by decide) ?_
  cases hm
  exact r_ireturn dX7_lowOf_5 rfl (by decide) HK
def lo_X7_rootOf_2 (f : Nat) (h : am_H) (a0 : Nat) : Nat → Int32 → Option (Int32)
  | 0, _ => none
  | n + 1, a2 =>
  Option.bind (am_gr h 7 a0 7) fun xq1 =>
  Option.bind (am_li h 9 xq1 a2) fun xq2 =>
  (if xq2 = a2 then
  (some a2)
  else (Option.bind (am_gr h 7 a0 7) fun xq3 =>
  Option.bind (am_li h 9 xq3 a2) fun xq4 =>
  lo_X7_rootOf_2 f h a0 n xq4))
set_option maxHeartbeats 4000000 in
set_option maxRecDepth 100000 in
theorem ll_X7_rootOf_2 (l : Launch) (f : Nat) (h : am_H) (a0 : Nat) (K : Option Value → am_H → Prop) : ∀ (n : Nat) (a2 : Int32) (z : Int32), lo_X7_rootOf_2 f h a0 n a2 = some z →
    am_R l yX7_rootOf cX7_rootOf 3 (some .int) rm_X7_rootOf (fun _ _ _ => True) 0 0 22 [(2, .int z)] [] h K →
    am_R l yX7_rootOf cX7_rootOf 3 (some .int) rm_X7_rootOf (fun _ _ _ => True) 0 0 2 [(0, .ref a0), (2, .int a2)] [] h K := by
  intro n
  induction n with
  | zero =>
    intro a2 z hm kE
    cases hm
  | succ n ih =>
    intro a2 z hm kE
    rw [lo_X7_rootOf_2.eq_2] at hm
    refine r_aload_n 0 dX7_rootOf_2 rfl ?_
    obtain ⟨xq1, exq1, hm⟩ := am_bs hm
    refine r_getr exq1 fl_X7_22 rfl dX7_rootOf_3 ?_
    refine r_iload_n 1 dX7_rootOf_6 rfl ?_
    obtain ⟨xq2, exq2, hm⟩ := am_bs hm
    refine r_iald exq2 dX7_rootOf_7 ?_
    refine r_iload_n 1 dX7_rootOf_8 rfl ?_
    refine r_icmp_eq 22 dX7_rootOf_9 (by decide) (fun q => ?_) (fun q => ?_)
    · rw [if_pos q] at hm
      cases hm
      exact r_lv [1] _ rfl kE
    · rw [if_neg q] at hm
      refine r_aload_n 0 dX7_rootOf_12 rfl ?_
      obtain ⟨xq3, exq3, hm⟩ := am_bs hm
      refine r_getr exq3 fl_X7_22 rfl dX7_rootOf_13 ?_
      refine r_iload_n 1 dX7_rootOf_16 rfl ?_
      obtain ⟨xq4, exq4, hm⟩ := am_bs hm
      refine r_iald exq4 dX7_rootOf_17 ?_
      refine r_istore_n [(2, .int xq4), (0, .ref a0)] dX7_rootOf_18 (by decide) rfl ?_
      refine r_goto 2 dX7_rootOf_19 (by decide) ?_
      exact r_lv [1, 0] _ rfl (ih xq4 _ hm kE)
def mi_X7_rootOf (f : Nat) (h : am_H) (p : Nat) (a : Int32) : Option Int32 :=
  Option.bind (am_cls h 7 p) fun _n =>
  Option.bind (lo_X7_rootOf_2 f h p f a) fun oq1 =>
  some oq1
theorem cs_X7_rootOf {f : Nat} {h : am_H} {p : Nat} {a : Int32} {z : Int32} (hm : mi_X7_rootOf f h p a = some z) : ∃ n, h.1[p]? = some (7, n) := by
  unfold mi_X7_rootOf at hm
  obtain ⟨n, hn, -⟩ := am_bs hm
  exact ⟨n, am_cls_of hn⟩
set_option maxHeartbeats 4000000 in
set_option maxRecDepth 100000 in
theorem ct_X7_rootOf (l : Launch) {f : Nat} {h : am_H} {p : Nat} {a : Int32} {r : Int32} (hm : mi_X7_rootOf f h p a = some r) : am_Ct l yX7_rootOf cX7_rootOf 3 (some .int) rm_X7_rootOf [.ref p, .int a] h (some (.int r)) h := by
  refine am_met2 [(0, .ref p), (1, .int a)] (by decide) (Nat.le_of_ble_eq_true rfl) rfl ?_
  generalize hK : (fun (v : Option Value) (h3 : am_H) => v = (some (.int r)) ∧ h3 = h) = K
  have HK : K (some (.int r)) h := by rw [← hK]; exact ⟨rfl, rfl⟩
  clear hK
  unfold mi_X7_rootOf at hm
  obtain ⟨_n, _hn, hm⟩ := am_bs hm
  refine r_iload_n 1 dX7_rootOf_0 rfl ?_
  refine r_istore_n [(2, .int a), (0, .ref p), (1, .int a)] dX7_rootOf_1 (by decide) rfl ?_
  obtain ⟨oq1, ew, hm⟩ := am_bs hm
  try dsimp only at hm
  refine r_lv [1, 0] _ rfl (ll_X7_rootOf_2 l f h p _ f a _ ew ?_)
  refine r_iload_n 0 dX7_rootOf_22 rfl ?_
  cases hm
  exact r_ireturn dX7_rootOf_23 rfl (by decide) HK
def mi_X7_highOf (f : Nat) (h : am_H) (a : Int32) : Option Int32 :=
  some ((a / 256) - (a / 256) / 8 * 8)
set_option maxHeartbeats 4000000 in
set_option maxRecDepth 100000 in
theorem ct_X7_highOf (l : Launch) {f : Nat} {h : am_H} {a : Int32} {r : Int32} (hm : mi_X7_highOf f h a = some r) : am_Ct l yX7_highOf cX7_highOf 1 (some .int) rm_X7_highOf [.int a] h (some (.int r)) h := by
  refine am_met2 [(0, .int a)] (by decide) (Nat.le_of_ble_eq_true rfl) rfl ?_
  generalize hK : (fun (v : Option Value) (h3 : am_H) => v = (some (.int r)) ∧ h3 = h) = K
  have HK : K (some (.int r)) h := by rw [← hK]; exact ⟨rfl, rfl⟩
  clear hK
  unfold mi_X7_highOf at hm
  refine r_iload_n 0 dX7_highOf_0 rfl ?_
  refine r_sipush 256 dX7_highOf_1 (by decide) ?_
  refine r_idiv dX7_highOf_4 (by decide) ?_
  refine r_bipush 8 dX7_highOf_5 (by decide) ?_
  refine r_irem dX7_highOf_7 (by decide) ?_
  cases hm
  exact r_ireturn dX7_highOf_8 rfl (by decide) HK
def mi_X7_joins (f : Nat) (h : am_H) (p : Nat) (a : Int32) : Option (Bool × am_H) :=
  Option.bind (am_cls h 7 p) fun _n =>
  Option.bind (mi_X7_lowOf f h a) fun xq1 =>
  Option.bind (mi_X7_rootOf f h p xq1) fun xq2 =>
  Option.bind (mi_X7_highOf f h a) fun xq3 =>
  Option.bind (mi_X7_rootOf f h p xq3) fun xq4 =>
  (if xq2 = xq4 then
  (some (false, h))
  else (Option.bind (am_gr h 7 p 8) fun xq5 =>
  Option.bind (am_li h 9 xq5 xq4) fun xq6 =>
  Option.bind (am_gr h 7 p 8) fun xq7 =>
  Option.bind (am_li h 9 xq7 xq2) fun xq8 =>
  Option.bind ((if xq6 < xq8 then
  (some true)
  else (Option.bind (am_gr h 7 p 8) fun xq19 =>
  Option.bind (am_li h 9 xq19 xq2) fun xq20 =>
  Option.bind (am_gr h 7 p 8) fun xq21 =>
  Option.bind (am_li h 9 xq21 xq4) fun xq22 =>
  (if xq20 = xq22 then
  ((if xq4 ≤ xq2 then
  (some false)
  else (some true)))
  else (some false))))) fun jq9 =>
  Option.bind ((if jq9 = true then
  (some xq4)
  else (some xq2))) fun jq10 =>
  Option.bind ((if jq9 = true then
  (some xq2)
  else (some xq4))) fun jq11 =>
  Option.bind (am_gr h 7 p 7) fun xq12 =>
  Option.bind (am_si h 9 xq12 jq10 jq11) fun hq13 =>
  Option.bind (am_gr hq13 7 p 8) fun xq14 =>
  Option.bind (am_li hq13 9 xq14 jq11) fun xq15 =>
  Option.bind (am_gr hq13 7 p 8) fun xq16 =>
  Option.bind (am_li hq13 9 xq16 jq10) fun xq17 =>
  Option.bind (am_si hq13 9 xq14 jq11 (xq15 + xq17)) fun hq18 =>
  some (true, hq18)))
theorem cs_X7_joins {f : Nat} {h : am_H} {p : Nat} {a : Int32} {z : (Bool × am_H)} (hm : mi_X7_joins f h p a = some z) : ∃ n, h.1[p]? = some (7, n) := by
  unfold mi_X7_joins at hm
  obtain ⟨n, hn, -⟩ := am_bs hm
  exact ⟨n, am_cls_of hn⟩
set_option maxHeartbeats 4000000 in
set_option maxRecDepth 100000 in
theorem ct_X7_joins (l : Launch) {f : Nat} {h : am_H} {p : Nat} {a : Int32} {r : Bool} {h2 : am_H} (hm : mi_X7_joins f h p a = some (r, h2)) : am_Ct l yX7_joins cX7_joins 7 (some .boolean) rm_X7_joins [.ref p, .int a] h (some (.int (am_b r))) h2 := by
  refine am_met2 [(0, .ref p), (1, .int a)] (by decide) (Nat.le_of_ble_eq_true rfl) rfl ?_
  generalize hK : (fun (v : Option Value) (h3 : am_H) => v = (some (.int (am_b r))) ∧ h3 = h2) = K
  have HK : K (some (.int (am_b r))) h2 := by rw [← hK]; exact ⟨rfl, rfl⟩
  clear hK
  unfold mi_X7_joins at hm
  obtain ⟨_n, _hn, hm⟩ := am_bs hm
  refine r_aload_n 0 dX7_joins_0 rfl ?_
  refine r_iload_n 1 dX7_joins_1 rfl ?_
  obtain ⟨xq1, exq1, hm⟩ := am_bs hm
  refine r_cS1 [.int a] (ct_X7_lowOf l exq1) sm_X7_112 (by decide) ⟨rfl, rfl⟩ rfl (Nat.le_of_ble_eq_true rfl) dX7_joins_2 ?_
  obtain ⟨xq2, exq2, hm⟩ := am_bs hm
  refine r_cV1 [.int xq1] (ct_X7_rootOf l exq2) vm_X7_176 (cs_X7_rootOf exq2) (by decide) ⟨rfl, rfl⟩ rfl (Nat.le_of_ble_eq_true rfl) dX7_joins_5 ?_
  refine r_istore_n [(2, .int xq2), (0, .ref p), (1, .int a)] dX7_joins_8 (by decide) rfl ?_
  refine r_aload_n 1 dX7_joins_9 rfl ?_
  refine r_iload_n 2 dX7_joins_10 rfl ?_
  obtain ⟨xq3, exq3, hm⟩ := am_bs hm
  refine r_cS1 [.int a] (ct_X7_highOf l exq3) sm_X7_115 (by decide) ⟨rfl, rfl⟩ rfl (Nat.le_of_ble_eq_true rfl) dX7_joins_11 ?_
  obtain ⟨xq4, exq4, hm⟩ := am_bs hm
  refine r_cV1 [.int xq3] (ct_X7_rootOf l exq4) vm_X7_176 (cs_X7_rootOf exq4) (by decide) ⟨rfl, rfl⟩ rfl (Nat.le_of_ble_eq_true rfl) dX7_joins_14 ?_
  refine r_istore_n [(3, .int xq4), (2, .int xq2), (0, .ref p), (1, .int a)] dX7_joins_17 (by decide) rfl ?_
  refine r_iload_n 1 dX7_joins_18 rfl ?_
  refine r_iload_n 0 dX7_joins_19 rfl ?_
  refine r_icmp_ne 25 dX7_joins_20 (by decide) (fun q => ?_) (fun q => ?_)
  · rw [if_neg q] at hm
    refine r_aload_n 2 dX7_joins_25 rfl ?_
    obtain ⟨xq5, exq5, hm⟩ := am_bs hm
    refine r_getr exq5 fl_X7_25 rfl dX7_joins_26 ?_
    refine r_iload_n 0 dX7_joins_29 rfl ?_
    obtain ⟨xq6, exq6, hm⟩ := am_bs hm
    refine r_iald exq6 dX7_joins_30 ?_
    refine r_aload_n 2 dX7_joins_31 rfl ?_
    obtain ⟨xq7, exq7, hm⟩ := am_bs hm
    refine r_getr exq7 fl_X7_25 rfl dX7_joins_32 ?_
    refine r_iload_n 1 dX7_joins_35 rfl ?_
    obtain ⟨xq8, exq8, hm⟩ := am_bs hm
    refine r_iald exq8 dX7_joins_36 ?_
    obtain ⟨jq9, hw, hm⟩ := am_bs hm
    try dsimp only at hm
    have HJ : am_R l yX7_joins cX7_joins 7 (some .boolean) rm_X7_joins (fun _ _ _ => True) 0 0 65 [(0, .ref p), (2, .int xq2), (3, .int xq4)] [.int (am_b jq9)] h K := by
      refine r_istore [(4, .int (am_b jq9)), (0, .ref p), (2, .int xq2), (3, .int xq4)] dX7_joins_65 (by decide) rfl ?_
      refine r_iload 0 dX7_joins_67 rfl ?_
      obtain ⟨jq10, hw, hm⟩ := am_bs hm
      try dsimp only at hm
      have HJ : am_R l yX7_joins cX7_joins 7 (some .boolean) rm_X7_joins (fun _ _ _ => True) 0 0 77 [(0, .ref p), (2, .int xq2), (3, .int xq4), (4, .int (am_b jq9))] [.int jq10] h K := by
        refine r_istore [(5, .int jq10), (0, .ref p), (2, .int xq2), (3, .int xq4), (4, .int (am_b jq9))] dX7_joins_77 (by decide) rfl ?_
        refine r_iload 4 dX7_joins_79 rfl ?_
        obtain ⟨jq11, hw, hm⟩ := am_bs hm
        try dsimp only at hm
        have HJ : am_R l yX7_joins cX7_joins 7 (some .boolean) rm_X7_joins (fun _ _ _ => True) 0 0 89 [(0, .ref p), (5, .int jq10)] [.int jq11] h K := by
          refine r_istore [(6, .int jq11), (0, .ref p), (5, .int jq10)] dX7_joins_89 (by decide) rfl ?_
          refine r_aload_n 1 dX7_joins_91 rfl ?_
          obtain ⟨xq12, exq12, hm⟩ := am_bs hm
          refine r_getr exq12 fl_X7_22 rfl dX7_joins_92 ?_
          refine r_iload 2 dX7_joins_95 rfl ?_
          refine r_iload 0 dX7_joins_97 rfl ?_
          obtain ⟨hq13, ehq13, hm⟩ := am_bs hm
          refine r_iast ehq13 dX7_joins_99 ?_
          refine r_aload_n 1 dX7_joins_100 rfl ?_
          obtain ⟨xq14, exq14, hm⟩ := am_bs hm
          refine r_getr exq14 fl_X7_25 rfl dX7_joins_101 ?_
          refine r_iload 0 dX7_joins_104 rfl ?_
          refine r_dup2 dX7_joins_106 rfl rfl ?_
          obtain ⟨xq15, exq15, hm⟩ := am_bs hm
          refine r_iald exq15 dX7_joins_107 ?_
          refine r_aload_n 1 dX7_joins_108 rfl ?_
          obtain ⟨xq16, exq16, hm⟩ := am_bs hm
          refine r_getr exq16 fl_X7_25 rfl dX7_joins_109 ?_
          refine r_iload 2 dX7_joins_112 rfl ?_
          obtain ⟨xq17, exq17, hm⟩ := am_bs hm
          refine r_iald exq17 dX7_joins_114 ?_
          refine r_iadd dX7_joins_115 ?_
          obtain ⟨hq18, ehq18, hm⟩ := am_bs hm
          refine r_iast ehq18 dX7_joins_116 ?_
          refine r_iconst 1 dX7_joins_117 (by decide) ?_
          cases hm
          exact r_zreturn true dX7_joins_118 rfl (by decide) HK
        clear hm
        have hm := hw
        clear hw
        refine r_if_eq 88 dX7_joins_81 (by decide) (fun q => ?_) (fun q => ?_)
        · rw [if_neg (show ¬ jq9 = true from by rw [am_b0 q]; decide)] at hm
          refine r_iload_n 3 dX7_joins_88 rfl ?_
          cases hm
          exact r_lv [1, 0] _ rfl HJ
        · rw [if_pos (show jq9 = true from am_b1 q)] at hm
          refine r_iload_n 2 dX7_joins_84 rfl ?_
          refine r_goto 89 dX7_joins_85 (by decide) ?_
          cases hm
          exact r_lv [1, 0] _ rfl HJ
      clear hm
      have hm := hw
      clear hw
      refine r_if_eq 76 dX7_joins_69 (by decide) (fun q => ?_) (fun q => ?_)
      · rw [if_neg (show ¬ jq9 = true from by rw [am_b0 q]; decide)] at hm
        refine r_iload_n 2 dX7_joins_76 rfl ?_
        cases hm
        exact r_lv [1, 2, 3, 0] _ rfl HJ
      · rw [if_pos (show jq9 = true from am_b1 q)] at hm
        refine r_iload_n 3 dX7_joins_72 rfl ?_
        refine r_goto 77 dX7_joins_73 (by decide) ?_
        cases hm
        exact r_lv [1, 2, 3, 0] _ rfl HJ
    clear hm
    have hm := hw
    clear hw
    refine r_icmp_lt 60 dX7_joins_37 (by decide) (fun q => ?_) (fun q => ?_)
    · rw [if_pos q] at hm
      refine r_iconst 1 dX7_joins_60 (by decide) ?_
      refine r_goto 65 dX7_joins_61 (by decide) ?_
      cases hm
      exact r_lv [2, 1, 0] _ rfl HJ
    · rw [if_neg q] at hm
      refine r_aload_n 2 dX7_joins_40 rfl ?_
      obtain ⟨xq19, exq19, hm⟩ := am_bs hm
      refine r_getr exq19 fl_X7_25 rfl dX7_joins_41 ?_
      refine r_iload_n 1 dX7_joins_44 rfl ?_
      obtain ⟨xq20, exq20, hm⟩ := am_bs hm
      refine r_iald exq20 dX7_joins_45 ?_
      refine r_aload_n 2 dX7_joins_46 rfl ?_
      obtain ⟨xq21, exq21, hm⟩ := am_bs hm
      refine r_getr exq21 fl_X7_25 rfl dX7_joins_47 ?_
      refine r_iload_n 0 dX7_joins_50 rfl ?_
      obtain ⟨xq22, exq22, hm⟩ := am_bs hm
      refine r_iald exq22 dX7_joins_51 ?_
      refine r_icmp_ne 64 dX7_joins_52 (by decide) (fun q => ?_) (fun q => ?_)
      · rw [if_neg q] at hm
        refine r_iconst 0 dX7_joins_64 (by decide) ?_
        cases hm
        exact r_lv [2, 1, 0] _ rfl HJ
      · rw [if_pos q] at hm
        refine r_iload_n 0 dX7_joins_55 rfl ?_
        refine r_iload_n 1 dX7_joins_56 rfl ?_
        refine r_icmp_le 64 dX7_joins_57 (by decide) (fun q => ?_) (fun q => ?_)
        · rw [if_pos q] at hm
          refine r_iconst 0 dX7_joins_64 (by decide) ?_
          cases hm
          exact r_lv [2, 1, 0] _ rfl HJ
        · rw [if_neg q] at hm
          refine r_iconst 1 dX7_joins_60 (by decide) ?_
          refine r_goto 65 dX7_joins_61 (by decide) ?_
          cases hm
          exact r_lv [2, 1, 0] _ rfl HJ
  · rw [if_pos q] at hm
    refine r_iconst 0 dX7_joins_23 (by decide) ?_
    cases hm
    exact r_zreturn false dX7_joins_24 rfl (by decide) HK
def lo_X7_partsBy_11 (f : Nat) (a0 : Nat) (a1 : Int32) (a2 : Int32) (a3 : Int32) : Nat → Int32 → Int32 → am_H → Option (Int32 × am_H)
  | 0, _, _, _ => none
  | n + 1, a4, a5, h =>
  Option.bind (mi_X7_many f h a0 a1) fun xq1 =>
  (if xq1 ≤ a5 then
  (some (a4, h))
  else (Option.bind (mi_X7_has f h a3 a5) fun xq2 =>
  Option.bind ((if xq2 = true then
  (Option.bind (mi_X7_spanOf f h a0 a1 a5) fun xq5 =>
  Option.bind (mi_X7_livesAt f h xq5 a2) fun xq6 =>
  (if xq6 = true then
  (Option.bind (mi_X7_spanOf f h a0 a1 a5) fun xq7 =>
  Option.bind (mi_X7_joins f h a0 xq7) fun (xq8, hq9) =>
  (if xq8 = true then
  (some (true, hq9))
  else (some (false, hq9))))
  else (some (false, h))))
  else (some (false, h)))) fun (jq3, hq4) =>
  lo_X7_partsBy_11 f a0 a1 a2 a3 n (a4 - (am_b jq3)) (a5 + 1) hq4))
set_option maxHeartbeats 4000000 in
set_option maxRecDepth 100000 in
theorem ll_X7_partsBy_11 (l : Launch) (f : Nat) (a0 : Nat) (a1 : Int32) (a2 : Int32) (a3 : Int32) (K : Option Value → am_H → Prop) : ∀ (n : Nat) (a4 : Int32) (a5 : Int32) (h : am_H) (z : Int32 × am_H), lo_X7_partsBy_11 f a0 a1 a2 a3 n a4 a5 h = some z →
    am_R l yX7_partsBy cX7_partsBy 6 (some .int) rm_X7_partsBy (fun _ _ _ => True) 0 0 74 [(4, .int z.1)] [] z.2 K →
    am_R l yX7_partsBy cX7_partsBy 6 (some .int) rm_X7_partsBy (fun _ _ _ => True) 0 0 11 [(0, .ref a0), (1, .int a1), (2, .int a2), (3, .int a3), (4, .int a4), (5, .int a5)] [] h K := by
  intro n
  induction n with
  | zero =>
    intro a4 a5 h z hm kE
    cases hm
  | succ n ih =>
    intro a4 a5 h z hm kE
    rw [lo_X7_partsBy_11.eq_2] at hm
    refine r_iload 5 dX7_partsBy_11 rfl ?_
    refine r_aload_n 0 dX7_partsBy_13 rfl ?_
    refine r_iload_n 1 dX7_partsBy_14 rfl ?_
    obtain ⟨xq1, exq1, hm⟩ := am_bs hm
    refine r_cV1 [.int a1] (ct_X7_many l exq1) vm_X7_105 (cs_X7_many exq1) (by decide) ⟨rfl, rfl⟩ rfl (Nat.le_of_ble_eq_true rfl) dX7_partsBy_15 ?_
    refine r_icmp_ge 74 dX7_partsBy_18 (by decide) (fun q => ?_) (fun q => ?_)
    · rw [if_pos q] at hm
      cases hm
      exact r_lv [4] _ rfl kE
    · rw [if_neg q] at hm
      refine r_iload 4 dX7_partsBy_21 rfl ?_
      refine r_iload_n 3 dX7_partsBy_23 rfl ?_
      refine r_iload 5 dX7_partsBy_24 rfl ?_
      obtain ⟨xq2, exq2, hm⟩ := am_bs hm
      refine r_cS1 [.int a3, .int a5] (ct_X7_has l exq2) sm_X7_185 (by decide) ⟨rfl, rfl⟩ rfl (Nat.le_of_ble_eq_true rfl) dX7_partsBy_26 ?_
      obtain ⟨⟨jq3, hq4⟩, hw, hm⟩ := am_bs hm
      try dsimp only at hm
      have HJ : am_R l yX7_partsBy cX7_partsBy 6 (some .int) rm_X7_partsBy (fun _ _ _ => True) 0 0 65 [(0, .ref a0), (1, .int a1), (2, .int a2), (3, .int a3), (5, .int a5)] [.int (am_b jq3), .int a4] hq4 K := by
        refine r_isub dX7_partsBy_65 ?_
        refine r_istore [(4, .int (a4 - (am_b jq3))), (0, .ref a0), (1, .int a1), (2, .int a2), (3, .int a3), (5, .int a5)] dX7_partsBy_66 (by decide) rfl ?_
        refine r_inc 1 5 [(5, .int (a5 + 1)), (4, .int (a4 - (am_b jq3))), (0, .ref a0), (1, .int a1), (2, .int a2), (3, .int a3)] dX7_partsBy_68 (by decide) rfl (by decide) rfl ?_
        refine r_goto 11 dX7_partsBy_71 (by decide) ?_
        exact r_lv [2, 3, 4, 5, 1, 0] _ rfl (ih (a4 - (am_b jq3)) (a5 + 1) hq4 _ hm kE)
      clear hm
      have hm := hw
      clear hw
      refine r_if_eq 64 dX7_partsBy_29 (by decide) (fun q => ?_) (fun q => ?_)
      · rw [if_neg (show ¬ xq2 = true from by rw [am_b0 q]; decide)] at hm
        refine r_iconst 0 dX7_partsBy_64 (by decide) ?_
        cases hm
        exact r_lv [0, 1, 2, 3, 5] _ rfl HJ
      · rw [if_pos (show xq2 = true from am_b1 q)] at hm
        refine r_aload_n 0 dX7_partsBy_32 rfl ?_
        refine r_iload_n 1 dX7_partsBy_33 rfl ?_
        refine r_iload 5 dX7_partsBy_34 rfl ?_
        obtain ⟨xq5, exq5, hm⟩ := am_bs hm
        refine r_cV1 [.int a1, .int a5] (ct_X7_spanOf l exq5) vm_X7_108 (cs_X7_spanOf exq5) (by decide) ⟨rfl, rfl⟩ rfl (Nat.le_of_ble_eq_true rfl) dX7_partsBy_36 ?_
        refine r_iload_n 2 dX7_partsBy_39 rfl ?_
        obtain ⟨xq6, exq6, hm⟩ := am_bs hm
        refine r_cS1 [.int xq5, .int a2] (ct_X7_livesAt l exq6) sm_X7_188 (by decide) ⟨rfl, rfl⟩ rfl (Nat.le_of_ble_eq_true rfl) dX7_partsBy_40 ?_
        refine r_if_eq 64 dX7_partsBy_43 (by decide) (fun q => ?_) (fun q => ?_)
        · rw [if_neg (show ¬ xq6 = true from by rw [am_b0 q]; decide)] at hm
          refine r_iconst 0 dX7_partsBy_64 (by decide) ?_
          cases hm
          exact r_lv [0, 1, 2, 3, 5] _ rfl HJ
        · rw [if_pos (show xq6 = true from am_b1 q)] at hm
          refine r_aload_n 0 dX7_partsBy_46 rfl ?_
          refine r_aload_n 0 dX7_partsBy_47 rfl ?_
          refine r_iload_n 1 dX7_partsBy_48 rfl ?_
          refine r_iload 5 dX7_partsBy_49 rfl ?_
          obtain ⟨xq7, exq7, hm⟩ := am_bs hm
          refine r_cV1 [.int a1, .int a5] (ct_X7_spanOf l exq7) vm_X7_108 (cs_X7_spanOf exq7) (by decide) ⟨rfl, rfl⟩ rfl (Nat.le_of_ble_eq_true rfl) dX7_partsBy_51 ?_
          obtain ⟨⟨xq8, hq9⟩, exq8, hm⟩ := am_bs hm
          try dsimp only at hm
          refine r_cV1 [.int xq7] (ct_X7_joins l exq8) vm_X7_182 (cs_X7_joins exq8) (by decide) ⟨rfl, rfl⟩ rfl (Nat.le_of_ble_eq_true rfl) dX7_partsBy_54 ?_
          refine r_if_eq 64 dX7_partsBy_57 (by decide) (fun q => ?_) (fun q => ?_)
          · rw [if_neg (show ¬ xq8 = true from by rw [am_b0 q]; decide)] at hm
            refine r_iconst 0 dX7_partsBy_64 (by decide) ?_
            cases hm
            exact r_lv [0, 1, 2, 3, 5] _ rfl HJ
          · rw [if_pos (show xq8 = true from am_b1 q)] at hm
            refine r_iconst 1 dX7_partsBy_60 (by decide) ?_
            refine r_goto 65 dX7_partsBy_61 (by decide) ?_
            cases hm
            exact r_lv [0, 1, 2, 3, 5] _ rfl HJ
def mi_X7_partsBy (f : Nat) (h : am_H) (p : Nat) (a : Int32) (b : Int32) (c : Int32) : Option (Int32 × am_H) :=
  Option.bind (am_cls h 7 p) fun _n =>
  Option.bind (mi_X7_clearKnots f h p) fun hq2 =>
  Option.bind (lo_X7_partsBy_11 f p a b c f 8 0 hq2) fun (oq3, hq4) =>
  some (oq3, hq4)
theorem cs_X7_partsBy {f : Nat} {h : am_H} {p : Nat} {a : Int32} {b : Int32} {c : Int32} {z : (Int32 × am_H)} (hm : mi_X7_partsBy f h p a b c = some z) : ∃ n, h.1[p]? = some (7, n) := by
  unfold mi_X7_partsBy at hm
  obtain ⟨n, hn, -⟩ := am_bs hm
  exact ⟨n, am_cls_of hn⟩
set_option maxHeartbeats 4000000 in
set_option maxRecDepth 100000 in
theorem ct_X7_partsBy (l : Launch) {f : Nat} {h : am_H} {p : Nat} {a : Int32} {b : Int32} {c : Int32} {r : Int32} {h2 : am_H} (hm : mi_X7_partsBy f h p a b c = some (r, h2)) : am_Ct l yX7_partsBy cX7_partsBy 6 (some .int) rm_X7_partsBy [.ref p, .int a, .int b, .int c] h (some (.int r)) h2 := by
  refine am_met2 [(0, .ref p), (1, .int a), (2, .int b), (3, .int c)] (by decide) (Nat.le_of_ble_eq_true rfl) rfl ?_
  generalize hK : (fun (v : Option Value) (h3 : am_H) => v = (some (.int r)) ∧ h3 = h2) = K
  have HK : K (some (.int r)) h2 := by rw [← hK]; exact ⟨rfl, rfl⟩
  clear hK
  unfold mi_X7_partsBy at hm
  obtain ⟨_n, _hn, hm⟩ := am_bs hm
  refine r_aload_n 0 dX7_partsBy_0 rfl ?_
  obtain ⟨hq2, exq1, hm⟩ := am_bs hm
  refine r_cV0 [] (ct_X7_clearKnots l exq1) vm_X7_179 (cs_X7_clearKnots exq1) (by decide) ⟨rfl, rfl⟩ rfl (Nat.le_of_ble_eq_true rfl) dX7_partsBy_1 ?_
  refine r_bipush 8 dX7_partsBy_4 (by decide) ?_
  refine r_istore [(4, .int 8), (0, .ref p), (1, .int a), (2, .int b), (3, .int c)] dX7_partsBy_6 (by decide) rfl ?_
  refine r_iconst 0 dX7_partsBy_8 (by decide) ?_
  refine r_istore [(5, .int 0), (4, .int 8), (0, .ref p), (1, .int a), (2, .int b), (3, .int c)] dX7_partsBy_9 (by decide) rfl ?_
  obtain ⟨⟨oq3, hq4⟩, ew, hm⟩ := am_bs hm
  try dsimp only at hm
  refine r_lv [2, 3, 4, 5, 1, 0] _ rfl (ll_X7_partsBy_11 l f p a b c _ f 8 0 hq2 _ ew ?_)
  refine r_iload 0 dX7_partsBy_74 rfl ?_
  cases hm
  exact r_ireturn dX7_partsBy_76 rfl (by decide) HK
def lo_X7_livingAt_4 (f : Nat) (h : am_H) (a0 : Nat) (a1 : Int32) : Nat → Int32 → Int32 → Option (Int32)
  | 0, _, _ => none
  | n + 1, a2, a3 =>
  Option.bind (mi_X7_many f h a0 0) fun xq1 =>
  (if xq1 ≤ a3 then
  (some a2)
  else (Option.bind (mi_X7_spanOf f h a0 0 a3) fun xq2 =>
  Option.bind (mi_X7_livesAt f h xq2 a1) fun xq3 =>
  Option.bind ((if xq3 = true then
  (some ((1 : Int32) <<< (a3 &&& 31)))
  else (some 0))) fun jq4 =>
  lo_X7_livingAt_4 f h a0 a1 n (a2 ||| jq4) (a3 + 1)))
set_option maxHeartbeats 4000000 in
set_option maxRecDepth 100000 in
theorem ll_X7_livingAt_4 (l : Launch) (f : Nat) (h : am_H) (a0 : Nat) (a1 : Int32) (K : Option Value → am_H → Prop) : ∀ (n : Nat) (a2 : Int32) (a3 : Int32) (z : Int32), lo_X7_livingAt_4 f h a0 a1 n a2 a3 = some z →
    am_R l yX7_livingAt cX7_livingAt 4 (some .int) rm_X7_livingAt (fun _ _ _ => True) 0 0 42 [(2, .int z)] [] h K →
    am_R l yX7_livingAt cX7_livingAt 4 (some .int) rm_X7_livingAt (fun _ _ _ => True) 0 0 4 [(0, .ref a0), (1, .int a1), (2, .int a2), (3, .int a3)] [] h K := by
  intro n
  induction n with
  | zero =>
    intro a2 a3 z hm kE
    cases hm
  | succ n ih =>
    intro a2 a3 z hm kE
    rw [lo_X7_livingAt_4.eq_2] at hm
    refine r_iload_n 3 dX7_livingAt_4 rfl ?_
    refine r_aload_n 0 dX7_livingAt_5 rfl ?_
    refine r_iconst 0 dX7_livingAt_6 (by decide) ?_
    obtain ⟨xq1, exq1, hm⟩ := am_bs hm
    refine r_cV1 [.int 0] (ct_X7_many l exq1) vm_X7_105 (cs_X7_many exq1) (by decide) ⟨rfl, rfl⟩ rfl (Nat.le_of_ble_eq_true rfl) dX7_livingAt_7 ?_
    refine r_icmp_ge 42 dX7_livingAt_10 (by decide) (fun q => ?_) (fun q => ?_)
    · rw [if_pos q] at hm
      cases hm
      exact r_lv [2] _ rfl kE
    · rw [if_neg q] at hm
      refine r_iload_n 2 dX7_livingAt_13 rfl ?_
      refine r_aload_n 0 dX7_livingAt_14 rfl ?_
      refine r_iconst 0 dX7_livingAt_15 (by decide) ?_
      refine r_iload_n 3 dX7_livingAt_16 rfl ?_
      obtain ⟨xq2, exq2, hm⟩ := am_bs hm
      refine r_cV1 [.int 0, .int a3] (ct_X7_spanOf l exq2) vm_X7_108 (cs_X7_spanOf exq2) (by decide) ⟨rfl, rfl⟩ rfl (Nat.le_of_ble_eq_true rfl) dX7_livingAt_17 ?_
      refine r_iload_n 1 dX7_livingAt_20 rfl ?_
      obtain ⟨xq3, exq3, hm⟩ := am_bs hm
      refine r_cS1 [.int xq2, .int a1] (ct_X7_livesAt l exq3) sm_X7_188 (by decide) ⟨rfl, rfl⟩ rfl (Nat.le_of_ble_eq_true rfl) dX7_livingAt_21 ?_
      obtain ⟨jq4, hw, hm⟩ := am_bs hm
      try dsimp only at hm
      have HJ : am_R l yX7_livingAt cX7_livingAt 4 (some .int) rm_X7_livingAt (fun _ _ _ => True) 0 0 34 [(0, .ref a0), (1, .int a1), (3, .int a3)] [.int jq4, .int a2] h K := by
        refine r_ior dX7_livingAt_34 ?_
        refine r_istore_n [(2, .int (a2 ||| jq4)), (0, .ref a0), (1, .int a1), (3, .int a3)] dX7_livingAt_35 (by decide) rfl ?_
        refine r_inc 1 3 [(3, .int (a3 + 1)), (2, .int (a2 ||| jq4)), (0, .ref a0), (1, .int a1)] dX7_livingAt_36 (by decide) rfl (by decide) rfl ?_
        refine r_goto 4 dX7_livingAt_39 (by decide) ?_
        exact r_lv [2, 3, 1, 0] _ rfl (ih (a2 ||| jq4) (a3 + 1) _ hm kE)
      clear hm
      have hm := hw
      clear hw
      refine r_if_eq 33 dX7_livingAt_24 (by decide) (fun q => ?_) (fun q => ?_)
      · rw [if_neg (show ¬ xq3 = true from by rw [am_b0 q]; decide)] at hm
        refine r_iconst 0 dX7_livingAt_33 (by decide) ?_
        cases hm
        exact r_lv [0, 1, 3] _ rfl HJ
      · rw [if_pos (show xq3 = true from am_b1 q)] at hm
        refine r_iconst 1 dX7_livingAt_27 (by decide) ?_
        refine r_iload_n 3 dX7_livingAt_28 rfl ?_
        refine r_ishl dX7_livingAt_29 ?_
        refine r_goto 34 dX7_livingAt_30 (by decide) ?_
        cases hm
        exact r_lv [0, 1, 3] _ rfl HJ
def mi_X7_livingAt (f : Nat) (h : am_H) (p : Nat) (a : Int32) : Option Int32 :=
  Option.bind (am_cls h 7 p) fun _n =>
  Option.bind (lo_X7_livingAt_4 f h p a f 0 0) fun oq1 =>
  some oq1
theorem cs_X7_livingAt {f : Nat} {h : am_H} {p : Nat} {a : Int32} {z : Int32} (hm : mi_X7_livingAt f h p a = some z) : ∃ n, h.1[p]? = some (7, n) := by
  unfold mi_X7_livingAt at hm
  obtain ⟨n, hn, -⟩ := am_bs hm
  exact ⟨n, am_cls_of hn⟩
set_option maxHeartbeats 4000000 in
set_option maxRecDepth 100000 in
theorem ct_X7_livingAt (l : Launch) {f : Nat} {h : am_H} {p : Nat} {a : Int32} {r : Int32} (hm : mi_X7_livingAt f h p a = some r) : am_Ct l yX7_livingAt cX7_livingAt 4 (some .int) rm_X7_livingAt [.ref p, .int a] h (some (.int r)) h := by
  refine am_met2 [(0, .ref p), (1, .int a)] (by decide) (Nat.le_of_ble_eq_true rfl) rfl ?_
  generalize hK : (fun (v : Option Value) (h3 : am_H) => v = (some (.int r)) ∧ h3 = h) = K
  have HK : K (some (.int r)) h := by rw [← hK]; exact ⟨rfl, rfl⟩
  clear hK
  unfold mi_X7_livingAt at hm
  obtain ⟨_n, _hn, hm⟩ := am_bs hm
  refine r_iconst 0 dX7_livingAt_0 (by decide) ?_
  refine r_istore_n [(2, .int 0), (0, .ref p), (1, .int a)] dX7_livingAt_1 (by decide) rfl ?_
  refine r_iconst 0 dX7_livingAt_2 (by decide) ?_
  refine r_istore_n [(3, .int 0), (2, .int 0), (0, .ref p), (1, .int a)] dX7_livingAt_3 (by decide) rfl ?_
  obtain ⟨oq1, ew, hm⟩ := am_bs hm
  try dsimp only at hm
  refine r_lv [2, 3, 1, 0] _ rfl (ll_X7_livingAt_4 l f h p a _ f 0 0 _ ew ?_)
  refine r_iload_n 0 dX7_livingAt_42 rfl ?_
  cases hm
  exact r_ireturn dX7_livingAt_43 rfl (by decide) HK
def lo_X7_spreadSides_10 (f : Nat) (a0 : Nat) (a1 : Int32) (a2 : Int32) : Nat → Int32 → am_H → Option (am_H)
  | 0, _, _ => none
  | n + 1, a3, h =>
  Option.bind (mi_X7_many f h a0 0) fun xq1 =>
  (if xq1 ≤ a3 then
  (some h)
  else (Option.bind (mi_X7_spanOf f h a0 0 a3) fun xq2 =>
  Option.bind (mi_X7_livesAt f h xq2 a1) fun xq3 =>
  Option.bind ((if xq3 = true then
  (Option.bind (mi_X7_lowOf f h xq2) fun xq5 =>
  Option.bind (mi_X7_highOf f h xq2) fun xq6 =>
  Option.bind (am_gr h 7 a0 9) fun xq7 =>
  Option.bind (am_gr h 7 a0 9) fun xq8 =>
  Option.bind (am_li h 9 xq8 xq5) fun xq9 =>
  Option.bind (Option.bind ((if xq9 = (-9) then
  (some true)
  else (Option.bind (am_gr h 7 a0 9) fun xq25 =>
  Option.bind (am_li h 9 xq25 xq6) fun xq26 =>
  (if xq26 = (-9) then
  (some false)
  else (some true))))) fun tq24 =>
  (if tq24 = true then
  (Option.bind (am_gr h 7 a0 9) fun xq27 =>
  Option.bind (am_li h 9 xq27 xq6) fun xq28 =>
  some xq28)
  else (Option.bind (am_gr h 7 a0 9) fun xq29 =>
  Option.bind (am_li h 9 xq29 xq5) fun xq30 =>
  some ((1 : Int32) - xq30)))) fun jq10 =>
  Option.bind (am_si h 9 xq7 xq6 jq10) fun hq11 =>
  Option.bind (am_gr hq11 7 a0 9) fun xq12 =>
  Option.bind (am_gr hq11 7 a0 9) fun xq13 =>
  Option.bind (am_li hq11 9 xq13 xq6) fun xq14 =>
  Option.bind (Option.bind ((if xq14 = (-9) then
  (some true)
  else (Option.bind (am_gr hq11 7 a0 9) fun xq18 =>
  Option.bind (am_li hq11 9 xq18 xq5) fun xq19 =>
  (if xq19 = (-9) then
  (some false)
  else (some true))))) fun tq17 =>
  (if tq17 = true then
  (Option.bind (am_gr hq11 7 a0 9) fun xq20 =>
  Option.bind (am_li hq11 9 xq20 xq5) fun xq21 =>
  some xq21)
  else (Option.bind (am_gr hq11 7 a0 9) fun xq22 =>
  Option.bind (am_li hq11 9 xq22 xq6) fun xq23 =>
  some ((1 : Int32) - xq23)))) fun jq15 =>
  Option.bind (am_si hq11 9 xq12 xq5 jq15) fun hq16 =>
  some hq16)
  else (some h))) fun hq4 =>
  lo_X7_spreadSides_10 f a0 a1 a2 n (a3 + 1) hq4))
set_option maxHeartbeats 4000000 in
set_option maxRecDepth 100000 in
theorem ll_X7_spreadSides_10 (l : Launch) (f : Nat) (a0 : Nat) (a1 : Int32) (a2 : Int32) (K : Option Value → am_H → Prop) : ∀ (n : Nat) (a3 : Int32) (h : am_H) (z : am_H), lo_X7_spreadSides_10 f a0 a1 a2 n a3 h = some z →
    am_R l yX7_spreadSides cX7_spreadSides 7 (none) rm_X7_spreadSides (fun _ _ _ => True) 0 0 156 [(0, .ref a0), (1, .int a1), (2, .int a2)] [] z K →
    am_R l yX7_spreadSides cX7_spreadSides 7 (none) rm_X7_spreadSides (fun _ _ _ => True) 0 0 10 [(0, .ref a0), (1, .int a1), (2, .int a2), (3, .int a3)] [] h K := by
  intro n
  induction n with
  | zero =>
    intro a3 h z hm kE
    cases hm
  | succ n ih =>
    intro a3 h z hm kE
    rw [lo_X7_spreadSides_10.eq_2] at hm
    refine r_iload_n 3 dX7_spreadSides_10 rfl ?_
    refine r_aload_n 0 dX7_spreadSides_11 rfl ?_
    refine r_iconst 0 dX7_spreadSides_12 (by decide) ?_
    obtain ⟨xq1, exq1, hm⟩ := am_bs hm
    refine r_cV1 [.int 0] (ct_X7_many l exq1) vm_X7_105 (cs_X7_many exq1) (by decide) ⟨rfl, rfl⟩ rfl (Nat.le_of_ble_eq_true rfl) dX7_spreadSides_13 ?_
    refine r_icmp_ge 156 dX7_spreadSides_16 (by decide) (fun q => ?_) (fun q => ?_)
    · rw [if_pos q] at hm
      cases hm
      exact r_lv [0, 1, 2] _ rfl kE
    · rw [if_neg q] at hm
      refine r_aload_n 0 dX7_spreadSides_19 rfl ?_
      refine r_iconst 0 dX7_spreadSides_20 (by decide) ?_
      refine r_iload_n 3 dX7_spreadSides_21 rfl ?_
      obtain ⟨xq2, exq2, hm⟩ := am_bs hm
      refine r_cV1 [.int 0, .int a3] (ct_X7_spanOf l exq2) vm_X7_108 (cs_X7_spanOf exq2) (by decide) ⟨rfl, rfl⟩ rfl (Nat.le_of_ble_eq_true rfl) dX7_spreadSides_22 ?_
      refine r_istore [(4, .int xq2), (0, .ref a0), (1, .int a1), (2, .int a2), (3, .int a3)] dX7_spreadSides_25 (by decide) rfl ?_
      refine r_iload 0 dX7_spreadSides_27 rfl ?_
      refine r_iload_n 2 dX7_spreadSides_29 rfl ?_
      obtain ⟨xq3, exq3, hm⟩ := am_bs hm
      refine r_cS1 [.int xq2, .int a1] (ct_X7_livesAt l exq3) sm_X7_188 (by decide) ⟨rfl, rfl⟩ rfl (Nat.le_of_ble_eq_true rfl) dX7_spreadSides_30 ?_
      obtain ⟨hq4, hw, hm⟩ := am_bs hm
      try dsimp only at hm
      have HJ : am_R l yX7_spreadSides cX7_spreadSides 7 (none) rm_X7_spreadSides (fun _ _ _ => True) 0 0 150 [(0, .ref a0), (1, .int a1), (2, .int a2), (3, .int a3)] [] hq4 K := by
        refine r_inc 1 3 [(3, .int (a3 + 1)), (0, .ref a0), (1, .int a1), (2, .int a2)] dX7_spreadSides_150 (by decide) rfl (by decide) rfl ?_
        refine r_goto 10 dX7_spreadSides_153 (by decide) ?_
        exact r_lv [1, 2, 3, 0] _ rfl (ih (a3 + 1) hq4 _ hm kE)
      clear hm
      have hm := hw
      clear hw
      refine r_if_eq 150 dX7_spreadSides_33 (by decide) (fun q => ?_) (fun q => ?_)
      · rw [if_neg (show ¬ xq3 = true from by rw [am_b0 q]; decide)] at hm
        cases hm
        exact r_lv [1, 2, 3, 4] _ rfl HJ
      · rw [if_pos (show xq3 = true from am_b1 q)] at hm
        refine r_iload 0 dX7_spreadSides_36 rfl ?_
        obtain ⟨xq5, exq5, hm⟩ := am_bs hm
        refine r_cS1 [.int xq2] (ct_X7_lowOf l exq5) sm_X7_112 (by decide) ⟨rfl, rfl⟩ rfl (Nat.le_of_ble_eq_true rfl) dX7_spreadSides_38 ?_
        refine r_istore [(5, .int xq5), (4, .int xq2), (0, .ref a0), (1, .int a1), (2, .int a2), (3, .int a3)] dX7_spreadSides_41 (by decide) rfl ?_
        refine r_iload 1 dX7_spreadSides_43 rfl ?_
        obtain ⟨xq6, exq6, hm⟩ := am_bs hm
        refine r_cS1 [.int xq2] (ct_X7_highOf l exq6) sm_X7_115 (by decide) ⟨rfl, rfl⟩ rfl (Nat.le_of_ble_eq_true rfl) dX7_spreadSides_45 ?_
        refine r_istore [(6, .int xq6), (5, .int xq5), (4, .int xq2), (0, .ref a0), (1, .int a1), (2, .int a2), (3, .int a3)] dX7_spreadSides_48 (by decide) rfl ?_
        refine r_aload_n 3 dX7_spreadSides_50 rfl ?_
        obtain ⟨xq7, exq7, hm⟩ := am_bs hm
        refine r_getr exq7 fl_X7_28 rfl dX7_spreadSides_51 ?_
        refine r_iload 0 dX7_spreadSides_54 rfl ?_
        refine r_aload_n 3 dX7_spreadSides_56 rfl ?_
        obtain ⟨xq8, exq8, hm⟩ := am_bs hm
        refine r_getr exq8 fl_X7_28 rfl dX7_spreadSides_57 ?_
        refine r_iload 1 dX7_spreadSides_60 rfl ?_
        obtain ⟨xq9, exq9, hm⟩ := am_bs hm
        refine r_iald exq9 dX7_spreadSides_62 ?_
        refine r_bipush (-9) dX7_spreadSides_63 (by decide) ?_
        obtain ⟨jq10, hw, hm⟩ := am_bs hm
        try dsimp only at hm
        have HJ : am_R l yX7_spreadSides cX7_spreadSides 7 (none) rm_X7_spreadSides (fun _ _ _ => True) 0 0 99 [(0, .ref a0), (1, .int a1), (2, .int a2), (3, .int a3), (5, .int xq5), (6, .int xq6)] [.int jq10, .int xq6, .ref xq7] h K := by
          obtain ⟨hq11, ehq11, hm⟩ := am_bs hm
          refine r_iast ehq11 dX7_spreadSides_99 ?_
          refine r_aload_n 0 dX7_spreadSides_100 rfl ?_
          obtain ⟨xq12, exq12, hm⟩ := am_bs hm
          refine r_getr exq12 fl_X7_28 rfl dX7_spreadSides_101 ?_
          refine r_iload 4 dX7_spreadSides_104 rfl ?_
          refine r_aload_n 0 dX7_spreadSides_106 rfl ?_
          obtain ⟨xq13, exq13, hm⟩ := am_bs hm
          refine r_getr exq13 fl_X7_28 rfl dX7_spreadSides_107 ?_
          refine r_iload 5 dX7_spreadSides_110 rfl ?_
          obtain ⟨xq14, exq14, hm⟩ := am_bs hm
          refine r_iald exq14 dX7_spreadSides_112 ?_
          refine r_bipush (-9) dX7_spreadSides_113 (by decide) ?_
          obtain ⟨jq15, hw, hm⟩ := am_bs hm
          try dsimp only at hm
          have HJ : am_R l yX7_spreadSides cX7_spreadSides 7 (none) rm_X7_spreadSides (fun _ _ _ => True) 0 0 149 [(0, .ref a0), (1, .int a1), (2, .int a2), (3, .int a3)] [.int jq15, .int xq5, .ref xq12] hq11 K := by
            obtain ⟨hq16, ehq16, hm⟩ := am_bs hm
            refine r_iast ehq16 dX7_spreadSides_149 ?_
            cases hm
            exact r_lv [0, 1, 2, 3] _ rfl HJ
          clear hm
          have hm := hw
          clear hw
          obtain ⟨tq17, hw, hm⟩ := am_bs hm
          try dsimp only at hm
          have HA : tq17 = true → am_R l yX7_spreadSides cX7_spreadSides 7 (none) rm_X7_spreadSides (fun _ _ _ => True) 0 0 142 [(0, .ref a0), (1, .int a1), (2, .int a2), (3, .int a3), (5, .int xq5), (6, .int xq6)] [.int xq5, .ref xq12] hq11 K := by
            intro q
            clear hw
            rw [if_pos q] at hm
            refine r_aload_n 0 dX7_spreadSides_142 rfl ?_
            obtain ⟨xq20, exq20, hm⟩ := am_bs hm
            refine r_getr exq20 fl_X7_28 rfl dX7_spreadSides_143 ?_
            refine r_iload 4 dX7_spreadSides_146 rfl ?_
            obtain ⟨xq21, exq21, hm⟩ := am_bs hm
            refine r_iald exq21 dX7_spreadSides_148 ?_
            cases hm
            exact r_lv [0, 1, 2, 3] _ rfl HJ
          have HB : tq17 = false → am_R l yX7_spreadSides cX7_spreadSides 7 (none) rm_X7_spreadSides (fun _ _ _ => True) 0 0 130 [(0, .ref a0), (1, .int a1), (2, .int a2), (3, .int a3), (5, .int xq5), (6, .int xq6)] [.int xq5, .ref xq12] hq11 K := by
            intro q
            clear hw
            rw [if_neg (by rw [q]; decide)] at hm
            refine r_iconst 1 dX7_spreadSides_130 (by decide) ?_
            refine r_aload_n 0 dX7_spreadSides_131 rfl ?_
            obtain ⟨xq22, exq22, hm⟩ := am_bs hm
            refine r_getr exq22 fl_X7_28 rfl dX7_spreadSides_132 ?_
            refine r_iload 5 dX7_spreadSides_135 rfl ?_
            obtain ⟨xq23, exq23, hm⟩ := am_bs hm
            refine r_iald exq23 dX7_spreadSides_137 ?_
            refine r_isub dX7_spreadSides_138 ?_
            refine r_goto 149 dX7_spreadSides_139 (by decide) ?_
            cases hm
            exact r_lv [0, 1, 2, 3] _ rfl HJ
          clear hm
          have hm := hw
          clear hw
          refine r_icmp_eq 142 dX7_spreadSides_115 (by decide) (fun q => ?_) (fun q => ?_)
          · rw [if_pos q] at hm
            cases hm
            exact HA rfl
          · rw [if_neg q] at hm
            refine r_aload_n 0 dX7_spreadSides_118 rfl ?_
            obtain ⟨xq18, exq18, hm⟩ := am_bs hm
            refine r_getr exq18 fl_X7_28 rfl dX7_spreadSides_119 ?_
            refine r_iload 4 dX7_spreadSides_122 rfl ?_
            obtain ⟨xq19, exq19, hm⟩ := am_bs hm
            refine r_iald exq19 dX7_spreadSides_124 ?_
            refine r_bipush (-9) dX7_spreadSides_125 (by decide) ?_
            refine r_icmp_ne 142 dX7_spreadSides_127 (by decide) (fun q => ?_) (fun q => ?_)
            · rw [if_neg q] at hm
              cases hm
              exact HA rfl
            · rw [if_pos q] at hm
              cases hm
              exact HB rfl
        clear hm
        have hm := hw
        clear hw
        obtain ⟨tq24, hw, hm⟩ := am_bs hm
        try dsimp only at hm
        have HA : tq24 = true → am_R l yX7_spreadSides cX7_spreadSides 7 (none) rm_X7_spreadSides (fun _ _ _ => True) 0 0 92 [(6, .int xq6), (5, .int xq5), (4, .int xq2), (0, .ref a0), (1, .int a1), (2, .int a2), (3, .int a3)] [.int xq6, .ref xq7] h K := by
          intro q
          clear hw
          rw [if_pos q] at hm
          refine r_aload_n 3 dX7_spreadSides_92 rfl ?_
          obtain ⟨xq27, exq27, hm⟩ := am_bs hm
          refine r_getr exq27 fl_X7_28 rfl dX7_spreadSides_93 ?_
          refine r_iload 0 dX7_spreadSides_96 rfl ?_
          obtain ⟨xq28, exq28, hm⟩ := am_bs hm
          refine r_iald exq28 dX7_spreadSides_98 ?_
          cases hm
          exact r_lv [3, 4, 5, 6, 1, 0] _ rfl HJ
        have HB : tq24 = false → am_R l yX7_spreadSides cX7_spreadSides 7 (none) rm_X7_spreadSides (fun _ _ _ => True) 0 0 80 [(6, .int xq6), (5, .int xq5), (4, .int xq2), (0, .ref a0), (1, .int a1), (2, .int a2), (3, .int a3)] [.int xq6, .ref xq7] h K := by
          intro q
          clear hw
          rw [if_neg (by rw [q]; decide)] at hm
          refine r_iconst 1 dX7_spreadSides_80 (by decide) ?_
          refine r_aload_n 3 dX7_spreadSides_81 rfl ?_
          obtain ⟨xq29, exq29, hm⟩ := am_bs hm
          refine r_getr exq29 fl_X7_28 rfl dX7_spreadSides_82 ?_
          refine r_iload 1 dX7_spreadSides_85 rfl ?_
          obtain ⟨xq30, exq30, hm⟩ := am_bs hm
          refine r_iald exq30 dX7_spreadSides_87 ?_
          refine r_isub dX7_spreadSides_88 ?_
          refine r_goto 99 dX7_spreadSides_89 (by decide) ?_
          cases hm
          exact r_lv [3, 4, 5, 6, 1, 0] _ rfl HJ
        clear hm
        have hm := hw
        clear hw
        refine r_icmp_eq 92 dX7_spreadSides_65 (by decide) (fun q => ?_) (fun q => ?_)
        · rw [if_pos q] at hm
          cases hm
          exact HA rfl
        · rw [if_neg q] at hm
          refine r_aload_n 3 dX7_spreadSides_68 rfl ?_
          obtain ⟨xq25, exq25, hm⟩ := am_bs hm
          refine r_getr exq25 fl_X7_28 rfl dX7_spreadSides_69 ?_
          refine r_iload 0 dX7_spreadSides_72 rfl ?_
          obtain ⟨xq26, exq26, hm⟩ := am_bs hm
          refine r_iald exq26 dX7_spreadSides_74 ?_
          refine r_bipush (-9) dX7_spreadSides_75 (by decide) ?_
          refine r_icmp_ne 92 dX7_spreadSides_77 (by decide) (fun q => ?_) (fun q => ?_)
          · rw [if_neg q] at hm
            cases hm
            exact HA rfl
          · rw [if_pos q] at hm
            cases hm
            exact HB rfl
def lo_X7_spreadSides_2 (f : Nat) (a0 : Nat) (a1 : Int32) : Nat → Int32 → am_H → Option (am_H)
  | 0, _, _ => none
  | n + 1, a2, h =>
  (if 8 ≤ a2 then
  (some h)
  else (Option.bind (lo_X7_spreadSides_10 f a0 a1 a2 f 0 h) fun hq1 =>
  lo_X7_spreadSides_2 f a0 a1 n (a2 + 1) hq1))
set_option maxHeartbeats 4000000 in
set_option maxRecDepth 100000 in
theorem ll_X7_spreadSides_2 (l : Launch) (f : Nat) (a0 : Nat) (a1 : Int32) (K : Option Value → am_H → Prop) : ∀ (n : Nat) (a2 : Int32) (h : am_H) (z : am_H), lo_X7_spreadSides_2 f a0 a1 n a2 h = some z →
    am_R l yX7_spreadSides cX7_spreadSides 7 (none) rm_X7_spreadSides (fun _ _ _ => True) 0 0 162 [] [] z K →
    am_R l yX7_spreadSides cX7_spreadSides 7 (none) rm_X7_spreadSides (fun _ _ _ => True) 0 0 2 [(0, .ref a0), (1, .int a1), (2, .int a2)] [] h K := by
  intro n
  induction n with
  | zero =>
    intro a2 h z hm kE
    cases hm
  | succ n ih =>
    intro a2 h z hm kE
    rw [lo_X7_spreadSides_2.eq_2] at hm
    refine r_iload_n 2 dX7_spreadSides_2 rfl ?_
    refine r_bipush 8 dX7_spreadSides_3 (by decide) ?_
    refine r_icmp_ge 162 dX7_spreadSides_5 (by decide) (fun q => ?_) (fun q => ?_)
    · rw [if_pos q] at hm
      cases hm
      exact r_lv [] _ rfl kE
    · rw [if_neg q] at hm
      refine r_iconst 0 dX7_spreadSides_8 (by decide) ?_
      refine r_istore_n [(3, .int 0), (0, .ref a0), (1, .int a1), (2, .int a2)] dX7_spreadSides_9 (by decide) rfl ?_
      obtain ⟨hq1, ew, hm⟩ := am_bs hm
      try dsimp only at hm
      refine r_lv [1, 2, 3, 0] _ rfl (ll_X7_spreadSides_10 l f a0 a1 a2 _ f 0 h _ ew ?_)
      refine r_inc 1 2 [(2, .int (a2 + 1)), (0, .ref a0), (1, .int a1)] dX7_spreadSides_156 (by decide) rfl (by decide) rfl ?_
      refine r_goto 2 dX7_spreadSides_159 (by decide) ?_
      exact r_lv [1, 2, 0] _ rfl (ih (a2 + 1) hq1 _ hm kE)
def mi_X7_spreadSides (f : Nat) (h : am_H) (p : Nat) (a : Int32) : Option am_H :=
  Option.bind (am_cls h 7 p) fun _n =>
  Option.bind (lo_X7_spreadSides_2 f p a f 0 h) fun hq1 =>
  some hq1
theorem cs_X7_spreadSides {f : Nat} {h : am_H} {p : Nat} {a : Int32} {z : am_H} (hm : mi_X7_spreadSides f h p a = some z) : ∃ n, h.1[p]? = some (7, n) := by
  unfold mi_X7_spreadSides at hm
  obtain ⟨n, hn, -⟩ := am_bs hm
  exact ⟨n, am_cls_of hn⟩
set_option maxHeartbeats 4000000 in
set_option maxRecDepth 100000 in
theorem ct_X7_spreadSides (l : Launch) {f : Nat} {h : am_H} {p : Nat} {a : Int32} {h2 : am_H} (hm : mi_X7_spreadSides f h p a = some h2) : am_Ct l yX7_spreadSides cX7_spreadSides 7 (none) rm_X7_spreadSides [.ref p, .int a] h none h2 := by
  refine am_met2 [(0, .ref p), (1, .int a)] (by decide) (Nat.le_of_ble_eq_true rfl) rfl ?_
  generalize hK : (fun (v : Option Value) (h3 : am_H) => v = none ∧ h3 = h2) = K
  have HK : K none h2 := by rw [← hK]; exact ⟨rfl, rfl⟩
  clear hK
  unfold mi_X7_spreadSides at hm
  obtain ⟨_n, _hn, hm⟩ := am_bs hm
  refine r_iconst 0 dX7_spreadSides_0 (by decide) ?_
  refine r_istore_n [(2, .int 0), (0, .ref p), (1, .int a)] dX7_spreadSides_1 (by decide) rfl ?_
  obtain ⟨hq1, ew, hm⟩ := am_bs hm
  try dsimp only at hm
  refine r_lv [1, 2, 0] _ rfl (ll_X7_spreadSides_2 l f p a _ f 0 h _ ew ?_)
  cases hm
  exact r_return dX7_spreadSides_162 rfl (by decide) HK
def lo_X7_findSides_11 (f : Nat) (a0 : Nat) (a1 : Int32) : Nat → Int32 → am_H → Option (am_H)
  | 0, _, _ => none
  | n + 1, a2, h =>
  (if 8 ≤ a2 then
  (some h)
  else (Option.bind (am_gr h 7 a0 9) fun xq1 =>
  Option.bind (am_si h 9 xq1 a2 (-9)) fun hq2 =>
  Option.bind (am_gr hq2 7 a0 10) fun xq3 =>
  Option.bind (am_si hq2 9 xq3 a2 0) fun hq4 =>
  lo_X7_findSides_11 f a0 a1 n (a2 + 1) hq4))
set_option maxHeartbeats 4000000 in
set_option maxRecDepth 100000 in
theorem ll_X7_findSides_11 (l : Launch) (f : Nat) (a0 : Nat) (a1 : Int32) (K : Option Value → am_H → Prop) : ∀ (n : Nat) (a2 : Int32) (h : am_H) (z : am_H), lo_X7_findSides_11 f a0 a1 n a2 h = some z →
    am_R l yX7_findSides cX7_findSides 4 (none) rm_X7_findSides (fun _ _ _ => True) 0 0 38 [(0, .ref a0), (1, .int a1)] [] z K →
    am_R l yX7_findSides cX7_findSides 4 (none) rm_X7_findSides (fun _ _ _ => True) 0 0 11 [(0, .ref a0), (1, .int a1), (2, .int a2)] [] h K := by
  intro n
  induction n with
  | zero =>
    intro a2 h z hm kE
    cases hm
  | succ n ih =>
    intro a2 h z hm kE
    rw [lo_X7_findSides_11.eq_2] at hm
    refine r_iload_n 2 dX7_findSides_11 rfl ?_
    refine r_bipush 8 dX7_findSides_12 (by decide) ?_
    refine r_icmp_ge 38 dX7_findSides_14 (by decide) (fun q => ?_) (fun q => ?_)
    · rw [if_pos q] at hm
      cases hm
      exact r_lv [0, 1] _ rfl kE
    · rw [if_neg q] at hm
      refine r_aload_n 0 dX7_findSides_17 rfl ?_
      obtain ⟨xq1, exq1, hm⟩ := am_bs hm
      refine r_getr exq1 fl_X7_28 rfl dX7_findSides_18 ?_
      refine r_iload_n 2 dX7_findSides_21 rfl ?_
      refine r_bipush (-9) dX7_findSides_22 (by decide) ?_
      obtain ⟨hq2, ehq2, hm⟩ := am_bs hm
      refine r_iast ehq2 dX7_findSides_24 ?_
      refine r_aload_n 0 dX7_findSides_25 rfl ?_
      obtain ⟨xq3, exq3, hm⟩ := am_bs hm
      refine r_getr exq3 fl_X7_31 rfl dX7_findSides_26 ?_
      refine r_iload_n 2 dX7_findSides_29 rfl ?_
      refine r_iconst 0 dX7_findSides_30 (by decide) ?_
      obtain ⟨hq4, ehq4, hm⟩ := am_bs hm
      refine r_iast ehq4 dX7_findSides_31 ?_
      refine r_inc 1 2 [(2, .int (a2 + 1)), (0, .ref a0), (1, .int a1)] dX7_findSides_32 (by decide) rfl (by decide) rfl ?_
      refine r_goto 11 dX7_findSides_35 (by decide) ?_
      exact r_lv [1, 2, 0] _ rfl (ih (a2 + 1) hq4 _ hm kE)
def lo_X7_findSides_40 (f : Nat) (a0 : Nat) (a1 : Int32) : Nat → Int32 → am_H → Option (am_H)
  | 0, _, _ => none
  | n + 1, a2, h =>
  (if 8 ≤ a2 then
  (some h)
  else (Option.bind (am_gr h 7 a0 9) fun xq1 =>
  Option.bind (am_gr h 7 a0 9) fun xq2 =>
  Option.bind (am_li h 9 xq2 a2) fun xq3 =>
  Option.bind ((if xq3 = (-9) then
  (some 0)
  else (Option.bind (am_gr h 7 a0 9) fun xq8 =>
  Option.bind (am_li h 9 xq8 a2) fun xq9 =>
  some xq9))) fun jq4 =>
  Option.bind (am_si h 9 xq1 a2 jq4) fun hq5 =>
  Option.bind (mi_X7_spreadSides f hq5 a0 a1) fun hq7 =>
  lo_X7_findSides_40 f a0 a1 n (a2 + 1) hq7))
set_option maxHeartbeats 4000000 in
set_option maxRecDepth 100000 in
theorem ll_X7_findSides_40 (l : Launch) (f : Nat) (a0 : Nat) (a1 : Int32) (K : Option Value → am_H → Prop) : ∀ (n : Nat) (a2 : Int32) (h : am_H) (z : am_H), lo_X7_findSides_40 f a0 a1 n a2 h = some z →
    am_R l yX7_findSides cX7_findSides 4 (none) rm_X7_findSides (fun _ _ _ => True) 0 0 84 [(0, .ref a0), (1, .int a1)] [] z K →
    am_R l yX7_findSides cX7_findSides 4 (none) rm_X7_findSides (fun _ _ _ => True) 0 0 40 [(0, .ref a0), (1, .int a1), (2, .int a2)] [] h K := by
  intro n
  induction n with
  | zero =>
    intro a2 h z hm kE
    cases hm
  | succ n ih =>
    intro a2 h z hm kE
    rw [lo_X7_findSides_40.eq_2] at hm
    refine r_iload_n 2 dX7_findSides_40 rfl ?_
    refine r_bipush 8 dX7_findSides_41 (by decide) ?_
    refine r_icmp_ge 84 dX7_findSides_43 (by decide) (fun q => ?_) (fun q => ?_)
    · rw [if_pos q] at hm
      cases hm
      exact r_lv [0, 1] _ rfl kE
    · rw [if_neg q] at hm
      refine r_aload_n 0 dX7_findSides_46 rfl ?_
      obtain ⟨xq1, exq1, hm⟩ := am_bs hm
      refine r_getr exq1 fl_X7_28 rfl dX7_findSides_47 ?_
      refine r_iload_n 2 dX7_findSides_50 rfl ?_
      refine r_aload_n 0 dX7_findSides_51 rfl ?_
      obtain ⟨xq2, exq2, hm⟩ := am_bs hm
      refine r_getr exq2 fl_X7_28 rfl dX7_findSides_52 ?_
      refine r_iload_n 2 dX7_findSides_55 rfl ?_
      obtain ⟨xq3, exq3, hm⟩ := am_bs hm
      refine r_iald exq3 dX7_findSides_56 ?_
      refine r_bipush (-9) dX7_findSides_57 (by decide) ?_
      obtain ⟨jq4, hw, hm⟩ := am_bs hm
      try dsimp only at hm
      have HJ : am_R l yX7_findSides cX7_findSides 4 (none) rm_X7_findSides (fun _ _ _ => True) 0 0 72 [(0, .ref a0), (1, .int a1), (2, .int a2)] [.int jq4, .int a2, .ref xq1] h K := by
        obtain ⟨hq5, ehq5, hm⟩ := am_bs hm
        refine r_iast ehq5 dX7_findSides_72 ?_
        refine r_aload_n 0 dX7_findSides_73 rfl ?_
        refine r_iload_n 1 dX7_findSides_74 rfl ?_
        obtain ⟨hq7, exq6, hm⟩ := am_bs hm
        refine r_cV0 [.int a1] (ct_X7_spreadSides l exq6) vm_X7_196 (cs_X7_spreadSides exq6) (by decide) ⟨rfl, rfl⟩ rfl (Nat.le_of_ble_eq_true rfl) dX7_findSides_75 ?_
        refine r_inc 1 2 [(2, .int (a2 + 1)), (0, .ref a0), (1, .int a1)] dX7_findSides_78 (by decide) rfl (by decide) rfl ?_
        refine r_goto 40 dX7_findSides_81 (by decide) ?_
        exact r_lv [1, 2, 0] _ rfl (ih (a2 + 1) hq7 _ hm kE)
      clear hm
      have hm := hw
      clear hw
      refine r_icmp_ne 66 dX7_findSides_59 (by decide) (fun q => ?_) (fun q => ?_)
      · rw [if_neg q] at hm
        refine r_aload_n 0 dX7_findSides_66 rfl ?_
        obtain ⟨xq8, exq8, hm⟩ := am_bs hm
        refine r_getr exq8 fl_X7_28 rfl dX7_findSides_67 ?_
        refine r_iload_n 2 dX7_findSides_70 rfl ?_
        obtain ⟨xq9, exq9, hm⟩ := am_bs hm
        refine r_iald exq9 dX7_findSides_71 ?_
        cases hm
        exact r_lv [0, 1, 2] _ rfl HJ
      · rw [if_pos q] at hm
        refine r_iconst 0 dX7_findSides_62 (by decide) ?_
        refine r_goto 72 dX7_findSides_63 (by decide) ?_
        cases hm
        exact r_lv [0, 1, 2] _ rfl HJ
def lo_X7_findSides_86 (f : Nat) (a0 : Nat) (a1 : Int32) : Nat → Int32 → am_H → Option (am_H)
  | 0, _, _ => none
  | n + 1, a2, h =>
  Option.bind (mi_X7_many f h a0 0) fun xq1 =>
  (if xq1 ≤ a2 then
  (some h)
  else (Option.bind (mi_X7_spanOf f h a0 0 a2) fun xq2 =>
  Option.bind (mi_X7_livesAt f h xq2 a1) fun xq3 =>
  Option.bind ((if xq3 = true then
  (Option.bind (am_gr h 7 a0 9) fun xq5 =>
  Option.bind (mi_X7_lowOf f h xq2) fun xq6 =>
  Option.bind (am_li h 9 xq5 xq6) fun xq7 =>
  Option.bind (am_gr h 7 a0 9) fun xq8 =>
  Option.bind (mi_X7_highOf f h xq2) fun xq9 =>
  Option.bind (am_li h 9 xq8 xq9) fun xq10 =>
  (if xq7 = xq10 then
  (Option.bind (am_gr h 7 a0 10) fun xq11 =>
  Option.bind (mi_X7_lowOf f h xq2) fun xq12 =>
  Option.bind (mi_X7_rootOf f h a0 xq12) fun xq13 =>
  Option.bind (am_si h 9 xq11 xq13 1) fun hq14 =>
  some hq14)
  else (some h)))
  else (some h))) fun hq4 =>
  lo_X7_findSides_86 f a0 a1 n (a2 + 1) hq4))
set_option maxHeartbeats 4000000 in
set_option maxRecDepth 100000 in
theorem ll_X7_findSides_86 (l : Launch) (f : Nat) (a0 : Nat) (a1 : Int32) (K : Option Value → am_H → Prop) : ∀ (n : Nat) (a2 : Int32) (h : am_H) (z : am_H), lo_X7_findSides_86 f a0 a1 n a2 h = some z →
    am_R l yX7_findSides cX7_findSides 4 (none) rm_X7_findSides (fun _ _ _ => True) 0 0 151 [] [] z K →
    am_R l yX7_findSides cX7_findSides 4 (none) rm_X7_findSides (fun _ _ _ => True) 0 0 86 [(0, .ref a0), (1, .int a1), (2, .int a2)] [] h K := by
  intro n
  induction n with
  | zero =>
    intro a2 h z hm kE
    cases hm
  | succ n ih =>
    intro a2 h z hm kE
    rw [lo_X7_findSides_86.eq_2] at hm
    refine r_iload_n 2 dX7_findSides_86 rfl ?_
    refine r_aload_n 0 dX7_findSides_87 rfl ?_
    refine r_iconst 0 dX7_findSides_88 (by decide) ?_
    obtain ⟨xq1, exq1, hm⟩ := am_bs hm
    refine r_cV1 [.int 0] (ct_X7_many l exq1) vm_X7_105 (cs_X7_many exq1) (by decide) ⟨rfl, rfl⟩ rfl (Nat.le_of_ble_eq_true rfl) dX7_findSides_89 ?_
    refine r_icmp_ge 151 dX7_findSides_92 (by decide) (fun q => ?_) (fun q => ?_)
    · rw [if_pos q] at hm
      cases hm
      exact r_lv [] _ rfl kE
    · rw [if_neg q] at hm
      refine r_aload_n 0 dX7_findSides_95 rfl ?_
      refine r_iconst 0 dX7_findSides_96 (by decide) ?_
      refine r_iload_n 2 dX7_findSides_97 rfl ?_
      obtain ⟨xq2, exq2, hm⟩ := am_bs hm
      refine r_cV1 [.int 0, .int a2] (ct_X7_spanOf l exq2) vm_X7_108 (cs_X7_spanOf exq2) (by decide) ⟨rfl, rfl⟩ rfl (Nat.le_of_ble_eq_true rfl) dX7_findSides_98 ?_
      refine r_istore_n [(3, .int xq2), (0, .ref a0), (1, .int a1), (2, .int a2)] dX7_findSides_101 (by decide) rfl ?_
      refine r_iload_n 0 dX7_findSides_102 rfl ?_
      refine r_iload_n 2 dX7_findSides_103 rfl ?_
      obtain ⟨xq3, exq3, hm⟩ := am_bs hm
      refine r_cS1 [.int xq2, .int a1] (ct_X7_livesAt l exq3) sm_X7_188 (by decide) ⟨rfl, rfl⟩ rfl (Nat.le_of_ble_eq_true rfl) dX7_findSides_104 ?_
      obtain ⟨hq4, hw, hm⟩ := am_bs hm
      try dsimp only at hm
      have HJ : am_R l yX7_findSides cX7_findSides 4 (none) rm_X7_findSides (fun _ _ _ => True) 0 0 145 [(0, .ref a0), (1, .int a1), (2, .int a2)] [] hq4 K := by
        refine r_inc 1 2 [(2, .int (a2 + 1)), (0, .ref a0), (1, .int a1)] dX7_findSides_145 (by decide) rfl (by decide) rfl ?_
        refine r_goto 86 dX7_findSides_148 (by decide) ?_
        exact r_lv [1, 2, 0] _ rfl (ih (a2 + 1) hq4 _ hm kE)
      clear hm
      have hm := hw
      clear hw
      refine r_if_eq 145 dX7_findSides_107 (by decide) (fun q => ?_) (fun q => ?_)
      · rw [if_neg (show ¬ xq3 = true from by rw [am_b0 q]; decide)] at hm
        cases hm
        exact r_lv [1, 2, 3] _ rfl HJ
      · rw [if_pos (show xq3 = true from am_b1 q)] at hm
        refine r_aload_n 1 dX7_findSides_110 rfl ?_
        obtain ⟨xq5, exq5, hm⟩ := am_bs hm
        refine r_getr exq5 fl_X7_28 rfl dX7_findSides_111 ?_
        refine r_iload_n 0 dX7_findSides_114 rfl ?_
        obtain ⟨xq6, exq6, hm⟩ := am_bs hm
        refine r_cS1 [.int xq2] (ct_X7_lowOf l exq6) sm_X7_112 (by decide) ⟨rfl, rfl⟩ rfl (Nat.le_of_ble_eq_true rfl) dX7_findSides_115 ?_
        obtain ⟨xq7, exq7, hm⟩ := am_bs hm
        refine r_iald exq7 dX7_findSides_118 ?_
        refine r_aload_n 1 dX7_findSides_119 rfl ?_
        obtain ⟨xq8, exq8, hm⟩ := am_bs hm
        refine r_getr exq8 fl_X7_28 rfl dX7_findSides_120 ?_
        refine r_iload_n 0 dX7_findSides_123 rfl ?_
        obtain ⟨xq9, exq9, hm⟩ := am_bs hm
        refine r_cS1 [.int xq2] (ct_X7_highOf l exq9) sm_X7_115 (by decide) ⟨rfl, rfl⟩ rfl (Nat.le_of_ble_eq_true rfl) dX7_findSides_124 ?_
        obtain ⟨xq10, exq10, hm⟩ := am_bs hm
        refine r_iald exq10 dX7_findSides_127 ?_
        refine r_icmp_ne 145 dX7_findSides_128 (by decide) (fun q => ?_) (fun q => ?_)
        · rw [if_neg q] at hm
          cases hm
          exact r_lv [1, 2, 3] _ rfl HJ
        · rw [if_pos q] at hm
          refine r_aload_n 1 dX7_findSides_131 rfl ?_
          obtain ⟨xq11, exq11, hm⟩ := am_bs hm
          refine r_getr exq11 fl_X7_31 rfl dX7_findSides_132 ?_
          refine r_aload_n 1 dX7_findSides_135 rfl ?_
          refine r_iload_n 0 dX7_findSides_136 rfl ?_
          obtain ⟨xq12, exq12, hm⟩ := am_bs hm
          refine r_cS1 [.int xq2] (ct_X7_lowOf l exq12) sm_X7_112 (by decide) ⟨rfl, rfl⟩ rfl (Nat.le_of_ble_eq_true rfl) dX7_findSides_137 ?_
          obtain ⟨xq13, exq13, hm⟩ := am_bs hm
          refine r_cV1 [.int xq12] (ct_X7_rootOf l exq13) vm_X7_176 (cs_X7_rootOf exq13) (by decide) ⟨rfl, rfl⟩ rfl (Nat.le_of_ble_eq_true rfl) dX7_findSides_140 ?_
          refine r_iconst 1 dX7_findSides_143 (by decide) ?_
          obtain ⟨hq14, ehq14, hm⟩ := am_bs hm
          refine r_iast ehq14 dX7_findSides_144 ?_
          cases hm
          exact r_lv [1, 2, 3] _ rfl HJ
def mi_X7_findSides (f : Nat) (h : am_H) (p : Nat) (a : Int32) : Option am_H :=
  Option.bind (am_cls h 7 p) fun _n =>
  Option.bind (mi_X7_partsBy f h p 0 a 65535) fun (xq1, hq2) =>
  Option.bind (lo_X7_findSides_11 f p a f 0 hq2) fun hq4 =>
  Option.bind (lo_X7_findSides_40 f p a f 0 hq4) fun hq5 =>
  Option.bind (lo_X7_findSides_86 f p a f 0 hq5) fun hq6 =>
  some hq6
theorem cs_X7_findSides {f : Nat} {h : am_H} {p : Nat} {a : Int32} {z : am_H} (hm : mi_X7_findSides f h p a = some z) : ∃ n, h.1[p]? = some (7, n) := by
  unfold mi_X7_findSides at hm
  obtain ⟨n, hn, -⟩ := am_bs hm
  exact ⟨n, am_cls_of hn⟩
set_option maxHeartbeats 4000000 in
set_option maxRecDepth 100000 in
theorem ct_X7_findSides (l : Launch) {f : Nat} {h : am_H} {p : Nat} {a : Int32} {h2 : am_H} (hm : mi_X7_findSides f h p a = some h2) : am_Ct l yX7_findSides cX7_findSides 4 (none) rm_X7_findSides [.ref p, .int a] h none h2 := by
  refine am_met2 [(0, .ref p), (1, .int a)] (by decide) (Nat.le_of_ble_eq_true rfl) rfl ?_
  generalize hK : (fun (v : Option Value) (h3 : am_H) => v = none ∧ h3 = h2) = K
  have HK : K none h2 := by rw [← hK]; exact ⟨rfl, rfl⟩
  clear hK
  unfold mi_X7_findSides at hm
  obtain ⟨_n, _hn, hm⟩ := am_bs hm
  refine r_aload_n 0 dX7_findSides_0 rfl ?_
  refine r_iconst 0 dX7_findSides_1 (by decide) ?_
  refine r_iload_n 1 dX7_findSides_2 rfl ?_
  refine r_ldc (v := 65535) kw_X7_191 dX7_findSides_3 ?_
  obtain ⟨⟨xq1, hq2⟩, exq1, hm⟩ := am_bs hm
  try dsimp only at hm
  refine r_cV1 [.int 0, .int a, .int 65535] (ct_X7_partsBy l exq1) vm_X7_192 (cs_X7_partsBy exq1) (by decide) ⟨rfl, rfl⟩ rfl (Nat.le_of_ble_eq_true rfl) dX7_findSides_5 ?_
  refine r_pop dX7_findSides_8 rfl ?_
  refine r_iconst 0 dX7_findSides_9 (by decide) ?_
  refine r_istore_n [(2, .int 0), (0, .ref p), (1, .int a)] dX7_findSides_10 (by decide) rfl ?_
  obtain ⟨hq4, ew, hm⟩ := am_bs hm
  try dsimp only at hm
  refine r_lv [1, 2, 0] _ rfl (ll_X7_findSides_11 l f p a _ f 0 hq2 _ ew ?_)
  refine r_iconst 0 dX7_findSides_38 (by decide) ?_
  refine r_istore_n [(2, .int 0), (0, .ref p), (1, .int a)] dX7_findSides_39 (by decide) rfl ?_
  obtain ⟨hq5, ew, hm⟩ := am_bs hm
  try dsimp only at hm
  refine r_lv [1, 2, 0] _ rfl (ll_X7_findSides_40 l f p a _ f 0 hq4 _ ew ?_)
  refine r_iconst 0 dX7_findSides_84 (by decide) ?_
  refine r_istore_n [(2, .int 0), (0, .ref p), (1, .int a)] dX7_findSides_85 (by decide) rfl ?_
  obtain ⟨hq6, ew, hm⟩ := am_bs hm
  try dsimp only at hm
  refine r_lv [1, 2, 0] _ rfl (ll_X7_findSides_86 l f p a _ f 0 hq5 _ ew ?_)
  cases hm
  exact r_return dX7_findSides_151 rfl (by decide) HK
def lo_X7_oddParts_9 (f : Nat) (h : am_H) (a0 : Nat) : Nat → Int32 → Int32 → Option (Int32)
  | 0, _, _ => none
  | n + 1, a2, a3 =>
  (if 8 ≤ a3 then
  (some a2)
  else (Option.bind (am_gr h 7 a0 10) fun xq1 =>
  Option.bind (am_li h 9 xq1 a3) fun xq2 =>
  lo_X7_oddParts_9 f h a0 n (a2 + xq2) (a3 + 1)))
set_option maxHeartbeats 4000000 in
set_option maxRecDepth 100000 in
theorem ll_X7_oddParts_9 (l : Launch) (f : Nat) (h : am_H) (a0 : Nat) (K : Option Value → am_H → Prop) : ∀ (n : Nat) (a2 : Int32) (a3 : Int32) (z : Int32), lo_X7_oddParts_9 f h a0 n a2 a3 = some z →
    am_R l yX7_oddParts cX7_oddParts 4 (some .int) rm_X7_oddParts (fun _ _ _ => True) 0 0 30 [(2, .int z)] [] h K →
    am_R l yX7_oddParts cX7_oddParts 4 (some .int) rm_X7_oddParts (fun _ _ _ => True) 0 0 9 [(0, .ref a0), (2, .int a2), (3, .int a3)] [] h K := by
  intro n
  induction n with
  | zero =>
    intro a2 a3 z hm kE
    cases hm
  | succ n ih =>
    intro a2 a3 z hm kE
    rw [lo_X7_oddParts_9.eq_2] at hm
    refine r_iload_n 2 dX7_oddParts_9 rfl ?_
    refine r_bipush 8 dX7_oddParts_10 (by decide) ?_
    refine r_icmp_ge 30 dX7_oddParts_12 (by decide) (fun q => ?_) (fun q => ?_)
    · rw [if_pos q] at hm
      cases hm
      exact r_lv [1] _ rfl kE
    · rw [if_neg q] at hm
      refine r_iload_n 1 dX7_oddParts_15 rfl ?_
      refine r_aload_n 0 dX7_oddParts_16 rfl ?_
      obtain ⟨xq1, exq1, hm⟩ := am_bs hm
      refine r_getr exq1 fl_X7_31 rfl dX7_oddParts_17 ?_
      refine r_iload_n 2 dX7_oddParts_20 rfl ?_
      obtain ⟨xq2, exq2, hm⟩ := am_bs hm
      refine r_iald exq2 dX7_oddParts_21 ?_
      refine r_iadd dX7_oddParts_22 ?_
      refine r_istore_n [(2, .int (a2 + xq2)), (0, .ref a0), (3, .int a3)] dX7_oddParts_23 (by decide) rfl ?_
      refine r_inc 1 2 [(3, .int (a3 + 1)), (2, .int (a2 + xq2)), (0, .ref a0)] dX7_oddParts_24 (by decide) rfl (by decide) rfl ?_
      refine r_goto 9 dX7_oddParts_27 (by decide) ?_
      exact r_lv [2, 1, 0] _ rfl (ih (a2 + xq2) (a3 + 1) _ hm kE)
def mi_X7_oddParts (f : Nat) (h : am_H) (p : Nat) (a : Int32) : Option (Int32 × am_H) :=
  Option.bind (am_cls h 7 p) fun _n =>
  Option.bind (mi_X7_findSides f h p a) fun hq2 =>
  Option.bind (lo_X7_oddParts_9 f hq2 p f 0 0) fun oq3 =>
  some (oq3, hq2)
theorem cs_X7_oddParts {f : Nat} {h : am_H} {p : Nat} {a : Int32} {z : (Int32 × am_H)} (hm : mi_X7_oddParts f h p a = some z) : ∃ n, h.1[p]? = some (7, n) := by
  unfold mi_X7_oddParts at hm
  obtain ⟨n, hn, -⟩ := am_bs hm
  exact ⟨n, am_cls_of hn⟩
set_option maxHeartbeats 4000000 in
set_option maxRecDepth 100000 in
theorem ct_X7_oddParts (l : Launch) {f : Nat} {h : am_H} {p : Nat} {a : Int32} {r : Int32} {h2 : am_H} (hm : mi_X7_oddParts f h p a = some (r, h2)) : am_Ct l yX7_oddParts cX7_oddParts 4 (some .int) rm_X7_oddParts [.ref p, .int a] h (some (.int r)) h2 := by
  refine am_met2 [(0, .ref p), (1, .int a)] (by decide) (Nat.le_of_ble_eq_true rfl) rfl ?_
  generalize hK : (fun (v : Option Value) (h3 : am_H) => v = (some (.int r)) ∧ h3 = h2) = K
  have HK : K (some (.int r)) h2 := by rw [← hK]; exact ⟨rfl, rfl⟩
  clear hK
  unfold mi_X7_oddParts at hm
  obtain ⟨_n, _hn, hm⟩ := am_bs hm
  refine r_aload_n 0 dX7_oddParts_0 rfl ?_
  refine r_iload_n 1 dX7_oddParts_1 rfl ?_
  obtain ⟨hq2, exq1, hm⟩ := am_bs hm
  refine r_cV0 [.int a] (ct_X7_findSides l exq1) vm_X7_200 (cs_X7_findSides exq1) (by decide) ⟨rfl, rfl⟩ rfl (Nat.le_of_ble_eq_true rfl) dX7_oddParts_2 ?_
  refine r_iconst 0 dX7_oddParts_5 (by decide) ?_
  refine r_istore_n [(2, .int 0), (0, .ref p), (1, .int a)] dX7_oddParts_6 (by decide) rfl ?_
  refine r_iconst 0 dX7_oddParts_7 (by decide) ?_
  refine r_istore_n [(3, .int 0), (2, .int 0), (0, .ref p), (1, .int a)] dX7_oddParts_8 (by decide) rfl ?_
  obtain ⟨oq3, ew, hm⟩ := am_bs hm
  try dsimp only at hm
  refine r_lv [2, 1, 0] _ rfl (ll_X7_oddParts_9 l f hq2 p _ f 0 0 _ ew ?_)
  refine r_iload_n 0 dX7_oddParts_30 rfl ?_
  cases hm
  exact r_ireturn dX7_oddParts_31 rfl (by decide) HK
def lo_X7_depthOf_4 (f : Nat) (h : am_H) : Nat → Int32 → Int32 → Option (Int32)
  | 0, _, _ => none
  | n + 1, a1, a2 =>
  (if a2 ≤ 1 then
  (some a1)
  else (lo_X7_depthOf_4 f h n (a1 + 1) (a2 / 2)))
set_option maxHeartbeats 4000000 in
set_option maxRecDepth 100000 in
theorem ll_X7_depthOf_4 (l : Launch) (f : Nat) (h : am_H) (K : Option Value → am_H → Prop) : ∀ (n : Nat) (a1 : Int32) (a2 : Int32) (z : Int32), lo_X7_depthOf_4 f h n a1 a2 = some z →
    am_R l yX7_depthOf cX7_depthOf 3 (some .int) rm_X7_depthOf (fun _ _ _ => True) 0 0 19 [(1, .int z)] [] h K →
    am_R l yX7_depthOf cX7_depthOf 3 (some .int) rm_X7_depthOf (fun _ _ _ => True) 0 0 4 [(1, .int a1), (2, .int a2)] [] h K := by
  intro n
  induction n with
  | zero =>
    intro a1 a2 z hm kE
    cases hm
  | succ n ih =>
    intro a1 a2 z hm kE
    rw [lo_X7_depthOf_4.eq_2] at hm
    refine r_iload_n 1 dX7_depthOf_4 rfl ?_
    refine r_iconst 1 dX7_depthOf_5 (by decide) ?_
    refine r_icmp_le 19 dX7_depthOf_6 (by decide) (fun q => ?_) (fun q => ?_)
    · rw [if_pos q] at hm
      cases hm
      exact r_lv [0] _ rfl kE
    · rw [if_neg q] at hm
      refine r_inc 1 0 [(1, .int (a1 + 1)), (2, .int a2)] dX7_depthOf_9 (by decide) rfl (by decide) rfl ?_
      refine r_iload_n 1 dX7_depthOf_12 rfl ?_
      refine r_iconst 2 dX7_depthOf_13 (by decide) ?_
      refine r_idiv dX7_depthOf_14 (by decide) ?_
      refine r_istore_n [(2, .int (a2 / 2)), (1, .int (a1 + 1))] dX7_depthOf_15 (by decide) rfl ?_
      refine r_goto 4 dX7_depthOf_16 (by decide) ?_
      exact r_lv [1, 0] _ rfl (ih (a1 + 1) (a2 / 2) _ hm kE)
def mi_X7_depthOf (f : Nat) (h : am_H) (a : Int32) : Option Int32 :=
  Option.bind (lo_X7_depthOf_4 f h f 0 a) fun oq1 =>
  some oq1
set_option maxHeartbeats 4000000 in
set_option maxRecDepth 100000 in
theorem ct_X7_depthOf (l : Launch) {f : Nat} {h : am_H} {a : Int32} {r : Int32} (hm : mi_X7_depthOf f h a = some r) : am_Ct l yX7_depthOf cX7_depthOf 3 (some .int) rm_X7_depthOf [.int a] h (some (.int r)) h := by
  refine am_met2 [(0, .int a)] (by decide) (Nat.le_of_ble_eq_true rfl) rfl ?_
  generalize hK : (fun (v : Option Value) (h3 : am_H) => v = (some (.int r)) ∧ h3 = h) = K
  have HK : K (some (.int r)) h := by rw [← hK]; exact ⟨rfl, rfl⟩
  clear hK
  unfold mi_X7_depthOf at hm
  refine r_iconst 0 dX7_depthOf_0 (by decide) ?_
  refine r_istore_n [(1, .int 0), (0, .int a)] dX7_depthOf_1 (by decide) rfl ?_
  refine r_iload_n 1 dX7_depthOf_2 rfl ?_
  refine r_istore_n [(2, .int a), (1, .int 0), (0, .int a)] dX7_depthOf_3 (by decide) rfl ?_
  obtain ⟨oq1, ew, hm⟩ := am_bs hm
  try dsimp only at hm
  refine r_lv [1, 0] _ rfl (ll_X7_depthOf_4 l f h _ f 0 a _ ew ?_)
  refine r_iload_n 0 dX7_depthOf_19 rfl ?_
  cases hm
  exact r_ireturn dX7_depthOf_20 rfl (by decide) HK
def mi_X7_firstOf (f : Nat) (h : am_H) (a : Int32) : Option Int32 :=
  Option.bind (mi_X7_depthOf f h a) fun xq1 =>
  some ((a - ((1 : Int32) <<< (xq1 &&& 31))) * ((16 : Int32) >>> (xq1 &&& 31)))
set_option maxHeartbeats 4000000 in
set_option maxRecDepth 100000 in
theorem ct_X7_firstOf (l : Launch) {f : Nat} {h : am_H} {a : Int32} {r : Int32} (hm : mi_X7_firstOf f h a = some r) : am_Ct l yX7_firstOf cX7_firstOf 2 (some .int) rm_X7_firstOf [.int a] h (some (.int r)) h := by
  refine am_met2 [(0, .int a)] (by decide) (Nat.le_of_ble_eq_true rfl) rfl ?_
  generalize hK : (fun (v : Option Value) (h3 : am_H) => v = (some (.int r)) ∧ h3 = h) = K
  have HK : K (some (.int r)) h := by rw [← hK]; exact ⟨rfl, rfl⟩
  clear hK
  unfold mi_X7_firstOf at hm
  refine r_iload_n 0 dX7_firstOf_0 rfl ?_
  obtain ⟨xq1, exq1, hm⟩ := am_bs hm
  refine r_cS1 [.int a] (ct_X7_depthOf l exq1) sm_X7_129 (by decide) ⟨rfl, rfl⟩ rfl (Nat.le_of_ble_eq_true rfl) dX7_firstOf_1 ?_
  refine r_istore_n [(1, .int xq1), (0, .int a)] dX7_firstOf_4 (by decide) rfl ?_
  refine r_iload_n 1 dX7_firstOf_5 rfl ?_
  refine r_iconst 1 dX7_firstOf_6 (by decide) ?_
  refine r_iload_n 0 dX7_firstOf_7 rfl ?_
  refine r_ishl dX7_firstOf_8 ?_
  refine r_isub dX7_firstOf_9 ?_
  refine r_bipush 16 dX7_firstOf_10 (by decide) ?_
  refine r_iload_n 0 dX7_firstOf_12 rfl ?_
  refine r_ishr dX7_firstOf_13 ?_
  refine r_imul dX7_firstOf_14 ?_
  cases hm
  exact r_ireturn dX7_firstOf_15 rfl (by decide) HK
def mi_X7_lastOf (f : Nat) (h : am_H) (a : Int32) : Option Int32 :=
  Option.bind (mi_X7_firstOf f h a) fun xq1 =>
  Option.bind (mi_X7_depthOf f h a) fun xq2 =>
  some ((xq1 + ((16 : Int32) >>> (xq2 &&& 31))) - 1)
set_option maxHeartbeats 4000000 in
set_option maxRecDepth 100000 in
theorem ct_X7_lastOf (l : Launch) {f : Nat} {h : am_H} {a : Int32} {r : Int32} (hm : mi_X7_lastOf f h a = some r) : am_Ct l yX7_lastOf cX7_lastOf 1 (some .int) rm_X7_lastOf [.int a] h (some (.int r)) h := by
  refine am_met2 [(0, .int a)] (by decide) (Nat.le_of_ble_eq_true rfl) rfl ?_
  generalize hK : (fun (v : Option Value) (h3 : am_H) => v = (some (.int r)) ∧ h3 = h) = K
  have HK : K (some (.int r)) h := by rw [← hK]; exact ⟨rfl, rfl⟩
  clear hK
  unfold mi_X7_lastOf at hm
  refine r_iload_n 0 dX7_lastOf_0 rfl ?_
  obtain ⟨xq1, exq1, hm⟩ := am_bs hm
  refine r_cS1 [.int a] (ct_X7_firstOf l exq1) sm_X7_132 (by decide) ⟨rfl, rfl⟩ rfl (Nat.le_of_ble_eq_true rfl) dX7_lastOf_1 ?_
  refine r_bipush 16 dX7_lastOf_4 (by decide) ?_
  refine r_iload_n 0 dX7_lastOf_6 rfl ?_
  obtain ⟨xq2, exq2, hm⟩ := am_bs hm
  refine r_cS1 [.int a] (ct_X7_depthOf l exq2) sm_X7_129 (by decide) ⟨rfl, rfl⟩ rfl (Nat.le_of_ble_eq_true rfl) dX7_lastOf_7 ?_
  refine r_ishr dX7_lastOf_10 ?_
  refine r_iadd dX7_lastOf_11 ?_
  refine r_iconst 1 dX7_lastOf_12 (by decide) ?_
  refine r_isub dX7_lastOf_13 ?_
  cases hm
  exact r_ireturn dX7_lastOf_14 rfl (by decide) HK
def mi_X7_fills (f : Nat) (h : am_H) (a : Int32) (b : Int32) : Option Bool :=
  Option.bind (mi_X7_fromOf f h a) fun xq1 =>
  Option.bind (mi_X7_firstOf f h b) fun xq2 =>
  Option.bind ((if xq2 < xq1 then
  (some false)
  else (Option.bind (mi_X7_toOf f h a) fun xq4 =>
  Option.bind (mi_X7_lastOf f h b) fun xq5 =>
  (if xq4 < xq5 then
  (some false)
  else (some true))))) fun jq3 =>
  some jq3
set_option maxHeartbeats 4000000 in
set_option maxRecDepth 100000 in
theorem ct_X7_fills (l : Launch) {f : Nat} {h : am_H} {a : Int32} {b : Int32} {r : Bool} (hm : mi_X7_fills f h a b = some r) : am_Ct l yX7_fills cX7_fills 2 (some .boolean) rm_X7_fills [.int a, .int b] h (some (.int (am_b r))) h := by
  refine am_met2 [(0, .int a), (1, .int b)] (by decide) (Nat.le_of_ble_eq_true rfl) rfl ?_
  generalize hK : (fun (v : Option Value) (h3 : am_H) => v = (some (.int (am_b r))) ∧ h3 = h) = K
  have HK : K (some (.int (am_b r))) h := by rw [← hK]; exact ⟨rfl, rfl⟩
  clear hK
  unfold mi_X7_fills at hm
  refine r_iload_n 0 dX7_fills_0 rfl ?_
  obtain ⟨xq1, exq1, hm⟩ := am_bs hm
  refine r_cS1 [.int a] (ct_X7_fromOf l exq1) sm_X7_64 (by decide) ⟨rfl, rfl⟩ rfl (Nat.le_of_ble_eq_true rfl) dX7_fills_1 ?_
  refine r_iload_n 1 dX7_fills_4 rfl ?_
  obtain ⟨xq2, exq2, hm⟩ := am_bs hm
  refine r_cS1 [.int b] (ct_X7_firstOf l exq2) sm_X7_132 (by decide) ⟨rfl, rfl⟩ rfl (Nat.le_of_ble_eq_true rfl) dX7_fills_5 ?_
  obtain ⟨jq3, hw, hm⟩ := am_bs hm
  try dsimp only at hm
  have HJ : am_R l yX7_fills cX7_fills 2 (some .boolean) rm_X7_fills (fun _ _ _ => True) 0 0 27 [] [.int (am_b jq3)] h K := by
    cases hm
    exact r_zreturn _ dX7_fills_27 rfl (by decide) HK
  clear hm
  have hm := hw
  clear hw
  refine r_icmp_gt 26 dX7_fills_8 (by decide) (fun q => ?_) (fun q => ?_)
  · rw [if_pos q] at hm
    refine r_iconst 0 dX7_fills_26 (by decide) ?_
    cases hm
    exact r_lv [] _ rfl HJ
  · rw [if_neg q] at hm
    refine r_iload_n 0 dX7_fills_11 rfl ?_
    obtain ⟨xq4, exq4, hm⟩ := am_bs hm
    refine r_cS1 [.int a] (ct_X7_toOf l exq4) sm_X7_68 (by decide) ⟨rfl, rfl⟩ rfl (Nat.le_of_ble_eq_true rfl) dX7_fills_12 ?_
    refine r_iload_n 1 dX7_fills_15 rfl ?_
    obtain ⟨xq5, exq5, hm⟩ := am_bs hm
    refine r_cS1 [.int b] (ct_X7_lastOf l exq5) sm_X7_135 (by decide) ⟨rfl, rfl⟩ rfl (Nat.le_of_ble_eq_true rfl) dX7_fills_16 ?_
    refine r_icmp_lt 26 dX7_fills_19 (by decide) (fun q => ?_) (fun q => ?_)
    · rw [if_pos q] at hm
      refine r_iconst 0 dX7_fills_26 (by decide) ?_
      cases hm
      exact r_lv [] _ rfl HJ
    · rw [if_neg q] at hm
      refine r_iconst 1 dX7_fills_22 (by decide) ?_
      refine r_goto 27 dX7_fills_23 (by decide) ?_
      cases hm
      exact r_lv [] _ rfl HJ
def mi_X7_lies (f : Nat) (h : am_H) (a : Int32) (b : Int32) : Option Bool :=
  Option.bind (mi_X7_fills f h a b) fun xq1 =>
  Option.bind ((if xq1 = true then
  ((if b = 1 then
  (some true)
  else (Option.bind (mi_X7_fills f h a (b / 2)) fun xq3 =>
  (if xq3 = true then
  (some false)
  else (some true)))))
  else (some false))) fun jq2 =>
  some jq2
set_option maxHeartbeats 4000000 in
set_option maxRecDepth 100000 in
theorem ct_X7_lies (l : Launch) {f : Nat} {h : am_H} {a : Int32} {b : Int32} {r : Bool} (hm : mi_X7_lies f h a b = some r) : am_Ct l yX7_lies cX7_lies 2 (some .boolean) rm_X7_lies [.int a, .int b] h (some (.int (am_b r))) h := by
  refine am_met2 [(0, .int a), (1, .int b)] (by decide) (Nat.le_of_ble_eq_true rfl) rfl ?_
  generalize hK : (fun (v : Option Value) (h3 : am_H) => v = (some (.int (am_b r))) ∧ h3 = h) = K
  have HK : K (some (.int (am_b r))) h := by rw [← hK]; exact ⟨rfl, rfl⟩
  clear hK
  unfold mi_X7_lies at hm
  refine r_iload_n 0 dX7_lies_0 rfl ?_
  refine r_iload_n 1 dX7_lies_1 rfl ?_
  obtain ⟨xq1, exq1, hm⟩ := am_bs hm
  refine r_cS1 [.int a, .int b] (ct_X7_fills l exq1) sm_X7_138 (by decide) ⟨rfl, rfl⟩ rfl (Nat.le_of_ble_eq_true rfl) dX7_lies_2 ?_
  obtain ⟨jq2, hw, hm⟩ := am_bs hm
  try dsimp only at hm
  have HJ : am_R l yX7_lies cX7_lies 2 (some .boolean) rm_X7_lies (fun _ _ _ => True) 0 0 28 [] [.int (am_b jq2)] h K := by
    cases hm
    exact r_zreturn _ dX7_lies_28 rfl (by decide) HK
  clear hm
  have hm := hw
  clear hw
  refine r_if_eq 27 dX7_lies_5 (by decide) (fun q => ?_) (fun q => ?_)
  · rw [if_neg (show ¬ xq1 = true from by rw [am_b0 q]; decide)] at hm
    refine r_iconst 0 dX7_lies_27 (by decide) ?_
    cases hm
    exact r_lv [] _ rfl HJ
  · rw [if_pos (show xq1 = true from am_b1 q)] at hm
    refine r_iload_n 1 dX7_lies_8 rfl ?_
    refine r_iconst 1 dX7_lies_9 (by decide) ?_
    refine r_icmp_eq 23 dX7_lies_10 (by decide) (fun q => ?_) (fun q => ?_)
    · rw [if_pos q] at hm
      refine r_iconst 1 dX7_lies_23 (by decide) ?_
      refine r_goto 28 dX7_lies_24 (by decide) ?_
      cases hm
      exact r_lv [] _ rfl HJ
    · rw [if_neg q] at hm
      refine r_iload_n 0 dX7_lies_13 rfl ?_
      refine r_iload_n 1 dX7_lies_14 rfl ?_
      refine r_iconst 2 dX7_lies_15 (by decide) ?_
      refine r_idiv dX7_lies_16 (by decide) ?_
      obtain ⟨xq3, exq3, hm⟩ := am_bs hm
      refine r_cS1 [.int a, .int (b / 2)] (ct_X7_fills l exq3) sm_X7_138 (by decide) ⟨rfl, rfl⟩ rfl (Nat.le_of_ble_eq_true rfl) dX7_lies_17 ?_
      refine r_if_ne 27 dX7_lies_20 (by decide) (fun q => ?_) (fun q => ?_)
      · rw [if_pos (show xq3 = true from am_b1 q)] at hm
        refine r_iconst 0 dX7_lies_27 (by decide) ?_
        cases hm
        exact r_lv [] _ rfl HJ
      · rw [if_neg (show ¬ xq3 = true from by rw [am_b0 q]; decide)] at hm
        refine r_iconst 1 dX7_lies_23 (by decide) ?_
        refine r_goto 28 dX7_lies_24 (by decide) ?_
        cases hm
        exact r_lv [] _ rfl HJ
def lo_X7_walkTo_25 (f : Nat) (a0 : Nat) (a1 : Int32) (a3 : Int32) (a4 : Int32) : Nat → Int32 → Int32 → am_H → Option (Int32 × am_H)
  | 0, _, _, _ => none
  | n + 1, a2, a5, h =>
  Option.bind (mi_X7_many f h a0 0) fun xq1 =>
  (if xq1 ≤ a5 then
  (some (a2, h))
  else (Option.bind (mi_X7_spanOf f h a0 0 a5) fun xq2 =>
  Option.bind (mi_X7_lies f h xq2 a4) fun xq3 =>
  Option.bind ((if xq3 = true then
  (Option.bind (mi_X7_spanOf f h a0 0 a5) fun xq6 =>
  Option.bind (mi_X7_joins f h a0 xq6) fun (xq7, hq8) =>
  (if xq7 = true then
  (some (true, hq8))
  else (some (false, hq8))))
  else (some (false, h)))) fun (jq4, hq5) =>
  lo_X7_walkTo_25 f a0 a1 a3 a4 n (a2 + (am_b jq4)) (a5 + 1) hq5))
set_option maxHeartbeats 4000000 in
set_option maxRecDepth 100000 in
theorem ll_X7_walkTo_25 (l : Launch) (f : Nat) (a0 : Nat) (a1 : Int32) (a3 : Int32) (a4 : Int32) (K : Option Value → am_H → Prop) : ∀ (n : Nat) (a2 : Int32) (a5 : Int32) (h : am_H) (z : Int32 × am_H), lo_X7_walkTo_25 f a0 a1 a3 a4 n a2 a5 h = some z →
    am_R l yX7_walkTo cX7_walkTo 6 (some .int) rm_X7_walkTo (fun _ _ _ => True) 0 0 78 [(0, .ref a0), (1, .int a1), (2, .int z.1), (3, .int a3)] [] z.2 K →
    am_R l yX7_walkTo cX7_walkTo 6 (some .int) rm_X7_walkTo (fun _ _ _ => True) 0 0 25 [(0, .ref a0), (1, .int a1), (2, .int a2), (3, .int a3), (4, .int a4), (5, .int a5)] [] h K := by
  intro n
  induction n with
  | zero =>
    intro a2 a5 h z hm kE
    cases hm
  | succ n ih =>
    intro a2 a5 h z hm kE
    rw [lo_X7_walkTo_25.eq_2] at hm
    refine r_iload 5 dX7_walkTo_25 rfl ?_
    refine r_aload_n 0 dX7_walkTo_27 rfl ?_
    refine r_iconst 0 dX7_walkTo_28 (by decide) ?_
    obtain ⟨xq1, exq1, hm⟩ := am_bs hm
    refine r_cV1 [.int 0] (ct_X7_many l exq1) vm_X7_105 (cs_X7_many exq1) (by decide) ⟨rfl, rfl⟩ rfl (Nat.le_of_ble_eq_true rfl) dX7_walkTo_29 ?_
    refine r_icmp_ge 78 dX7_walkTo_32 (by decide) (fun q => ?_) (fun q => ?_)
    · rw [if_pos q] at hm
      cases hm
      exact r_lv [0, 1, 2, 3] _ rfl kE
    · rw [if_neg q] at hm
      refine r_iload_n 2 dX7_walkTo_35 rfl ?_
      refine r_aload_n 0 dX7_walkTo_36 rfl ?_
      refine r_iconst 0 dX7_walkTo_37 (by decide) ?_
      refine r_iload 5 dX7_walkTo_38 rfl ?_
      obtain ⟨xq2, exq2, hm⟩ := am_bs hm
      refine r_cV1 [.int 0, .int a5] (ct_X7_spanOf l exq2) vm_X7_108 (cs_X7_spanOf exq2) (by decide) ⟨rfl, rfl⟩ rfl (Nat.le_of_ble_eq_true rfl) dX7_walkTo_40 ?_
      refine r_iload 4 dX7_walkTo_43 rfl ?_
      obtain ⟨xq3, exq3, hm⟩ := am_bs hm
      refine r_cS1 [.int xq2, .int a4] (ct_X7_lies l exq3) sm_X7_142 (by decide) ⟨rfl, rfl⟩ rfl (Nat.le_of_ble_eq_true rfl) dX7_walkTo_45 ?_
      obtain ⟨⟨jq4, hq5⟩, hw, hm⟩ := am_bs hm
      try dsimp only at hm
      have HJ : am_R l yX7_walkTo cX7_walkTo 6 (some .int) rm_X7_walkTo (fun _ _ _ => True) 0 0 70 [(0, .ref a0), (1, .int a1), (3, .int a3), (4, .int a4), (5, .int a5)] [.int (am_b jq4), .int a2] hq5 K := by
        refine r_iadd dX7_walkTo_70 ?_
        refine r_istore_n [(2, .int (a2 + (am_b jq4))), (0, .ref a0), (1, .int a1), (3, .int a3), (4, .int a4), (5, .int a5)] dX7_walkTo_71 (by decide) rfl ?_
        refine r_inc 1 5 [(5, .int (a5 + 1)), (2, .int (a2 + (am_b jq4))), (0, .ref a0), (1, .int a1), (3, .int a3), (4, .int a4)] dX7_walkTo_72 (by decide) rfl (by decide) rfl ?_
        refine r_goto 25 dX7_walkTo_75 (by decide) ?_
        exact r_lv [2, 3, 1, 4, 5, 0] _ rfl (ih (a2 + (am_b jq4)) (a5 + 1) hq5 _ hm kE)
      clear hm
      have hm := hw
      clear hw
      refine r_if_eq 69 dX7_walkTo_48 (by decide) (fun q => ?_) (fun q => ?_)
      · rw [if_neg (show ¬ xq3 = true from by rw [am_b0 q]; decide)] at hm
        refine r_iconst 0 dX7_walkTo_69 (by decide) ?_
        cases hm
        exact r_lv [0, 1, 3, 4, 5] _ rfl HJ
      · rw [if_pos (show xq3 = true from am_b1 q)] at hm
        refine r_aload_n 0 dX7_walkTo_51 rfl ?_
        refine r_aload_n 0 dX7_walkTo_52 rfl ?_
        refine r_iconst 0 dX7_walkTo_53 (by decide) ?_
        refine r_iload 5 dX7_walkTo_54 rfl ?_
        obtain ⟨xq6, exq6, hm⟩ := am_bs hm
        refine r_cV1 [.int 0, .int a5] (ct_X7_spanOf l exq6) vm_X7_108 (cs_X7_spanOf exq6) (by decide) ⟨rfl, rfl⟩ rfl (Nat.le_of_ble_eq_true rfl) dX7_walkTo_56 ?_
        obtain ⟨⟨xq7, hq8⟩, exq7, hm⟩ := am_bs hm
        try dsimp only at hm
        refine r_cV1 [.int xq6] (ct_X7_joins l exq7) vm_X7_182 (cs_X7_joins exq7) (by decide) ⟨rfl, rfl⟩ rfl (Nat.le_of_ble_eq_true rfl) dX7_walkTo_59 ?_
        refine r_if_eq 69 dX7_walkTo_62 (by decide) (fun q => ?_) (fun q => ?_)
        · rw [if_neg (show ¬ xq7 = true from by rw [am_b0 q]; decide)] at hm
          refine r_iconst 0 dX7_walkTo_69 (by decide) ?_
          cases hm
          exact r_lv [0, 1, 3, 4, 5] _ rfl HJ
        · rw [if_pos (show xq7 = true from am_b1 q)] at hm
          refine r_iconst 1 dX7_walkTo_65 (by decide) ?_
          refine r_goto 70 dX7_walkTo_66 (by decide) ?_
          cases hm
          exact r_lv [0, 1, 3, 4, 5] _ rfl HJ
def lo_X7_walkTo_11 (f : Nat) (a0 : Nat) (a1 : Int32) : Nat → Int32 → Int32 → am_H → Option (Int32 × am_H)
  | 0, _, _, _ => none
  | n + 1, a2, a3, h =>
  (if a3 < 0 then
  (some (a2, h))
  else (Option.bind (lo_X7_walkTo_25 f a0 a1 a3 (a1 >>> (a3 &&& 31)) f 0 0 h) fun (oq1, hq2) =>
  lo_X7_walkTo_11 f a0 a1 n oq1 (a3 + (-1)) hq2))
set_option maxHeartbeats 4000000 in
set_option maxRecDepth 100000 in
theorem ll_X7_walkTo_11 (l : Launch) (f : Nat) (a0 : Nat) (a1 : Int32) (K : Option Value → am_H → Prop) : ∀ (n : Nat) (a2 : Int32) (a3 : Int32) (h : am_H) (z : Int32 × am_H), lo_X7_walkTo_11 f a0 a1 n a2 a3 h = some z →
    am_R l yX7_walkTo cX7_walkTo 6 (some .int) rm_X7_walkTo (fun _ _ _ => True) 0 0 84 [(2, .int z.1)] [] z.2 K →
    am_R l yX7_walkTo cX7_walkTo 6 (some .int) rm_X7_walkTo (fun _ _ _ => True) 0 0 11 [(0, .ref a0), (1, .int a1), (2, .int a2), (3, .int a3)] [] h K := by
  intro n
  induction n with
  | zero =>
    intro a2 a3 h z hm kE
    cases hm
  | succ n ih =>
    intro a2 a3 h z hm kE
    rw [lo_X7_walkTo_11.eq_2] at hm
    refine r_iload_n 3 dX7_walkTo_11 rfl ?_
    refine r_if_lt 84 dX7_walkTo_12 (by decide) (fun q => ?_) (fun q => ?_)
    · rw [if_pos q] at hm
      cases hm
      exact r_lv [2] _ rfl kE
    · rw [if_neg q] at hm
      refine r_iload_n 1 dX7_walkTo_15 rfl ?_
      refine r_iload_n 3 dX7_walkTo_16 rfl ?_
      refine r_ishr dX7_walkTo_17 ?_
      refine r_istore [(4, .int (a1 >>> (a3 &&& 31))), (0, .ref a0), (1, .int a1), (2, .int a2), (3, .int a3)] dX7_walkTo_18 (by decide) rfl ?_
      refine r_iconst 0 dX7_walkTo_20 (by decide) ?_
      refine r_istore_n [(2, .int 0), (4, .int (a1 >>> (a3 &&& 31))), (0, .ref a0), (1, .int a1), (3, .int a3)] dX7_walkTo_21 (by decide) rfl ?_
      refine r_iconst 0 dX7_walkTo_22 (by decide) ?_
      refine r_istore [(5, .int 0), (2, .int 0), (4, .int (a1 >>> (a3 &&& 31))), (0, .ref a0), (1, .int a1), (3, .int a3)] dX7_walkTo_23 (by decide) rfl ?_
      obtain ⟨⟨oq1, hq2⟩, ew, hm⟩ := am_bs hm
      try dsimp only at hm
      refine r_lv [3, 4, 1, 5, 2, 0] _ rfl (ll_X7_walkTo_25 l f a0 a1 a3 (a1 >>> (a3 &&& 31)) _ f 0 0 h _ ew ?_)
      refine r_inc (-1) 3 [(3, .int (a3 + (-1))), (0, .ref a0), (1, .int a1), (2, .int oq1)] dX7_walkTo_78 (by decide) rfl (by decide) rfl ?_
      refine r_goto 11 dX7_walkTo_81 (by decide) ?_
      exact r_lv [1, 2, 3, 0] _ rfl (ih oq1 (a3 + (-1)) hq2 _ hm kE)
def mi_X7_walkTo (f : Nat) (h : am_H) (p : Nat) (a : Int32) : Option (Int32 × am_H) :=
  Option.bind (am_cls h 7 p) fun _n =>
  Option.bind (mi_X7_clearKnots f h p) fun hq2 =>
  Option.bind (mi_X7_depthOf f hq2 a) fun xq3 =>
  Option.bind (lo_X7_walkTo_11 f p a f 0 xq3 hq2) fun (oq4, hq5) =>
  some (oq4, hq5)
theorem cs_X7_walkTo {f : Nat} {h : am_H} {p : Nat} {a : Int32} {z : (Int32 × am_H)} (hm : mi_X7_walkTo f h p a = some z) : ∃ n, h.1[p]? = some (7, n) := by
  unfold mi_X7_walkTo at hm
  obtain ⟨n, hn, -⟩ := am_bs hm
  exact ⟨n, am_cls_of hn⟩
set_option maxHeartbeats 4000000 in
set_option maxRecDepth 100000 in
theorem ct_X7_walkTo (l : Launch) {f : Nat} {h : am_H} {p : Nat} {a : Int32} {r : Int32} {h2 : am_H} (hm : mi_X7_walkTo f h p a = some (r, h2)) : am_Ct l yX7_walkTo cX7_walkTo 6 (some .int) rm_X7_walkTo [.ref p, .int a] h (some (.int r)) h2 := by
  refine am_met2 [(0, .ref p), (1, .int a)] (by decide) (Nat.le_of_ble_eq_true rfl) rfl ?_
  generalize hK : (fun (v : Option Value) (h3 : am_H) => v = (some (.int r)) ∧ h3 = h2) = K
  have HK : K (some (.int r)) h2 := by rw [← hK]; exact ⟨rfl, rfl⟩
  clear hK
  unfold mi_X7_walkTo at hm
  obtain ⟨_n, _hn, hm⟩ := am_bs hm
  refine r_aload_n 0 dX7_walkTo_0 rfl ?_
  obtain ⟨hq2, exq1, hm⟩ := am_bs hm
  refine r_cV0 [] (ct_X7_clearKnots l exq1) vm_X7_179 (cs_X7_clearKnots exq1) (by decide) ⟨rfl, rfl⟩ rfl (Nat.le_of_ble_eq_true rfl) dX7_walkTo_1 ?_
  refine r_iconst 0 dX7_walkTo_4 (by decide) ?_
  refine r_istore_n [(2, .int 0), (0, .ref p), (1, .int a)] dX7_walkTo_5 (by decide) rfl ?_
  refine r_iload_n 2 dX7_walkTo_6 rfl ?_
  obtain ⟨xq3, exq3, hm⟩ := am_bs hm
  refine r_cS1 [.int a] (ct_X7_depthOf l exq3) sm_X7_129 (by decide) ⟨rfl, rfl⟩ rfl (Nat.le_of_ble_eq_true rfl) dX7_walkTo_7 ?_
  refine r_istore_n [(3, .int xq3), (2, .int 0), (0, .ref p), (1, .int a)] dX7_walkTo_10 (by decide) rfl ?_
  obtain ⟨⟨oq4, hq5⟩, ew, hm⟩ := am_bs hm
  try dsimp only at hm
  refine r_lv [2, 3, 1, 0] _ rfl (ll_X7_walkTo_11 l f p a _ f 0 xq3 hq2 _ ew ?_)
  refine r_iload_n 0 dX7_walkTo_84 rfl ?_
  cases hm
  exact r_ireturn dX7_walkTo_85 rfl (by decide) HK
def lo_X7_depthAt_4 (f : Nat) (h : am_H) (a0 : Nat) : Nat → Int32 → Int32 → Option (Int32)
  | 0, _, _ => none
  | n + 1, a2, a3 =>
  Option.bind (am_gr h 7 a0 7) fun xq1 =>
  Option.bind (am_li h 9 xq1 a3) fun xq2 =>
  (if xq2 = a3 then
  (some a2)
  else (Option.bind (am_gr h 7 a0 7) fun xq3 =>
  Option.bind (am_li h 9 xq3 a3) fun xq4 =>
  lo_X7_depthAt_4 f h a0 n (a2 + 1) xq4))
set_option maxHeartbeats 4000000 in
set_option maxRecDepth 100000 in
theorem ll_X7_depthAt_4 (l : Launch) (f : Nat) (h : am_H) (a0 : Nat) (K : Option Value → am_H → Prop) : ∀ (n : Nat) (a2 : Int32) (a3 : Int32) (z : Int32), lo_X7_depthAt_4 f h a0 n a2 a3 = some z →
    am_R l yX7_depthAt cX7_depthAt 4 (some .int) rm_X7_depthAt (fun _ _ _ => True) 0 0 27 [(2, .int z)] [] h K →
    am_R l yX7_depthAt cX7_depthAt 4 (some .int) rm_X7_depthAt (fun _ _ _ => True) 0 0 4 [(0, .ref a0), (2, .int a2), (3, .int a3)] [] h K := by
  intro n
  induction n with
  | zero =>
    intro a2 a3 z hm kE
    cases hm
  | succ n ih =>
    intro a2 a3 z hm kE
    rw [lo_X7_depthAt_4.eq_2] at hm
    refine r_aload_n 0 dX7_depthAt_4 rfl ?_
    obtain ⟨xq1, exq1, hm⟩ := am_bs hm
    refine r_getr exq1 fl_X7_22 rfl dX7_depthAt_5 ?_
    refine r_iload_n 2 dX7_depthAt_8 rfl ?_
    obtain ⟨xq2, exq2, hm⟩ := am_bs hm
    refine r_iald exq2 dX7_depthAt_9 ?_
    refine r_iload_n 2 dX7_depthAt_10 rfl ?_
    refine r_icmp_eq 27 dX7_depthAt_11 (by decide) (fun q => ?_) (fun q => ?_)
    · rw [if_pos q] at hm
      cases hm
      exact r_lv [1] _ rfl kE
    · rw [if_neg q] at hm
      refine r_inc 1 1 [(2, .int (a2 + 1)), (0, .ref a0), (3, .int a3)] dX7_depthAt_14 (by decide) rfl (by decide) rfl ?_
      refine r_aload_n 1 dX7_depthAt_17 rfl ?_
      obtain ⟨xq3, exq3, hm⟩ := am_bs hm
      refine r_getr exq3 fl_X7_22 rfl dX7_depthAt_18 ?_
      refine r_iload_n 2 dX7_depthAt_21 rfl ?_
      obtain ⟨xq4, exq4, hm⟩ := am_bs hm
      refine r_iald exq4 dX7_depthAt_22 ?_
      refine r_istore_n [(3, .int xq4), (2, .int (a2 + 1)), (0, .ref a0)] dX7_depthAt_23 (by decide) rfl ?_
      refine r_goto 4 dX7_depthAt_24 (by decide) ?_
      exact r_lv [2, 1, 0] _ rfl (ih (a2 + 1) xq4 _ hm kE)
def mi_X7_depthAt (f : Nat) (h : am_H) (p : Nat) (a : Int32) : Option Int32 :=
  Option.bind (am_cls h 7 p) fun _n =>
  Option.bind (lo_X7_depthAt_4 f h p f 0 a) fun oq1 =>
  some oq1
theorem cs_X7_depthAt {f : Nat} {h : am_H} {p : Nat} {a : Int32} {z : Int32} (hm : mi_X7_depthAt f h p a = some z) : ∃ n, h.1[p]? = some (7, n) := by
  unfold mi_X7_depthAt at hm
  obtain ⟨n, hn, -⟩ := am_bs hm
  exact ⟨n, am_cls_of hn⟩
set_option maxHeartbeats 4000000 in
set_option maxRecDepth 100000 in
theorem ct_X7_depthAt (l : Launch) {f : Nat} {h : am_H} {p : Nat} {a : Int32} {r : Int32} (hm : mi_X7_depthAt f h p a = some r) : am_Ct l yX7_depthAt cX7_depthAt 4 (some .int) rm_X7_depthAt [.ref p, .int a] h (some (.int r)) h := by
  refine am_met2 [(0, .ref p), (1, .int a)] (by decide) (Nat.le_of_ble_eq_true rfl) rfl ?_
  generalize hK : (fun (v : Option Value) (h3 : am_H) => v = (some (.int r)) ∧ h3 = h) = K
  have HK : K (some (.int r)) h := by rw [← hK]; exact ⟨rfl, rfl⟩
  clear hK
  unfold mi_X7_depthAt at hm
  obtain ⟨_n, _hn, hm⟩ := am_bs hm
  refine r_iconst 0 dX7_depthAt_0 (by decide) ?_
  refine r_istore_n [(2, .int 0), (0, .ref p), (1, .int a)] dX7_depthAt_1 (by decide) rfl ?_
  refine r_iload_n 2 dX7_depthAt_2 rfl ?_
  refine r_istore_n [(3, .int a), (2, .int 0), (0, .ref p), (1, .int a)] dX7_depthAt_3 (by decide) rfl ?_
  obtain ⟨oq1, ew, hm⟩ := am_bs hm
  try dsimp only at hm
  refine r_lv [2, 1, 0] _ rfl (ll_X7_depthAt_4 l f h p _ f 0 a _ ew ?_)
  refine r_iload_n 0 dX7_depthAt_27 rfl ?_
  cases hm
  exact r_ireturn dX7_depthAt_28 rfl (by decide) HK
def lo_X7_greatestDepth_13 (f : Nat) (h : am_H) (a0 : Nat) : Nat → Int32 → Int32 → Option (Int32)
  | 0, _, _ => none
  | n + 1, a2, a3 =>
  (if 8 ≤ a3 then
  (some a2)
  else (Option.bind (mi_X7_depthAt f h a0 a3) fun xq1 =>
  Option.bind ((if xq1 ≤ a2 then
  (some a2)
  else (Option.bind (mi_X7_depthAt f h a0 a3) fun xq3 =>
  some xq3))) fun jq2 =>
  lo_X7_greatestDepth_13 f h a0 n jq2 (a3 + 1)))
set_option maxHeartbeats 4000000 in
set_option maxRecDepth 100000 in
theorem ll_X7_greatestDepth_13 (l : Launch) (f : Nat) (h : am_H) (a0 : Nat) (K : Option Value → am_H → Prop) : ∀ (n : Nat) (a2 : Int32) (a3 : Int32) (z : Int32), lo_X7_greatestDepth_13 f h a0 n a2 a3 = some z →
    am_R l yX7_greatestDepth cX7_greatestDepth 4 (some .int) rm_X7_greatestDepth (fun _ _ _ => True) 0 0 44 [(2, .int z)] [] h K →
    am_R l yX7_greatestDepth cX7_greatestDepth 4 (some .int) rm_X7_greatestDepth (fun _ _ _ => True) 0 0 13 [(0, .ref a0), (2, .int a2), (3, .int a3)] [] h K := by
  intro n
  induction n with
  | zero =>
    intro a2 a3 z hm kE
    cases hm
  | succ n ih =>
    intro a2 a3 z hm kE
    rw [lo_X7_greatestDepth_13.eq_2] at hm
    refine r_iload_n 2 dX7_greatestDepth_13 rfl ?_
    refine r_bipush 8 dX7_greatestDepth_14 (by decide) ?_
    refine r_icmp_ge 44 dX7_greatestDepth_16 (by decide) (fun q => ?_) (fun q => ?_)
    · rw [if_pos q] at hm
      cases hm
      exact r_lv [1] _ rfl kE
    · rw [if_neg q] at hm
      refine r_aload_n 0 dX7_greatestDepth_19 rfl ?_
      refine r_iload_n 2 dX7_greatestDepth_20 rfl ?_
      obtain ⟨xq1, exq1, hm⟩ := am_bs hm
      refine r_cV1 [.int a3] (ct_X7_depthAt l exq1) vm_X7_206 (cs_X7_depthAt exq1) (by decide) ⟨rfl, rfl⟩ rfl (Nat.le_of_ble_eq_true rfl) dX7_greatestDepth_21 ?_
      refine r_iload_n 1 dX7_greatestDepth_24 rfl ?_
      obtain ⟨jq2, hw, hm⟩ := am_bs hm
      try dsimp only at hm
      have HJ : am_R l yX7_greatestDepth cX7_greatestDepth 4 (some .int) rm_X7_greatestDepth (fun _ _ _ => True) 0 0 37 [(0, .ref a0), (3, .int a3)] [.int jq2] h K := by
        refine r_istore_n [(2, .int jq2), (0, .ref a0), (3, .int a3)] dX7_greatestDepth_37 (by decide) rfl ?_
        refine r_inc 1 2 [(3, .int (a3 + 1)), (2, .int jq2), (0, .ref a0)] dX7_greatestDepth_38 (by decide) rfl (by decide) rfl ?_
        refine r_goto 13 dX7_greatestDepth_41 (by decide) ?_
        exact r_lv [2, 1, 0] _ rfl (ih jq2 (a3 + 1) _ hm kE)
      clear hm
      have hm := hw
      clear hw
      refine r_icmp_le 36 dX7_greatestDepth_25 (by decide) (fun q => ?_) (fun q => ?_)
      · rw [if_pos q] at hm
        refine r_iload_n 1 dX7_greatestDepth_36 rfl ?_
        cases hm
        exact r_lv [0, 2] _ rfl HJ
      · rw [if_neg q] at hm
        refine r_aload_n 0 dX7_greatestDepth_28 rfl ?_
        refine r_iload_n 2 dX7_greatestDepth_29 rfl ?_
        obtain ⟨xq3, exq3, hm⟩ := am_bs hm
        refine r_cV1 [.int a3] (ct_X7_depthAt l exq3) vm_X7_206 (cs_X7_depthAt exq3) (by decide) ⟨rfl, rfl⟩ rfl (Nat.le_of_ble_eq_true rfl) dX7_greatestDepth_30 ?_
        refine r_goto 37 dX7_greatestDepth_33 (by decide) ?_
        cases hm
        exact r_lv [0, 2] _ rfl HJ
def mi_X7_greatestDepth (f : Nat) (h : am_H) (p : Nat) (a : Int32) : Option (Int32 × am_H) :=
  Option.bind (am_cls h 7 p) fun _n =>
  Option.bind (mi_X7_walkTo f h p ((16 : Int32) + a)) fun (xq1, hq2) =>
  Option.bind (lo_X7_greatestDepth_13 f hq2 p f 0 0) fun oq4 =>
  some (oq4, hq2)
theorem cs_X7_greatestDepth {f : Nat} {h : am_H} {p : Nat} {a : Int32} {z : (Int32 × am_H)} (hm : mi_X7_greatestDepth f h p a = some z) : ∃ n, h.1[p]? = some (7, n) := by
  unfold mi_X7_greatestDepth at hm
  obtain ⟨n, hn, -⟩ := am_bs hm
  exact ⟨n, am_cls_of hn⟩
set_option maxHeartbeats 4000000 in
set_option maxRecDepth 100000 in
theorem ct_X7_greatestDepth (l : Launch) {f : Nat} {h : am_H} {p : Nat} {a : Int32} {r : Int32} {h2 : am_H} (hm : mi_X7_greatestDepth f h p a = some (r, h2)) : am_Ct l yX7_greatestDepth cX7_greatestDepth 4 (some .int) rm_X7_greatestDepth [.ref p, .int a] h (some (.int r)) h2 := by
  refine am_met2 [(0, .ref p), (1, .int a)] (by decide) (Nat.le_of_ble_eq_true rfl) rfl ?_
  generalize hK : (fun (v : Option Value) (h3 : am_H) => v = (some (.int r)) ∧ h3 = h2) = K
  have HK : K (some (.int r)) h2 := by rw [← hK]; exact ⟨rfl, rfl⟩
  clear hK
  unfold mi_X7_greatestDepth at hm
  obtain ⟨_n, _hn, hm⟩ := am_bs hm
  refine r_aload_n 0 dX7_greatestDepth_0 rfl ?_
  refine r_bipush 16 dX7_greatestDepth_1 (by decide) ?_
  refine r_iload_n 1 dX7_greatestDepth_3 rfl ?_
  refine r_iadd dX7_greatestDepth_4 ?_
  obtain ⟨⟨xq1, hq2⟩, exq1, hm⟩ := am_bs hm
  try dsimp only at hm
  refine r_cV1 [.int ((16 : Int32) + a)] (ct_X7_walkTo l exq1) vm_X7_203 (cs_X7_walkTo exq1) (by decide) ⟨rfl, rfl⟩ rfl (Nat.le_of_ble_eq_true rfl) dX7_greatestDepth_5 ?_
  refine r_pop dX7_greatestDepth_8 rfl ?_
  refine r_iconst 0 dX7_greatestDepth_9 (by decide) ?_
  refine r_istore_n [(2, .int 0), (0, .ref p), (1, .int a)] dX7_greatestDepth_10 (by decide) rfl ?_
  refine r_iconst 0 dX7_greatestDepth_11 (by decide) ?_
  refine r_istore_n [(3, .int 0), (2, .int 0), (0, .ref p), (1, .int a)] dX7_greatestDepth_12 (by decide) rfl ?_
  obtain ⟨oq4, ew, hm⟩ := am_bs hm
  try dsimp only at hm
  refine r_lv [2, 1, 0] _ rfl (ll_X7_greatestDepth_13 l f hq2 p _ f 0 0 _ ew ?_)
  refine r_iload_n 0 dX7_greatestDepth_44 rfl ?_
  cases hm
  exact r_ireturn dX7_greatestDepth_45 rfl (by decide) HK
def lo_X7_greatestPart_13 (f : Nat) (h : am_H) (a0 : Nat) : Nat → Int32 → Int32 → Option (Int32)
  | 0, _, _ => none
  | n + 1, a2, a3 =>
  (if 8 ≤ a3 then
  (some a2)
  else (Option.bind (am_gr h 7 a0 7) fun xq1 =>
  Option.bind (am_li h 9 xq1 a3) fun xq2 =>
  Option.bind ((if xq2 = a3 then
  (Option.bind (am_gr h 7 a0 8) fun xq4 =>
  Option.bind (am_li h 9 xq4 a3) fun xq5 =>
  (if xq5 ≤ a2 then
  (some a2)
  else (Option.bind (am_gr h 7 a0 8) fun xq6 =>
  Option.bind (am_li h 9 xq6 a3) fun xq7 =>
  some xq7)))
  else (some a2))) fun jq3 =>
  lo_X7_greatestPart_13 f h a0 n jq3 (a3 + 1)))
set_option maxHeartbeats 4000000 in
set_option maxRecDepth 100000 in
theorem ll_X7_greatestPart_13 (l : Launch) (f : Nat) (h : am_H) (a0 : Nat) (K : Option Value → am_H → Prop) : ∀ (n : Nat) (a2 : Int32) (a3 : Int32) (z : Int32), lo_X7_greatestPart_13 f h a0 n a2 a3 = some z →
    am_R l yX7_greatestPart cX7_greatestPart 4 (some .int) rm_X7_greatestPart (fun _ _ _ => True) 0 0 56 [(2, .int z)] [] h K →
    am_R l yX7_greatestPart cX7_greatestPart 4 (some .int) rm_X7_greatestPart (fun _ _ _ => True) 0 0 13 [(0, .ref a0), (2, .int a2), (3, .int a3)] [] h K := by
  intro n
  induction n with
  | zero =>
    intro a2 a3 z hm kE
    cases hm
  | succ n ih =>
    intro a2 a3 z hm kE
    rw [lo_X7_greatestPart_13.eq_2] at hm
    refine r_iload_n 2 dX7_greatestPart_13 rfl ?_
    refine r_bipush 8 dX7_greatestPart_14 (by decide) ?_
    refine r_icmp_ge 56 dX7_greatestPart_16 (by decide) (fun q => ?_) (fun q => ?_)
    · rw [if_pos q] at hm
      cases hm
      exact r_lv [1] _ rfl kE
    · rw [if_neg q] at hm
      refine r_aload_n 0 dX7_greatestPart_19 rfl ?_
      obtain ⟨xq1, exq1, hm⟩ := am_bs hm
      refine r_getr exq1 fl_X7_22 rfl dX7_greatestPart_20 ?_
      refine r_iload_n 2 dX7_greatestPart_23 rfl ?_
      obtain ⟨xq2, exq2, hm⟩ := am_bs hm
      refine r_iald exq2 dX7_greatestPart_24 ?_
      refine r_iload_n 2 dX7_greatestPart_25 rfl ?_
      obtain ⟨jq3, hw, hm⟩ := am_bs hm
      try dsimp only at hm
      have HJ : am_R l yX7_greatestPart cX7_greatestPart 4 (some .int) rm_X7_greatestPart (fun _ _ _ => True) 0 0 49 [(0, .ref a0), (3, .int a3)] [.int jq3] h K := by
        refine r_istore_n [(2, .int jq3), (0, .ref a0), (3, .int a3)] dX7_greatestPart_49 (by decide) rfl ?_
        refine r_inc 1 2 [(3, .int (a3 + 1)), (2, .int jq3), (0, .ref a0)] dX7_greatestPart_50 (by decide) rfl (by decide) rfl ?_
        refine r_goto 13 dX7_greatestPart_53 (by decide) ?_
        exact r_lv [2, 1, 0] _ rfl (ih jq3 (a3 + 1) _ hm kE)
      clear hm
      have hm := hw
      clear hw
      refine r_icmp_ne 48 dX7_greatestPart_26 (by decide) (fun q => ?_) (fun q => ?_)
      · rw [if_neg q] at hm
        refine r_iload_n 1 dX7_greatestPart_48 rfl ?_
        cases hm
        exact r_lv [0, 2] _ rfl HJ
      · rw [if_pos q] at hm
        refine r_aload_n 0 dX7_greatestPart_29 rfl ?_
        obtain ⟨xq4, exq4, hm⟩ := am_bs hm
        refine r_getr exq4 fl_X7_25 rfl dX7_greatestPart_30 ?_
        refine r_iload_n 2 dX7_greatestPart_33 rfl ?_
        obtain ⟨xq5, exq5, hm⟩ := am_bs hm
        refine r_iald exq5 dX7_greatestPart_34 ?_
        refine r_iload_n 1 dX7_greatestPart_35 rfl ?_
        refine r_icmp_le 48 dX7_greatestPart_36 (by decide) (fun q => ?_) (fun q => ?_)
        · rw [if_pos q] at hm
          refine r_iload_n 1 dX7_greatestPart_48 rfl ?_
          cases hm
          exact r_lv [0, 2] _ rfl HJ
        · rw [if_neg q] at hm
          refine r_aload_n 0 dX7_greatestPart_39 rfl ?_
          obtain ⟨xq6, exq6, hm⟩ := am_bs hm
          refine r_getr exq6 fl_X7_25 rfl dX7_greatestPart_40 ?_
          refine r_iload_n 2 dX7_greatestPart_43 rfl ?_
          obtain ⟨xq7, exq7, hm⟩ := am_bs hm
          refine r_iald exq7 dX7_greatestPart_44 ?_
          refine r_goto 49 dX7_greatestPart_45 (by decide) ?_
          cases hm
          exact r_lv [0, 2] _ rfl HJ
def mi_X7_greatestPart (f : Nat) (h : am_H) (p : Nat) (a : Int32) : Option (Int32 × am_H) :=
  Option.bind (am_cls h 7 p) fun _n =>
  Option.bind (mi_X7_walkTo f h p ((16 : Int32) + a)) fun (xq1, hq2) =>
  Option.bind (lo_X7_greatestPart_13 f hq2 p f 0 0) fun oq4 =>
  some (oq4, hq2)
theorem cs_X7_greatestPart {f : Nat} {h : am_H} {p : Nat} {a : Int32} {z : (Int32 × am_H)} (hm : mi_X7_greatestPart f h p a = some z) : ∃ n, h.1[p]? = some (7, n) := by
  unfold mi_X7_greatestPart at hm
  obtain ⟨n, hn, -⟩ := am_bs hm
  exact ⟨n, am_cls_of hn⟩
set_option maxHeartbeats 4000000 in
set_option maxRecDepth 100000 in
theorem ct_X7_greatestPart (l : Launch) {f : Nat} {h : am_H} {p : Nat} {a : Int32} {r : Int32} {h2 : am_H} (hm : mi_X7_greatestPart f h p a = some (r, h2)) : am_Ct l yX7_greatestPart cX7_greatestPart 4 (some .int) rm_X7_greatestPart [.ref p, .int a] h (some (.int r)) h2 := by
  refine am_met2 [(0, .ref p), (1, .int a)] (by decide) (Nat.le_of_ble_eq_true rfl) rfl ?_
  generalize hK : (fun (v : Option Value) (h3 : am_H) => v = (some (.int r)) ∧ h3 = h2) = K
  have HK : K (some (.int r)) h2 := by rw [← hK]; exact ⟨rfl, rfl⟩
  clear hK
  unfold mi_X7_greatestPart at hm
  obtain ⟨_n, _hn, hm⟩ := am_bs hm
  refine r_aload_n 0 dX7_greatestPart_0 rfl ?_
  refine r_bipush 16 dX7_greatestPart_1 (by decide) ?_
  refine r_iload_n 1 dX7_greatestPart_3 rfl ?_
  refine r_iadd dX7_greatestPart_4 ?_
  obtain ⟨⟨xq1, hq2⟩, exq1, hm⟩ := am_bs hm
  try dsimp only at hm
  refine r_cV1 [.int ((16 : Int32) + a)] (ct_X7_walkTo l exq1) vm_X7_203 (cs_X7_walkTo exq1) (by decide) ⟨rfl, rfl⟩ rfl (Nat.le_of_ble_eq_true rfl) dX7_greatestPart_5 ?_
  refine r_pop dX7_greatestPart_8 rfl ?_
  refine r_iconst 0 dX7_greatestPart_9 (by decide) ?_
  refine r_istore_n [(2, .int 0), (0, .ref p), (1, .int a)] dX7_greatestPart_10 (by decide) rfl ?_
  refine r_iconst 0 dX7_greatestPart_11 (by decide) ?_
  refine r_istore_n [(3, .int 0), (2, .int 0), (0, .ref p), (1, .int a)] dX7_greatestPart_12 (by decide) rfl ?_
  obtain ⟨oq4, ew, hm⟩ := am_bs hm
  try dsimp only at hm
  refine r_lv [2, 1, 0] _ rfl (ll_X7_greatestPart_13 l f hq2 p _ f 0 0 _ ew ?_)
  refine r_iload_n 0 dX7_greatestPart_56 rfl ?_
  cases hm
  exact r_ireturn dX7_greatestPart_57 rfl (by decide) HK
def mi_X7_at (f : Nat) (h : am_H) (p : Nat) (a : Int32) (b : Int32) : Option (Int32 × am_H) :=
  Option.bind (am_cls h 7 p) fun _n =>
  Option.bind (mi_X7_isTime f h a) fun xq1 =>
  (if xq1 = true then
  ((if b = 0 then
  (Option.bind (mi_X7_partsBy f h p 0 a 65535) fun (xq2, hq3) =>
  some (xq2, hq3))
  else (if b = 1 then
  (Option.bind (mi_X7_livingAt f h p a) fun xq5 =>
  some (xq5, h))
  else (if b = 2 then
  (Option.bind (mi_X7_oddParts f h p a) fun (xq6, hq7) =>
  some (xq6, hq7))
  else (if b = 3 then
  (Option.bind (mi_X7_greatestDepth f h p a) fun (xq9, hq10) =>
  some (xq9, hq10))
  else (if b = 4 then
  (Option.bind (mi_X7_greatestPart f h p a) fun (xq12, hq13) =>
  some (xq12, hq13))
  else (some ((-2), h))))))))
  else (some ((-1), h)))
theorem cs_X7_at {f : Nat} {h : am_H} {p : Nat} {a : Int32} {b : Int32} {z : (Int32 × am_H)} (hm : mi_X7_at f h p a b = some z) : ∃ n, h.1[p]? = some (7, n) := by
  unfold mi_X7_at at hm
  obtain ⟨n, hn, -⟩ := am_bs hm
  exact ⟨n, am_cls_of hn⟩
set_option maxHeartbeats 4000000 in
set_option maxRecDepth 100000 in
theorem ct_X7_at (l : Launch) {f : Nat} {h : am_H} {p : Nat} {a : Int32} {b : Int32} {r : Int32} {h2 : am_H} (hm : mi_X7_at f h p a b = some (r, h2)) : am_Ct l yX7_at cX7_at 3 (some .int) rm_X7_at [.ref p, .int a, .int b] h (some (.int r)) h2 := by
  refine am_met2 [(0, .ref p), (1, .int a), (2, .int b)] (by decide) (Nat.le_of_ble_eq_true rfl) rfl ?_
  generalize hK : (fun (v : Option Value) (h3 : am_H) => v = (some (.int r)) ∧ h3 = h2) = K
  have HK : K (some (.int r)) h2 := by rw [← hK]; exact ⟨rfl, rfl⟩
  clear hK
  unfold mi_X7_at at hm
  obtain ⟨_n, _hn, hm⟩ := am_bs hm
  refine r_iload_n 1 dX7_at_0 rfl ?_
  obtain ⟨xq1, exq1, hm⟩ := am_bs hm
  refine r_cS1 [.int a] (ct_X7_isTime l exq1) sm_X7_122 (by decide) ⟨rfl, rfl⟩ rfl (Nat.le_of_ble_eq_true rfl) dX7_at_1 ?_
  refine r_if_ne 9 dX7_at_4 (by decide) (fun q => ?_) (fun q => ?_)
  · rw [if_pos (show xq1 = true from am_b1 q)] at hm
    refine r_iload_n 2 dX7_at_9 rfl ?_
    by_cases q0 : b = 0
    · rw [if_pos q0] at hm
      refine r_tsw 44 dX7_at_10 (Or.inl ⟨by rw [q0]; decide, by rw [q0]; decide⟩) ?_
      refine r_aload_n 0 dX7_at_44 rfl ?_
      refine r_iconst 0 dX7_at_45 (by decide) ?_
      refine r_iload_n 1 dX7_at_46 rfl ?_
      refine r_ldc (v := 65535) kw_X7_191 dX7_at_47 ?_
      obtain ⟨⟨xq2, hq3⟩, exq2, hm⟩ := am_bs hm
      try dsimp only at hm
      refine r_cV1 [.int 0, .int a, .int 65535] (ct_X7_partsBy l exq2) vm_X7_192 (cs_X7_partsBy exq2) (by decide) ⟨rfl, rfl⟩ rfl (Nat.le_of_ble_eq_true rfl) dX7_at_49 ?_
      cases hm
      exact r_ireturn dX7_at_52 rfl (by decide) HK
    rw [if_neg q0] at hm
    by_cases q1 : b = 1
    · rw [if_pos q1] at hm
      refine r_tsw 53 dX7_at_10 (Or.inl ⟨by rw [q1]; decide, by rw [q1]; decide⟩) ?_
      refine r_aload_n 0 dX7_at_53 rfl ?_
      refine r_iload_n 1 dX7_at_54 rfl ?_
      obtain ⟨xq5, exq5, hm⟩ := am_bs hm
      refine r_cV1 [.int a] (ct_X7_livingAt l exq5) vm_X7_209 (cs_X7_livingAt exq5) (by decide) ⟨rfl, rfl⟩ rfl (Nat.le_of_ble_eq_true rfl) dX7_at_55 ?_
      cases hm
      exact r_ireturn dX7_at_58 rfl (by decide) HK
    rw [if_neg q1] at hm
    by_cases q2 : b = 2
    · rw [if_pos q2] at hm
      refine r_tsw 59 dX7_at_10 (Or.inl ⟨by rw [q2]; decide, by rw [q2]; decide⟩) ?_
      refine r_aload_n 0 dX7_at_59 rfl ?_
      refine r_iload_n 1 dX7_at_60 rfl ?_
      obtain ⟨⟨xq6, hq7⟩, exq6, hm⟩ := am_bs hm
      try dsimp only at hm
      refine r_cV1 [.int a] (ct_X7_oddParts l exq6) vm_X7_212 (cs_X7_oddParts exq6) (by decide) ⟨rfl, rfl⟩ rfl (Nat.le_of_ble_eq_true rfl) dX7_at_61 ?_
      cases hm
      exact r_ireturn dX7_at_64 rfl (by decide) HK
    rw [if_neg q2] at hm
    by_cases q3 : b = 3
    · rw [if_pos q3] at hm
      refine r_tsw 65 dX7_at_10 (Or.inl ⟨by rw [q3]; decide, by rw [q3]; decide⟩) ?_
      refine r_aload_n 0 dX7_at_65 rfl ?_
      refine r_iload_n 1 dX7_at_66 rfl ?_
      obtain ⟨⟨xq9, hq10⟩, exq9, hm⟩ := am_bs hm
      try dsimp only at hm
      refine r_cV1 [.int a] (ct_X7_greatestDepth l exq9) vm_X7_215 (cs_X7_greatestDepth exq9) (by decide) ⟨rfl, rfl⟩ rfl (Nat.le_of_ble_eq_true rfl) dX7_at_67 ?_
      cases hm
      exact r_ireturn dX7_at_70 rfl (by decide) HK
    rw [if_neg q3] at hm
    by_cases q4 : b = 4
    · rw [if_pos q4] at hm
      refine r_tsw 71 dX7_at_10 (Or.inl ⟨by rw [q4]; decide, by rw [q4]; decide⟩) ?_
      refine r_aload_n 0 dX7_at_71 rfl ?_
      refine r_iload_n 1 dX7_at_72 rfl ?_
      obtain ⟨⟨xq12, hq13⟩, exq12, hm⟩ := am_bs hm
      try dsimp only at hm
      refine r_cV1 [.int a] (ct_X7_greatestPart l exq12) vm_X7_218 (cs_X7_greatestPart exq12) (by decide) ⟨rfl, rfl⟩ rfl (Nat.le_of_ble_eq_true rfl) dX7_at_73 ?_
      cases hm
      exact r_ireturn dX7_at_76 rfl (by decide) HK
    rw [if_neg q4] at hm
    refine r_tsw 77 dX7_at_10 (Or.inr ⟨by have e0 := lv_neT q0 (show (0 : Int32).toInt = 0 from by decide); have e1 := lv_neT q1 (show (1 : Int32).toInt = 1 from by decide); have e2 := lv_neT q2 (show (2 : Int32).toInt = 2 from by decide); have e3 := lv_neT q3 (show (3 : Int32).toInt = 3 from by decide); have e4 := lv_neT q4 (show (4 : Int32).toInt = 4 from by decide); omega, by decide⟩) ?_
    refine r_bipush (-2) dX7_at_77 (by decide) ?_
    cases hm
    exact r_ireturn dX7_at_79 rfl (by decide) HK
  · rw [if_neg (show ¬ xq1 = true from by rw [am_b0 q]; decide)] at hm
    refine r_iconst (-1) dX7_at_7 (by decide) ?_
    cases hm
    exact r_ireturn dX7_at_8 rfl (by decide) HK
def lo_X7_bridges_23 (f : Nat) (a0 : Nat) (a1 : Int32) (a2 : Int32) : Nat → Int32 → Int32 → am_H → Option (Int32 × am_H)
  | 0, _, _, _ => none
  | n + 1, a3, a4, h =>
  Option.bind (mi_X7_many f h a0 0) fun xq1 =>
  (if xq1 ≤ a4 then
  (some (a3, h))
  else (Option.bind (mi_X7_partsBy f h a0 0 a1 ((65535 : Int32) &&& (((1 : Int32) <<< (a4 &&& 31)) ^^^ (-1)))) fun (xq2, hq3) =>
  Option.bind ((if xq2 ≤ a2 then
  (some 0)
  else (some ((1 : Int32) <<< (a4 &&& 31))))) fun jq5 =>
  lo_X7_bridges_23 f a0 a1 a2 n (a3 ||| jq5) (a4 + 1) hq3))
set_option maxHeartbeats 4000000 in
set_option maxRecDepth 100000 in
theorem ll_X7_bridges_23 (l : Launch) (f : Nat) (a0 : Nat) (a1 : Int32) (a2 : Int32) (K : Option Value → am_H → Prop) : ∀ (n : Nat) (a3 : Int32) (a4 : Int32) (h : am_H) (z : Int32 × am_H), lo_X7_bridges_23 f a0 a1 a2 n a3 a4 h = some z →
    am_R l yX7_bridges cX7_bridges 5 (some .int) rm_X7_bridges (fun _ _ _ => True) 0 0 69 [(3, .int z.1)] [] z.2 K →
    am_R l yX7_bridges cX7_bridges 5 (some .int) rm_X7_bridges (fun _ _ _ => True) 0 0 23 [(0, .ref a0), (1, .int a1), (2, .int a2), (3, .int a3), (4, .int a4)] [] h K := by
  intro n
  induction n with
  | zero =>
    intro a3 a4 h z hm kE
    cases hm
  | succ n ih =>
    intro a3 a4 h z hm kE
    rw [lo_X7_bridges_23.eq_2] at hm
    refine r_iload 4 dX7_bridges_23 rfl ?_
    refine r_aload_n 0 dX7_bridges_25 rfl ?_
    refine r_iconst 0 dX7_bridges_26 (by decide) ?_
    obtain ⟨xq1, exq1, hm⟩ := am_bs hm
    refine r_cV1 [.int 0] (ct_X7_many l exq1) vm_X7_105 (cs_X7_many exq1) (by decide) ⟨rfl, rfl⟩ rfl (Nat.le_of_ble_eq_true rfl) dX7_bridges_27 ?_
    refine r_icmp_ge 69 dX7_bridges_30 (by decide) (fun q => ?_) (fun q => ?_)
    · rw [if_pos q] at hm
      cases hm
      exact r_lv [3] _ rfl kE
    · rw [if_neg q] at hm
      refine r_iload_n 3 dX7_bridges_33 rfl ?_
      refine r_aload_n 0 dX7_bridges_34 rfl ?_
      refine r_iconst 0 dX7_bridges_35 (by decide) ?_
      refine r_iload_n 1 dX7_bridges_36 rfl ?_
      refine r_ldc (v := 65535) kw_X7_191 dX7_bridges_37 ?_
      refine r_iconst 1 dX7_bridges_39 (by decide) ?_
      refine r_iload 4 dX7_bridges_40 rfl ?_
      refine r_ishl dX7_bridges_42 ?_
      refine r_iconst (-1) dX7_bridges_43 (by decide) ?_
      refine r_ixor dX7_bridges_44 ?_
      refine r_iand dX7_bridges_45 ?_
      obtain ⟨⟨xq2, hq3⟩, exq2, hm⟩ := am_bs hm
      try dsimp only at hm
      refine r_cV1 [.int 0, .int a1, .int ((65535 : Int32) &&& (((1 : Int32) <<< (a4 &&& 31)) ^^^ (-1)))] (ct_X7_partsBy l exq2) vm_X7_192 (cs_X7_partsBy exq2) (by decide) ⟨rfl, rfl⟩ rfl (Nat.le_of_ble_eq_true rfl) dX7_bridges_46 ?_
      refine r_iload_n 2 dX7_bridges_49 rfl ?_
      obtain ⟨jq5, hw, hm⟩ := am_bs hm
      try dsimp only at hm
      have HJ : am_R l yX7_bridges cX7_bridges 5 (some .int) rm_X7_bridges (fun _ _ _ => True) 0 0 61 [(0, .ref a0), (1, .int a1), (2, .int a2), (4, .int a4)] [.int jq5, .int a3] hq3 K := by
        refine r_ior dX7_bridges_61 ?_
        refine r_istore_n [(3, .int (a3 ||| jq5)), (0, .ref a0), (1, .int a1), (2, .int a2), (4, .int a4)] dX7_bridges_62 (by decide) rfl ?_
        refine r_inc 1 4 [(4, .int (a4 + 1)), (3, .int (a3 ||| jq5)), (0, .ref a0), (1, .int a1), (2, .int a2)] dX7_bridges_63 (by decide) rfl (by decide) rfl ?_
        refine r_goto 23 dX7_bridges_66 (by decide) ?_
        exact r_lv [2, 3, 4, 1, 0] _ rfl (ih (a3 ||| jq5) (a4 + 1) hq3 _ hm kE)
      clear hm
      have hm := hw
      clear hw
      refine r_icmp_le 60 dX7_bridges_50 (by decide) (fun q => ?_) (fun q => ?_)
      · rw [if_pos q] at hm
        refine r_iconst 0 dX7_bridges_60 (by decide) ?_
        cases hm
        exact r_lv [0, 1, 2, 4] _ rfl HJ
      · rw [if_neg q] at hm
        refine r_iconst 1 dX7_bridges_53 (by decide) ?_
        refine r_iload 4 dX7_bridges_54 rfl ?_
        refine r_ishl dX7_bridges_56 ?_
        refine r_goto 61 dX7_bridges_57 (by decide) ?_
        cases hm
        exact r_lv [0, 1, 2, 4] _ rfl HJ
def mi_X7_bridges (f : Nat) (h : am_H) (p : Nat) (a : Int32) : Option (Int32 × am_H) :=
  Option.bind (am_cls h 7 p) fun _n =>
  Option.bind (mi_X7_isTime f h a) fun xq1 =>
  (if xq1 = true then
  (Option.bind (mi_X7_partsBy f h p 0 a 65535) fun (xq2, hq3) =>
  Option.bind (lo_X7_bridges_23 f p a xq2 f 0 0 hq3) fun (oq5, hq6) =>
  some (oq5, hq6))
  else (some ((-1), h)))
theorem cs_X7_bridges {f : Nat} {h : am_H} {p : Nat} {a : Int32} {z : (Int32 × am_H)} (hm : mi_X7_bridges f h p a = some z) : ∃ n, h.1[p]? = some (7, n) := by
  unfold mi_X7_bridges at hm
  obtain ⟨n, hn, -⟩ := am_bs hm
  exact ⟨n, am_cls_of hn⟩
set_option maxHeartbeats 4000000 in
set_option maxRecDepth 100000 in
theorem ct_X7_bridges (l : Launch) {f : Nat} {h : am_H} {p : Nat} {a : Int32} {r : Int32} {h2 : am_H} (hm : mi_X7_bridges f h p a = some (r, h2)) : am_Ct l yX7_bridges cX7_bridges 5 (some .int) rm_X7_bridges [.ref p, .int a] h (some (.int r)) h2 := by
  refine am_met2 [(0, .ref p), (1, .int a)] (by decide) (Nat.le_of_ble_eq_true rfl) rfl ?_
  generalize hK : (fun (v : Option Value) (h3 : am_H) => v = (some (.int r)) ∧ h3 = h2) = K
  have HK : K (some (.int r)) h2 := by rw [← hK]; exact ⟨rfl, rfl⟩
  clear hK
  unfold mi_X7_bridges at hm
  obtain ⟨_n, _hn, hm⟩ := am_bs hm
  refine r_iload_n 1 dX7_bridges_0 rfl ?_
  obtain ⟨xq1, exq1, hm⟩ := am_bs hm
  refine r_cS1 [.int a] (ct_X7_isTime l exq1) sm_X7_122 (by decide) ⟨rfl, rfl⟩ rfl (Nat.le_of_ble_eq_true rfl) dX7_bridges_1 ?_
  refine r_if_ne 9 dX7_bridges_4 (by decide) (fun q => ?_) (fun q => ?_)
  · rw [if_pos (show xq1 = true from am_b1 q)] at hm
    refine r_aload_n 0 dX7_bridges_9 rfl ?_
    refine r_iconst 0 dX7_bridges_10 (by decide) ?_
    refine r_iload_n 1 dX7_bridges_11 rfl ?_
    refine r_ldc (v := 65535) kw_X7_191 dX7_bridges_12 ?_
    obtain ⟨⟨xq2, hq3⟩, exq2, hm⟩ := am_bs hm
    try dsimp only at hm
    refine r_cV1 [.int 0, .int a, .int 65535] (ct_X7_partsBy l exq2) vm_X7_192 (cs_X7_partsBy exq2) (by decide) ⟨rfl, rfl⟩ rfl (Nat.le_of_ble_eq_true rfl) dX7_bridges_14 ?_
    refine r_istore_n [(2, .int xq2), (0, .ref p), (1, .int a)] dX7_bridges_17 (by decide) rfl ?_
    refine r_iconst 0 dX7_bridges_18 (by decide) ?_
    refine r_istore_n [(3, .int 0), (2, .int xq2), (0, .ref p), (1, .int a)] dX7_bridges_19 (by decide) rfl ?_
    refine r_iconst 0 dX7_bridges_20 (by decide) ?_
    refine r_istore [(4, .int 0), (3, .int 0), (2, .int xq2), (0, .ref p), (1, .int a)] dX7_bridges_21 (by decide) rfl ?_
    obtain ⟨⟨oq5, hq6⟩, ew, hm⟩ := am_bs hm
    try dsimp only at hm
    refine r_lv [3, 4, 2, 1, 0] _ rfl (ll_X7_bridges_23 l f p a xq2 _ f 0 0 hq3 _ ew ?_)
    refine r_iload_n 0 dX7_bridges_69 rfl ?_
    cases hm
    exact r_ireturn dX7_bridges_70 rfl (by decide) HK
  · rw [if_neg (show ¬ xq1 = true from by rw [am_b0 q]; decide)] at hm
    refine r_iconst (-1) dX7_bridges_7 (by decide) ?_
    cases hm
    exact r_ireturn dX7_bridges_8 rfl (by decide) HK
def lo_X7_filledTimes_4 (f : Nat) (h : am_H) (a0 : Nat) : Nat → Int32 → Int32 → Option (Int32)
  | 0, _, _ => none
  | n + 1, a1, a2 =>
  (if 16 ≤ a2 then
  (some a1)
  else (Option.bind (mi_X7_livingAt f h a0 a2) fun xq1 =>
  Option.bind ((if xq1 = 0 then
  (some 0)
  else (some ((1 : Int32) <<< (a2 &&& 31))))) fun jq2 =>
  lo_X7_filledTimes_4 f h a0 n (a1 ||| jq2) (a2 + 1)))
set_option maxHeartbeats 4000000 in
set_option maxRecDepth 100000 in
theorem ll_X7_filledTimes_4 (l : Launch) (f : Nat) (h : am_H) (a0 : Nat) (K : Option Value → am_H → Prop) : ∀ (n : Nat) (a1 : Int32) (a2 : Int32) (z : Int32), lo_X7_filledTimes_4 f h a0 n a1 a2 = some z →
    am_R l yX7_filledTimes cX7_filledTimes 3 (some .int) rm_X7_filledTimes (fun _ _ _ => True) 0 0 34 [(1, .int z)] [] h K →
    am_R l yX7_filledTimes cX7_filledTimes 3 (some .int) rm_X7_filledTimes (fun _ _ _ => True) 0 0 4 [(0, .ref a0), (1, .int a1), (2, .int a2)] [] h K := by
  intro n
  induction n with
  | zero =>
    intro a1 a2 z hm kE
    cases hm
  | succ n ih =>
    intro a1 a2 z hm kE
    rw [lo_X7_filledTimes_4.eq_2] at hm
    refine r_iload_n 2 dX7_filledTimes_4 rfl ?_
    refine r_bipush 16 dX7_filledTimes_5 (by decide) ?_
    refine r_icmp_ge 34 dX7_filledTimes_7 (by decide) (fun q => ?_) (fun q => ?_)
    · rw [if_pos q] at hm
      cases hm
      exact r_lv [1] _ rfl kE
    · rw [if_neg q] at hm
      refine r_iload_n 1 dX7_filledTimes_10 rfl ?_
      refine r_aload_n 0 dX7_filledTimes_11 rfl ?_
      refine r_iload_n 2 dX7_filledTimes_12 rfl ?_
      obtain ⟨xq1, exq1, hm⟩ := am_bs hm
      refine r_cV1 [.int a2] (ct_X7_livingAt l exq1) vm_X7_209 (cs_X7_livingAt exq1) (by decide) ⟨rfl, rfl⟩ rfl (Nat.le_of_ble_eq_true rfl) dX7_filledTimes_13 ?_
      obtain ⟨jq2, hw, hm⟩ := am_bs hm
      try dsimp only at hm
      have HJ : am_R l yX7_filledTimes cX7_filledTimes 3 (some .int) rm_X7_filledTimes (fun _ _ _ => True) 0 0 26 [(0, .ref a0), (2, .int a2)] [.int jq2, .int a1] h K := by
        refine r_ior dX7_filledTimes_26 ?_
        refine r_istore_n [(1, .int (a1 ||| jq2)), (0, .ref a0), (2, .int a2)] dX7_filledTimes_27 (by decide) rfl ?_
        refine r_inc 1 2 [(2, .int (a2 + 1)), (1, .int (a1 ||| jq2)), (0, .ref a0)] dX7_filledTimes_28 (by decide) rfl (by decide) rfl ?_
        refine r_goto 4 dX7_filledTimes_31 (by decide) ?_
        exact r_lv [2, 1, 0] _ rfl (ih (a1 ||| jq2) (a2 + 1) _ hm kE)
      clear hm
      have hm := hw
      clear hw
      refine r_if_ne 23 dX7_filledTimes_16 (by decide) (fun q => ?_) (fun q => ?_)
      · rw [if_neg q] at hm
        refine r_iconst 1 dX7_filledTimes_23 (by decide) ?_
        refine r_iload_n 2 dX7_filledTimes_24 rfl ?_
        refine r_ishl dX7_filledTimes_25 ?_
        cases hm
        exact r_lv [0, 2] _ rfl HJ
      · rw [if_pos q] at hm
        refine r_iconst 0 dX7_filledTimes_19 (by decide) ?_
        refine r_goto 26 dX7_filledTimes_20 (by decide) ?_
        cases hm
        exact r_lv [0, 2] _ rfl HJ
def mi_X7_filledTimes (f : Nat) (h : am_H) (p : Nat) : Option Int32 :=
  Option.bind (am_cls h 7 p) fun _n =>
  Option.bind (lo_X7_filledTimes_4 f h p f 0 0) fun oq1 =>
  some oq1
theorem cs_X7_filledTimes {f : Nat} {h : am_H} {p : Nat} {z : Int32} (hm : mi_X7_filledTimes f h p = some z) : ∃ n, h.1[p]? = some (7, n) := by
  unfold mi_X7_filledTimes at hm
  obtain ⟨n, hn, -⟩ := am_bs hm
  exact ⟨n, am_cls_of hn⟩
set_option maxHeartbeats 4000000 in
set_option maxRecDepth 100000 in
theorem ct_X7_filledTimes (l : Launch) {f : Nat} {h : am_H} {p : Nat} {r : Int32} (hm : mi_X7_filledTimes f h p = some r) : am_Ct l yX7_filledTimes cX7_filledTimes 3 (some .int) rm_X7_filledTimes [.ref p] h (some (.int r)) h := by
  refine am_met2 [(0, .ref p)] (by decide) (Nat.le_of_ble_eq_true rfl) rfl ?_
  generalize hK : (fun (v : Option Value) (h3 : am_H) => v = (some (.int r)) ∧ h3 = h) = K
  have HK : K (some (.int r)) h := by rw [← hK]; exact ⟨rfl, rfl⟩
  clear hK
  unfold mi_X7_filledTimes at hm
  obtain ⟨_n, _hn, hm⟩ := am_bs hm
  refine r_iconst 0 dX7_filledTimes_0 (by decide) ?_
  refine r_istore_n [(1, .int 0), (0, .ref p)] dX7_filledTimes_1 (by decide) rfl ?_
  refine r_iconst 0 dX7_filledTimes_2 (by decide) ?_
  refine r_istore_n [(2, .int 0), (1, .int 0), (0, .ref p)] dX7_filledTimes_3 (by decide) rfl ?_
  obtain ⟨oq1, ew, hm⟩ := am_bs hm
  try dsimp only at hm
  refine r_lv [2, 1, 0] _ rfl (ll_X7_filledTimes_4 l f h p _ f 0 0 _ ew ?_)
  refine r_iload_n 0 dX7_filledTimes_34 rfl ?_
  cases hm
  exact r_ireturn dX7_filledTimes_35 rfl (by decide) HK
def lo_X7_timesTogether_4 (f : Nat) (h : am_H) (a0 : Nat) : Nat → Int32 → Int32 → Option (Int32)
  | 0, _, _ => none
  | n + 1, a1, a2 =>
  Option.bind (mi_X7_many f h a0 0) fun xq1 =>
  (if xq1 ≤ a2 then
  (some a1)
  else (Option.bind (mi_X7_spanOf f h a0 0 a2) fun xq2 =>
  Option.bind (mi_X7_toOf f h xq2) fun xq3 =>
  Option.bind (mi_X7_spanOf f h a0 0 a2) fun xq4 =>
  Option.bind (mi_X7_fromOf f h xq4) fun xq5 =>
  lo_X7_timesTogether_4 f h a0 n (a1 + ((xq3 - xq5) + 1)) (a2 + 1)))
set_option maxHeartbeats 4000000 in
set_option maxRecDepth 100000 in
theorem ll_X7_timesTogether_4 (l : Launch) (f : Nat) (h : am_H) (a0 : Nat) (K : Option Value → am_H → Prop) : ∀ (n : Nat) (a1 : Int32) (a2 : Int32) (z : Int32), lo_X7_timesTogether_4 f h a0 n a1 a2 = some z →
    am_R l yX7_timesTogether cX7_timesTogether 3 (some .int) rm_X7_timesTogether (fun _ _ _ => True) 0 0 43 [(1, .int z)] [] h K →
    am_R l yX7_timesTogether cX7_timesTogether 3 (some .int) rm_X7_timesTogether (fun _ _ _ => True) 0 0 4 [(0, .ref a0), (1, .int a1), (2, .int a2)] [] h K := by
  intro n
  induction n with
  | zero =>
    intro a1 a2 z hm kE
    cases hm
  | succ n ih =>
    intro a1 a2 z hm kE
    rw [lo_X7_timesTogether_4.eq_2] at hm
    refine r_iload_n 2 dX7_timesTogether_4 rfl ?_
    refine r_aload_n 0 dX7_timesTogether_5 rfl ?_
    refine r_iconst 0 dX7_timesTogether_6 (by decide) ?_
    obtain ⟨xq1, exq1, hm⟩ := am_bs hm
    refine r_cV1 [.int 0] (ct_X7_many l exq1) vm_X7_105 (cs_X7_many exq1) (by decide) ⟨rfl, rfl⟩ rfl (Nat.le_of_ble_eq_true rfl) dX7_timesTogether_7 ?_
    refine r_icmp_ge 43 dX7_timesTogether_10 (by decide) (fun q => ?_) (fun q => ?_)
    · rw [if_pos q] at hm
      cases hm
      exact r_lv [1] _ rfl kE
    · rw [if_neg q] at hm
      refine r_iload_n 1 dX7_timesTogether_13 rfl ?_
      refine r_aload_n 0 dX7_timesTogether_14 rfl ?_
      refine r_iconst 0 dX7_timesTogether_15 (by decide) ?_
      refine r_iload_n 2 dX7_timesTogether_16 rfl ?_
      obtain ⟨xq2, exq2, hm⟩ := am_bs hm
      refine r_cV1 [.int 0, .int a2] (ct_X7_spanOf l exq2) vm_X7_108 (cs_X7_spanOf exq2) (by decide) ⟨rfl, rfl⟩ rfl (Nat.le_of_ble_eq_true rfl) dX7_timesTogether_17 ?_
      obtain ⟨xq3, exq3, hm⟩ := am_bs hm
      refine r_cS1 [.int xq2] (ct_X7_toOf l exq3) sm_X7_68 (by decide) ⟨rfl, rfl⟩ rfl (Nat.le_of_ble_eq_true rfl) dX7_timesTogether_20 ?_
      refine r_aload_n 0 dX7_timesTogether_23 rfl ?_
      refine r_iconst 0 dX7_timesTogether_24 (by decide) ?_
      refine r_iload_n 2 dX7_timesTogether_25 rfl ?_
      obtain ⟨xq4, exq4, hm⟩ := am_bs hm
      refine r_cV1 [.int 0, .int a2] (ct_X7_spanOf l exq4) vm_X7_108 (cs_X7_spanOf exq4) (by decide) ⟨rfl, rfl⟩ rfl (Nat.le_of_ble_eq_true rfl) dX7_timesTogether_26 ?_
      obtain ⟨xq5, exq5, hm⟩ := am_bs hm
      refine r_cS1 [.int xq4] (ct_X7_fromOf l exq5) sm_X7_64 (by decide) ⟨rfl, rfl⟩ rfl (Nat.le_of_ble_eq_true rfl) dX7_timesTogether_29 ?_
      refine r_isub dX7_timesTogether_32 ?_
      refine r_iconst 1 dX7_timesTogether_33 (by decide) ?_
      refine r_iadd dX7_timesTogether_34 ?_
      refine r_iadd dX7_timesTogether_35 ?_
      refine r_istore_n [(1, .int (a1 + ((xq3 - xq5) + 1))), (0, .ref a0), (2, .int a2)] dX7_timesTogether_36 (by decide) rfl ?_
      refine r_inc 1 2 [(2, .int (a2 + 1)), (1, .int (a1 + ((xq3 - xq5) + 1))), (0, .ref a0)] dX7_timesTogether_37 (by decide) rfl (by decide) rfl ?_
      refine r_goto 4 dX7_timesTogether_40 (by decide) ?_
      exact r_lv [2, 1, 0] _ rfl (ih (a1 + ((xq3 - xq5) + 1)) (a2 + 1) _ hm kE)
def mi_X7_timesTogether (f : Nat) (h : am_H) (p : Nat) : Option Int32 :=
  Option.bind (am_cls h 7 p) fun _n =>
  Option.bind (lo_X7_timesTogether_4 f h p f 0 0) fun oq1 =>
  some oq1
theorem cs_X7_timesTogether {f : Nat} {h : am_H} {p : Nat} {z : Int32} (hm : mi_X7_timesTogether f h p = some z) : ∃ n, h.1[p]? = some (7, n) := by
  unfold mi_X7_timesTogether at hm
  obtain ⟨n, hn, -⟩ := am_bs hm
  exact ⟨n, am_cls_of hn⟩
set_option maxHeartbeats 4000000 in
set_option maxRecDepth 100000 in
theorem ct_X7_timesTogether (l : Launch) {f : Nat} {h : am_H} {p : Nat} {r : Int32} (hm : mi_X7_timesTogether f h p = some r) : am_Ct l yX7_timesTogether cX7_timesTogether 3 (some .int) rm_X7_timesTogether [.ref p] h (some (.int r)) h := by
  refine am_met2 [(0, .ref p)] (by decide) (Nat.le_of_ble_eq_true rfl) rfl ?_
  generalize hK : (fun (v : Option Value) (h3 : am_H) => v = (some (.int r)) ∧ h3 = h) = K
  have HK : K (some (.int r)) h := by rw [← hK]; exact ⟨rfl, rfl⟩
  clear hK
  unfold mi_X7_timesTogether at hm
  obtain ⟨_n, _hn, hm⟩ := am_bs hm
  refine r_iconst 0 dX7_timesTogether_0 (by decide) ?_
  refine r_istore_n [(1, .int 0), (0, .ref p)] dX7_timesTogether_1 (by decide) rfl ?_
  refine r_iconst 0 dX7_timesTogether_2 (by decide) ?_
  refine r_istore_n [(2, .int 0), (1, .int 0), (0, .ref p)] dX7_timesTogether_3 (by decide) rfl ?_
  obtain ⟨oq1, ew, hm⟩ := am_bs hm
  try dsimp only at hm
  refine r_lv [2, 1, 0] _ rfl (ll_X7_timesTogether_4 l f h p _ f 0 0 _ ew ?_)
  refine r_iload_n 0 dX7_timesTogether_43 rfl ?_
  cases hm
  exact r_ireturn dX7_timesTogether_44 rfl (by decide) HK
def mi_X7_count (f : Nat) (h : am_H) (p : Nat) (a : Int32) : Option Int32 :=
  Option.bind (am_cls h 7 p) fun _n =>
  (if a = 0 then
  (Option.bind (am_gi h 7 p 2) fun xq1 =>
  some xq1)
  else (if a = 1 then
  (Option.bind (mi_X7_many f h p 0) fun xq2 =>
  some xq2)
  else (if a = 2 then
  (Option.bind (mi_X7_filledTimes f h p) fun xq3 =>
  some xq3)
  else (if a = 3 then
  (Option.bind (mi_X7_timesTogether f h p) fun xq4 =>
  some xq4)
  else (if a = 4 then
  (Option.bind (am_gi h 7 p 4) fun xq5 =>
  some xq5)
  else (if a = 5 then
  (Option.bind (am_gi h 7 p 11) fun xq6 =>
  some xq6)
  else (some (-2))))))))
theorem cs_X7_count {f : Nat} {h : am_H} {p : Nat} {a : Int32} {z : Int32} (hm : mi_X7_count f h p a = some z) : ∃ n, h.1[p]? = some (7, n) := by
  unfold mi_X7_count at hm
  obtain ⟨n, hn, -⟩ := am_bs hm
  exact ⟨n, am_cls_of hn⟩
set_option maxHeartbeats 4000000 in
set_option maxRecDepth 100000 in
theorem ct_X7_count (l : Launch) {f : Nat} {h : am_H} {p : Nat} {a : Int32} {r : Int32} (hm : mi_X7_count f h p a = some r) : am_Ct l yX7_count cX7_count 2 (some .int) rm_X7_count [.ref p, .int a] h (some (.int r)) h := by
  refine am_met2 [(0, .ref p), (1, .int a)] (by decide) (Nat.le_of_ble_eq_true rfl) rfl ?_
  generalize hK : (fun (v : Option Value) (h3 : am_H) => v = (some (.int r)) ∧ h3 = h) = K
  have HK : K (some (.int r)) h := by rw [← hK]; exact ⟨rfl, rfl⟩
  clear hK
  unfold mi_X7_count at hm
  obtain ⟨_n, _hn, hm⟩ := am_bs hm
  refine r_iload_n 1 dX7_count_0 rfl ?_
  by_cases q0 : a = 0
  · rw [if_pos q0] at hm
    refine r_tsw 40 dX7_count_1 (Or.inl ⟨by rw [q0]; decide, by rw [q0]; decide⟩) ?_
    refine r_aload_n 0 dX7_count_40 rfl ?_
    obtain ⟨xq1, exq1, hm⟩ := am_bs hm
    refine r_geti exq1 fl_X7_73 rfl dX7_count_41 ?_
    cases hm
    exact r_ireturn dX7_count_44 rfl (by decide) HK
  rw [if_neg q0] at hm
  by_cases q1 : a = 1
  · rw [if_pos q1] at hm
    refine r_tsw 45 dX7_count_1 (Or.inl ⟨by rw [q1]; decide, by rw [q1]; decide⟩) ?_
    refine r_aload_n 0 dX7_count_45 rfl ?_
    refine r_iconst 0 dX7_count_46 (by decide) ?_
    obtain ⟨xq2, exq2, hm⟩ := am_bs hm
    refine r_cV1 [.int 0] (ct_X7_many l exq2) vm_X7_105 (cs_X7_many exq2) (by decide) ⟨rfl, rfl⟩ rfl (Nat.le_of_ble_eq_true rfl) dX7_count_47 ?_
    cases hm
    exact r_ireturn dX7_count_50 rfl (by decide) HK
  rw [if_neg q1] at hm
  by_cases q2 : a = 2
  · rw [if_pos q2] at hm
    refine r_tsw 51 dX7_count_1 (Or.inl ⟨by rw [q2]; decide, by rw [q2]; decide⟩) ?_
    refine r_aload_n 0 dX7_count_51 rfl ?_
    obtain ⟨xq3, exq3, hm⟩ := am_bs hm
    refine r_cV1 [] (ct_X7_filledTimes l exq3) vm_X7_278 (cs_X7_filledTimes exq3) (by decide) ⟨rfl, rfl⟩ rfl (Nat.le_of_ble_eq_true rfl) dX7_count_52 ?_
    cases hm
    exact r_ireturn dX7_count_55 rfl (by decide) HK
  rw [if_neg q2] at hm
  by_cases q3 : a = 3
  · rw [if_pos q3] at hm
    refine r_tsw 56 dX7_count_1 (Or.inl ⟨by rw [q3]; decide, by rw [q3]; decide⟩) ?_
    refine r_aload_n 0 dX7_count_56 rfl ?_
    obtain ⟨xq4, exq4, hm⟩ := am_bs hm
    refine r_cV1 [] (ct_X7_timesTogether l exq4) vm_X7_281 (cs_X7_timesTogether exq4) (by decide) ⟨rfl, rfl⟩ rfl (Nat.le_of_ble_eq_true rfl) dX7_count_57 ?_
    cases hm
    exact r_ireturn dX7_count_60 rfl (by decide) HK
  rw [if_neg q3] at hm
  by_cases q4 : a = 4
  · rw [if_pos q4] at hm
    refine r_tsw 61 dX7_count_1 (Or.inl ⟨by rw [q4]; decide, by rw [q4]; decide⟩) ?_
    refine r_aload_n 0 dX7_count_61 rfl ?_
    obtain ⟨xq5, exq5, hm⟩ := am_bs hm
    refine r_geti exq5 fl_X7_102 rfl dX7_count_62 ?_
    cases hm
    exact r_ireturn dX7_count_65 rfl (by decide) HK
  rw [if_neg q4] at hm
  by_cases q5 : a = 5
  · rw [if_pos q5] at hm
    refine r_tsw 66 dX7_count_1 (Or.inl ⟨by rw [q5]; decide, by rw [q5]; decide⟩) ?_
    refine r_aload_n 0 dX7_count_66 rfl ?_
    obtain ⟨xq6, exq6, hm⟩ := am_bs hm
    refine r_geti exq6 fl_X7_247 rfl dX7_count_67 ?_
    cases hm
    exact r_ireturn dX7_count_70 rfl (by decide) HK
  rw [if_neg q5] at hm
  refine r_tsw 71 dX7_count_1 (Or.inr ⟨by have e0 := lv_neT q0 (show (0 : Int32).toInt = 0 from by decide); have e1 := lv_neT q1 (show (1 : Int32).toInt = 1 from by decide); have e2 := lv_neT q2 (show (2 : Int32).toInt = 2 from by decide); have e3 := lv_neT q3 (show (3 : Int32).toInt = 3 from by decide); have e4 := lv_neT q4 (show (4 : Int32).toInt = 4 from by decide); have e5 := lv_neT q5 (show (5 : Int32).toInt = 5 from by decide); omega, by decide⟩) ?_
  refine r_bipush (-2) dX7_count_71 (by decide) ?_
  cases hm
  exact r_ireturn dX7_count_73 rfl (by decide) HK
def mi_X7_isSpan (f : Nat) (h : am_H) (p : Nat) (a : Int32) : Option Bool :=
  Option.bind (am_cls h 7 p) fun _n =>
  Option.bind (mi_X7_many f h p 0) fun xq1 =>
  Option.bind (mi_X7_in f h ((a : Int32).toInt64) 0 (((xq1 - 1) : Int32).toInt64)) fun xq2 =>
  some xq2
theorem cs_X7_isSpan {f : Nat} {h : am_H} {p : Nat} {a : Int32} {z : Bool} (hm : mi_X7_isSpan f h p a = some z) : ∃ n, h.1[p]? = some (7, n) := by
  unfold mi_X7_isSpan at hm
  obtain ⟨n, hn, -⟩ := am_bs hm
  exact ⟨n, am_cls_of hn⟩
set_option maxHeartbeats 4000000 in
set_option maxRecDepth 100000 in
theorem ct_X7_isSpan (l : Launch) {f : Nat} {h : am_H} {p : Nat} {a : Int32} {r : Bool} (hm : mi_X7_isSpan f h p a = some r) : am_Ct l yX7_isSpan cX7_isSpan 2 (some .boolean) rm_X7_isSpan [.ref p, .int a] h (some (.int (am_b r))) h := by
  refine am_met2 [(0, .ref p), (1, .int a)] (by decide) (Nat.le_of_ble_eq_true rfl) rfl ?_
  generalize hK : (fun (v : Option Value) (h3 : am_H) => v = (some (.int (am_b r))) ∧ h3 = h) = K
  have HK : K (some (.int (am_b r))) h := by rw [← hK]; exact ⟨rfl, rfl⟩
  clear hK
  unfold mi_X7_isSpan at hm
  obtain ⟨_n, _hn, hm⟩ := am_bs hm
  refine r_iload_n 1 dX7_isSpan_0 rfl ?_
  refine r_i2l dX7_isSpan_1 ?_
  refine r_lconst 0 dX7_isSpan_2 (by decide) ?_
  refine r_aload_n 0 dX7_isSpan_3 rfl ?_
  refine r_iconst 0 dX7_isSpan_4 (by decide) ?_
  obtain ⟨xq1, exq1, hm⟩ := am_bs hm
  refine r_cV1 [.int 0] (ct_X7_many l exq1) vm_X7_105 (cs_X7_many exq1) (by decide) ⟨rfl, rfl⟩ rfl (Nat.le_of_ble_eq_true rfl) dX7_isSpan_5 ?_
  refine r_iconst 1 dX7_isSpan_8 (by decide) ?_
  refine r_isub dX7_isSpan_9 ?_
  refine r_i2l dX7_isSpan_10 ?_
  obtain ⟨xq2, exq2, hm⟩ := am_bs hm
  refine r_cS1 [.long ((a : Int32).toInt64), .long 0, .long (((xq1 - 1) : Int32).toInt64)] (ct_X7_in l exq2) sm_X7_58 (by decide) ⟨rfl, rfl⟩ rfl (Nat.le_of_ble_eq_true rfl) dX7_isSpan_11 ?_
  cases hm
  exact r_zreturn _ dX7_isSpan_14 rfl (by decide) HK
def lo_X7_keepAct_2 (f : Nat) (a0 : Nat) : Nat → Int32 → am_H → Option (am_H)
  | 0, _, _ => none
  | n + 1, a1, h =>
  (if 17 ≤ a1 then
  (some h)
  else (Option.bind (am_gr h 7 a0 6) fun xq1 =>
  Option.bind (am_gi h 7 a0 5) fun xq2 =>
  Option.bind (am_gr h 7 a0 0) fun xq3 =>
  Option.bind (am_li h 9 xq3 a1) fun xq4 =>
  Option.bind (am_si h 9 xq1 (((17 : Int32) * xq2) + a1) xq4) fun hq5 =>
  lo_X7_keepAct_2 f a0 n (a1 + 1) hq5))
set_option maxHeartbeats 4000000 in
set_option maxRecDepth 100000 in
theorem ll_X7_keepAct_2 (l : Launch) (f : Nat) (a0 : Nat) (K : Option Value → am_H → Prop) : ∀ (n : Nat) (a1 : Int32) (h : am_H) (z : am_H), lo_X7_keepAct_2 f a0 n a1 h = some z →
    am_R l yX7_keepAct cX7_keepAct 2 (none) rm_X7_keepAct (fun _ _ _ => True) 0 0 34 [(0, .ref a0)] [] z K →
    am_R l yX7_keepAct cX7_keepAct 2 (none) rm_X7_keepAct (fun _ _ _ => True) 0 0 2 [(0, .ref a0), (1, .int a1)] [] h K := by
  intro n
  induction n with
  | zero =>
    intro a1 h z hm kE
    cases hm
  | succ n ih =>
    intro a1 h z hm kE
    rw [lo_X7_keepAct_2.eq_2] at hm
    refine r_iload_n 1 dX7_keepAct_2 rfl ?_
    refine r_bipush 17 dX7_keepAct_3 (by decide) ?_
    refine r_icmp_ge 34 dX7_keepAct_5 (by decide) (fun q => ?_) (fun q => ?_)
    · rw [if_pos q] at hm
      cases hm
      exact r_lv [0] _ rfl kE
    · rw [if_neg q] at hm
      refine r_aload_n 0 dX7_keepAct_8 rfl ?_
      obtain ⟨xq1, exq1, hm⟩ := am_bs hm
      refine r_getr exq1 fl_X7_19 rfl dX7_keepAct_9 ?_
      refine r_bipush 17 dX7_keepAct_12 (by decide) ?_
      refine r_aload_n 0 dX7_keepAct_14 rfl ?_
      obtain ⟨xq2, exq2, hm⟩ := am_bs hm
      refine r_geti exq2 fl_X7_156 rfl dX7_keepAct_15 ?_
      refine r_imul dX7_keepAct_18 ?_
      refine r_iload_n 1 dX7_keepAct_19 rfl ?_
      refine r_iadd dX7_keepAct_20 ?_
      refine r_aload_n 0 dX7_keepAct_21 rfl ?_
      obtain ⟨xq3, exq3, hm⟩ := am_bs hm
      refine r_getr exq3 fl_X7_7 rfl dX7_keepAct_22 ?_
      refine r_iload_n 1 dX7_keepAct_25 rfl ?_
      obtain ⟨xq4, exq4, hm⟩ := am_bs hm
      refine r_iald exq4 dX7_keepAct_26 ?_
      obtain ⟨hq5, ehq5, hm⟩ := am_bs hm
      refine r_iast ehq5 dX7_keepAct_27 ?_
      refine r_inc 1 1 [(1, .int (a1 + 1)), (0, .ref a0)] dX7_keepAct_28 (by decide) rfl (by decide) rfl ?_
      refine r_goto 2 dX7_keepAct_31 (by decide) ?_
      exact r_lv [1, 0] _ rfl (ih (a1 + 1) hq5 _ hm kE)
def mi_X7_keepAct (f : Nat) (h : am_H) (p : Nat) : Option am_H :=
  Option.bind (am_cls h 7 p) fun _n =>
  Option.bind (lo_X7_keepAct_2 f p f 0 h) fun hq1 =>
  Option.bind (am_gi hq1 7 p 5) fun xq2 =>
  Option.bind (am_pi hq1 7 p 5 ((xq2 + 1) - (xq2 + 1) / 14 * 14)) fun hq3 =>
  Option.bind (am_gi hq3 7 p 4) fun xq4 =>
  Option.bind ((if 14 ≤ xq4 then
  (some 14)
  else (Option.bind (am_gi hq3 7 p 4) fun xq7 =>
  some (xq7 + 1)))) fun jq5 =>
  Option.bind (am_pi hq3 7 p 4 jq5) fun hq6 =>
  some hq6
theorem cs_X7_keepAct {f : Nat} {h : am_H} {p : Nat} {z : am_H} (hm : mi_X7_keepAct f h p = some z) : ∃ n, h.1[p]? = some (7, n) := by
  unfold mi_X7_keepAct at hm
  obtain ⟨n, hn, -⟩ := am_bs hm
  exact ⟨n, am_cls_of hn⟩
set_option maxHeartbeats 4000000 in
set_option maxRecDepth 100000 in
theorem ct_X7_keepAct (l : Launch) {f : Nat} {h : am_H} {p : Nat} {h2 : am_H} (hm : mi_X7_keepAct f h p = some h2) : am_Ct l yX7_keepAct cX7_keepAct 2 (none) rm_X7_keepAct [.ref p] h none h2 := by
  refine am_met2 [(0, .ref p)] (by decide) (Nat.le_of_ble_eq_true rfl) rfl ?_
  generalize hK : (fun (v : Option Value) (h3 : am_H) => v = none ∧ h3 = h2) = K
  have HK : K none h2 := by rw [← hK]; exact ⟨rfl, rfl⟩
  clear hK
  unfold mi_X7_keepAct at hm
  obtain ⟨_n, _hn, hm⟩ := am_bs hm
  refine r_iconst 0 dX7_keepAct_0 (by decide) ?_
  refine r_istore_n [(1, .int 0), (0, .ref p)] dX7_keepAct_1 (by decide) rfl ?_
  obtain ⟨hq1, ew, hm⟩ := am_bs hm
  try dsimp only at hm
  refine r_lv [1, 0] _ rfl (ll_X7_keepAct_2 l f p _ f 0 h _ ew ?_)
  refine r_aload_n 0 dX7_keepAct_34 rfl ?_
  refine r_aload_n 0 dX7_keepAct_35 rfl ?_
  obtain ⟨xq2, exq2, hm⟩ := am_bs hm
  refine r_geti exq2 fl_X7_156 rfl dX7_keepAct_36 ?_
  refine r_iconst 1 dX7_keepAct_39 (by decide) ?_
  refine r_iadd dX7_keepAct_40 ?_
  refine r_bipush 14 dX7_keepAct_41 (by decide) ?_
  refine r_irem dX7_keepAct_43 (by decide) ?_
  obtain ⟨hq3, ehq3, hm⟩ := am_bs hm
  refine r_puti ehq3 fl_X7_156 rfl rfl dX7_keepAct_44 ?_
  refine r_aload_n 0 dX7_keepAct_47 rfl ?_
  refine r_aload_n 0 dX7_keepAct_48 rfl ?_
  obtain ⟨xq4, exq4, hm⟩ := am_bs hm
  refine r_geti exq4 fl_X7_102 rfl dX7_keepAct_49 ?_
  refine r_bipush 14 dX7_keepAct_52 (by decide) ?_
  obtain ⟨jq5, hw, hm⟩ := am_bs hm
  try dsimp only at hm
  have HJ : am_R l yX7_keepAct cX7_keepAct 2 (none) rm_X7_keepAct (fun _ _ _ => True) 0 0 68 [] [.int jq5, .ref p] hq3 K := by
    obtain ⟨hq6, ehq6, hm⟩ := am_bs hm
    refine r_puti ehq6 fl_X7_102 rfl rfl dX7_keepAct_68 ?_
    cases hm
    exact r_return dX7_keepAct_71 rfl (by decide) HK
  clear hm
  have hm := hw
  clear hw
  refine r_icmp_ge 66 dX7_keepAct_54 (by decide) (fun q => ?_) (fun q => ?_)
  · rw [if_pos q] at hm
    refine r_bipush 14 dX7_keepAct_66 (by decide) ?_
    cases hm
    exact r_lv [] _ rfl HJ
  · rw [if_neg q] at hm
    refine r_aload_n 0 dX7_keepAct_57 rfl ?_
    obtain ⟨xq7, exq7, hm⟩ := am_bs hm
    refine r_geti exq7 fl_X7_102 rfl dX7_keepAct_58 ?_
    refine r_iconst 1 dX7_keepAct_61 (by decide) ?_
    refine r_iadd dX7_keepAct_62 ?_
    refine r_goto 68 dX7_keepAct_63 (by decide) ?_
    cases hm
    exact r_lv [] _ rfl HJ
def lo_X7_cutOn_15 (f : Nat) (a0 : Nat) (a1 : Int32) : Nat → Int32 → am_H → Option (am_H)
  | 0, _, _ => none
  | n + 1, a3, h =>
  Option.bind (mi_X7_many f h a0 a1) fun xq1 =>
  (if xq1 ≤ a3 then
  (some h)
  else (Option.bind (am_gr h 7 a0 0) fun xq2 =>
  Option.bind (am_gr h 7 a0 0) fun xq3 =>
  Option.bind (am_li h 9 xq3 (((((17 : Int32) * a1) + 1) + a3) + 1)) fun xq4 =>
  Option.bind (am_si h 9 xq2 ((((17 : Int32) * a1) + 1) + a3) xq4) fun hq5 =>
  lo_X7_cutOn_15 f a0 a1 n (a3 + 1) hq5))
set_option maxHeartbeats 4000000 in
set_option maxRecDepth 100000 in
theorem ll_X7_cutOn_15 (l : Launch) (f : Nat) (a0 : Nat) (a1 : Int32) (K : Option Value → am_H → Prop) : ∀ (n : Nat) (a3 : Int32) (h : am_H) (z : am_H), lo_X7_cutOn_15 f a0 a1 n a3 h = some z →
    am_R l yX7_cutOn cX7_cutOn 4 (none) rm_X7_cutOn (fun _ _ _ => True) 0 0 58 [] [] z K →
    am_R l yX7_cutOn cX7_cutOn 4 (none) rm_X7_cutOn (fun _ _ _ => True) 0 0 15 [(0, .ref a0), (1, .int a1), (3, .int a3)] [] h K := by
  intro n
  induction n with
  | zero =>
    intro a3 h z hm kE
    cases hm
  | succ n ih =>
    intro a3 h z hm kE
    rw [lo_X7_cutOn_15.eq_2] at hm
    refine r_iload_n 2 dX7_cutOn_15 rfl ?_
    refine r_aload_n 0 dX7_cutOn_16 rfl ?_
    refine r_iload_n 1 dX7_cutOn_17 rfl ?_
    obtain ⟨xq1, exq1, hm⟩ := am_bs hm
    refine r_cV1 [.int a1] (ct_X7_many l exq1) vm_X7_105 (cs_X7_many exq1) (by decide) ⟨rfl, rfl⟩ rfl (Nat.le_of_ble_eq_true rfl) dX7_cutOn_18 ?_
    refine r_icmp_ge 58 dX7_cutOn_21 (by decide) (fun q => ?_) (fun q => ?_)
    · rw [if_pos q] at hm
      cases hm
      exact r_lv [] _ rfl kE
    · rw [if_neg q] at hm
      refine r_aload_n 0 dX7_cutOn_24 rfl ?_
      obtain ⟨xq2, exq2, hm⟩ := am_bs hm
      refine r_getr exq2 fl_X7_7 rfl dX7_cutOn_25 ?_
      refine r_bipush 17 dX7_cutOn_28 (by decide) ?_
      refine r_iload_n 1 dX7_cutOn_30 rfl ?_
      refine r_imul dX7_cutOn_31 ?_
      refine r_iconst 1 dX7_cutOn_32 (by decide) ?_
      refine r_iadd dX7_cutOn_33 ?_
      refine r_iload_n 2 dX7_cutOn_34 rfl ?_
      refine r_iadd dX7_cutOn_35 ?_
      refine r_aload_n 0 dX7_cutOn_36 rfl ?_
      obtain ⟨xq3, exq3, hm⟩ := am_bs hm
      refine r_getr exq3 fl_X7_7 rfl dX7_cutOn_37 ?_
      refine r_bipush 17 dX7_cutOn_40 (by decide) ?_
      refine r_iload_n 1 dX7_cutOn_42 rfl ?_
      refine r_imul dX7_cutOn_43 ?_
      refine r_iconst 1 dX7_cutOn_44 (by decide) ?_
      refine r_iadd dX7_cutOn_45 ?_
      refine r_iload_n 2 dX7_cutOn_46 rfl ?_
      refine r_iadd dX7_cutOn_47 ?_
      refine r_iconst 1 dX7_cutOn_48 (by decide) ?_
      refine r_iadd dX7_cutOn_49 ?_
      obtain ⟨xq4, exq4, hm⟩ := am_bs hm
      refine r_iald exq4 dX7_cutOn_50 ?_
      obtain ⟨hq5, ehq5, hm⟩ := am_bs hm
      refine r_iast ehq5 dX7_cutOn_51 ?_
      refine r_inc 1 2 [(3, .int (a3 + 1)), (0, .ref a0), (1, .int a1)] dX7_cutOn_52 (by decide) rfl (by decide) rfl ?_
      refine r_goto 15 dX7_cutOn_55 (by decide) ?_
      exact r_lv [1, 2, 0] _ rfl (ih (a3 + 1) hq5 _ hm kE)
def mi_X7_cutOn (f : Nat) (h : am_H) (p : Nat) (a : Int32) (b : Int32) : Option am_H :=
  Option.bind (am_cls h 7 p) fun _n =>
  Option.bind (am_gr h 7 p 0) fun xq1 =>
  Option.bind (am_li h 9 xq1 ((17 : Int32) * a)) fun xq2 =>
  Option.bind (am_si h 9 xq1 ((17 : Int32) * a) (xq2 - 1)) fun hq3 =>
  Option.bind (lo_X7_cutOn_15 f p a f b hq3) fun hq4 =>
  some hq4
theorem cs_X7_cutOn {f : Nat} {h : am_H} {p : Nat} {a : Int32} {b : Int32} {z : am_H} (hm : mi_X7_cutOn f h p a b = some z) : ∃ n, h.1[p]? = some (7, n) := by
  unfold mi_X7_cutOn at hm
  obtain ⟨n, hn, -⟩ := am_bs hm
  exact ⟨n, am_cls_of hn⟩
set_option maxHeartbeats 4000000 in
set_option maxRecDepth 100000 in
theorem ct_X7_cutOn (l : Launch) {f : Nat} {h : am_H} {p : Nat} {a : Int32} {b : Int32} {h2 : am_H} (hm : mi_X7_cutOn f h p a b = some h2) : am_Ct l yX7_cutOn cX7_cutOn 4 (none) rm_X7_cutOn [.ref p, .int a, .int b] h none h2 := by
  refine am_met2 [(0, .ref p), (1, .int a), (2, .int b)] (by decide) (Nat.le_of_ble_eq_true rfl) rfl ?_
  generalize hK : (fun (v : Option Value) (h3 : am_H) => v = none ∧ h3 = h2) = K
  have HK : K none h2 := by rw [← hK]; exact ⟨rfl, rfl⟩
  clear hK
  unfold mi_X7_cutOn at hm
  obtain ⟨_n, _hn, hm⟩ := am_bs hm
  refine r_aload_n 0 dX7_cutOn_0 rfl ?_
  obtain ⟨xq1, exq1, hm⟩ := am_bs hm
  refine r_getr exq1 fl_X7_7 rfl dX7_cutOn_1 ?_
  refine r_bipush 17 dX7_cutOn_4 (by decide) ?_
  refine r_iload_n 1 dX7_cutOn_6 rfl ?_
  refine r_imul dX7_cutOn_7 ?_
  refine r_dup2 dX7_cutOn_8 rfl rfl ?_
  obtain ⟨xq2, exq2, hm⟩ := am_bs hm
  refine r_iald exq2 dX7_cutOn_9 ?_
  refine r_iconst 1 dX7_cutOn_10 (by decide) ?_
  refine r_isub dX7_cutOn_11 ?_
  obtain ⟨hq3, ehq3, hm⟩ := am_bs hm
  refine r_iast ehq3 dX7_cutOn_12 ?_
  refine r_iload_n 2 dX7_cutOn_13 rfl ?_
  refine r_istore_n [(3, .int b), (0, .ref p), (1, .int a), (2, .int b)] dX7_cutOn_14 (by decide) rfl ?_
  obtain ⟨hq4, ew, hm⟩ := am_bs hm
  try dsimp only at hm
  refine r_lv [1, 2, 0] _ rfl (ll_X7_cutOn_15 l f p a _ f b hq3 _ ew ?_)
  cases hm
  exact r_return dX7_cutOn_58 rfl (by decide) HK
def mi_X7_cut (f : Nat) (h : am_H) (p : Nat) (a : Int32) : Option (Int32 × am_H) :=
  Option.bind (am_cls h 7 p) fun _n =>
  Option.bind (mi_X7_isSpan f h p a) fun xq1 =>
  (if xq1 = true then
  (Option.bind (mi_X7_keepAct f h p) fun hq3 =>
  Option.bind (mi_X7_cutOn f hq3 p 0 a) fun hq5 =>
  Option.bind (mi_X7_many f hq5 p 0) fun xq6 =>
  some (xq6, hq5))
  else (some ((-1), h)))
theorem cs_X7_cut {f : Nat} {h : am_H} {p : Nat} {a : Int32} {z : (Int32 × am_H)} (hm : mi_X7_cut f h p a = some z) : ∃ n, h.1[p]? = some (7, n) := by
  unfold mi_X7_cut at hm
  obtain ⟨n, hn, -⟩ := am_bs hm
  exact ⟨n, am_cls_of hn⟩
set_option maxHeartbeats 4000000 in
set_option maxRecDepth 100000 in
theorem ct_X7_cut (l : Launch) {f : Nat} {h : am_H} {p : Nat} {a : Int32} {r : Int32} {h2 : am_H} (hm : mi_X7_cut f h p a = some (r, h2)) : am_Ct l yX7_cut cX7_cut 2 (some .int) rm_X7_cut [.ref p, .int a] h (some (.int r)) h2 := by
  refine am_met2 [(0, .ref p), (1, .int a)] (by decide) (Nat.le_of_ble_eq_true rfl) rfl ?_
  generalize hK : (fun (v : Option Value) (h3 : am_H) => v = (some (.int r)) ∧ h3 = h2) = K
  have HK : K (some (.int r)) h2 := by rw [← hK]; exact ⟨rfl, rfl⟩
  clear hK
  unfold mi_X7_cut at hm
  obtain ⟨_n, _hn, hm⟩ := am_bs hm
  refine r_aload_n 0 dX7_cut_0 rfl ?_
  refine r_iload_n 1 dX7_cut_1 rfl ?_
  obtain ⟨xq1, exq1, hm⟩ := am_bs hm
  refine r_cV1 [.int a] (ct_X7_isSpan l exq1) vm_X7_145 (cs_X7_isSpan exq1) (by decide) ⟨rfl, rfl⟩ rfl (Nat.le_of_ble_eq_true rfl) dX7_cut_2 ?_
  refine r_if_ne 10 dX7_cut_5 (by decide) (fun q => ?_) (fun q => ?_)
  · rw [if_pos (show xq1 = true from am_b1 q)] at hm
    refine r_aload_n 0 dX7_cut_10 rfl ?_
    obtain ⟨hq3, exq2, hm⟩ := am_bs hm
    refine r_cV0 [] (ct_X7_keepAct l exq2) vm_X7_159 (cs_X7_keepAct exq2) (by decide) ⟨rfl, rfl⟩ rfl (Nat.le_of_ble_eq_true rfl) dX7_cut_11 ?_
    refine r_aload_n 0 dX7_cut_14 rfl ?_
    refine r_iconst 0 dX7_cut_15 (by decide) ?_
    refine r_iload_n 1 dX7_cut_16 rfl ?_
    obtain ⟨hq5, exq4, hm⟩ := am_bs hm
    refine r_cV0 [.int 0, .int a] (ct_X7_cutOn l exq4) vm_X7_166 (cs_X7_cutOn exq4) (by decide) ⟨rfl, rfl⟩ rfl (Nat.le_of_ble_eq_true rfl) dX7_cut_17 ?_
    refine r_aload_n 0 dX7_cut_20 rfl ?_
    refine r_iconst 0 dX7_cut_21 (by decide) ?_
    obtain ⟨xq6, exq6, hm⟩ := am_bs hm
    refine r_cV1 [.int 0] (ct_X7_many l exq6) vm_X7_105 (cs_X7_many exq6) (by decide) ⟨rfl, rfl⟩ rfl (Nat.le_of_ble_eq_true rfl) dX7_cut_22 ?_
    cases hm
    exact r_ireturn dX7_cut_25 rfl (by decide) HK
  · rw [if_neg (show ¬ xq1 = true from by rw [am_b0 q]; decide)] at hm
    refine r_iconst (-1) dX7_cut_8 (by decide) ?_
    cases hm
    exact r_ireturn dX7_cut_9 rfl (by decide) HK
def lo_X7_layTrial_2 (f : Nat) (a0 : Nat) : Nat → Int32 → am_H → Option (am_H)
  | 0, _, _ => none
  | n + 1, a1, h =>
  (if 17 ≤ a1 then
  (some h)
  else (Option.bind (am_gr h 7 a0 0) fun xq1 =>
  Option.bind (am_gr h 7 a0 0) fun xq2 =>
  Option.bind (am_li h 9 xq2 a1) fun xq3 =>
  Option.bind (am_si h 9 xq1 ((17 : Int32) + a1) xq3) fun hq4 =>
  lo_X7_layTrial_2 f a0 n (a1 + 1) hq4))
set_option maxHeartbeats 4000000 in
set_option maxRecDepth 100000 in
theorem ll_X7_layTrial_2 (l : Launch) (f : Nat) (a0 : Nat) (K : Option Value → am_H → Prop) : ∀ (n : Nat) (a1 : Int32) (h : am_H) (z : am_H), lo_X7_layTrial_2 f a0 n a1 h = some z →
    am_R l yX7_layTrial cX7_layTrial 2 (none) rm_X7_layTrial (fun _ _ _ => True) 0 0 29 [] [] z K →
    am_R l yX7_layTrial cX7_layTrial 2 (none) rm_X7_layTrial (fun _ _ _ => True) 0 0 2 [(0, .ref a0), (1, .int a1)] [] h K := by
  intro n
  induction n with
  | zero =>
    intro a1 h z hm kE
    cases hm
  | succ n ih =>
    intro a1 h z hm kE
    rw [lo_X7_layTrial_2.eq_2] at hm
    refine r_iload_n 1 dX7_layTrial_2 rfl ?_
    refine r_bipush 17 dX7_layTrial_3 (by decide) ?_
    refine r_icmp_ge 29 dX7_layTrial_5 (by decide) (fun q => ?_) (fun q => ?_)
    · rw [if_pos q] at hm
      cases hm
      exact r_lv [] _ rfl kE
    · rw [if_neg q] at hm
      refine r_aload_n 0 dX7_layTrial_8 rfl ?_
      obtain ⟨xq1, exq1, hm⟩ := am_bs hm
      refine r_getr exq1 fl_X7_7 rfl dX7_layTrial_9 ?_
      refine r_bipush 17 dX7_layTrial_12 (by decide) ?_
      refine r_iload_n 1 dX7_layTrial_14 rfl ?_
      refine r_iadd dX7_layTrial_15 ?_
      refine r_aload_n 0 dX7_layTrial_16 rfl ?_
      obtain ⟨xq2, exq2, hm⟩ := am_bs hm
      refine r_getr exq2 fl_X7_7 rfl dX7_layTrial_17 ?_
      refine r_iload_n 1 dX7_layTrial_20 rfl ?_
      obtain ⟨xq3, exq3, hm⟩ := am_bs hm
      refine r_iald exq3 dX7_layTrial_21 ?_
      obtain ⟨hq4, ehq4, hm⟩ := am_bs hm
      refine r_iast ehq4 dX7_layTrial_22 ?_
      refine r_inc 1 1 [(1, .int (a1 + 1)), (0, .ref a0)] dX7_layTrial_23 (by decide) rfl (by decide) rfl ?_
      refine r_goto 2 dX7_layTrial_26 (by decide) ?_
      exact r_lv [1, 0] _ rfl (ih (a1 + 1) hq4 _ hm kE)
def mi_X7_layTrial (f : Nat) (h : am_H) (p : Nat) : Option am_H :=
  Option.bind (am_cls h 7 p) fun _n =>
  Option.bind (lo_X7_layTrial_2 f p f 0 h) fun hq1 =>
  some hq1
theorem cs_X7_layTrial {f : Nat} {h : am_H} {p : Nat} {z : am_H} (hm : mi_X7_layTrial f h p = some z) : ∃ n, h.1[p]? = some (7, n) := by
  unfold mi_X7_layTrial at hm
  obtain ⟨n, hn, -⟩ := am_bs hm
  exact ⟨n, am_cls_of hn⟩
set_option maxHeartbeats 4000000 in
set_option maxRecDepth 100000 in
theorem ct_X7_layTrial (l : Launch) {f : Nat} {h : am_H} {p : Nat} {h2 : am_H} (hm : mi_X7_layTrial f h p = some h2) : am_Ct l yX7_layTrial cX7_layTrial 2 (none) rm_X7_layTrial [.ref p] h none h2 := by
  refine am_met2 [(0, .ref p)] (by decide) (Nat.le_of_ble_eq_true rfl) rfl ?_
  generalize hK : (fun (v : Option Value) (h3 : am_H) => v = none ∧ h3 = h2) = K
  have HK : K none h2 := by rw [← hK]; exact ⟨rfl, rfl⟩
  clear hK
  unfold mi_X7_layTrial at hm
  obtain ⟨_n, _hn, hm⟩ := am_bs hm
  refine r_iconst 0 dX7_layTrial_0 (by decide) ?_
  refine r_istore_n [(1, .int 0), (0, .ref p)] dX7_layTrial_1 (by decide) rfl ?_
  obtain ⟨hq1, ew, hm⟩ := am_bs hm
  try dsimp only at hm
  refine r_lv [1, 0] _ rfl (ll_X7_layTrial_2 l f p _ f 0 h _ ew ?_)
  cases hm
  exact r_return dX7_layTrial_29 rfl (by decide) HK
def mi_X7_isKnot (f : Nat) (h : am_H) (a : Int32) : Option Bool :=
  Option.bind (mi_X7_in f h ((a : Int32).toInt64) 0 7) fun xq1 =>
  some xq1
set_option maxHeartbeats 4000000 in
set_option maxRecDepth 100000 in
theorem ct_X7_isKnot (l : Launch) {f : Nat} {h : am_H} {a : Int32} {r : Bool} (hm : mi_X7_isKnot f h a = some r) : am_Ct l yX7_isKnot cX7_isKnot 1 (some .boolean) rm_X7_isKnot [.int a] h (some (.int (am_b r))) h := by
  refine am_met2 [(0, .int a)] (by decide) (Nat.le_of_ble_eq_true rfl) rfl ?_
  generalize hK : (fun (v : Option Value) (h3 : am_H) => v = (some (.int (am_b r))) ∧ h3 = h) = K
  have HK : K (some (.int (am_b r))) h := by rw [← hK]; exact ⟨rfl, rfl⟩
  clear hK
  unfold mi_X7_isKnot at hm
  refine r_iload_n 0 dX7_isKnot_0 rfl ?_
  refine r_i2l dX7_isKnot_1 ?_
  refine r_lconst 0 dX7_isKnot_2 (by decide) ?_
  refine r_ldc2 (v := 7) kw_X7_56 dX7_isKnot_3 ?_
  obtain ⟨xq1, exq1, hm⟩ := am_bs hm
  refine r_cS1 [.long ((a : Int32).toInt64), .long 0, .long 7] (ct_X7_in l exq1) sm_X7_58 (by decide) ⟨rfl, rfl⟩ rfl (Nat.le_of_ble_eq_true rfl) dX7_isKnot_6 ?_
  cases hm
  exact r_zreturn _ dX7_isKnot_9 rfl (by decide) HK
def mi_X7_asOne (f : Nat) (h : am_H) (a : Int32) (b : Int32) (c : Int32) (d : Int32) : Option Int32 :=
  Option.bind ((if b ≤ a then
  (some b)
  else (some a))) fun jq1 =>
  Option.bind ((if b ≤ a then
  (some a)
  else (some b))) fun jq2 =>
  some ((((((jq1 * 8) + jq2) * 16) + c) * 16) + d)
set_option maxHeartbeats 4000000 in
set_option maxRecDepth 100000 in
theorem ct_X7_asOne (l : Launch) {f : Nat} {h : am_H} {a : Int32} {b : Int32} {c : Int32} {d : Int32} {r : Int32} (hm : mi_X7_asOne f h a b c d = some r) : am_Ct l yX7_asOne cX7_asOne 6 (some .int) rm_X7_asOne [.int a, .int b, .int c, .int d] h (some (.int r)) h := by
  refine am_met2 [(0, .int a), (1, .int b), (2, .int c), (3, .int d)] (by decide) (Nat.le_of_ble_eq_true rfl) rfl ?_
  generalize hK : (fun (v : Option Value) (h3 : am_H) => v = (some (.int r)) ∧ h3 = h) = K
  have HK : K (some (.int r)) h := by rw [← hK]; exact ⟨rfl, rfl⟩
  clear hK
  unfold mi_X7_asOne at hm
  refine r_iload_n 0 dX7_asOne_0 rfl ?_
  refine r_iload_n 1 dX7_asOne_1 rfl ?_
  obtain ⟨jq1, hw, hm⟩ := am_bs hm
  try dsimp only at hm
  have HJ : am_R l yX7_asOne cX7_asOne 6 (some .int) rm_X7_asOne (fun _ _ _ => True) 0 0 10 [(0, .int a), (1, .int b), (2, .int c), (3, .int d)] [.int jq1] h K := by
    refine r_istore [(4, .int jq1), (0, .int a), (1, .int b), (2, .int c), (3, .int d)] dX7_asOne_10 (by decide) rfl ?_
    refine r_iload_n 1 dX7_asOne_12 rfl ?_
    refine r_iload_n 2 dX7_asOne_13 rfl ?_
    obtain ⟨jq2, hw, hm⟩ := am_bs hm
    try dsimp only at hm
    have HJ : am_R l yX7_asOne cX7_asOne 6 (some .int) rm_X7_asOne (fun _ _ _ => True) 0 0 22 [(2, .int c), (3, .int d), (4, .int jq1)] [.int jq2] h K := by
      refine r_istore [(5, .int jq2), (2, .int c), (3, .int d), (4, .int jq1)] dX7_asOne_22 (by decide) rfl ?_
      refine r_iload 3 dX7_asOne_24 rfl ?_
      refine r_bipush 8 dX7_asOne_26 (by decide) ?_
      refine r_imul dX7_asOne_28 ?_
      refine r_iload 0 dX7_asOne_29 rfl ?_
      refine r_iadd dX7_asOne_31 ?_
      refine r_bipush 16 dX7_asOne_32 (by decide) ?_
      refine r_imul dX7_asOne_34 ?_
      refine r_iload_n 1 dX7_asOne_35 rfl ?_
      refine r_iadd dX7_asOne_36 ?_
      refine r_bipush 16 dX7_asOne_37 (by decide) ?_
      refine r_imul dX7_asOne_39 ?_
      refine r_iload_n 2 dX7_asOne_40 rfl ?_
      refine r_iadd dX7_asOne_41 ?_
      cases hm
      exact r_ireturn dX7_asOne_42 rfl (by decide) HK
    clear hm
    have hm := hw
    clear hw
    refine r_icmp_ge 21 dX7_asOne_14 (by decide) (fun q => ?_) (fun q => ?_)
    · rw [if_pos q] at hm
      refine r_iload_n 1 dX7_asOne_21 rfl ?_
      cases hm
      exact r_lv [3, 4, 0] _ rfl HJ
    · rw [if_neg q] at hm
      refine r_iload_n 2 dX7_asOne_17 rfl ?_
      refine r_goto 22 dX7_asOne_18 (by decide) ?_
      cases hm
      exact r_lv [3, 4, 0] _ rfl HJ
  clear hm
  have hm := hw
  clear hw
  refine r_icmp_ge 9 dX7_asOne_2 (by decide) (fun q => ?_) (fun q => ?_)
  · rw [if_pos q] at hm
    refine r_iload_n 1 dX7_asOne_9 rfl ?_
    cases hm
    exact r_lv [0, 1, 2, 3] _ rfl HJ
  · rw [if_neg q] at hm
    refine r_iload_n 0 dX7_asOne_5 rfl ?_
    refine r_goto 10 dX7_asOne_6 (by decide) ?_
    cases hm
    exact r_lv [0, 1, 2, 3] _ rfl HJ
def lo_X7_isFree_6 (f : Nat) (h : am_H) (a0 : Nat) (a1 : Int32) (a2 : Int32) (a3 : Int32) : Nat → Bool → Int32 → Option (Bool)
  | 0, _, _ => none
  | n + 1, a4, a5 =>
  Option.bind (mi_X7_many f h a0 a1) fun xq1 =>
  (if xq1 ≤ a5 then
  (some a4)
  else (Option.bind (mi_X7_spanOf f h a0 a1 a5) fun xq2 =>
  Option.bind ((if a5 = a3 then
  (some false)
  else (Option.bind (mi_X7_lowOf f h xq2) fun xq9 =>
  Option.bind (mi_X7_lowOf f h a2) fun xq10 =>
  (if xq9 = xq10 then
  (Option.bind (mi_X7_highOf f h xq2) fun xq11 =>
  Option.bind (mi_X7_highOf f h a2) fun xq12 =>
  (if xq11 = xq12 then
  (some true)
  else (some false)))
  else (some false))))) fun jq3 =>
  Option.bind ((if a4 = true then
  ((if jq3 = true then
  (Option.bind (mi_X7_fromOf f h a2) fun xq5 =>
  Option.bind (mi_X7_toOf f h xq2) fun xq6 =>
  (if xq6 < xq5 then
  (some true)
  else (Option.bind (mi_X7_fromOf f h xq2) fun xq7 =>
  Option.bind (mi_X7_toOf f h a2) fun xq8 =>
  (if xq7 ≤ xq8 then
  (some false)
  else (some true)))))
  else (some true)))
  else (some false))) fun jq4 =>
  lo_X7_isFree_6 f h a0 a1 a2 a3 n jq4 (a5 + 1)))
set_option maxHeartbeats 4000000 in
set_option maxRecDepth 100000 in
theorem ll_X7_isFree_6 (l : Launch) (f : Nat) (h : am_H) (a0 : Nat) (a1 : Int32) (a2 : Int32) (a3 : Int32) (K : Option Value → am_H → Prop) : ∀ (n : Nat) (a4 : Bool) (a5 : Int32) (z : Bool), lo_X7_isFree_6 f h a0 a1 a2 a3 n a4 a5 = some z →
    am_R l yX7_isFree cX7_isFree 8 (some .boolean) rm_X7_isFree (fun _ _ _ => True) 0 0 109 [(4, .int (am_b z))] [] h K →
    am_R l yX7_isFree cX7_isFree 8 (some .boolean) rm_X7_isFree (fun _ _ _ => True) 0 0 6 [(0, .ref a0), (1, .int a1), (2, .int a2), (3, .int a3), (4, .int (am_b a4)), (5, .int a5)] [] h K := by
  intro n
  induction n with
  | zero =>
    intro a4 a5 z hm kE
    cases hm
  | succ n ih =>
    intro a4 a5 z hm kE
    rw [lo_X7_isFree_6.eq_2] at hm
    refine r_iload 5 dX7_isFree_6 rfl ?_
    refine r_aload_n 0 dX7_isFree_8 rfl ?_
    refine r_iload_n 1 dX7_isFree_9 rfl ?_
    obtain ⟨xq1, exq1, hm⟩ := am_bs hm
    refine r_cV1 [.int a1] (ct_X7_many l exq1) vm_X7_105 (cs_X7_many exq1) (by decide) ⟨rfl, rfl⟩ rfl (Nat.le_of_ble_eq_true rfl) dX7_isFree_10 ?_
    refine r_icmp_ge 109 dX7_isFree_13 (by decide) (fun q => ?_) (fun q => ?_)
    · rw [if_pos q] at hm
      cases hm
      exact r_lv [4] _ rfl kE
    · rw [if_neg q] at hm
      refine r_aload_n 0 dX7_isFree_16 rfl ?_
      refine r_iload_n 1 dX7_isFree_17 rfl ?_
      refine r_iload 5 dX7_isFree_18 rfl ?_
      obtain ⟨xq2, exq2, hm⟩ := am_bs hm
      refine r_cV1 [.int a1, .int a5] (ct_X7_spanOf l exq2) vm_X7_108 (cs_X7_spanOf exq2) (by decide) ⟨rfl, rfl⟩ rfl (Nat.le_of_ble_eq_true rfl) dX7_isFree_20 ?_
      refine r_istore [(6, .int xq2), (0, .ref a0), (1, .int a1), (2, .int a2), (3, .int a3), (4, .int (am_b a4)), (5, .int a5)] dX7_isFree_23 (by decide) rfl ?_
      refine r_iload 6 dX7_isFree_25 rfl ?_
      refine r_iload_n 4 dX7_isFree_27 rfl ?_
      obtain ⟨jq3, hw, hm⟩ := am_bs hm
      try dsimp only at hm
      have HJ : am_R l yX7_isFree cX7_isFree 8 (some .boolean) rm_X7_isFree (fun _ _ _ => True) 0 0 60 [(0, .ref a0), (1, .int a1), (2, .int a2), (3, .int a3), (4, .int (am_b a4)), (5, .int a5), (6, .int xq2)] [.int (am_b jq3)] h K := by
        refine r_istore [(7, .int (am_b jq3)), (0, .ref a0), (1, .int a1), (2, .int a2), (3, .int a3), (4, .int (am_b a4)), (5, .int a5), (6, .int xq2)] dX7_isFree_60 (by decide) rfl ?_
        refine r_iload 5 dX7_isFree_62 rfl ?_
        obtain ⟨jq4, hw, hm⟩ := am_bs hm
        try dsimp only at hm
        have HJ : am_R l yX7_isFree cX7_isFree 8 (some .boolean) rm_X7_isFree (fun _ _ _ => True) 0 0 101 [(0, .ref a0), (1, .int a1), (2, .int a2), (3, .int a3), (5, .int a5)] [.int (am_b jq4)] h K := by
          refine r_istore [(4, .int (am_b jq4)), (0, .ref a0), (1, .int a1), (2, .int a2), (3, .int a3), (5, .int a5)] dX7_isFree_101 (by decide) rfl ?_
          refine r_inc 1 5 [(5, .int (a5 + 1)), (4, .int (am_b jq4)), (0, .ref a0), (1, .int a1), (2, .int a2), (3, .int a3)] dX7_isFree_103 (by decide) rfl (by decide) rfl ?_
          refine r_goto 6 dX7_isFree_106 (by decide) ?_
          exact r_lv [2, 3, 4, 5, 1, 0] _ rfl (ih jq4 (a5 + 1) _ hm kE)
        clear hm
        have hm := hw
        clear hw
        refine r_if_eq 100 dX7_isFree_64 (by decide) (fun q => ?_) (fun q => ?_)
        · rw [if_neg (show ¬ a4 = true from by rw [am_b0 q]; decide)] at hm
          refine r_iconst 0 dX7_isFree_100 (by decide) ?_
          cases hm
          exact r_lv [1, 2, 3, 4, 6] _ rfl HJ
        · rw [if_pos (show a4 = true from am_b1 q)] at hm
          refine r_iload 0 dX7_isFree_67 rfl ?_
          refine r_if_eq 96 dX7_isFree_69 (by decide) (fun q => ?_) (fun q => ?_)
          · rw [if_neg (show ¬ jq3 = true from by rw [am_b0 q]; decide)] at hm
            refine r_iconst 1 dX7_isFree_96 (by decide) ?_
            refine r_goto 101 dX7_isFree_97 (by decide) ?_
            cases hm
            exact r_lv [1, 2, 3, 4, 6] _ rfl HJ
          · rw [if_pos (show jq3 = true from am_b1 q)] at hm
            refine r_iload_n 3 dX7_isFree_72 rfl ?_
            obtain ⟨xq5, exq5, hm⟩ := am_bs hm
            refine r_cS1 [.int a2] (ct_X7_fromOf l exq5) sm_X7_64 (by decide) ⟨rfl, rfl⟩ rfl (Nat.le_of_ble_eq_true rfl) dX7_isFree_73 ?_
            refine r_iload 7 dX7_isFree_76 rfl ?_
            obtain ⟨xq6, exq6, hm⟩ := am_bs hm
            refine r_cS1 [.int xq2] (ct_X7_toOf l exq6) sm_X7_68 (by decide) ⟨rfl, rfl⟩ rfl (Nat.le_of_ble_eq_true rfl) dX7_isFree_78 ?_
            refine r_icmp_gt 96 dX7_isFree_81 (by decide) (fun q => ?_) (fun q => ?_)
            · rw [if_pos q] at hm
              refine r_iconst 1 dX7_isFree_96 (by decide) ?_
              refine r_goto 101 dX7_isFree_97 (by decide) ?_
              cases hm
              exact r_lv [1, 2, 3, 4, 6] _ rfl HJ
            · rw [if_neg q] at hm
              refine r_iload 7 dX7_isFree_84 rfl ?_
              obtain ⟨xq7, exq7, hm⟩ := am_bs hm
              refine r_cS1 [.int xq2] (ct_X7_fromOf l exq7) sm_X7_64 (by decide) ⟨rfl, rfl⟩ rfl (Nat.le_of_ble_eq_true rfl) dX7_isFree_86 ?_
              refine r_iload_n 3 dX7_isFree_89 rfl ?_
              obtain ⟨xq8, exq8, hm⟩ := am_bs hm
              refine r_cS1 [.int a2] (ct_X7_toOf l exq8) sm_X7_68 (by decide) ⟨rfl, rfl⟩ rfl (Nat.le_of_ble_eq_true rfl) dX7_isFree_90 ?_
              refine r_icmp_le 100 dX7_isFree_93 (by decide) (fun q => ?_) (fun q => ?_)
              · rw [if_pos q] at hm
                refine r_iconst 0 dX7_isFree_100 (by decide) ?_
                cases hm
                exact r_lv [1, 2, 3, 4, 6] _ rfl HJ
              · rw [if_neg q] at hm
                refine r_iconst 1 dX7_isFree_96 (by decide) ?_
                refine r_goto 101 dX7_isFree_97 (by decide) ?_
                cases hm
                exact r_lv [1, 2, 3, 4, 6] _ rfl HJ
      clear hm
      have hm := hw
      clear hw
      refine r_icmp_eq 59 dX7_isFree_28 (by decide) (fun q => ?_) (fun q => ?_)
      · rw [if_pos q] at hm
        refine r_iconst 0 dX7_isFree_59 (by decide) ?_
        cases hm
        exact r_lv [1, 2, 3, 4, 5, 6, 0] _ rfl HJ
      · rw [if_neg q] at hm
        refine r_iload 0 dX7_isFree_31 rfl ?_
        obtain ⟨xq9, exq9, hm⟩ := am_bs hm
        refine r_cS1 [.int xq2] (ct_X7_lowOf l exq9) sm_X7_112 (by decide) ⟨rfl, rfl⟩ rfl (Nat.le_of_ble_eq_true rfl) dX7_isFree_33 ?_
        refine r_iload_n 3 dX7_isFree_36 rfl ?_
        obtain ⟨xq10, exq10, hm⟩ := am_bs hm
        refine r_cS1 [.int a2] (ct_X7_lowOf l exq10) sm_X7_112 (by decide) ⟨rfl, rfl⟩ rfl (Nat.le_of_ble_eq_true rfl) dX7_isFree_37 ?_
        refine r_icmp_ne 59 dX7_isFree_40 (by decide) (fun q => ?_) (fun q => ?_)
        · rw [if_neg q] at hm
          refine r_iconst 0 dX7_isFree_59 (by decide) ?_
          cases hm
          exact r_lv [1, 2, 3, 4, 5, 6, 0] _ rfl HJ
        · rw [if_pos q] at hm
          refine r_iload 0 dX7_isFree_43 rfl ?_
          obtain ⟨xq11, exq11, hm⟩ := am_bs hm
          refine r_cS1 [.int xq2] (ct_X7_highOf l exq11) sm_X7_115 (by decide) ⟨rfl, rfl⟩ rfl (Nat.le_of_ble_eq_true rfl) dX7_isFree_45 ?_
          refine r_iload_n 3 dX7_isFree_48 rfl ?_
          obtain ⟨xq12, exq12, hm⟩ := am_bs hm
          refine r_cS1 [.int a2] (ct_X7_highOf l exq12) sm_X7_115 (by decide) ⟨rfl, rfl⟩ rfl (Nat.le_of_ble_eq_true rfl) dX7_isFree_49 ?_
          refine r_icmp_ne 59 dX7_isFree_52 (by decide) (fun q => ?_) (fun q => ?_)
          · rw [if_neg q] at hm
            refine r_iconst 0 dX7_isFree_59 (by decide) ?_
            cases hm
            exact r_lv [1, 2, 3, 4, 5, 6, 0] _ rfl HJ
          · rw [if_pos q] at hm
            refine r_iconst 1 dX7_isFree_55 (by decide) ?_
            refine r_goto 60 dX7_isFree_56 (by decide) ?_
            cases hm
            exact r_lv [1, 2, 3, 4, 5, 6, 0] _ rfl HJ
def mi_X7_isFree (f : Nat) (h : am_H) (p : Nat) (a : Int32) (b : Int32) (c : Int32) : Option Bool :=
  Option.bind (am_cls h 7 p) fun _n =>
  Option.bind (lo_X7_isFree_6 f h p a b c f true 0) fun oq1 =>
  some oq1
theorem cs_X7_isFree {f : Nat} {h : am_H} {p : Nat} {a : Int32} {b : Int32} {c : Int32} {z : Bool} (hm : mi_X7_isFree f h p a b c = some z) : ∃ n, h.1[p]? = some (7, n) := by
  unfold mi_X7_isFree at hm
  obtain ⟨n, hn, -⟩ := am_bs hm
  exact ⟨n, am_cls_of hn⟩
set_option maxHeartbeats 4000000 in
set_option maxRecDepth 100000 in
theorem ct_X7_isFree (l : Launch) {f : Nat} {h : am_H} {p : Nat} {a : Int32} {b : Int32} {c : Int32} {r : Bool} (hm : mi_X7_isFree f h p a b c = some r) : am_Ct l yX7_isFree cX7_isFree 8 (some .boolean) rm_X7_isFree [.ref p, .int a, .int b, .int c] h (some (.int (am_b r))) h := by
  refine am_met2 [(0, .ref p), (1, .int a), (2, .int b), (3, .int c)] (by decide) (Nat.le_of_ble_eq_true rfl) rfl ?_
  generalize hK : (fun (v : Option Value) (h3 : am_H) => v = (some (.int (am_b r))) ∧ h3 = h) = K
  have HK : K (some (.int (am_b r))) h := by rw [← hK]; exact ⟨rfl, rfl⟩
  clear hK
  unfold mi_X7_isFree at hm
  obtain ⟨_n, _hn, hm⟩ := am_bs hm
  refine r_iconst 1 dX7_isFree_0 (by decide) ?_
  refine r_istore [(4, .int 1), (0, .ref p), (1, .int a), (2, .int b), (3, .int c)] dX7_isFree_1 (by decide) rfl ?_
  refine r_iconst 0 dX7_isFree_3 (by decide) ?_
  refine r_istore [(5, .int 0), (4, .int 1), (0, .ref p), (1, .int a), (2, .int b), (3, .int c)] dX7_isFree_4 (by decide) rfl ?_
  obtain ⟨oq1, ew, hm⟩ := am_bs hm
  try dsimp only at hm
  refine r_lv [2, 3, 4, 5, 1, 0] _ rfl (ll_X7_isFree_6 l f h p a b c _ f true 0 _ ew ?_)
  refine r_iload 0 dX7_isFree_109 rfl ?_
  cases hm
  exact r_zreturn _ dX7_isFree_111 rfl (by decide) HK
def mi_X7_canPut (f : Nat) (h : am_H) (p : Nat) (a : Int32) (b : Int32) (c : Int32) (d : Int32) (e : Int32) : Option Bool :=
  Option.bind (am_cls h 7 p) fun _n =>
  Option.bind (mi_X7_isKnot f h b) fun xq1 =>
  Option.bind ((if xq1 = true then
  (Option.bind (mi_X7_isKnot f h c) fun xq3 =>
  (if xq3 = true then
  ((if b = c then
  (some false)
  else (Option.bind (mi_X7_isTime f h d) fun xq4 =>
  (if xq4 = true then
  (Option.bind (mi_X7_isTime f h e) fun xq5 =>
  (if xq5 = true then
  ((if e < d then
  (some false)
  else (Option.bind (mi_X7_many f h p a) fun xq6 =>
  (if 16 ≤ xq6 then
  (some false)
  else (Option.bind (mi_X7_asOne f h b c d e) fun xq7 =>
  Option.bind (mi_X7_isFree f h p a xq7 (-9)) fun xq8 =>
  (if xq8 = true then
  (some true)
  else (some false)))))))
  else (some false)))
  else (some false)))))
  else (some false)))
  else (some false))) fun jq2 =>
  some jq2
theorem cs_X7_canPut {f : Nat} {h : am_H} {p : Nat} {a : Int32} {b : Int32} {c : Int32} {d : Int32} {e : Int32} {z : Bool} (hm : mi_X7_canPut f h p a b c d e = some z) : ∃ n, h.1[p]? = some (7, n) := by
  unfold mi_X7_canPut at hm
  obtain ⟨n, hn, -⟩ := am_bs hm
  exact ⟨n, am_cls_of hn⟩
set_option maxHeartbeats 4000000 in
set_option maxRecDepth 100000 in
theorem ct_X7_canPut (l : Launch) {f : Nat} {h : am_H} {p : Nat} {a : Int32} {b : Int32} {c : Int32} {d : Int32} {e : Int32} {r : Bool} (hm : mi_X7_canPut f h p a b c d e = some r) : am_Ct l yX7_canPut cX7_canPut 6 (some .boolean) rm_X7_canPut [.ref p, .int a, .int b, .int c, .int d, .int e] h (some (.int (am_b r))) h := by
  refine am_met2 [(0, .ref p), (1, .int a), (2, .int b), (3, .int c), (4, .int d), (5, .int e)] (by decide) (Nat.le_of_ble_eq_true rfl) rfl ?_
  generalize hK : (fun (v : Option Value) (h3 : am_H) => v = (some (.int (am_b r))) ∧ h3 = h) = K
  have HK : K (some (.int (am_b r))) h := by rw [← hK]; exact ⟨rfl, rfl⟩
  clear hK
  unfold mi_X7_canPut at hm
  obtain ⟨_n, _hn, hm⟩ := am_bs hm
  refine r_iload_n 2 dX7_canPut_0 rfl ?_
  obtain ⟨xq1, exq1, hm⟩ := am_bs hm
  refine r_cS1 [.int b] (ct_X7_isKnot l exq1) sm_X7_118 (by decide) ⟨rfl, rfl⟩ rfl (Nat.le_of_ble_eq_true rfl) dX7_canPut_1 ?_
  obtain ⟨jq2, hw, hm⟩ := am_bs hm
  try dsimp only at hm
  have HJ : am_R l yX7_canPut cX7_canPut 6 (some .boolean) rm_X7_canPut (fun _ _ _ => True) 0 0 76 [] [.int (am_b jq2)] h K := by
    cases hm
    exact r_zreturn _ dX7_canPut_76 rfl (by decide) HK
  clear hm
  have hm := hw
  clear hw
  refine r_if_eq 75 dX7_canPut_4 (by decide) (fun q => ?_) (fun q => ?_)
  · rw [if_neg (show ¬ xq1 = true from by rw [am_b0 q]; decide)] at hm
    refine r_iconst 0 dX7_canPut_75 (by decide) ?_
    cases hm
    exact r_lv [] _ rfl HJ
  · rw [if_pos (show xq1 = true from am_b1 q)] at hm
    refine r_iload_n 3 dX7_canPut_7 rfl ?_
    obtain ⟨xq3, exq3, hm⟩ := am_bs hm
    refine r_cS1 [.int c] (ct_X7_isKnot l exq3) sm_X7_118 (by decide) ⟨rfl, rfl⟩ rfl (Nat.le_of_ble_eq_true rfl) dX7_canPut_8 ?_
    refine r_if_eq 75 dX7_canPut_11 (by decide) (fun q => ?_) (fun q => ?_)
    · rw [if_neg (show ¬ xq3 = true from by rw [am_b0 q]; decide)] at hm
      refine r_iconst 0 dX7_canPut_75 (by decide) ?_
      cases hm
      exact r_lv [] _ rfl HJ
    · rw [if_pos (show xq3 = true from am_b1 q)] at hm
      refine r_iload_n 2 dX7_canPut_14 rfl ?_
      refine r_iload_n 3 dX7_canPut_15 rfl ?_
      refine r_icmp_eq 75 dX7_canPut_16 (by decide) (fun q => ?_) (fun q => ?_)
      · rw [if_pos q] at hm
        refine r_iconst 0 dX7_canPut_75 (by decide) ?_
        cases hm
        exact r_lv [] _ rfl HJ
      · rw [if_neg q] at hm
        refine r_iload 4 dX7_canPut_19 rfl ?_
        obtain ⟨xq4, exq4, hm⟩ := am_bs hm
        refine r_cS1 [.int d] (ct_X7_isTime l exq4) sm_X7_122 (by decide) ⟨rfl, rfl⟩ rfl (Nat.le_of_ble_eq_true rfl) dX7_canPut_21 ?_
        refine r_if_eq 75 dX7_canPut_24 (by decide) (fun q => ?_) (fun q => ?_)
        · rw [if_neg (show ¬ xq4 = true from by rw [am_b0 q]; decide)] at hm
          refine r_iconst 0 dX7_canPut_75 (by decide) ?_
          cases hm
          exact r_lv [] _ rfl HJ
        · rw [if_pos (show xq4 = true from am_b1 q)] at hm
          refine r_iload 5 dX7_canPut_27 rfl ?_
          obtain ⟨xq5, exq5, hm⟩ := am_bs hm
          refine r_cS1 [.int e] (ct_X7_isTime l exq5) sm_X7_122 (by decide) ⟨rfl, rfl⟩ rfl (Nat.le_of_ble_eq_true rfl) dX7_canPut_29 ?_
          refine r_if_eq 75 dX7_canPut_32 (by decide) (fun q => ?_) (fun q => ?_)
          · rw [if_neg (show ¬ xq5 = true from by rw [am_b0 q]; decide)] at hm
            refine r_iconst 0 dX7_canPut_75 (by decide) ?_
            cases hm
            exact r_lv [] _ rfl HJ
          · rw [if_pos (show xq5 = true from am_b1 q)] at hm
            refine r_iload 4 dX7_canPut_35 rfl ?_
            refine r_iload 5 dX7_canPut_37 rfl ?_
            refine r_icmp_gt 75 dX7_canPut_39 (by decide) (fun q => ?_) (fun q => ?_)
            · rw [if_pos q] at hm
              refine r_iconst 0 dX7_canPut_75 (by decide) ?_
              cases hm
              exact r_lv [] _ rfl HJ
            · rw [if_neg q] at hm
              refine r_aload_n 0 dX7_canPut_42 rfl ?_
              refine r_iload_n 1 dX7_canPut_43 rfl ?_
              obtain ⟨xq6, exq6, hm⟩ := am_bs hm
              refine r_cV1 [.int a] (ct_X7_many l exq6) vm_X7_105 (cs_X7_many exq6) (by decide) ⟨rfl, rfl⟩ rfl (Nat.le_of_ble_eq_true rfl) dX7_canPut_44 ?_
              refine r_bipush 16 dX7_canPut_47 (by decide) ?_
              refine r_icmp_ge 75 dX7_canPut_49 (by decide) (fun q => ?_) (fun q => ?_)
              · rw [if_pos q] at hm
                refine r_iconst 0 dX7_canPut_75 (by decide) ?_
                cases hm
                exact r_lv [] _ rfl HJ
              · rw [if_neg q] at hm
                refine r_aload_n 0 dX7_canPut_52 rfl ?_
                refine r_iload_n 1 dX7_canPut_53 rfl ?_
                refine r_iload_n 2 dX7_canPut_54 rfl ?_
                refine r_iload_n 3 dX7_canPut_55 rfl ?_
                refine r_iload 4 dX7_canPut_56 rfl ?_
                refine r_iload 5 dX7_canPut_58 rfl ?_
                obtain ⟨xq7, exq7, hm⟩ := am_bs hm
                refine r_cS1 [.int b, .int c, .int d, .int e] (ct_X7_asOne l exq7) sm_X7_95 (by decide) ⟨rfl, rfl⟩ rfl (Nat.le_of_ble_eq_true rfl) dX7_canPut_60 ?_
                refine r_bipush (-9) dX7_canPut_63 (by decide) ?_
                obtain ⟨xq8, exq8, hm⟩ := am_bs hm
                refine r_cV1 [.int a, .int xq7, .int (-9)] (ct_X7_isFree l exq8) vm_X7_125 (cs_X7_isFree exq8) (by decide) ⟨rfl, rfl⟩ rfl (Nat.le_of_ble_eq_true rfl) dX7_canPut_65 ?_
                refine r_if_eq 75 dX7_canPut_68 (by decide) (fun q => ?_) (fun q => ?_)
                · rw [if_neg (show ¬ xq8 = true from by rw [am_b0 q]; decide)] at hm
                  refine r_iconst 0 dX7_canPut_75 (by decide) ?_
                  cases hm
                  exact r_lv [] _ rfl HJ
                · rw [if_pos (show xq8 = true from am_b1 q)] at hm
                  refine r_iconst 1 dX7_canPut_71 (by decide) ?_
                  refine r_goto 76 dX7_canPut_72 (by decide) ?_
                  cases hm
                  exact r_lv [] _ rfl HJ
def mi_X7_putOn (f : Nat) (h : am_H) (p : Nat) (a : Int32) (b : Int32) : Option am_H :=
  Option.bind (am_cls h 7 p) fun _n =>
  Option.bind (am_gr h 7 p 0) fun xq1 =>
  Option.bind (mi_X7_many f h p a) fun xq2 =>
  Option.bind (am_si h 9 xq1 ((((17 : Int32) * a) + 1) + xq2) b) fun hq3 =>
  Option.bind (am_gr hq3 7 p 0) fun xq4 =>
  Option.bind (am_li hq3 9 xq4 ((17 : Int32) * a)) fun xq5 =>
  Option.bind (am_si hq3 9 xq4 ((17 : Int32) * a) (xq5 + 1)) fun hq6 =>
  some hq6
theorem cs_X7_putOn {f : Nat} {h : am_H} {p : Nat} {a : Int32} {b : Int32} {z : am_H} (hm : mi_X7_putOn f h p a b = some z) : ∃ n, h.1[p]? = some (7, n) := by
  unfold mi_X7_putOn at hm
  obtain ⟨n, hn, -⟩ := am_bs hm
  exact ⟨n, am_cls_of hn⟩
set_option maxHeartbeats 4000000 in
set_option maxRecDepth 100000 in
theorem ct_X7_putOn (l : Launch) {f : Nat} {h : am_H} {p : Nat} {a : Int32} {b : Int32} {h2 : am_H} (hm : mi_X7_putOn f h p a b = some h2) : am_Ct l yX7_putOn cX7_putOn 3 (none) rm_X7_putOn [.ref p, .int a, .int b] h none h2 := by
  refine am_met2 [(0, .ref p), (1, .int a), (2, .int b)] (by decide) (Nat.le_of_ble_eq_true rfl) rfl ?_
  generalize hK : (fun (v : Option Value) (h3 : am_H) => v = none ∧ h3 = h2) = K
  have HK : K none h2 := by rw [← hK]; exact ⟨rfl, rfl⟩
  clear hK
  unfold mi_X7_putOn at hm
  obtain ⟨_n, _hn, hm⟩ := am_bs hm
  refine r_aload_n 0 dX7_putOn_0 rfl ?_
  obtain ⟨xq1, exq1, hm⟩ := am_bs hm
  refine r_getr exq1 fl_X7_7 rfl dX7_putOn_1 ?_
  refine r_bipush 17 dX7_putOn_4 (by decide) ?_
  refine r_iload_n 1 dX7_putOn_6 rfl ?_
  refine r_imul dX7_putOn_7 ?_
  refine r_iconst 1 dX7_putOn_8 (by decide) ?_
  refine r_iadd dX7_putOn_9 ?_
  refine r_aload_n 0 dX7_putOn_10 rfl ?_
  refine r_iload_n 1 dX7_putOn_11 rfl ?_
  obtain ⟨xq2, exq2, hm⟩ := am_bs hm
  refine r_cV1 [.int a] (ct_X7_many l exq2) vm_X7_105 (cs_X7_many exq2) (by decide) ⟨rfl, rfl⟩ rfl (Nat.le_of_ble_eq_true rfl) dX7_putOn_12 ?_
  refine r_iadd dX7_putOn_15 ?_
  refine r_iload_n 2 dX7_putOn_16 rfl ?_
  obtain ⟨hq3, ehq3, hm⟩ := am_bs hm
  refine r_iast ehq3 dX7_putOn_17 ?_
  refine r_aload_n 0 dX7_putOn_18 rfl ?_
  obtain ⟨xq4, exq4, hm⟩ := am_bs hm
  refine r_getr exq4 fl_X7_7 rfl dX7_putOn_19 ?_
  refine r_bipush 17 dX7_putOn_22 (by decide) ?_
  refine r_iload_n 1 dX7_putOn_24 rfl ?_
  refine r_imul dX7_putOn_25 ?_
  refine r_dup2 dX7_putOn_26 rfl rfl ?_
  obtain ⟨xq5, exq5, hm⟩ := am_bs hm
  refine r_iald exq5 dX7_putOn_27 ?_
  refine r_iconst 1 dX7_putOn_28 (by decide) ?_
  refine r_iadd dX7_putOn_29 ?_
  obtain ⟨hq6, ehq6, hm⟩ := am_bs hm
  refine r_iast ehq6 dX7_putOn_30 ?_
  cases hm
  exact r_return dX7_putOn_31 rfl (by decide) HK
def lo_X7_drawn_23 (f : Nat) (a0 : Nat) (a1 : Int32) : Nat → Int32 → Int32 → am_H → Option (Int32 × am_H)
  | 0, _, _, _ => none
  | n + 1, a2, a3, h =>
  (if a1 ≤ a3 then
  (some (a2, h))
  else (Option.bind (am_gl h 7 a0 17) fun xq1 =>
  Option.bind (am_pl h 7 a0 17 ((xq1 * 6364136223846793005) + 1442695040888963407)) fun hq2 =>
  Option.bind (am_gl hq2 7 a0 17) fun xq3 =>
  Option.bind ((if ((((((((xq3).toUInt64 >>> ((33 : Int32).toInt64.toUInt64 &&& Int64.toUInt64 63)).toInt64) : Int64).toInt32) / 64) - ((((((xq3).toUInt64 >>> ((33 : Int32).toInt64.toUInt64 &&& Int64.toUInt64 63)).toInt64) : Int64).toInt32) / 64) / 16 * 16) + (((((((xq3).toUInt64 >>> ((33 : Int32).toInt64.toUInt64 &&& Int64.toUInt64 63)).toInt64) : Int64).toInt32) / 1024) - ((((((xq3).toUInt64 >>> ((33 : Int32).toInt64.toUInt64 &&& Int64.toUInt64 63)).toInt64) : Int64).toInt32) / 1024) / 16 * 16)) ≤ 15 then
  (some ((((((((xq3).toUInt64 >>> ((33 : Int32).toInt64.toUInt64 &&& Int64.toUInt64 63)).toInt64) : Int64).toInt32) / 64) - ((((((xq3).toUInt64 >>> ((33 : Int32).toInt64.toUInt64 &&& Int64.toUInt64 63)).toInt64) : Int64).toInt32) / 64) / 16 * 16) + (((((((xq3).toUInt64 >>> ((33 : Int32).toInt64.toUInt64 &&& Int64.toUInt64 63)).toInt64) : Int64).toInt32) / 1024) - ((((((xq3).toUInt64 >>> ((33 : Int32).toInt64.toUInt64 &&& Int64.toUInt64 63)).toInt64) : Int64).toInt32) / 1024) / 16 * 16)))
  else (some 15))) fun jq4 =>
  Option.bind (mi_X7_canPut f hq2 a0 1 ((((((xq3).toUInt64 >>> ((33 : Int32).toInt64.toUInt64 &&& Int64.toUInt64 63)).toInt64) : Int64).toInt32) - (((((xq3).toUInt64 >>> ((33 : Int32).toInt64.toUInt64 &&& Int64.toUInt64 63)).toInt64) : Int64).toInt32) / 8 * 8) (((((((xq3).toUInt64 >>> ((33 : Int32).toInt64.toUInt64 &&& Int64.toUInt64 63)).toInt64) : Int64).toInt32) / 8) - ((((((xq3).toUInt64 >>> ((33 : Int32).toInt64.toUInt64 &&& Int64.toUInt64 63)).toInt64) : Int64).toInt32) / 8) / 8 * 8) (((((((xq3).toUInt64 >>> ((33 : Int32).toInt64.toUInt64 &&& Int64.toUInt64 63)).toInt64) : Int64).toInt32) / 64) - ((((((xq3).toUInt64 >>> ((33 : Int32).toInt64.toUInt64 &&& Int64.toUInt64 63)).toInt64) : Int64).toInt32) / 64) / 16 * 16) jq4) fun xq5 =>
  Option.bind ((if xq5 = true then
  (Option.bind (mi_X7_asOne f hq2 ((((((xq3).toUInt64 >>> ((33 : Int32).toInt64.toUInt64 &&& Int64.toUInt64 63)).toInt64) : Int64).toInt32) - (((((xq3).toUInt64 >>> ((33 : Int32).toInt64.toUInt64 &&& Int64.toUInt64 63)).toInt64) : Int64).toInt32) / 8 * 8) (((((((xq3).toUInt64 >>> ((33 : Int32).toInt64.toUInt64 &&& Int64.toUInt64 63)).toInt64) : Int64).toInt32) / 8) - ((((((xq3).toUInt64 >>> ((33 : Int32).toInt64.toUInt64 &&& Int64.toUInt64 63)).toInt64) : Int64).toInt32) / 8) / 8 * 8) (((((((xq3).toUInt64 >>> ((33 : Int32).toInt64.toUInt64 &&& Int64.toUInt64 63)).toInt64) : Int64).toInt32) / 64) - ((((((xq3).toUInt64 >>> ((33 : Int32).toInt64.toUInt64 &&& Int64.toUInt64 63)).toInt64) : Int64).toInt32) / 64) / 16 * 16) jq4) fun xq10 =>
  Option.bind (mi_X7_putOn f hq2 a0 1 xq10) fun hq12 =>
  some hq12)
  else (some hq2))) fun hq6 =>
  Option.bind (mi_X7_partsBy f hq6 a0 1 8 65535) fun (xq7, hq8) =>
  lo_X7_drawn_23 f a0 a1 n (a2 + xq7) (a3 + 1) hq8))
set_option maxHeartbeats 4000000 in
set_option maxRecDepth 100000 in
theorem ll_X7_drawn_23 (l : Launch) (f : Nat) (a0 : Nat) (a1 : Int32) (K : Option Value → am_H → Prop) : ∀ (n : Nat) (a2 : Int32) (a3 : Int32) (h : am_H) (z : Int32 × am_H), lo_X7_drawn_23 f a0 a1 n a2 a3 h = some z →
    am_R l yX7_drawn cX7_drawn 7 (some .int) rm_X7_drawn (fun _ _ _ => True) 0 0 162 [(2, .int z.1)] [] z.2 K →
    am_R l yX7_drawn cX7_drawn 7 (some .int) rm_X7_drawn (fun _ _ _ => True) 0 0 23 [(0, .ref a0), (1, .int a1), (2, .int a2), (3, .int a3)] [] h K := by
  intro n
  induction n with
  | zero =>
    intro a2 a3 h z hm kE
    cases hm
  | succ n ih =>
    intro a2 a3 h z hm kE
    rw [lo_X7_drawn_23.eq_2] at hm
    refine r_iload_n 3 dX7_drawn_23 rfl ?_
    refine r_iload_n 1 dX7_drawn_24 rfl ?_
    refine r_icmp_ge 162 dX7_drawn_25 (by decide) (fun q => ?_) (fun q => ?_)
    · rw [if_pos q] at hm
      cases hm
      exact r_lv [2] _ rfl kE
    · rw [if_neg q] at hm
      refine r_aload_n 0 dX7_drawn_28 rfl ?_
      refine r_aload_n 0 dX7_drawn_29 rfl ?_
      obtain ⟨xq1, exq1, hm⟩ := am_bs hm
      refine r_getl exq1 fl_X7_268 rfl dX7_drawn_30 ?_
      refine r_ldc2 (v := 6364136223846793005) kw_X7_274 dX7_drawn_33 ?_
      refine r_lmul dX7_drawn_36 ?_
      refine r_ldc2 (v := 1442695040888963407) kw_X7_276 dX7_drawn_37 ?_
      refine r_ladd dX7_drawn_40 ?_
      obtain ⟨hq2, ehq2, hm⟩ := am_bs hm
      refine r_putl ehq2 fl_X7_268 rfl rfl dX7_drawn_41 ?_
      refine r_aload_n 0 dX7_drawn_44 rfl ?_
      obtain ⟨xq3, exq3, hm⟩ := am_bs hm
      refine r_getl exq3 fl_X7_268 rfl dX7_drawn_45 ?_
      refine r_bipush 33 dX7_drawn_48 (by decide) ?_
      refine r_lushr dX7_drawn_50 ?_
      refine r_l2i dX7_drawn_51 ?_
      refine r_istore [(4, .int (((((xq3).toUInt64 >>> ((33 : Int32).toInt64.toUInt64 &&& Int64.toUInt64 63)).toInt64) : Int64).toInt32)), (0, .ref a0), (1, .int a1), (2, .int a2), (3, .int a3)] dX7_drawn_52 (by decide) rfl ?_
      refine r_iload 0 dX7_drawn_54 rfl ?_
      refine r_bipush 64 dX7_drawn_56 (by decide) ?_
      refine r_idiv dX7_drawn_58 (by decide) ?_
      refine r_bipush 16 dX7_drawn_59 (by decide) ?_
      refine r_irem dX7_drawn_61 (by decide) ?_
      refine r_istore [(5, .int (((((((xq3).toUInt64 >>> ((33 : Int32).toInt64.toUInt64 &&& Int64.toUInt64 63)).toInt64) : Int64).toInt32) / 64) - ((((((xq3).toUInt64 >>> ((33 : Int32).toInt64.toUInt64 &&& Int64.toUInt64 63)).toInt64) : Int64).toInt32) / 64) / 16 * 16)), (4, .int (((((xq3).toUInt64 >>> ((33 : Int32).toInt64.toUInt64 &&& Int64.toUInt64 63)).toInt64) : Int64).toInt32)), (0, .ref a0), (1, .int a1), (2, .int a2), (3, .int a3)] dX7_drawn_62 (by decide) rfl ?_
      refine r_iload 0 dX7_drawn_64 rfl ?_
      refine r_iload 1 dX7_drawn_66 rfl ?_
      refine r_sipush 1024 dX7_drawn_68 (by decide) ?_
      refine r_idiv dX7_drawn_71 (by decide) ?_
      refine r_bipush 16 dX7_drawn_72 (by decide) ?_
      refine r_irem dX7_drawn_74 (by decide) ?_
      refine r_iadd dX7_drawn_75 ?_
      refine r_istore [(6, .int ((((((((xq3).toUInt64 >>> ((33 : Int32).toInt64.toUInt64 &&& Int64.toUInt64 63)).toInt64) : Int64).toInt32) / 64) - ((((((xq3).toUInt64 >>> ((33 : Int32).toInt64.toUInt64 &&& Int64.toUInt64 63)).toInt64) : Int64).toInt32) / 64) / 16 * 16) + (((((((xq3).toUInt64 >>> ((33 : Int32).toInt64.toUInt64 &&& Int64.toUInt64 63)).toInt64) : Int64).toInt32) / 1024) - ((((((xq3).toUInt64 >>> ((33 : Int32).toInt64.toUInt64 &&& Int64.toUInt64 63)).toInt64) : Int64).toInt32) / 1024) / 16 * 16))), (5, .int (((((((xq3).toUInt64 >>> ((33 : Int32).toInt64.toUInt64 &&& Int64.toUInt64 63)).toInt64) : Int64).toInt32) / 64) - ((((((xq3).toUInt64 >>> ((33 : Int32).toInt64.toUInt64 &&& Int64.toUInt64 63)).toInt64) : Int64).toInt32) / 64) / 16 * 16)), (4, .int (((((xq3).toUInt64 >>> ((33 : Int32).toInt64.toUInt64 &&& Int64.toUInt64 63)).toInt64) : Int64).toInt32)), (0, .ref a0), (1, .int a1), (2, .int a2), (3, .int a3)] dX7_drawn_76 (by decide) rfl ?_
      refine r_iload 0 dX7_drawn_78 rfl ?_
      refine r_bipush 15 dX7_drawn_80 (by decide) ?_
      obtain ⟨jq4, hw, hm⟩ := am_bs hm
      try dsimp only at hm
      have HJ : am_R l yX7_drawn cX7_drawn 7 (some .int) rm_X7_drawn (fun _ _ _ => True) 0 0 92 [(0, .ref a0), (1, .int a1), (2, .int a2), (3, .int a3), (4, .int (((((xq3).toUInt64 >>> ((33 : Int32).toInt64.toUInt64 &&& Int64.toUInt64 63)).toInt64) : Int64).toInt32)), (5, .int (((((((xq3).toUInt64 >>> ((33 : Int32).toInt64.toUInt64 &&& Int64.toUInt64 63)).toInt64) : Int64).toInt32) / 64) - ((((((xq3).toUInt64 >>> ((33 : Int32).toInt64.toUInt64 &&& Int64.toUInt64 63)).toInt64) : Int64).toInt32) / 64) / 16 * 16))] [.int jq4] hq2 K := by
        refine r_istore [(6, .int jq4), (0, .ref a0), (1, .int a1), (2, .int a2), (3, .int a3), (4, .int (((((xq3).toUInt64 >>> ((33 : Int32).toInt64.toUInt64 &&& Int64.toUInt64 63)).toInt64) : Int64).toInt32)), (5, .int (((((((xq3).toUInt64 >>> ((33 : Int32).toInt64.toUInt64 &&& Int64.toUInt64 63)).toInt64) : Int64).toInt32) / 64) - ((((((xq3).toUInt64 >>> ((33 : Int32).toInt64.toUInt64 &&& Int64.toUInt64 63)).toInt64) : Int64).toInt32) / 64) / 16 * 16))] dX7_drawn_92 (by decide) rfl ?_
        refine r_aload_n 1 dX7_drawn_94 rfl ?_
        refine r_iconst 1 dX7_drawn_95 (by decide) ?_
        refine r_iload 5 dX7_drawn_96 rfl ?_
        refine r_bipush 8 dX7_drawn_98 (by decide) ?_
        refine r_irem dX7_drawn_100 (by decide) ?_
        refine r_iload 5 dX7_drawn_101 rfl ?_
        refine r_bipush 8 dX7_drawn_103 (by decide) ?_
        refine r_idiv dX7_drawn_105 (by decide) ?_
        refine r_bipush 8 dX7_drawn_106 (by decide) ?_
        refine r_irem dX7_drawn_108 (by decide) ?_
        refine r_iload 6 dX7_drawn_109 rfl ?_
        refine r_iload 0 dX7_drawn_111 rfl ?_
        obtain ⟨xq5, exq5, hm⟩ := am_bs hm
        refine r_cV1 [.int 1, .int ((((((xq3).toUInt64 >>> ((33 : Int32).toInt64.toUInt64 &&& Int64.toUInt64 63)).toInt64) : Int64).toInt32) - (((((xq3).toUInt64 >>> ((33 : Int32).toInt64.toUInt64 &&& Int64.toUInt64 63)).toInt64) : Int64).toInt32) / 8 * 8), .int (((((((xq3).toUInt64 >>> ((33 : Int32).toInt64.toUInt64 &&& Int64.toUInt64 63)).toInt64) : Int64).toInt32) / 8) - ((((((xq3).toUInt64 >>> ((33 : Int32).toInt64.toUInt64 &&& Int64.toUInt64 63)).toInt64) : Int64).toInt32) / 8) / 8 * 8), .int (((((((xq3).toUInt64 >>> ((33 : Int32).toInt64.toUInt64 &&& Int64.toUInt64 63)).toInt64) : Int64).toInt32) / 64) - ((((((xq3).toUInt64 >>> ((33 : Int32).toInt64.toUInt64 &&& Int64.toUInt64 63)).toInt64) : Int64).toInt32) / 64) / 16 * 16), .int jq4] (ct_X7_canPut l exq5) vm_X7_230 (cs_X7_canPut exq5) (by decide) ⟨rfl, rfl⟩ rfl (Nat.le_of_ble_eq_true rfl) dX7_drawn_113 ?_
        obtain ⟨hq6, hw, hm⟩ := am_bs hm
        try dsimp only at hm
        have HJ : am_R l yX7_drawn cX7_drawn 7 (some .int) rm_X7_drawn (fun _ _ _ => True) 0 0 144 [(0, .ref a0), (1, .int a1), (2, .int a2), (3, .int a3)] [] hq6 K := by
          refine r_iload_n 2 dX7_drawn_144 rfl ?_
          refine r_aload_n 0 dX7_drawn_145 rfl ?_
          refine r_iconst 1 dX7_drawn_146 (by decide) ?_
          refine r_bipush 8 dX7_drawn_147 (by decide) ?_
          refine r_ldc (v := 65535) kw_X7_191 dX7_drawn_149 ?_
          obtain ⟨⟨xq7, hq8⟩, exq7, hm⟩ := am_bs hm
          try dsimp only at hm
          refine r_cV1 [.int 1, .int 8, .int 65535] (ct_X7_partsBy l exq7) vm_X7_192 (cs_X7_partsBy exq7) (by decide) ⟨rfl, rfl⟩ rfl (Nat.le_of_ble_eq_true rfl) dX7_drawn_151 ?_
          refine r_iadd dX7_drawn_154 ?_
          refine r_istore_n [(2, .int (a2 + xq7)), (0, .ref a0), (1, .int a1), (3, .int a3)] dX7_drawn_155 (by decide) rfl ?_
          refine r_inc 1 3 [(3, .int (a3 + 1)), (2, .int (a2 + xq7)), (0, .ref a0), (1, .int a1)] dX7_drawn_156 (by decide) rfl (by decide) rfl ?_
          refine r_goto 23 dX7_drawn_159 (by decide) ?_
          exact r_lv [2, 3, 1, 0] _ rfl (ih (a2 + xq7) (a3 + 1) hq8 _ hm kE)
        clear hm
        have hm := hw
        clear hw
        refine r_if_eq 144 dX7_drawn_116 (by decide) (fun q => ?_) (fun q => ?_)
        · rw [if_neg (show ¬ xq5 = true from by rw [am_b0 q]; decide)] at hm
          cases hm
          exact r_lv [1, 2, 3, 4] _ rfl HJ
        · rw [if_pos (show xq5 = true from am_b1 q)] at hm
          refine r_aload_n 1 dX7_drawn_119 rfl ?_
          refine r_iconst 1 dX7_drawn_120 (by decide) ?_
          refine r_iload 5 dX7_drawn_121 rfl ?_
          refine r_bipush 8 dX7_drawn_123 (by decide) ?_
          refine r_irem dX7_drawn_125 (by decide) ?_
          refine r_iload 5 dX7_drawn_126 rfl ?_
          refine r_bipush 8 dX7_drawn_128 (by decide) ?_
          refine r_idiv dX7_drawn_130 (by decide) ?_
          refine r_bipush 8 dX7_drawn_131 (by decide) ?_
          refine r_irem dX7_drawn_133 (by decide) ?_
          refine r_iload 6 dX7_drawn_134 rfl ?_
          refine r_iload 0 dX7_drawn_136 rfl ?_
          obtain ⟨xq10, exq10, hm⟩ := am_bs hm
          refine r_cS1 [.int ((((((xq3).toUInt64 >>> ((33 : Int32).toInt64.toUInt64 &&& Int64.toUInt64 63)).toInt64) : Int64).toInt32) - (((((xq3).toUInt64 >>> ((33 : Int32).toInt64.toUInt64 &&& Int64.toUInt64 63)).toInt64) : Int64).toInt32) / 8 * 8), .int (((((((xq3).toUInt64 >>> ((33 : Int32).toInt64.toUInt64 &&& Int64.toUInt64 63)).toInt64) : Int64).toInt32) / 8) - ((((((xq3).toUInt64 >>> ((33 : Int32).toInt64.toUInt64 &&& Int64.toUInt64 63)).toInt64) : Int64).toInt32) / 8) / 8 * 8), .int (((((((xq3).toUInt64 >>> ((33 : Int32).toInt64.toUInt64 &&& Int64.toUInt64 63)).toInt64) : Int64).toInt32) / 64) - ((((((xq3).toUInt64 >>> ((33 : Int32).toInt64.toUInt64 &&& Int64.toUInt64 63)).toInt64) : Int64).toInt32) / 64) / 16 * 16), .int jq4] (ct_X7_asOne l exq10) sm_X7_95 (by decide) ⟨rfl, rfl⟩ rfl (Nat.le_of_ble_eq_true rfl) dX7_drawn_138 ?_
          obtain ⟨hq12, exq11, hm⟩ := am_bs hm
          refine r_cV0 [.int 1, .int xq10] (ct_X7_putOn l exq11) vm_X7_162 (cs_X7_putOn exq11) (by decide) ⟨rfl, rfl⟩ rfl (Nat.le_of_ble_eq_true rfl) dX7_drawn_141 ?_
          cases hm
          exact r_lv [1, 2, 3, 4] _ rfl HJ
      clear hm
      have hm := hw
      clear hw
      refine r_icmp_le 90 dX7_drawn_82 (by decide) (fun q => ?_) (fun q => ?_)
      · rw [if_pos q] at hm
        refine r_iload 0 dX7_drawn_90 rfl ?_
        cases hm
        exact r_lv [3, 4, 5, 6, 2, 1] _ rfl HJ
      · rw [if_neg q] at hm
        refine r_bipush 15 dX7_drawn_85 (by decide) ?_
        refine r_goto 92 dX7_drawn_87 (by decide) ?_
        cases hm
        exact r_lv [3, 4, 5, 6, 2, 1] _ rfl HJ
def mi_X7_drawn (f : Nat) (h : am_H) (p : Nat) (a : Int32) : Option (Int32 × am_H) :=
  Option.bind (am_cls h 7 p) fun _n =>
  Option.bind (mi_X7_in f h ((a : Int32).toInt64) 1 16) fun xq1 =>
  (if xq1 = true then
  (Option.bind (mi_X7_layTrial f h p) fun hq3 =>
  Option.bind (lo_X7_drawn_23 f p a f 0 0 hq3) fun (oq4, hq5) =>
  some (oq4, hq5))
  else (some ((-2), h)))
theorem cs_X7_drawn {f : Nat} {h : am_H} {p : Nat} {a : Int32} {z : (Int32 × am_H)} (hm : mi_X7_drawn f h p a = some z) : ∃ n, h.1[p]? = some (7, n) := by
  unfold mi_X7_drawn at hm
  obtain ⟨n, hn, -⟩ := am_bs hm
  exact ⟨n, am_cls_of hn⟩
set_option maxHeartbeats 4000000 in
set_option maxRecDepth 100000 in
theorem ct_X7_drawn (l : Launch) {f : Nat} {h : am_H} {p : Nat} {a : Int32} {r : Int32} {h2 : am_H} (hm : mi_X7_drawn f h p a = some (r, h2)) : am_Ct l yX7_drawn cX7_drawn 7 (some .int) rm_X7_drawn [.ref p, .int a] h (some (.int r)) h2 := by
  refine am_met2 [(0, .ref p), (1, .int a)] (by decide) (Nat.le_of_ble_eq_true rfl) rfl ?_
  generalize hK : (fun (v : Option Value) (h3 : am_H) => v = (some (.int r)) ∧ h3 = h2) = K
  have HK : K (some (.int r)) h2 := by rw [← hK]; exact ⟨rfl, rfl⟩
  clear hK
  unfold mi_X7_drawn at hm
  obtain ⟨_n, _hn, hm⟩ := am_bs hm
  refine r_iload_n 1 dX7_drawn_0 rfl ?_
  refine r_i2l dX7_drawn_1 ?_
  refine r_lconst 1 dX7_drawn_2 (by decide) ?_
  refine r_ldc2 (v := 16) kw_X7_272 dX7_drawn_3 ?_
  obtain ⟨xq1, exq1, hm⟩ := am_bs hm
  refine r_cS1 [.long ((a : Int32).toInt64), .long 1, .long 16] (ct_X7_in l exq1) sm_X7_58 (by decide) ⟨rfl, rfl⟩ rfl (Nat.le_of_ble_eq_true rfl) dX7_drawn_6 ?_
  refine r_if_ne 15 dX7_drawn_9 (by decide) (fun q => ?_) (fun q => ?_)
  · rw [if_pos (show xq1 = true from am_b1 q)] at hm
    refine r_aload_n 0 dX7_drawn_15 rfl ?_
    obtain ⟨hq3, exq2, hm⟩ := am_bs hm
    refine r_cV0 [] (ct_X7_layTrial l exq2) vm_X7_241 (cs_X7_layTrial exq2) (by decide) ⟨rfl, rfl⟩ rfl (Nat.le_of_ble_eq_true rfl) dX7_drawn_16 ?_
    refine r_iconst 0 dX7_drawn_19 (by decide) ?_
    refine r_istore_n [(2, .int 0), (0, .ref p), (1, .int a)] dX7_drawn_20 (by decide) rfl ?_
    refine r_iconst 0 dX7_drawn_21 (by decide) ?_
    refine r_istore_n [(3, .int 0), (2, .int 0), (0, .ref p), (1, .int a)] dX7_drawn_22 (by decide) rfl ?_
    obtain ⟨⟨oq4, hq5⟩, ew, hm⟩ := am_bs hm
    try dsimp only at hm
    refine r_lv [2, 3, 1, 0] _ rfl (ll_X7_drawn_23 l f p a _ f 0 0 hq3 _ ew ?_)
    refine r_iload_n 0 dX7_drawn_162 rfl ?_
    cases hm
    exact r_ireturn dX7_drawn_163 rfl (by decide) HK
  · rw [if_neg (show ¬ xq1 = true from by rw [am_b0 q]; decide)] at hm
    refine r_bipush (-2) dX7_drawn_12 (by decide) ?_
    cases hm
    exact r_ireturn dX7_drawn_14 rfl (by decide) HK
def mi_X7_canEnd (f : Nat) (h : am_H) (p : Nat) (a : Int32) (b : Int32) (c : Int32) : Option Bool :=
  Option.bind (am_cls h 7 p) fun _n =>
  Option.bind (mi_X7_many f h p a) fun xq1 =>
  Option.bind (mi_X7_in f h ((b : Int32).toInt64) 0 (((xq1 - 1) : Int32).toInt64)) fun xq2 =>
  Option.bind ((if xq2 = true then
  (Option.bind (mi_X7_spanOf f h p a b) fun xq12 =>
  some xq12)
  else (some (-9)))) fun jq3 =>
  (if jq3 = (-9) then
  (some false)
  else (Option.bind (mi_X7_isTime f h c) fun xq4 =>
  (if xq4 = true then
  (Option.bind (mi_X7_toOf f h jq3) fun xq5 =>
  (if c = xq5 then
  (some false)
  else (Option.bind (mi_X7_fromOf f h jq3) fun xq6 =>
  (if xq6 ≤ c then
  (Option.bind (mi_X7_lowOf f h jq3) fun xq7 =>
  Option.bind (mi_X7_highOf f h jq3) fun xq8 =>
  Option.bind (mi_X7_fromOf f h jq3) fun xq9 =>
  Option.bind (mi_X7_asOne f h xq7 xq8 xq9 c) fun xq10 =>
  Option.bind (mi_X7_isFree f h p a xq10 b) fun xq11 =>
  some xq11)
  else (some false)))))
  else (some false))))
theorem cs_X7_canEnd {f : Nat} {h : am_H} {p : Nat} {a : Int32} {b : Int32} {c : Int32} {z : Bool} (hm : mi_X7_canEnd f h p a b c = some z) : ∃ n, h.1[p]? = some (7, n) := by
  unfold mi_X7_canEnd at hm
  obtain ⟨n, hn, -⟩ := am_bs hm
  exact ⟨n, am_cls_of hn⟩
set_option maxHeartbeats 4000000 in
set_option maxRecDepth 100000 in
theorem ct_X7_canEnd (l : Launch) {f : Nat} {h : am_H} {p : Nat} {a : Int32} {b : Int32} {c : Int32} {r : Bool} (hm : mi_X7_canEnd f h p a b c = some r) : am_Ct l yX7_canEnd cX7_canEnd 5 (some .boolean) rm_X7_canEnd [.ref p, .int a, .int b, .int c] h (some (.int (am_b r))) h := by
  refine am_met2 [(0, .ref p), (1, .int a), (2, .int b), (3, .int c)] (by decide) (Nat.le_of_ble_eq_true rfl) rfl ?_
  generalize hK : (fun (v : Option Value) (h3 : am_H) => v = (some (.int (am_b r))) ∧ h3 = h) = K
  have HK : K (some (.int (am_b r))) h := by rw [← hK]; exact ⟨rfl, rfl⟩
  clear hK
  unfold mi_X7_canEnd at hm
  obtain ⟨_n, _hn, hm⟩ := am_bs hm
  refine r_iload_n 2 dX7_canEnd_0 rfl ?_
  refine r_i2l dX7_canEnd_1 ?_
  refine r_lconst 0 dX7_canEnd_2 (by decide) ?_
  refine r_aload_n 0 dX7_canEnd_3 rfl ?_
  refine r_iload_n 1 dX7_canEnd_4 rfl ?_
  obtain ⟨xq1, exq1, hm⟩ := am_bs hm
  refine r_cV1 [.int a] (ct_X7_many l exq1) vm_X7_105 (cs_X7_many exq1) (by decide) ⟨rfl, rfl⟩ rfl (Nat.le_of_ble_eq_true rfl) dX7_canEnd_5 ?_
  refine r_iconst 1 dX7_canEnd_8 (by decide) ?_
  refine r_isub dX7_canEnd_9 ?_
  refine r_i2l dX7_canEnd_10 ?_
  obtain ⟨xq2, exq2, hm⟩ := am_bs hm
  refine r_cS1 [.long ((b : Int32).toInt64), .long 0, .long (((xq1 - 1) : Int32).toInt64)] (ct_X7_in l exq2) sm_X7_58 (by decide) ⟨rfl, rfl⟩ rfl (Nat.le_of_ble_eq_true rfl) dX7_canEnd_11 ?_
  obtain ⟨jq3, hw, hm⟩ := am_bs hm
  try dsimp only at hm
  have HJ : am_R l yX7_canEnd cX7_canEnd 5 (some .boolean) rm_X7_canEnd (fun _ _ _ => True) 0 0 28 [(0, .ref p), (1, .int a), (2, .int b), (3, .int c)] [.int jq3] h K := by
    refine r_istore [(4, .int jq3), (0, .ref p), (1, .int a), (2, .int b), (3, .int c)] dX7_canEnd_28 (by decide) rfl ?_
    refine r_iload 0 dX7_canEnd_30 rfl ?_
    refine r_bipush (-9) dX7_canEnd_32 (by decide) ?_
    refine r_icmp_eq 62 dX7_canEnd_34 (by decide) (fun q => ?_) (fun q => ?_)
    · rw [if_pos q] at hm
      refine r_iconst 0 dX7_canEnd_62 (by decide) ?_
      cases hm
      exact r_zreturn false dX7_canEnd_63 rfl (by decide) HK
    · rw [if_neg q] at hm
      refine r_iload_n 4 dX7_canEnd_37 rfl ?_
      obtain ⟨xq4, exq4, hm⟩ := am_bs hm
      refine r_cS1 [.int c] (ct_X7_isTime l exq4) sm_X7_122 (by decide) ⟨rfl, rfl⟩ rfl (Nat.le_of_ble_eq_true rfl) dX7_canEnd_38 ?_
      refine r_if_eq 62 dX7_canEnd_41 (by decide) (fun q => ?_) (fun q => ?_)
      · rw [if_neg (show ¬ xq4 = true from by rw [am_b0 q]; decide)] at hm
        refine r_iconst 0 dX7_canEnd_62 (by decide) ?_
        cases hm
        exact r_zreturn false dX7_canEnd_63 rfl (by decide) HK
      · rw [if_pos (show xq4 = true from am_b1 q)] at hm
        refine r_iload_n 4 dX7_canEnd_44 rfl ?_
        refine r_iload 0 dX7_canEnd_45 rfl ?_
        obtain ⟨xq5, exq5, hm⟩ := am_bs hm
        refine r_cS1 [.int jq3] (ct_X7_toOf l exq5) sm_X7_68 (by decide) ⟨rfl, rfl⟩ rfl (Nat.le_of_ble_eq_true rfl) dX7_canEnd_47 ?_
        refine r_icmp_eq 62 dX7_canEnd_50 (by decide) (fun q => ?_) (fun q => ?_)
        · rw [if_pos q] at hm
          refine r_iconst 0 dX7_canEnd_62 (by decide) ?_
          cases hm
          exact r_zreturn false dX7_canEnd_63 rfl (by decide) HK
        · rw [if_neg q] at hm
          refine r_iload_n 4 dX7_canEnd_53 rfl ?_
          refine r_iload 0 dX7_canEnd_54 rfl ?_
          obtain ⟨xq6, exq6, hm⟩ := am_bs hm
          refine r_cS1 [.int jq3] (ct_X7_fromOf l exq6) sm_X7_64 (by decide) ⟨rfl, rfl⟩ rfl (Nat.le_of_ble_eq_true rfl) dX7_canEnd_56 ?_
          refine r_icmp_ge 64 dX7_canEnd_59 (by decide) (fun q => ?_) (fun q => ?_)
          · rw [if_pos q] at hm
            refine r_aload_n 1 dX7_canEnd_64 rfl ?_
            refine r_iload_n 2 dX7_canEnd_65 rfl ?_
            refine r_iload 0 dX7_canEnd_66 rfl ?_
            obtain ⟨xq7, exq7, hm⟩ := am_bs hm
            refine r_cS1 [.int jq3] (ct_X7_lowOf l exq7) sm_X7_112 (by decide) ⟨rfl, rfl⟩ rfl (Nat.le_of_ble_eq_true rfl) dX7_canEnd_68 ?_
            refine r_iload 0 dX7_canEnd_71 rfl ?_
            obtain ⟨xq8, exq8, hm⟩ := am_bs hm
            refine r_cS1 [.int jq3] (ct_X7_highOf l exq8) sm_X7_115 (by decide) ⟨rfl, rfl⟩ rfl (Nat.le_of_ble_eq_true rfl) dX7_canEnd_73 ?_
            refine r_iload 0 dX7_canEnd_76 rfl ?_
            obtain ⟨xq9, exq9, hm⟩ := am_bs hm
            refine r_cS1 [.int jq3] (ct_X7_fromOf l exq9) sm_X7_64 (by decide) ⟨rfl, rfl⟩ rfl (Nat.le_of_ble_eq_true rfl) dX7_canEnd_78 ?_
            refine r_iload_n 4 dX7_canEnd_81 rfl ?_
            obtain ⟨xq10, exq10, hm⟩ := am_bs hm
            refine r_cS1 [.int xq7, .int xq8, .int xq9, .int c] (ct_X7_asOne l exq10) sm_X7_95 (by decide) ⟨rfl, rfl⟩ rfl (Nat.le_of_ble_eq_true rfl) dX7_canEnd_82 ?_
            refine r_iload_n 3 dX7_canEnd_85 rfl ?_
            obtain ⟨xq11, exq11, hm⟩ := am_bs hm
            refine r_cV1 [.int a, .int xq10, .int b] (ct_X7_isFree l exq11) vm_X7_125 (cs_X7_isFree exq11) (by decide) ⟨rfl, rfl⟩ rfl (Nat.le_of_ble_eq_true rfl) dX7_canEnd_86 ?_
            cases hm
            exact r_zreturn _ dX7_canEnd_89 rfl (by decide) HK
          · rw [if_neg q] at hm
            refine r_iconst 0 dX7_canEnd_62 (by decide) ?_
            cases hm
            exact r_zreturn false dX7_canEnd_63 rfl (by decide) HK
  clear hm
  have hm := hw
  clear hw
  refine r_if_eq 26 dX7_canEnd_14 (by decide) (fun q => ?_) (fun q => ?_)
  · rw [if_neg (show ¬ xq2 = true from by rw [am_b0 q]; decide)] at hm
    refine r_bipush (-9) dX7_canEnd_26 (by decide) ?_
    cases hm
    exact r_lv [0, 1, 2, 3] _ rfl HJ
  · rw [if_pos (show xq2 = true from am_b1 q)] at hm
    refine r_aload_n 0 dX7_canEnd_17 rfl ?_
    refine r_iload_n 1 dX7_canEnd_18 rfl ?_
    refine r_iload_n 2 dX7_canEnd_19 rfl ?_
    obtain ⟨xq12, exq12, hm⟩ := am_bs hm
    refine r_cV1 [.int a, .int b] (ct_X7_spanOf l exq12) vm_X7_108 (cs_X7_spanOf exq12) (by decide) ⟨rfl, rfl⟩ rfl (Nat.le_of_ble_eq_true rfl) dX7_canEnd_20 ?_
    refine r_goto 28 dX7_canEnd_23 (by decide) ?_
    cases hm
    exact r_lv [0, 1, 2, 3] _ rfl HJ
def mi_X7_endOn (f : Nat) (h : am_H) (p : Nat) (a : Int32) (b : Int32) (c : Int32) : Option am_H :=
  Option.bind (am_cls h 7 p) fun _n =>
  Option.bind (mi_X7_spanOf f h p a b) fun xq1 =>
  Option.bind (am_gr h 7 p 0) fun xq2 =>
  Option.bind (mi_X7_lowOf f h xq1) fun xq3 =>
  Option.bind (mi_X7_highOf f h xq1) fun xq4 =>
  Option.bind (mi_X7_fromOf f h xq1) fun xq5 =>
  Option.bind (mi_X7_asOne f h xq3 xq4 xq5 c) fun xq6 =>
  Option.bind (am_si h 9 xq2 ((((17 : Int32) * a) + 1) + b) xq6) fun hq7 =>
  some hq7
theorem cs_X7_endOn {f : Nat} {h : am_H} {p : Nat} {a : Int32} {b : Int32} {c : Int32} {z : am_H} (hm : mi_X7_endOn f h p a b c = some z) : ∃ n, h.1[p]? = some (7, n) := by
  unfold mi_X7_endOn at hm
  obtain ⟨n, hn, -⟩ := am_bs hm
  exact ⟨n, am_cls_of hn⟩
set_option maxHeartbeats 4000000 in
set_option maxRecDepth 100000 in
theorem ct_X7_endOn (l : Launch) {f : Nat} {h : am_H} {p : Nat} {a : Int32} {b : Int32} {c : Int32} {h2 : am_H} (hm : mi_X7_endOn f h p a b c = some h2) : am_Ct l yX7_endOn cX7_endOn 5 (none) rm_X7_endOn [.ref p, .int a, .int b, .int c] h none h2 := by
  refine am_met2 [(0, .ref p), (1, .int a), (2, .int b), (3, .int c)] (by decide) (Nat.le_of_ble_eq_true rfl) rfl ?_
  generalize hK : (fun (v : Option Value) (h3 : am_H) => v = none ∧ h3 = h2) = K
  have HK : K none h2 := by rw [← hK]; exact ⟨rfl, rfl⟩
  clear hK
  unfold mi_X7_endOn at hm
  obtain ⟨_n, _hn, hm⟩ := am_bs hm
  refine r_aload_n 0 dX7_endOn_0 rfl ?_
  refine r_iload_n 1 dX7_endOn_1 rfl ?_
  refine r_iload_n 2 dX7_endOn_2 rfl ?_
  obtain ⟨xq1, exq1, hm⟩ := am_bs hm
  refine r_cV1 [.int a, .int b] (ct_X7_spanOf l exq1) vm_X7_108 (cs_X7_spanOf exq1) (by decide) ⟨rfl, rfl⟩ rfl (Nat.le_of_ble_eq_true rfl) dX7_endOn_3 ?_
  refine r_istore [(4, .int xq1), (0, .ref p), (1, .int a), (2, .int b), (3, .int c)] dX7_endOn_6 (by decide) rfl ?_
  refine r_aload_n 1 dX7_endOn_8 rfl ?_
  obtain ⟨xq2, exq2, hm⟩ := am_bs hm
  refine r_getr exq2 fl_X7_7 rfl dX7_endOn_9 ?_
  refine r_bipush 17 dX7_endOn_12 (by decide) ?_
  refine r_iload_n 2 dX7_endOn_14 rfl ?_
  refine r_imul dX7_endOn_15 ?_
  refine r_iconst 1 dX7_endOn_16 (by decide) ?_
  refine r_iadd dX7_endOn_17 ?_
  refine r_iload_n 3 dX7_endOn_18 rfl ?_
  refine r_iadd dX7_endOn_19 ?_
  refine r_iload 0 dX7_endOn_20 rfl ?_
  obtain ⟨xq3, exq3, hm⟩ := am_bs hm
  refine r_cS1 [.int xq1] (ct_X7_lowOf l exq3) sm_X7_112 (by decide) ⟨rfl, rfl⟩ rfl (Nat.le_of_ble_eq_true rfl) dX7_endOn_22 ?_
  refine r_iload 0 dX7_endOn_25 rfl ?_
  obtain ⟨xq4, exq4, hm⟩ := am_bs hm
  refine r_cS1 [.int xq1] (ct_X7_highOf l exq4) sm_X7_115 (by decide) ⟨rfl, rfl⟩ rfl (Nat.le_of_ble_eq_true rfl) dX7_endOn_27 ?_
  refine r_iload 0 dX7_endOn_30 rfl ?_
  obtain ⟨xq5, exq5, hm⟩ := am_bs hm
  refine r_cS1 [.int xq1] (ct_X7_fromOf l exq5) sm_X7_64 (by decide) ⟨rfl, rfl⟩ rfl (Nat.le_of_ble_eq_true rfl) dX7_endOn_32 ?_
  refine r_iload_n 4 dX7_endOn_35 rfl ?_
  obtain ⟨xq6, exq6, hm⟩ := am_bs hm
  refine r_cS1 [.int xq3, .int xq4, .int xq5, .int c] (ct_X7_asOne l exq6) sm_X7_95 (by decide) ⟨rfl, rfl⟩ rfl (Nat.le_of_ble_eq_true rfl) dX7_endOn_36 ?_
  obtain ⟨hq7, ehq7, hm⟩ := am_bs hm
  refine r_iast ehq7 dX7_endOn_39 ?_
  cases hm
  exact r_return dX7_endOn_40 rfl (by decide) HK
def mi_X7_end (f : Nat) (h : am_H) (p : Nat) (a : Int32) (b : Int32) : Option (Int32 × am_H) :=
  Option.bind (am_cls h 7 p) fun _n =>
  Option.bind (mi_X7_isSpan f h p a) fun xq1 =>
  (if xq1 = true then
  (Option.bind (mi_X7_isTime f h b) fun xq2 =>
  (if xq2 = true then
  (Option.bind (mi_X7_canEnd f h p 0 a b) fun xq3 =>
  (if xq3 = true then
  (Option.bind (mi_X7_keepAct f h p) fun hq5 =>
  Option.bind (mi_X7_spanOf f hq5 p 0 a) fun xq6 =>
  Option.bind (mi_X7_toOf f hq5 xq6) fun xq7 =>
  Option.bind (mi_X7_endOn f hq5 p 0 a b) fun hq9 =>
  some (xq7, hq9))
  else (some ((-3), h))))
  else (some ((-1), h))))
  else (some ((-1), h)))
theorem cs_X7_end {f : Nat} {h : am_H} {p : Nat} {a : Int32} {b : Int32} {z : (Int32 × am_H)} (hm : mi_X7_end f h p a b = some z) : ∃ n, h.1[p]? = some (7, n) := by
  unfold mi_X7_end at hm
  obtain ⟨n, hn, -⟩ := am_bs hm
  exact ⟨n, am_cls_of hn⟩
set_option maxHeartbeats 4000000 in
set_option maxRecDepth 100000 in
theorem ct_X7_end (l : Launch) {f : Nat} {h : am_H} {p : Nat} {a : Int32} {b : Int32} {r : Int32} {h2 : am_H} (hm : mi_X7_end f h p a b = some (r, h2)) : am_Ct l yX7_end cX7_end 4 (some .int) rm_X7_end [.ref p, .int a, .int b] h (some (.int r)) h2 := by
  refine am_met2 [(0, .ref p), (1, .int a), (2, .int b)] (by decide) (Nat.le_of_ble_eq_true rfl) rfl ?_
  generalize hK : (fun (v : Option Value) (h3 : am_H) => v = (some (.int r)) ∧ h3 = h2) = K
  have HK : K (some (.int r)) h2 := by rw [← hK]; exact ⟨rfl, rfl⟩
  clear hK
  unfold mi_X7_end at hm
  obtain ⟨_n, _hn, hm⟩ := am_bs hm
  refine r_aload_n 0 dX7_end_0 rfl ?_
  refine r_iload_n 1 dX7_end_1 rfl ?_
  obtain ⟨xq1, exq1, hm⟩ := am_bs hm
  refine r_cV1 [.int a] (ct_X7_isSpan l exq1) vm_X7_145 (cs_X7_isSpan exq1) (by decide) ⟨rfl, rfl⟩ rfl (Nat.le_of_ble_eq_true rfl) dX7_end_2 ?_
  refine r_if_eq 15 dX7_end_5 (by decide) (fun q => ?_) (fun q => ?_)
  · rw [if_neg (show ¬ xq1 = true from by rw [am_b0 q]; decide)] at hm
    refine r_iconst (-1) dX7_end_15 (by decide) ?_
    cases hm
    exact r_ireturn dX7_end_16 rfl (by decide) HK
  · rw [if_pos (show xq1 = true from am_b1 q)] at hm
    refine r_iload_n 2 dX7_end_8 rfl ?_
    obtain ⟨xq2, exq2, hm⟩ := am_bs hm
    refine r_cS1 [.int b] (ct_X7_isTime l exq2) sm_X7_122 (by decide) ⟨rfl, rfl⟩ rfl (Nat.le_of_ble_eq_true rfl) dX7_end_9 ?_
    refine r_if_ne 17 dX7_end_12 (by decide) (fun q => ?_) (fun q => ?_)
    · rw [if_pos (show xq2 = true from am_b1 q)] at hm
      refine r_aload_n 0 dX7_end_17 rfl ?_
      refine r_iconst 0 dX7_end_18 (by decide) ?_
      refine r_iload_n 1 dX7_end_19 rfl ?_
      refine r_iload_n 2 dX7_end_20 rfl ?_
      obtain ⟨xq3, exq3, hm⟩ := am_bs hm
      refine r_cV1 [.int 0, .int a, .int b] (ct_X7_canEnd l exq3) vm_X7_169 (cs_X7_canEnd exq3) (by decide) ⟨rfl, rfl⟩ rfl (Nat.le_of_ble_eq_true rfl) dX7_end_21 ?_
      refine r_if_ne 30 dX7_end_24 (by decide) (fun q => ?_) (fun q => ?_)
      · rw [if_pos (show xq3 = true from am_b1 q)] at hm
        refine r_aload_n 0 dX7_end_30 rfl ?_
        obtain ⟨hq5, exq4, hm⟩ := am_bs hm
        refine r_cV0 [] (ct_X7_keepAct l exq4) vm_X7_159 (cs_X7_keepAct exq4) (by decide) ⟨rfl, rfl⟩ rfl (Nat.le_of_ble_eq_true rfl) dX7_end_31 ?_
        refine r_aload_n 0 dX7_end_34 rfl ?_
        refine r_iconst 0 dX7_end_35 (by decide) ?_
        refine r_iload_n 1 dX7_end_36 rfl ?_
        obtain ⟨xq6, exq6, hm⟩ := am_bs hm
        refine r_cV1 [.int 0, .int a] (ct_X7_spanOf l exq6) vm_X7_108 (cs_X7_spanOf exq6) (by decide) ⟨rfl, rfl⟩ rfl (Nat.le_of_ble_eq_true rfl) dX7_end_37 ?_
        obtain ⟨xq7, exq7, hm⟩ := am_bs hm
        refine r_cS1 [.int xq6] (ct_X7_toOf l exq7) sm_X7_68 (by decide) ⟨rfl, rfl⟩ rfl (Nat.le_of_ble_eq_true rfl) dX7_end_40 ?_
        refine r_istore_n [(3, .int xq7), (0, .ref p), (1, .int a), (2, .int b)] dX7_end_43 (by decide) rfl ?_
        refine r_aload_n 1 dX7_end_44 rfl ?_
        refine r_iconst 0 dX7_end_45 (by decide) ?_
        refine r_iload_n 2 dX7_end_46 rfl ?_
        refine r_iload_n 3 dX7_end_47 rfl ?_
        obtain ⟨hq9, exq8, hm⟩ := am_bs hm
        refine r_cV0 [.int 0, .int a, .int b] (ct_X7_endOn l exq8) vm_X7_172 (cs_X7_endOn exq8) (by decide) ⟨rfl, rfl⟩ rfl (Nat.le_of_ble_eq_true rfl) dX7_end_48 ?_
        refine r_iload_n 0 dX7_end_51 rfl ?_
        cases hm
        exact r_ireturn dX7_end_52 rfl (by decide) HK
      · rw [if_neg (show ¬ xq3 = true from by rw [am_b0 q]; decide)] at hm
        refine r_bipush (-3) dX7_end_27 (by decide) ?_
        cases hm
        exact r_ireturn dX7_end_29 rfl (by decide) HK
    · rw [if_neg (show ¬ xq2 = true from by rw [am_b0 q]; decide)] at hm
      refine r_iconst (-1) dX7_end_15 (by decide) ?_
      cases hm
      exact r_ireturn dX7_end_16 rfl (by decide) HK
def lo_X7_findLiving_4 (f : Nat) (a0 : Nat) (a1 : Int32) : Nat → Int32 → Int32 → am_H → Option (Int32 × am_H)
  | 0, _, _, _ => none
  | n + 1, a2, a3, h =>
  Option.bind (mi_X7_many f h a0 0) fun xq1 =>
  (if xq1 ≤ a3 then
  (some (a2, h))
  else (Option.bind (mi_X7_spanOf f h a0 0 a3) fun xq2 =>
  Option.bind (mi_X7_livesAt f h xq2 a1) fun xq3 =>
  Option.bind ((if xq3 = true then
  (Option.bind (am_gr h 7 a0 16) fun xq6 =>
  Option.bind (am_si h 9 xq6 a2 a3) fun hq7 =>
  some ((a2 + 1), hq7))
  else (some (a2, h)))) fun (jq4, hq5) =>
  lo_X7_findLiving_4 f a0 a1 n jq4 (a3 + 1) hq5))
set_option maxHeartbeats 4000000 in
set_option maxRecDepth 100000 in
theorem ll_X7_findLiving_4 (l : Launch) (f : Nat) (a0 : Nat) (a1 : Int32) (K : Option Value → am_H → Prop) : ∀ (n : Nat) (a2 : Int32) (a3 : Int32) (h : am_H) (z : Int32 × am_H), lo_X7_findLiving_4 f a0 a1 n a2 a3 h = some z →
    am_R l yX7_findLiving cX7_findLiving 4 (some .int) rm_X7_findLiving (fun _ _ _ => True) 0 0 42 [(2, .int z.1)] [] z.2 K →
    am_R l yX7_findLiving cX7_findLiving 4 (some .int) rm_X7_findLiving (fun _ _ _ => True) 0 0 4 [(0, .ref a0), (1, .int a1), (2, .int a2), (3, .int a3)] [] h K := by
  intro n
  induction n with
  | zero =>
    intro a2 a3 h z hm kE
    cases hm
  | succ n ih =>
    intro a2 a3 h z hm kE
    rw [lo_X7_findLiving_4.eq_2] at hm
    refine r_iload_n 3 dX7_findLiving_4 rfl ?_
    refine r_aload_n 0 dX7_findLiving_5 rfl ?_
    refine r_iconst 0 dX7_findLiving_6 (by decide) ?_
    obtain ⟨xq1, exq1, hm⟩ := am_bs hm
    refine r_cV1 [.int 0] (ct_X7_many l exq1) vm_X7_105 (cs_X7_many exq1) (by decide) ⟨rfl, rfl⟩ rfl (Nat.le_of_ble_eq_true rfl) dX7_findLiving_7 ?_
    refine r_icmp_ge 42 dX7_findLiving_10 (by decide) (fun q => ?_) (fun q => ?_)
    · rw [if_pos q] at hm
      cases hm
      exact r_lv [2] _ rfl kE
    · rw [if_neg q] at hm
      refine r_aload_n 0 dX7_findLiving_13 rfl ?_
      refine r_iconst 0 dX7_findLiving_14 (by decide) ?_
      refine r_iload_n 3 dX7_findLiving_15 rfl ?_
      obtain ⟨xq2, exq2, hm⟩ := am_bs hm
      refine r_cV1 [.int 0, .int a3] (ct_X7_spanOf l exq2) vm_X7_108 (cs_X7_spanOf exq2) (by decide) ⟨rfl, rfl⟩ rfl (Nat.le_of_ble_eq_true rfl) dX7_findLiving_16 ?_
      refine r_iload_n 1 dX7_findLiving_19 rfl ?_
      obtain ⟨xq3, exq3, hm⟩ := am_bs hm
      refine r_cS1 [.int xq2, .int a1] (ct_X7_livesAt l exq3) sm_X7_188 (by decide) ⟨rfl, rfl⟩ rfl (Nat.le_of_ble_eq_true rfl) dX7_findLiving_20 ?_
      obtain ⟨⟨jq4, hq5⟩, hw, hm⟩ := am_bs hm
      try dsimp only at hm
      have HJ : am_R l yX7_findLiving cX7_findLiving 4 (some .int) rm_X7_findLiving (fun _ _ _ => True) 0 0 36 [(0, .ref a0), (1, .int a1), (2, .int jq4), (3, .int a3)] [] hq5 K := by
        refine r_inc 1 3 [(3, .int (a3 + 1)), (0, .ref a0), (1, .int a1), (2, .int jq4)] dX7_findLiving_36 (by decide) rfl (by decide) rfl ?_
        refine r_goto 4 dX7_findLiving_39 (by decide) ?_
        exact r_lv [1, 2, 3, 0] _ rfl (ih jq4 (a3 + 1) hq5 _ hm kE)
      clear hm
      have hm := hw
      clear hw
      refine r_if_eq 36 dX7_findLiving_23 (by decide) (fun q => ?_) (fun q => ?_)
      · rw [if_neg (show ¬ xq3 = true from by rw [am_b0 q]; decide)] at hm
        cases hm
        exact r_lv [0, 1, 2, 3] _ rfl HJ
      · rw [if_pos (show xq3 = true from am_b1 q)] at hm
        refine r_aload_n 0 dX7_findLiving_26 rfl ?_
        obtain ⟨xq6, exq6, hm⟩ := am_bs hm
        refine r_getr exq6 fl_X7_46 rfl dX7_findLiving_27 ?_
        refine r_iload_n 2 dX7_findLiving_30 rfl ?_
        refine r_iload_n 3 dX7_findLiving_31 rfl ?_
        obtain ⟨hq7, ehq7, hm⟩ := am_bs hm
        refine r_iast ehq7 dX7_findLiving_32 ?_
        refine r_inc 1 2 [(2, .int (a2 + 1)), (0, .ref a0), (1, .int a1), (3, .int a3)] dX7_findLiving_33 (by decide) rfl (by decide) rfl ?_
        cases hm
        exact r_lv [1, 2, 0, 3] _ rfl HJ
def mi_X7_findLiving (f : Nat) (h : am_H) (p : Nat) (a : Int32) : Option (Int32 × am_H) :=
  Option.bind (am_cls h 7 p) fun _n =>
  Option.bind (lo_X7_findLiving_4 f p a f 0 0 h) fun (oq1, hq2) =>
  some (oq1, hq2)
theorem cs_X7_findLiving {f : Nat} {h : am_H} {p : Nat} {a : Int32} {z : (Int32 × am_H)} (hm : mi_X7_findLiving f h p a = some z) : ∃ n, h.1[p]? = some (7, n) := by
  unfold mi_X7_findLiving at hm
  obtain ⟨n, hn, -⟩ := am_bs hm
  exact ⟨n, am_cls_of hn⟩
set_option maxHeartbeats 4000000 in
set_option maxRecDepth 100000 in
theorem ct_X7_findLiving (l : Launch) {f : Nat} {h : am_H} {p : Nat} {a : Int32} {r : Int32} {h2 : am_H} (hm : mi_X7_findLiving f h p a = some (r, h2)) : am_Ct l yX7_findLiving cX7_findLiving 4 (some .int) rm_X7_findLiving [.ref p, .int a] h (some (.int r)) h2 := by
  refine am_met2 [(0, .ref p), (1, .int a)] (by decide) (Nat.le_of_ble_eq_true rfl) rfl ?_
  generalize hK : (fun (v : Option Value) (h3 : am_H) => v = (some (.int r)) ∧ h3 = h2) = K
  have HK : K (some (.int r)) h2 := by rw [← hK]; exact ⟨rfl, rfl⟩
  clear hK
  unfold mi_X7_findLiving at hm
  obtain ⟨_n, _hn, hm⟩ := am_bs hm
  refine r_iconst 0 dX7_findLiving_0 (by decide) ?_
  refine r_istore_n [(2, .int 0), (0, .ref p), (1, .int a)] dX7_findLiving_1 (by decide) rfl ?_
  refine r_iconst 0 dX7_findLiving_2 (by decide) ?_
  refine r_istore_n [(3, .int 0), (2, .int 0), (0, .ref p), (1, .int a)] dX7_findLiving_3 (by decide) rfl ?_
  obtain ⟨⟨oq1, hq2⟩, ew, hm⟩ := am_bs hm
  try dsimp only at hm
  refine r_lv [2, 3, 1, 0] _ rfl (ll_X7_findLiving_4 l f p a _ f 0 0 h _ ew ?_)
  refine r_iload_n 0 dX7_findLiving_42 rfl ?_
  cases hm
  exact r_ireturn dX7_findLiving_43 rfl (by decide) HK
def lo_X7_spansOf_5 (f : Nat) (h : am_H) (a0 : Nat) (a1 : Int32) (a2 : Int32) : Nat → Int32 → Int32 → Option (Int32)
  | 0, _, _ => none
  | n + 1, a3, a4 =>
  (if a2 ≤ a4 then
  (some a3)
  else (Option.bind (mi_X7_has f h a1 a4) fun xq1 =>
  Option.bind ((if xq1 = true then
  (Option.bind (am_gr h 7 a0 16) fun xq3 =>
  Option.bind (am_li h 9 xq3 a4) fun xq4 =>
  some ((1 : Int32) <<< (xq4 &&& 31)))
  else (some 0))) fun jq2 =>
  lo_X7_spansOf_5 f h a0 a1 a2 n (a3 ||| jq2) (a4 + 1)))
set_option maxHeartbeats 4000000 in
set_option maxRecDepth 100000 in
theorem ll_X7_spansOf_5 (l : Launch) (f : Nat) (h : am_H) (a0 : Nat) (a1 : Int32) (a2 : Int32) (K : Option Value → am_H → Prop) : ∀ (n : Nat) (a3 : Int32) (a4 : Int32) (z : Int32), lo_X7_spansOf_5 f h a0 a1 a2 n a3 a4 = some z →
    am_R l yX7_spansOf cX7_spansOf 5 (some .int) rm_X7_spansOf (fun _ _ _ => True) 0 0 42 [(3, .int z)] [] h K →
    am_R l yX7_spansOf cX7_spansOf 5 (some .int) rm_X7_spansOf (fun _ _ _ => True) 0 0 5 [(0, .ref a0), (1, .int a1), (2, .int a2), (3, .int a3), (4, .int a4)] [] h K := by
  intro n
  induction n with
  | zero =>
    intro a3 a4 z hm kE
    cases hm
  | succ n ih =>
    intro a3 a4 z hm kE
    rw [lo_X7_spansOf_5.eq_2] at hm
    refine r_iload 4 dX7_spansOf_5 rfl ?_
    refine r_iload_n 2 dX7_spansOf_7 rfl ?_
    refine r_icmp_ge 42 dX7_spansOf_8 (by decide) (fun q => ?_) (fun q => ?_)
    · rw [if_pos q] at hm
      cases hm
      exact r_lv [3] _ rfl kE
    · rw [if_neg q] at hm
      refine r_iload_n 3 dX7_spansOf_11 rfl ?_
      refine r_iload_n 1 dX7_spansOf_12 rfl ?_
      refine r_iload 4 dX7_spansOf_13 rfl ?_
      obtain ⟨xq1, exq1, hm⟩ := am_bs hm
      refine r_cS1 [.int a1, .int a4] (ct_X7_has l exq1) sm_X7_185 (by decide) ⟨rfl, rfl⟩ rfl (Nat.le_of_ble_eq_true rfl) dX7_spansOf_15 ?_
      obtain ⟨jq2, hw, hm⟩ := am_bs hm
      try dsimp only at hm
      have HJ : am_R l yX7_spansOf cX7_spansOf 5 (some .int) rm_X7_spansOf (fun _ _ _ => True) 0 0 34 [(0, .ref a0), (1, .int a1), (2, .int a2), (4, .int a4)] [.int jq2, .int a3] h K := by
        refine r_ior dX7_spansOf_34 ?_
        refine r_istore_n [(3, .int (a3 ||| jq2)), (0, .ref a0), (1, .int a1), (2, .int a2), (4, .int a4)] dX7_spansOf_35 (by decide) rfl ?_
        refine r_inc 1 4 [(4, .int (a4 + 1)), (3, .int (a3 ||| jq2)), (0, .ref a0), (1, .int a1), (2, .int a2)] dX7_spansOf_36 (by decide) rfl (by decide) rfl ?_
        refine r_goto 5 dX7_spansOf_39 (by decide) ?_
        exact r_lv [2, 3, 4, 1, 0] _ rfl (ih (a3 ||| jq2) (a4 + 1) _ hm kE)
      clear hm
      have hm := hw
      clear hw
      refine r_if_eq 33 dX7_spansOf_18 (by decide) (fun q => ?_) (fun q => ?_)
      · rw [if_neg (show ¬ xq1 = true from by rw [am_b0 q]; decide)] at hm
        refine r_iconst 0 dX7_spansOf_33 (by decide) ?_
        cases hm
        exact r_lv [0, 1, 2, 4] _ rfl HJ
      · rw [if_pos (show xq1 = true from am_b1 q)] at hm
        refine r_iconst 1 dX7_spansOf_21 (by decide) ?_
        refine r_aload_n 0 dX7_spansOf_22 rfl ?_
        obtain ⟨xq3, exq3, hm⟩ := am_bs hm
        refine r_getr exq3 fl_X7_46 rfl dX7_spansOf_23 ?_
        refine r_iload 4 dX7_spansOf_26 rfl ?_
        obtain ⟨xq4, exq4, hm⟩ := am_bs hm
        refine r_iald exq4 dX7_spansOf_28 ?_
        refine r_ishl dX7_spansOf_29 ?_
        refine r_goto 34 dX7_spansOf_30 (by decide) ?_
        cases hm
        exact r_lv [0, 1, 2, 4] _ rfl HJ
def mi_X7_spansOf (f : Nat) (h : am_H) (p : Nat) (a : Int32) (b : Int32) : Option Int32 :=
  Option.bind (am_cls h 7 p) fun _n =>
  Option.bind (lo_X7_spansOf_5 f h p a b f 0 0) fun oq1 =>
  some oq1
theorem cs_X7_spansOf {f : Nat} {h : am_H} {p : Nat} {a : Int32} {b : Int32} {z : Int32} (hm : mi_X7_spansOf f h p a b = some z) : ∃ n, h.1[p]? = some (7, n) := by
  unfold mi_X7_spansOf at hm
  obtain ⟨n, hn, -⟩ := am_bs hm
  exact ⟨n, am_cls_of hn⟩
set_option maxHeartbeats 4000000 in
set_option maxRecDepth 100000 in
theorem ct_X7_spansOf (l : Launch) {f : Nat} {h : am_H} {p : Nat} {a : Int32} {b : Int32} {r : Int32} (hm : mi_X7_spansOf f h p a b = some r) : am_Ct l yX7_spansOf cX7_spansOf 5 (some .int) rm_X7_spansOf [.ref p, .int a, .int b] h (some (.int r)) h := by
  refine am_met2 [(0, .ref p), (1, .int a), (2, .int b)] (by decide) (Nat.le_of_ble_eq_true rfl) rfl ?_
  generalize hK : (fun (v : Option Value) (h3 : am_H) => v = (some (.int r)) ∧ h3 = h) = K
  have HK : K (some (.int r)) h := by rw [← hK]; exact ⟨rfl, rfl⟩
  clear hK
  unfold mi_X7_spansOf at hm
  obtain ⟨_n, _hn, hm⟩ := am_bs hm
  refine r_iconst 0 dX7_spansOf_0 (by decide) ?_
  refine r_istore_n [(3, .int 0), (0, .ref p), (1, .int a), (2, .int b)] dX7_spansOf_1 (by decide) rfl ?_
  refine r_iconst 0 dX7_spansOf_2 (by decide) ?_
  refine r_istore [(4, .int 0), (3, .int 0), (0, .ref p), (1, .int a), (2, .int b)] dX7_spansOf_3 (by decide) rfl ?_
  obtain ⟨oq1, ew, hm⟩ := am_bs hm
  try dsimp only at hm
  refine r_lv [2, 3, 4, 1, 0] _ rfl (ll_X7_spansOf_5 l f h p a b _ f 0 0 _ ew ?_)
  refine r_iload_n 0 dX7_spansOf_42 rfl ?_
  cases hm
  exact r_ireturn dX7_spansOf_43 rfl (by decide) HK
def mi_X7_areJoined (f : Nat) (h : am_H) (p : Nat) (a : Int32) (b : Int32) (c : Int32) (d : Int32) (e : Int32) : Option (Bool × am_H) :=
  Option.bind (am_cls h 7 p) fun _n =>
  Option.bind (mi_X7_partsBy f h p a d e) fun (xq1, hq2) =>
  Option.bind (mi_X7_rootOf f hq2 p b) fun xq4 =>
  Option.bind (mi_X7_rootOf f hq2 p c) fun xq5 =>
  Option.bind ((if xq4 = xq5 then
  (some true)
  else (some false))) fun jq6 =>
  some (jq6, hq2)
theorem cs_X7_areJoined {f : Nat} {h : am_H} {p : Nat} {a : Int32} {b : Int32} {c : Int32} {d : Int32} {e : Int32} {z : (Bool × am_H)} (hm : mi_X7_areJoined f h p a b c d e = some z) : ∃ n, h.1[p]? = some (7, n) := by
  unfold mi_X7_areJoined at hm
  obtain ⟨n, hn, -⟩ := am_bs hm
  exact ⟨n, am_cls_of hn⟩
set_option maxHeartbeats 4000000 in
set_option maxRecDepth 100000 in
theorem ct_X7_areJoined (l : Launch) {f : Nat} {h : am_H} {p : Nat} {a : Int32} {b : Int32} {c : Int32} {d : Int32} {e : Int32} {r : Bool} {h2 : am_H} (hm : mi_X7_areJoined f h p a b c d e = some (r, h2)) : am_Ct l yX7_areJoined cX7_areJoined 6 (some .boolean) rm_X7_areJoined [.ref p, .int a, .int b, .int c, .int d, .int e] h (some (.int (am_b r))) h2 := by
  refine am_met2 [(0, .ref p), (1, .int a), (2, .int b), (3, .int c), (4, .int d), (5, .int e)] (by decide) (Nat.le_of_ble_eq_true rfl) rfl ?_
  generalize hK : (fun (v : Option Value) (h3 : am_H) => v = (some (.int (am_b r))) ∧ h3 = h2) = K
  have HK : K (some (.int (am_b r))) h2 := by rw [← hK]; exact ⟨rfl, rfl⟩
  clear hK
  unfold mi_X7_areJoined at hm
  obtain ⟨_n, _hn, hm⟩ := am_bs hm
  refine r_aload_n 0 dX7_areJoined_0 rfl ?_
  refine r_iload_n 1 dX7_areJoined_1 rfl ?_
  refine r_iload 4 dX7_areJoined_2 rfl ?_
  refine r_iload 5 dX7_areJoined_4 rfl ?_
  obtain ⟨⟨xq1, hq2⟩, exq1, hm⟩ := am_bs hm
  try dsimp only at hm
  refine r_cV1 [.int a, .int d, .int e] (ct_X7_partsBy l exq1) vm_X7_192 (cs_X7_partsBy exq1) (by decide) ⟨rfl, rfl⟩ rfl (Nat.le_of_ble_eq_true rfl) dX7_areJoined_6 ?_
  refine r_pop dX7_areJoined_9 rfl ?_
  refine r_aload_n 0 dX7_areJoined_10 rfl ?_
  refine r_iload_n 2 dX7_areJoined_11 rfl ?_
  obtain ⟨xq4, exq4, hm⟩ := am_bs hm
  refine r_cV1 [.int b] (ct_X7_rootOf l exq4) vm_X7_176 (cs_X7_rootOf exq4) (by decide) ⟨rfl, rfl⟩ rfl (Nat.le_of_ble_eq_true rfl) dX7_areJoined_12 ?_
  refine r_aload_n 0 dX7_areJoined_15 rfl ?_
  refine r_iload_n 3 dX7_areJoined_16 rfl ?_
  obtain ⟨xq5, exq5, hm⟩ := am_bs hm
  refine r_cV1 [.int c] (ct_X7_rootOf l exq5) vm_X7_176 (cs_X7_rootOf exq5) (by decide) ⟨rfl, rfl⟩ rfl (Nat.le_of_ble_eq_true rfl) dX7_areJoined_17 ?_
  obtain ⟨jq6, hw, hm⟩ := am_bs hm
  try dsimp only at hm
  have HJ : am_R l yX7_areJoined cX7_areJoined 6 (some .boolean) rm_X7_areJoined (fun _ _ _ => True) 0 0 28 [] [.int (am_b jq6)] hq2 K := by
    cases hm
    exact r_zreturn _ dX7_areJoined_28 rfl (by decide) HK
  clear hm
  have hm := hw
  clear hw
  refine r_icmp_ne 27 dX7_areJoined_20 (by decide) (fun q => ?_) (fun q => ?_)
  · rw [if_neg q] at hm
    refine r_iconst 0 dX7_areJoined_27 (by decide) ?_
    cases hm
    exact r_lv [] _ rfl HJ
  · rw [if_pos q] at hm
    refine r_iconst 1 dX7_areJoined_23 (by decide) ?_
    refine r_goto 28 dX7_areJoined_24 (by decide) ?_
    cases hm
    exact r_lv [] _ rfl HJ
def lo_X7_common_13 (f : Nat) (h : am_H) : Nat → Int32 → Int32 → Option (Int32)
  | 0, _, _ => none
  | n + 1, a2, a3 =>
  (if a3 = 0 then
  (some a2)
  else (Option.bind (am_nz a3) fun uq1 =>
  lo_X7_common_13 f h n a3 (a2 - a2 / a3 * a3)))
set_option maxHeartbeats 4000000 in
set_option maxRecDepth 100000 in
theorem ll_X7_common_13 (l : Launch) (f : Nat) (h : am_H) (K : Option Value → am_H → Prop) : ∀ (n : Nat) (a2 : Int32) (a3 : Int32) (z : Int32), lo_X7_common_13 f h n a2 a3 = some z →
    am_R l yX7_common cX7_common 5 (some .int) rm_X7_common (fun _ _ _ => True) 0 0 30 [(2, .int z)] [] h K →
    am_R l yX7_common cX7_common 5 (some .int) rm_X7_common (fun _ _ _ => True) 0 0 13 [(2, .int a2), (3, .int a3)] [] h K := by
  intro n
  induction n with
  | zero =>
    intro a2 a3 z hm kE
    cases hm
  | succ n ih =>
    intro a2 a3 z hm kE
    rw [lo_X7_common_13.eq_2] at hm
    refine r_iload_n 1 dX7_common_13 rfl ?_
    refine r_if_eq 30 dX7_common_14 (by decide) (fun q => ?_) (fun q => ?_)
    · rw [if_pos q] at hm
      cases hm
      exact r_lv [0] _ rfl kE
    · rw [if_neg q] at hm
      refine r_iload_n 0 dX7_common_17 rfl ?_
      refine r_iload_n 1 dX7_common_18 rfl ?_
      obtain ⟨uq1, euq1, hm⟩ := am_bs hm
      refine r_irem dX7_common_19 (am_nz_of euq1) ?_
      refine r_istore [(4, .int (a2 - a2 / a3 * a3)), (2, .int a2), (3, .int a3)] dX7_common_20 (by decide) rfl ?_
      refine r_iload_n 2 dX7_common_22 rfl ?_
      refine r_istore_n [(2, .int a3), (4, .int (a2 - a2 / a3 * a3)), (3, .int a3)] dX7_common_23 (by decide) rfl ?_
      refine r_iload 1 dX7_common_24 rfl ?_
      refine r_istore_n [(3, .int (a2 - a2 / a3 * a3)), (2, .int a3), (4, .int (a2 - a2 / a3 * a3))] dX7_common_26 (by decide) rfl ?_
      refine r_goto 13 dX7_common_27 (by decide) ?_
      exact r_lv [1, 0] _ rfl (ih a3 (a2 - a2 / a3 * a3) _ hm kE)
def mi_X7_common (f : Nat) (h : am_H) (a : Int32) (b : Int32) : Option Int32 :=
  Option.bind ((if 0 ≤ a then
  (some a)
  else (some (-a)))) fun jq1 =>
  Option.bind (lo_X7_common_13 f h f jq1 b) fun oq2 =>
  some oq2
set_option maxHeartbeats 4000000 in
set_option maxRecDepth 100000 in
theorem ct_X7_common (l : Launch) {f : Nat} {h : am_H} {a : Int32} {b : Int32} {r : Int32} (hm : mi_X7_common f h a b = some r) : am_Ct l yX7_common cX7_common 5 (some .int) rm_X7_common [.int a, .int b] h (some (.int r)) h := by
  refine am_met2 [(0, .int a), (1, .int b)] (by decide) (Nat.le_of_ble_eq_true rfl) rfl ?_
  generalize hK : (fun (v : Option Value) (h3 : am_H) => v = (some (.int r)) ∧ h3 = h) = K
  have HK : K (some (.int r)) h := by rw [← hK]; exact ⟨rfl, rfl⟩
  clear hK
  unfold mi_X7_common at hm
  refine r_iload_n 0 dX7_common_0 rfl ?_
  obtain ⟨jq1, hw, hm⟩ := am_bs hm
  try dsimp only at hm
  have HJ : am_R l yX7_common cX7_common 5 (some .int) rm_X7_common (fun _ _ _ => True) 0 0 10 [(1, .int b)] [.int jq1] h K := by
    refine r_istore_n [(2, .int jq1), (1, .int b)] dX7_common_10 (by decide) rfl ?_
    refine r_iload_n 1 dX7_common_11 rfl ?_
    refine r_istore_n [(3, .int b), (2, .int jq1), (1, .int b)] dX7_common_12 (by decide) rfl ?_
    obtain ⟨oq2, ew, hm⟩ := am_bs hm
    try dsimp only at hm
    refine r_lv [1, 0] _ rfl (ll_X7_common_13 l f h _ f jq1 b _ ew ?_)
    refine r_iload_n 0 dX7_common_30 rfl ?_
    cases hm
    exact r_ireturn dX7_common_31 rfl (by decide) HK
  clear hm
  have hm := hw
  clear hw
  refine r_if_ge 9 dX7_common_1 (by decide) (fun q => ?_) (fun q => ?_)
  · rw [if_pos q] at hm
    refine r_iload_n 0 dX7_common_9 rfl ?_
    cases hm
    exact r_lv [1] _ rfl HJ
  · rw [if_neg q] at hm
    refine r_iload_n 0 dX7_common_4 rfl ?_
    refine r_ineg dX7_common_5 ?_
    refine r_goto 10 dX7_common_6 (by decide) ?_
    cases hm
    exact r_lv [1] _ rfl HJ
def lo_X7_fails_80 (f : Nat) (h : am_H) (a0 : Nat) (a1 : Int32) (a2 : Int32) (a3 : Int32) (a4 : Int32) (a5 : Bool) (a6 : Int32) (a7 : Int32) (a8 : Int32) (a9 : Int32) : Nat → Int32 → Int32 → Option (Int32)
  | 0, _, _ => none
  | n + 1, a10, a11 =>
  (if a6 ≤ a11 then
  (some a10)
  else (Option.bind (mi_X7_has f h a9 a11) fun xq1 =>
  Option.bind ((if xq1 = true then
  (some ((10 : Int32) - a4))
  else (some a4))) fun jq2 =>
  lo_X7_fails_80 f h a0 a1 a2 a3 a4 a5 a6 a7 a8 a9 n (a10 * jq2) (a11 + 1)))
set_option maxHeartbeats 4000000 in
set_option maxRecDepth 100000 in
theorem ll_X7_fails_80 (l : Launch) (f : Nat) (h : am_H) (a0 : Nat) (a1 : Int32) (a2 : Int32) (a3 : Int32) (a4 : Int32) (a5 : Bool) (a6 : Int32) (a7 : Int32) (a8 : Int32) (a9 : Int32) (K : Option Value → am_H → Prop) : ∀ (n : Nat) (a10 : Int32) (a11 : Int32) (z : Int32), lo_X7_fails_80 f h a0 a1 a2 a3 a4 a5 a6 a7 a8 a9 n a10 a11 = some z →
    am_R l yX7_fails cX7_fails 12 (some .int) rm_X7_fails (fun _ _ _ => True) 0 0 118 [(0, .ref a0), (1, .int a1), (2, .int a2), (3, .int a3), (4, .int a4), (5, .int (am_b a5)), (6, .int a6), (7, .int a7), (8, .int a8), (9, .int a9), (10, .int z)] [] h K →
    am_R l yX7_fails cX7_fails 12 (some .int) rm_X7_fails (fun _ _ _ => True) 0 0 80 [(0, .ref a0), (1, .int a1), (2, .int a2), (3, .int a3), (4, .int a4), (5, .int (am_b a5)), (6, .int a6), (7, .int a7), (8, .int a8), (9, .int a9), (10, .int a10), (11, .int a11)] [] h K := by
  intro n
  induction n with
  | zero =>
    intro a10 a11 z hm kE
    cases hm
  | succ n ih =>
    intro a10 a11 z hm kE
    rw [lo_X7_fails_80.eq_2] at hm
    refine r_iload 11 dX7_fails_80 rfl ?_
    refine r_iload 6 dX7_fails_82 rfl ?_
    refine r_icmp_ge 118 dX7_fails_84 (by decide) (fun q => ?_) (fun q => ?_)
    · rw [if_pos q] at hm
      cases hm
      exact r_lv [0, 1, 2, 3, 4, 5, 6, 7, 8, 9, 10] _ rfl kE
    · rw [if_neg q] at hm
      refine r_iload 10 dX7_fails_87 rfl ?_
      refine r_iload 9 dX7_fails_89 rfl ?_
      refine r_iload 11 dX7_fails_91 rfl ?_
      obtain ⟨xq1, exq1, hm⟩ := am_bs hm
      refine r_cS1 [.int a9, .int a11] (ct_X7_has l exq1) sm_X7_185 (by decide) ⟨rfl, rfl⟩ rfl (Nat.le_of_ble_eq_true rfl) dX7_fails_93 ?_
      obtain ⟨jq2, hw, hm⟩ := am_bs hm
      try dsimp only at hm
      have HJ : am_R l yX7_fails cX7_fails 12 (some .int) rm_X7_fails (fun _ _ _ => True) 0 0 109 [(0, .ref a0), (1, .int a1), (2, .int a2), (3, .int a3), (4, .int a4), (5, .int (am_b a5)), (6, .int a6), (7, .int a7), (8, .int a8), (9, .int a9), (11, .int a11)] [.int jq2, .int a10] h K := by
        refine r_imul dX7_fails_109 ?_
        refine r_istore [(10, .int (a10 * jq2)), (0, .ref a0), (1, .int a1), (2, .int a2), (3, .int a3), (4, .int a4), (5, .int (am_b a5)), (6, .int a6), (7, .int a7), (8, .int a8), (9, .int a9), (11, .int a11)] dX7_fails_110 (by decide) rfl ?_
        refine r_inc 1 11 [(11, .int (a11 + 1)), (10, .int (a10 * jq2)), (0, .ref a0), (1, .int a1), (2, .int a2), (3, .int a3), (4, .int a4), (5, .int (am_b a5)), (6, .int a6), (7, .int a7), (8, .int a8), (9, .int a9)] dX7_fails_112 (by decide) rfl (by decide) rfl ?_
        refine r_goto 80 dX7_fails_115 (by decide) ?_
        exact r_lv [2, 3, 4, 5, 6, 7, 8, 9, 10, 11, 1, 0] _ rfl (ih (a10 * jq2) (a11 + 1) _ hm kE)
      clear hm
      have hm := hw
      clear hw
      refine r_if_eq 107 dX7_fails_96 (by decide) (fun q => ?_) (fun q => ?_)
      · rw [if_neg (show ¬ xq1 = true from by rw [am_b0 q]; decide)] at hm
        refine r_iload 4 dX7_fails_107 rfl ?_
        cases hm
        exact r_lv [0, 1, 2, 3, 4, 5, 6, 7, 8, 9, 11] _ rfl HJ
      · rw [if_pos (show xq1 = true from am_b1 q)] at hm
        refine r_bipush 10 dX7_fails_99 (by decide) ?_
        refine r_iload 4 dX7_fails_101 rfl ?_
        refine r_isub dX7_fails_103 ?_
        refine r_goto 109 dX7_fails_104 (by decide) ?_
        cases hm
        exact r_lv [0, 1, 2, 3, 4, 5, 6, 7, 8, 9, 11] _ rfl HJ
def lo_X7_fails_65 (f : Nat) (a0 : Nat) (a1 : Int32) (a2 : Int32) (a3 : Int32) (a4 : Int32) (a5 : Bool) (a6 : Int32) : Nat → Int32 → Int32 → Int32 → am_H → Option (Int32 × Int32 × am_H)
  | 0, _, _, _, _ => none
  | n + 1, a7, a8, a9, h =>
  (if ((1 : Int32) <<< (a6 &&& 31)) ≤ a9 then
  (some (a7, a8, h))
  else (Option.bind (lo_X7_fails_80 f h a0 a1 a2 a3 a4 a5 a6 a7 a8 a9 f 1 0) fun oq1 =>
  Option.bind (mi_X7_spansOf f h a0 a9 a6) fun xq2 =>
  Option.bind (mi_X7_areJoined f h a0 0 a1 a2 a3 xq2) fun (xq3, hq4) =>
  Option.bind ((if xq3 = true then
  (some oq1)
  else (some 0))) fun jq6 =>
  lo_X7_fails_65 f a0 a1 a2 a3 a4 a5 a6 n (a7 + jq6) (a8 + oq1) (a9 + 1) hq4))
set_option maxHeartbeats 4000000 in
set_option maxRecDepth 100000 in
theorem ll_X7_fails_65 (l : Launch) (f : Nat) (a0 : Nat) (a1 : Int32) (a2 : Int32) (a3 : Int32) (a4 : Int32) (a5 : Bool) (a6 : Int32) (K : Option Value → am_H → Prop) : ∀ (n : Nat) (a7 : Int32) (a8 : Int32) (a9 : Int32) (h : am_H) (z : Int32 × Int32 × am_H), lo_X7_fails_65 f a0 a1 a2 a3 a4 a5 a6 n a7 a8 a9 h = some z →
    am_R l yX7_fails cX7_fails 12 (some .int) rm_X7_fails (fun _ _ _ => True) 0 0 161 [(5, .int (am_b a5)), (7, .int z.1), (8, .int z.2.1)] [] z.2.2 K →
    am_R l yX7_fails cX7_fails 12 (some .int) rm_X7_fails (fun _ _ _ => True) 0 0 65 [(0, .ref a0), (1, .int a1), (2, .int a2), (3, .int a3), (4, .int a4), (5, .int (am_b a5)), (6, .int a6), (7, .int a7), (8, .int a8), (9, .int a9)] [] h K := by
  intro n
  induction n with
  | zero =>
    intro a7 a8 a9 h z hm kE
    cases hm
  | succ n ih =>
    intro a7 a8 a9 h z hm kE
    rw [lo_X7_fails_65.eq_2] at hm
    refine r_iload 9 dX7_fails_65 rfl ?_
    refine r_iconst 1 dX7_fails_67 (by decide) ?_
    refine r_iload 6 dX7_fails_68 rfl ?_
    refine r_ishl dX7_fails_70 ?_
    refine r_icmp_ge 161 dX7_fails_71 (by decide) (fun q => ?_) (fun q => ?_)
    · rw [if_pos q] at hm
      cases hm
      exact r_lv [5, 7, 8] _ rfl kE
    · rw [if_neg q] at hm
      refine r_iconst 1 dX7_fails_74 (by decide) ?_
      refine r_istore [(10, .int 1), (0, .ref a0), (1, .int a1), (2, .int a2), (3, .int a3), (4, .int a4), (5, .int (am_b a5)), (6, .int a6), (7, .int a7), (8, .int a8), (9, .int a9)] dX7_fails_75 (by decide) rfl ?_
      refine r_iconst 0 dX7_fails_77 (by decide) ?_
      refine r_istore [(11, .int 0), (10, .int 1), (0, .ref a0), (1, .int a1), (2, .int a2), (3, .int a3), (4, .int a4), (5, .int (am_b a5)), (6, .int a6), (7, .int a7), (8, .int a8), (9, .int a9)] dX7_fails_78 (by decide) rfl ?_
      obtain ⟨oq1, ew, hm⟩ := am_bs hm
      try dsimp only at hm
      refine r_lv [2, 3, 4, 5, 6, 7, 8, 9, 10, 11, 1, 0] _ rfl (ll_X7_fails_80 l f h a0 a1 a2 a3 a4 a5 a6 a7 a8 a9 _ f 1 0 _ ew ?_)
      refine r_iload 8 dX7_fails_118 rfl ?_
      refine r_iload 10 dX7_fails_120 rfl ?_
      refine r_iadd dX7_fails_122 ?_
      refine r_istore [(8, .int (a8 + oq1)), (0, .ref a0), (1, .int a1), (2, .int a2), (3, .int a3), (4, .int a4), (5, .int (am_b a5)), (6, .int a6), (7, .int a7), (9, .int a9), (10, .int oq1)] dX7_fails_123 (by decide) rfl ?_
      refine r_iload 8 dX7_fails_125 rfl ?_
      refine r_aload_n 1 dX7_fails_127 rfl ?_
      refine r_iconst 0 dX7_fails_128 (by decide) ?_
      refine r_iload_n 2 dX7_fails_129 rfl ?_
      refine r_iload_n 3 dX7_fails_130 rfl ?_
      refine r_iload_n 4 dX7_fails_131 rfl ?_
      refine r_aload_n 1 dX7_fails_132 rfl ?_
      refine r_iload 9 dX7_fails_133 rfl ?_
      refine r_iload 7 dX7_fails_135 rfl ?_
      obtain ⟨xq2, exq2, hm⟩ := am_bs hm
      refine r_cV1 [.int a9, .int a6] (ct_X7_spansOf l exq2) vm_X7_257 (cs_X7_spansOf exq2) (by decide) ⟨rfl, rfl⟩ rfl (Nat.le_of_ble_eq_true rfl) dX7_fails_137 ?_
      obtain ⟨⟨xq3, hq4⟩, exq3, hm⟩ := am_bs hm
      try dsimp only at hm
      refine r_cV1 [.int 0, .int a1, .int a2, .int a3, .int xq2] (ct_X7_areJoined l exq3) vm_X7_223 (cs_X7_areJoined exq3) (by decide) ⟨rfl, rfl⟩ rfl (Nat.le_of_ble_eq_true rfl) dX7_fails_140 ?_
      obtain ⟨jq6, hw, hm⟩ := am_bs hm
      try dsimp only at hm
      have HJ : am_R l yX7_fails cX7_fails 12 (some .int) rm_X7_fails (fun _ _ _ => True) 0 0 152 [(0, .ref a0), (1, .int a1), (2, .int a2), (3, .int a3), (4, .int a4), (5, .int (am_b a5)), (6, .int a6), (8, .int (a8 + oq1)), (9, .int a9)] [.int jq6, .int a7] hq4 K := by
        refine r_iadd dX7_fails_152 ?_
        refine r_istore [(7, .int (a7 + jq6)), (0, .ref a0), (1, .int a1), (2, .int a2), (3, .int a3), (4, .int a4), (5, .int (am_b a5)), (6, .int a6), (8, .int (a8 + oq1)), (9, .int a9)] dX7_fails_153 (by decide) rfl ?_
        refine r_inc 1 9 [(9, .int (a9 + 1)), (7, .int (a7 + jq6)), (0, .ref a0), (1, .int a1), (2, .int a2), (3, .int a3), (4, .int a4), (5, .int (am_b a5)), (6, .int a6), (8, .int (a8 + oq1))] dX7_fails_155 (by decide) rfl (by decide) rfl ?_
        refine r_goto 65 dX7_fails_158 (by decide) ?_
        exact r_lv [2, 3, 4, 5, 6, 7, 8, 1, 9, 0] _ rfl (ih (a7 + jq6) (a8 + oq1) (a9 + 1) hq4 _ hm kE)
      clear hm
      have hm := hw
      clear hw
      refine r_if_eq 151 dX7_fails_143 (by decide) (fun q => ?_) (fun q => ?_)
      · rw [if_neg (show ¬ xq3 = true from by rw [am_b0 q]; decide)] at hm
        refine r_iconst 0 dX7_fails_151 (by decide) ?_
        cases hm
        exact r_lv [1, 2, 3, 4, 5, 6, 7, 0, 9] _ rfl HJ
      · rw [if_pos (show xq3 = true from am_b1 q)] at hm
        refine r_iload 10 dX7_fails_146 rfl ?_
        refine r_goto 152 dX7_fails_148 (by decide) ?_
        cases hm
        exact r_lv [1, 2, 3, 4, 5, 6, 7, 0, 9] _ rfl HJ
def mi_X7_fails (f : Nat) (h : am_H) (p : Nat) (a : Int32) (b : Int32) (c : Int32) (d : Int32) (e : Bool) : Option (Int32 × am_H) :=
  Option.bind (am_cls h 7 p) fun _n =>
  Option.bind (mi_X7_isKnot f h a) fun xq1 =>
  (if xq1 = true then
  (Option.bind (mi_X7_isKnot f h b) fun xq2 =>
  (if xq2 = true then
  (Option.bind (mi_X7_isTime f h c) fun xq3 =>
  (if xq3 = true then
  (Option.bind (mi_X7_in f h ((d : Int32).toInt64) 0 10) fun xq4 =>
  (if xq4 = true then
  (Option.bind (mi_X7_findLiving f h p c) fun (xq5, hq6) =>
  (if xq5 ≤ 8 then
  (Option.bind (lo_X7_fails_65 f p a b c d e xq5 f 0 0 0 hq6) fun (oq8, oq9, hq10) =>
  Option.bind (mi_X7_common f hq10 oq8 oq9) fun xq11 =>
  Option.bind ((if e = true then
  (Option.bind (am_nz xq11) fun uq13 =>
  some (oq8 / xq11))
  else (Option.bind (am_nz xq11) fun uq14 =>
  some (oq9 / xq11)))) fun jq12 =>
  some (jq12, hq10))
  else (some ((-4), hq6))))
  else (some ((-2), h))))
  else (some ((-1), h))))
  else (some ((-1), h))))
  else (some ((-1), h)))
theorem cs_X7_fails {f : Nat} {h : am_H} {p : Nat} {a : Int32} {b : Int32} {c : Int32} {d : Int32} {e : Bool} {z : (Int32 × am_H)} (hm : mi_X7_fails f h p a b c d e = some z) : ∃ n, h.1[p]? = some (7, n) := by
  unfold mi_X7_fails at hm
  obtain ⟨n, hn, -⟩ := am_bs hm
  exact ⟨n, am_cls_of hn⟩
set_option maxHeartbeats 4000000 in
set_option maxRecDepth 100000 in
theorem ct_X7_fails (l : Launch) {f : Nat} {h : am_H} {p : Nat} {a : Int32} {b : Int32} {c : Int32} {d : Int32} {e : Bool} {r : Int32} {h2 : am_H} (hm : mi_X7_fails f h p a b c d e = some (r, h2)) : am_Ct l yX7_fails cX7_fails 12 (some .int) rm_X7_fails [.ref p, .int a, .int b, .int c, .int d, .int (am_b e)] h (some (.int r)) h2 := by
  refine am_met2 [(0, .ref p), (1, .int a), (2, .int b), (3, .int c), (4, .int d), (5, .int (am_b e))] (by decide) (Nat.le_of_ble_eq_true rfl) rfl ?_
  generalize hK : (fun (v : Option Value) (h3 : am_H) => v = (some (.int r)) ∧ h3 = h2) = K
  have HK : K (some (.int r)) h2 := by rw [← hK]; exact ⟨rfl, rfl⟩
  clear hK
  unfold mi_X7_fails at hm
  obtain ⟨_n, _hn, hm⟩ := am_bs hm
  refine r_iload_n 1 dX7_fails_0 rfl ?_
  obtain ⟨xq1, exq1, hm⟩ := am_bs hm
  refine r_cS1 [.int a] (ct_X7_isKnot l exq1) sm_X7_118 (by decide) ⟨rfl, rfl⟩ rfl (Nat.le_of_ble_eq_true rfl) dX7_fails_1 ?_
  refine r_if_eq 21 dX7_fails_4 (by decide) (fun q => ?_) (fun q => ?_)
  · rw [if_neg (show ¬ xq1 = true from by rw [am_b0 q]; decide)] at hm
    refine r_iconst (-1) dX7_fails_21 (by decide) ?_
    cases hm
    exact r_ireturn dX7_fails_22 rfl (by decide) HK
  · rw [if_pos (show xq1 = true from am_b1 q)] at hm
    refine r_iload_n 2 dX7_fails_7 rfl ?_
    obtain ⟨xq2, exq2, hm⟩ := am_bs hm
    refine r_cS1 [.int b] (ct_X7_isKnot l exq2) sm_X7_118 (by decide) ⟨rfl, rfl⟩ rfl (Nat.le_of_ble_eq_true rfl) dX7_fails_8 ?_
    refine r_if_eq 21 dX7_fails_11 (by decide) (fun q => ?_) (fun q => ?_)
    · rw [if_neg (show ¬ xq2 = true from by rw [am_b0 q]; decide)] at hm
      refine r_iconst (-1) dX7_fails_21 (by decide) ?_
      cases hm
      exact r_ireturn dX7_fails_22 rfl (by decide) HK
    · rw [if_pos (show xq2 = true from am_b1 q)] at hm
      refine r_iload_n 3 dX7_fails_14 rfl ?_
      obtain ⟨xq3, exq3, hm⟩ := am_bs hm
      refine r_cS1 [.int c] (ct_X7_isTime l exq3) sm_X7_122 (by decide) ⟨rfl, rfl⟩ rfl (Nat.le_of_ble_eq_true rfl) dX7_fails_15 ?_
      refine r_if_ne 23 dX7_fails_18 (by decide) (fun q => ?_) (fun q => ?_)
      · rw [if_pos (show xq3 = true from am_b1 q)] at hm
        refine r_iload 4 dX7_fails_23 rfl ?_
        refine r_i2l dX7_fails_25 ?_
        refine r_lconst 0 dX7_fails_26 (by decide) ?_
        refine r_ldc2 (v := 10) kw_X7_266 dX7_fails_27 ?_
        obtain ⟨xq4, exq4, hm⟩ := am_bs hm
        refine r_cS1 [.long ((d : Int32).toInt64), .long 0, .long 10] (ct_X7_in l exq4) sm_X7_58 (by decide) ⟨rfl, rfl⟩ rfl (Nat.le_of_ble_eq_true rfl) dX7_fails_30 ?_
        refine r_if_ne 39 dX7_fails_33 (by decide) (fun q => ?_) (fun q => ?_)
        · rw [if_pos (show xq4 = true from am_b1 q)] at hm
          refine r_aload_n 0 dX7_fails_39 rfl ?_
          refine r_iload_n 3 dX7_fails_40 rfl ?_
          obtain ⟨⟨xq5, hq6⟩, exq5, hm⟩ := am_bs hm
          try dsimp only at hm
          refine r_cV1 [.int c] (ct_X7_findLiving l exq5) vm_X7_254 (cs_X7_findLiving exq5) (by decide) ⟨rfl, rfl⟩ rfl (Nat.le_of_ble_eq_true rfl) dX7_fails_41 ?_
          refine r_istore [(6, .int xq5), (0, .ref p), (1, .int a), (2, .int b), (3, .int c), (4, .int d), (5, .int (am_b e))] dX7_fails_44 (by decide) rfl ?_
          refine r_iload 0 dX7_fails_46 rfl ?_
          refine r_bipush 8 dX7_fails_48 (by decide) ?_
          refine r_icmp_le 56 dX7_fails_50 (by decide) (fun q => ?_) (fun q => ?_)
          · rw [if_pos q] at hm
            refine r_iconst 0 dX7_fails_56 (by decide) ?_
            refine r_istore [(7, .int 0), (6, .int xq5), (0, .ref p), (1, .int a), (2, .int b), (3, .int c), (4, .int d), (5, .int (am_b e))] dX7_fails_57 (by decide) rfl ?_
            refine r_iconst 0 dX7_fails_59 (by decide) ?_
            refine r_istore [(8, .int 0), (7, .int 0), (6, .int xq5), (0, .ref p), (1, .int a), (2, .int b), (3, .int c), (4, .int d), (5, .int (am_b e))] dX7_fails_60 (by decide) rfl ?_
            refine r_iconst 0 dX7_fails_62 (by decide) ?_
            refine r_istore [(9, .int 0), (8, .int 0), (7, .int 0), (6, .int xq5), (0, .ref p), (1, .int a), (2, .int b), (3, .int c), (4, .int d), (5, .int (am_b e))] dX7_fails_63 (by decide) rfl ?_
            obtain ⟨⟨oq8, oq9, hq10⟩, ew, hm⟩ := am_bs hm
            try dsimp only at hm
            refine r_lv [4, 5, 6, 7, 8, 9, 3, 2, 1, 0] _ rfl (ll_X7_fails_65 l f p a b c d e xq5 _ f 0 0 0 hq6 _ ew ?_)
            refine r_iload 1 dX7_fails_161 rfl ?_
            refine r_iload 2 dX7_fails_163 rfl ?_
            obtain ⟨xq11, exq11, hm⟩ := am_bs hm
            refine r_cS1 [.int oq8, .int oq9] (ct_X7_common l exq11) sm_X7_263 (by decide) ⟨rfl, rfl⟩ rfl (Nat.le_of_ble_eq_true rfl) dX7_fails_165 ?_
            refine r_istore [(9, .int xq11), (5, .int (am_b e)), (7, .int oq8), (8, .int oq9)] dX7_fails_168 (by decide) rfl ?_
            refine r_iload 1 dX7_fails_170 rfl ?_
            obtain ⟨jq12, hw, hm⟩ := am_bs hm
            try dsimp only at hm
            have HJ : am_R l yX7_fails cX7_fails 12 (some .int) rm_X7_fails (fun _ _ _ => True) 0 0 188 [] [.int jq12] hq10 K := by
              cases hm
              exact r_ireturn dX7_fails_188 rfl (by decide) HK
            clear hm
            have hm := hw
            clear hw
            refine r_if_eq 183 dX7_fails_172 (by decide) (fun q => ?_) (fun q => ?_)
            · rw [if_neg (show ¬ e = true from by rw [am_b0 q]; decide)] at hm
              refine r_iload 3 dX7_fails_183 rfl ?_
              refine r_iload 0 dX7_fails_185 rfl ?_
              obtain ⟨uq14, euq14, hm⟩ := am_bs hm
              refine r_idiv dX7_fails_187 (am_nz_of euq14) ?_
              cases hm
              exact r_lv [] _ rfl HJ
            · rw [if_pos (show e = true from am_b1 q)] at hm
              refine r_iload 2 dX7_fails_175 rfl ?_
              refine r_iload 0 dX7_fails_177 rfl ?_
              obtain ⟨uq13, euq13, hm⟩ := am_bs hm
              refine r_idiv dX7_fails_179 (am_nz_of euq13) ?_
              refine r_goto 188 dX7_fails_180 (by decide) ?_
              cases hm
              exact r_lv [] _ rfl HJ
          · rw [if_neg q] at hm
            refine r_bipush (-4) dX7_fails_53 (by decide) ?_
            cases hm
            exact r_ireturn dX7_fails_55 rfl (by decide) HK
        · rw [if_neg (show ¬ xq4 = true from by rw [am_b0 q]; decide)] at hm
          refine r_bipush (-2) dX7_fails_36 (by decide) ?_
          cases hm
          exact r_ireturn dX7_fails_38 rfl (by decide) HK
      · rw [if_neg (show ¬ xq3 = true from by rw [am_b0 q]; decide)] at hm
        refine r_iconst (-1) dX7_fails_21 (by decide) ?_
        cases hm
        exact r_ireturn dX7_fails_22 rfl (by decide) HK
def lo_X7_linksOf_4 (f : Nat) (h : am_H) (a0 : Nat) (a1 : Int32) : Nat → Int32 → Int32 → Option (Int32)
  | 0, _, _ => none
  | n + 1, a2, a3 =>
  (if 8 ≤ a3 then
  (some a2)
  else (Option.bind (am_gr h 7 a0 3) fun xq1 =>
  Option.bind (am_li h 9 xq1 (((8 : Int32) * a1) + a3)) fun xq2 =>
  Option.bind ((if xq2 ≤ 0 then
  (some false)
  else (some true))) fun jq3 =>
  lo_X7_linksOf_4 f h a0 a1 n (a2 + (am_b jq3)) (a3 + 1)))
set_option maxHeartbeats 4000000 in
set_option maxRecDepth 100000 in
theorem ll_X7_linksOf_4 (l : Launch) (f : Nat) (h : am_H) (a0 : Nat) (a1 : Int32) (K : Option Value → am_H → Prop) : ∀ (n : Nat) (a2 : Int32) (a3 : Int32) (z : Int32), lo_X7_linksOf_4 f h a0 a1 n a2 a3 = some z →
    am_R l yX7_linksOf cX7_linksOf 4 (some .int) rm_X7_linksOf (fun _ _ _ => True) 0 0 38 [(2, .int z)] [] h K →
    am_R l yX7_linksOf cX7_linksOf 4 (some .int) rm_X7_linksOf (fun _ _ _ => True) 0 0 4 [(0, .ref a0), (1, .int a1), (2, .int a2), (3, .int a3)] [] h K := by
  intro n
  induction n with
  | zero =>
    intro a2 a3 z hm kE
    cases hm
  | succ n ih =>
    intro a2 a3 z hm kE
    rw [lo_X7_linksOf_4.eq_2] at hm
    refine r_iload_n 3 dX7_linksOf_4 rfl ?_
    refine r_bipush 8 dX7_linksOf_5 (by decide) ?_
    refine r_icmp_ge 38 dX7_linksOf_7 (by decide) (fun q => ?_) (fun q => ?_)
    · rw [if_pos q] at hm
      cases hm
      exact r_lv [2] _ rfl kE
    · rw [if_neg q] at hm
      refine r_iload_n 2 dX7_linksOf_10 rfl ?_
      refine r_aload_n 0 dX7_linksOf_11 rfl ?_
      obtain ⟨xq1, exq1, hm⟩ := am_bs hm
      refine r_getr exq1 fl_X7_16 rfl dX7_linksOf_12 ?_
      refine r_bipush 8 dX7_linksOf_15 (by decide) ?_
      refine r_iload_n 1 dX7_linksOf_17 rfl ?_
      refine r_imul dX7_linksOf_18 ?_
      refine r_iload_n 3 dX7_linksOf_19 rfl ?_
      refine r_iadd dX7_linksOf_20 ?_
      obtain ⟨xq2, exq2, hm⟩ := am_bs hm
      refine r_iald exq2 dX7_linksOf_21 ?_
      obtain ⟨jq3, hw, hm⟩ := am_bs hm
      try dsimp only at hm
      have HJ : am_R l yX7_linksOf cX7_linksOf 4 (some .int) rm_X7_linksOf (fun _ _ _ => True) 0 0 30 [(0, .ref a0), (1, .int a1), (3, .int a3)] [.int (am_b jq3), .int a2] h K := by
        refine r_iadd dX7_linksOf_30 ?_
        refine r_istore_n [(2, .int (a2 + (am_b jq3))), (0, .ref a0), (1, .int a1), (3, .int a3)] dX7_linksOf_31 (by decide) rfl ?_
        refine r_inc 1 3 [(3, .int (a3 + 1)), (2, .int (a2 + (am_b jq3))), (0, .ref a0), (1, .int a1)] dX7_linksOf_32 (by decide) rfl (by decide) rfl ?_
        refine r_goto 4 dX7_linksOf_35 (by decide) ?_
        exact r_lv [2, 3, 1, 0] _ rfl (ih (a2 + (am_b jq3)) (a3 + 1) _ hm kE)
      clear hm
      have hm := hw
      clear hw
      refine r_if_le 29 dX7_linksOf_22 (by decide) (fun q => ?_) (fun q => ?_)
      · rw [if_pos q] at hm
        refine r_iconst 0 dX7_linksOf_29 (by decide) ?_
        cases hm
        exact r_lv [0, 1, 3] _ rfl HJ
      · rw [if_neg q] at hm
        refine r_iconst 1 dX7_linksOf_25 (by decide) ?_
        refine r_goto 30 dX7_linksOf_26 (by decide) ?_
        cases hm
        exact r_lv [0, 1, 3] _ rfl HJ
def mi_X7_linksOf (f : Nat) (h : am_H) (p : Nat) (a : Int32) : Option Int32 :=
  Option.bind (am_cls h 7 p) fun _n =>
  Option.bind (lo_X7_linksOf_4 f h p a f 0 0) fun oq1 =>
  some oq1
theorem cs_X7_linksOf {f : Nat} {h : am_H} {p : Nat} {a : Int32} {z : Int32} (hm : mi_X7_linksOf f h p a = some z) : ∃ n, h.1[p]? = some (7, n) := by
  unfold mi_X7_linksOf at hm
  obtain ⟨n, hn, -⟩ := am_bs hm
  exact ⟨n, am_cls_of hn⟩
set_option maxHeartbeats 4000000 in
set_option maxRecDepth 100000 in
theorem ct_X7_linksOf (l : Launch) {f : Nat} {h : am_H} {p : Nat} {a : Int32} {r : Int32} (hm : mi_X7_linksOf f h p a = some r) : am_Ct l yX7_linksOf cX7_linksOf 4 (some .int) rm_X7_linksOf [.ref p, .int a] h (some (.int r)) h := by
  refine am_met2 [(0, .ref p), (1, .int a)] (by decide) (Nat.le_of_ble_eq_true rfl) rfl ?_
  generalize hK : (fun (v : Option Value) (h3 : am_H) => v = (some (.int r)) ∧ h3 = h) = K
  have HK : K (some (.int r)) h := by rw [← hK]; exact ⟨rfl, rfl⟩
  clear hK
  unfold mi_X7_linksOf at hm
  obtain ⟨_n, _hn, hm⟩ := am_bs hm
  refine r_iconst 0 dX7_linksOf_0 (by decide) ?_
  refine r_istore_n [(2, .int 0), (0, .ref p), (1, .int a)] dX7_linksOf_1 (by decide) rfl ?_
  refine r_iconst 0 dX7_linksOf_2 (by decide) ?_
  refine r_istore_n [(3, .int 0), (2, .int 0), (0, .ref p), (1, .int a)] dX7_linksOf_3 (by decide) rfl ?_
  obtain ⟨oq1, ew, hm⟩ := am_bs hm
  try dsimp only at hm
  refine r_lv [2, 3, 1, 0] _ rfl (ll_X7_linksOf_4 l f h p a _ f 0 0 _ ew ?_)
  refine r_iload_n 0 dX7_linksOf_38 rfl ?_
  cases hm
  exact r_ireturn dX7_linksOf_39 rfl (by decide) HK
def lo_X7_linksOfAll_4 (f : Nat) (h : am_H) (a0 : Nat) : Nat → Int32 → Int32 → Option (Int32)
  | 0, _, _ => none
  | n + 1, a1, a2 =>
  (if 8 ≤ a2 then
  (some a1)
  else (Option.bind (mi_X7_linksOf f h a0 a2) fun xq1 =>
  lo_X7_linksOfAll_4 f h a0 n (a1 + xq1) (a2 + 1)))
set_option maxHeartbeats 4000000 in
set_option maxRecDepth 100000 in
theorem ll_X7_linksOfAll_4 (l : Launch) (f : Nat) (h : am_H) (a0 : Nat) (K : Option Value → am_H → Prop) : ∀ (n : Nat) (a1 : Int32) (a2 : Int32) (z : Int32), lo_X7_linksOfAll_4 f h a0 n a1 a2 = some z →
    am_R l yX7_linksOfAll cX7_linksOfAll 3 (some .int) rm_X7_linksOfAll (fun _ _ _ => True) 0 0 24 [(1, .int z)] [] h K →
    am_R l yX7_linksOfAll cX7_linksOfAll 3 (some .int) rm_X7_linksOfAll (fun _ _ _ => True) 0 0 4 [(0, .ref a0), (1, .int a1), (2, .int a2)] [] h K := by
  intro n
  induction n with
  | zero =>
    intro a1 a2 z hm kE
    cases hm
  | succ n ih =>
    intro a1 a2 z hm kE
    rw [lo_X7_linksOfAll_4.eq_2] at hm
    refine r_iload_n 2 dX7_linksOfAll_4 rfl ?_
    refine r_bipush 8 dX7_linksOfAll_5 (by decide) ?_
    refine r_icmp_ge 24 dX7_linksOfAll_7 (by decide) (fun q => ?_) (fun q => ?_)
    · rw [if_pos q] at hm
      cases hm
      exact r_lv [1] _ rfl kE
    · rw [if_neg q] at hm
      refine r_iload_n 1 dX7_linksOfAll_10 rfl ?_
      refine r_aload_n 0 dX7_linksOfAll_11 rfl ?_
      refine r_iload_n 2 dX7_linksOfAll_12 rfl ?_
      obtain ⟨xq1, exq1, hm⟩ := am_bs hm
      refine r_cV1 [.int a2] (ct_X7_linksOf l exq1) vm_X7_81 (cs_X7_linksOf exq1) (by decide) ⟨rfl, rfl⟩ rfl (Nat.le_of_ble_eq_true rfl) dX7_linksOfAll_13 ?_
      refine r_iadd dX7_linksOfAll_16 ?_
      refine r_istore_n [(1, .int (a1 + xq1)), (0, .ref a0), (2, .int a2)] dX7_linksOfAll_17 (by decide) rfl ?_
      refine r_inc 1 2 [(2, .int (a2 + 1)), (1, .int (a1 + xq1)), (0, .ref a0)] dX7_linksOfAll_18 (by decide) rfl (by decide) rfl ?_
      refine r_goto 4 dX7_linksOfAll_21 (by decide) ?_
      exact r_lv [2, 1, 0] _ rfl (ih (a1 + xq1) (a2 + 1) _ hm kE)
def mi_X7_linksOfAll (f : Nat) (h : am_H) (p : Nat) : Option Int32 :=
  Option.bind (am_cls h 7 p) fun _n =>
  Option.bind (lo_X7_linksOfAll_4 f h p f 0 0) fun oq1 =>
  some oq1
theorem cs_X7_linksOfAll {f : Nat} {h : am_H} {p : Nat} {z : Int32} (hm : mi_X7_linksOfAll f h p = some z) : ∃ n, h.1[p]? = some (7, n) := by
  unfold mi_X7_linksOfAll at hm
  obtain ⟨n, hn, -⟩ := am_bs hm
  exact ⟨n, am_cls_of hn⟩
set_option maxHeartbeats 4000000 in
set_option maxRecDepth 100000 in
theorem ct_X7_linksOfAll (l : Launch) {f : Nat} {h : am_H} {p : Nat} {r : Int32} (hm : mi_X7_linksOfAll f h p = some r) : am_Ct l yX7_linksOfAll cX7_linksOfAll 3 (some .int) rm_X7_linksOfAll [.ref p] h (some (.int r)) h := by
  refine am_met2 [(0, .ref p)] (by decide) (Nat.le_of_ble_eq_true rfl) rfl ?_
  generalize hK : (fun (v : Option Value) (h3 : am_H) => v = (some (.int r)) ∧ h3 = h) = K
  have HK : K (some (.int r)) h := by rw [← hK]; exact ⟨rfl, rfl⟩
  clear hK
  unfold mi_X7_linksOfAll at hm
  obtain ⟨_n, _hn, hm⟩ := am_bs hm
  refine r_iconst 0 dX7_linksOfAll_0 (by decide) ?_
  refine r_istore_n [(1, .int 0), (0, .ref p)] dX7_linksOfAll_1 (by decide) rfl ?_
  refine r_iconst 0 dX7_linksOfAll_2 (by decide) ?_
  refine r_istore_n [(2, .int 0), (1, .int 0), (0, .ref p)] dX7_linksOfAll_3 (by decide) rfl ?_
  obtain ⟨oq1, ew, hm⟩ := am_bs hm
  try dsimp only at hm
  refine r_lv [2, 1, 0] _ rfl (ll_X7_linksOfAll_4 l f h p _ f 0 0 _ ew ?_)
  refine r_iload_n 0 dX7_linksOfAll_24 rfl ?_
  cases hm
  exact r_ireturn dX7_linksOfAll_25 rfl (by decide) HK
def mi_X7_knotAt (f : Nat) (h : am_H) (p : Nat) (a : Int32) : Option Int32 :=
  Option.bind (am_cls h 7 p) fun _n =>
  Option.bind (am_gi h 7 p 2) fun xq1 =>
  Option.bind ((if xq1 ≤ a then
  (some (-9))
  else (Option.bind (am_gr h 7 p 1) fun xq3 =>
  Option.bind (am_li h 9 xq3 a) fun xq4 =>
  Option.bind (mi_X7_in f h ((xq4 : Int32).toInt64) 48 55) fun xq5 =>
  (if xq5 = true then
  (Option.bind (am_gr h 7 p 1) fun xq6 =>
  Option.bind (am_li h 9 xq6 a) fun xq7 =>
  some (xq7 - 48))
  else (some (-9)))))) fun jq2 =>
  some jq2
theorem cs_X7_knotAt {f : Nat} {h : am_H} {p : Nat} {a : Int32} {z : Int32} (hm : mi_X7_knotAt f h p a = some z) : ∃ n, h.1[p]? = some (7, n) := by
  unfold mi_X7_knotAt at hm
  obtain ⟨n, hn, -⟩ := am_bs hm
  exact ⟨n, am_cls_of hn⟩
set_option maxHeartbeats 4000000 in
set_option maxRecDepth 100000 in
theorem ct_X7_knotAt (l : Launch) {f : Nat} {h : am_H} {p : Nat} {a : Int32} {r : Int32} (hm : mi_X7_knotAt f h p a = some r) : am_Ct l yX7_knotAt cX7_knotAt 2 (some .int) rm_X7_knotAt [.ref p, .int a] h (some (.int r)) h := by
  refine am_met2 [(0, .ref p), (1, .int a)] (by decide) (Nat.le_of_ble_eq_true rfl) rfl ?_
  generalize hK : (fun (v : Option Value) (h3 : am_H) => v = (some (.int r)) ∧ h3 = h) = K
  have HK : K (some (.int r)) h := by rw [← hK]; exact ⟨rfl, rfl⟩
  clear hK
  unfold mi_X7_knotAt at hm
  obtain ⟨_n, _hn, hm⟩ := am_bs hm
  refine r_iload_n 1 dX7_knotAt_0 rfl ?_
  refine r_aload_n 0 dX7_knotAt_1 rfl ?_
  obtain ⟨xq1, exq1, hm⟩ := am_bs hm
  refine r_geti exq1 fl_X7_73 rfl dX7_knotAt_2 ?_
  obtain ⟨jq2, hw, hm⟩ := am_bs hm
  try dsimp only at hm
  have HJ : am_R l yX7_knotAt cX7_knotAt 2 (some .int) rm_X7_knotAt (fun _ _ _ => True) 0 0 41 [] [.int jq2] h K := by
    cases hm
    exact r_ireturn dX7_knotAt_41 rfl (by decide) HK
  clear hm
  have hm := hw
  clear hw
  refine r_icmp_ge 39 dX7_knotAt_5 (by decide) (fun q => ?_) (fun q => ?_)
  · rw [if_pos q] at hm
    refine r_bipush (-9) dX7_knotAt_39 (by decide) ?_
    cases hm
    exact r_lv [] _ rfl HJ
  · rw [if_neg q] at hm
    refine r_aload_n 0 dX7_knotAt_8 rfl ?_
    obtain ⟨xq3, exq3, hm⟩ := am_bs hm
    refine r_getr exq3 fl_X7_13 rfl dX7_knotAt_9 ?_
    refine r_iload_n 1 dX7_knotAt_12 rfl ?_
    obtain ⟨xq4, exq4, hm⟩ := am_bs hm
    refine r_iald exq4 dX7_knotAt_13 ?_
    refine r_i2l dX7_knotAt_14 ?_
    refine r_ldc2 (v := 48) kw_X7_77 dX7_knotAt_15 ?_
    refine r_ldc2 (v := 55) kw_X7_79 dX7_knotAt_18 ?_
    obtain ⟨xq5, exq5, hm⟩ := am_bs hm
    refine r_cS1 [.long ((xq4 : Int32).toInt64), .long 48, .long 55] (ct_X7_in l exq5) sm_X7_58 (by decide) ⟨rfl, rfl⟩ rfl (Nat.le_of_ble_eq_true rfl) dX7_knotAt_21 ?_
    refine r_if_eq 39 dX7_knotAt_24 (by decide) (fun q => ?_) (fun q => ?_)
    · rw [if_neg (show ¬ xq5 = true from by rw [am_b0 q]; decide)] at hm
      refine r_bipush (-9) dX7_knotAt_39 (by decide) ?_
      cases hm
      exact r_lv [] _ rfl HJ
    · rw [if_pos (show xq5 = true from am_b1 q)] at hm
      refine r_aload_n 0 dX7_knotAt_27 rfl ?_
      obtain ⟨xq6, exq6, hm⟩ := am_bs hm
      refine r_getr exq6 fl_X7_13 rfl dX7_knotAt_28 ?_
      refine r_iload_n 1 dX7_knotAt_31 rfl ?_
      obtain ⟨xq7, exq7, hm⟩ := am_bs hm
      refine r_iald exq7 dX7_knotAt_32 ?_
      refine r_bipush 48 dX7_knotAt_33 (by decide) ?_
      refine r_isub dX7_knotAt_35 ?_
      refine r_goto 41 dX7_knotAt_36 (by decide) ?_
      cases hm
      exact r_lv [] _ rfl HJ
def mi_X7_readPair (f : Nat) (h : am_H) (p : Nat) (a : Int32) (b : Bool) (c : Int32) : Option (Int32 × am_H) :=
  Option.bind (am_cls h 7 p) fun _n =>
  Option.bind (mi_X7_knotAt f h p (a + 1)) fun xq1 =>
  (if xq1 = (-9) then
  (some ((a + 1), h))
  else (Option.bind (mi_X7_linksOf f h p xq1) fun xq2 =>
  Option.bind ((if b = true then
  (some 7)
  else (some 0))) fun jq3 =>
  (if xq2 = jq3 then
  (some ((a + 1), h))
  else (Option.bind (mi_X7_knotAt f h p (a + 2)) fun xq4 =>
  (if xq4 = (-9) then
  (some ((a + 2), h))
  else ((if xq4 = xq1 then
  (some ((a + 2), h))
  else (Option.bind (am_gr h 7 p 3) fun xq5 =>
  Option.bind (am_li h 9 xq5 (((8 : Int32) * xq1) + xq4)) fun xq6 =>
  Option.bind ((if xq6 ≤ 0 then
  (some false)
  else (some true))) fun jq7 =>
  (if (am_b jq7) = (am_b b) then
  (some ((a + 2), h))
  else (Option.bind ((if b = true then
  (Option.bind (am_gr h 7 p 0) fun xq9 =>
  Option.bind (am_gr h 7 p 0) fun xq10 =>
  Option.bind (am_li h 9 xq10 17) fun xq11 =>
  Option.bind (mi_X7_asOne f h xq1 xq4 c 15) fun xq12 =>
  Option.bind (am_si h 9 xq9 ((18 : Int32) + xq11) xq12) fun hq13 =>
  Option.bind (am_gr hq13 7 p 0) fun xq14 =>
  Option.bind (am_li hq13 9 xq14 17) fun xq15 =>
  Option.bind (am_si hq13 9 xq14 17 (xq15 + 1)) fun hq16 =>
  Option.bind (am_gr hq16 7 p 3) fun xq17 =>
  Option.bind (am_gr hq16 7 p 0) fun xq18 =>
  Option.bind (am_li hq16 9 xq18 17) fun xq19 =>
  Option.bind (am_si hq16 9 xq17 (((8 : Int32) * xq1) + xq4) xq19) fun hq20 =>
  Option.bind (am_gr hq20 7 p 3) fun xq21 =>
  Option.bind (am_gr hq20 7 p 0) fun xq22 =>
  Option.bind (am_li hq20 9 xq22 17) fun xq23 =>
  Option.bind (am_si hq20 9 xq21 (((8 : Int32) * xq4) + xq1) xq23) fun hq24 =>
  some hq24)
  else (Option.bind (am_gr h 7 p 3) fun xq25 =>
  Option.bind (am_li h 9 xq25 (((8 : Int32) * xq1) + xq4)) fun xq26 =>
  Option.bind (am_gr h 7 p 0) fun xq27 =>
  Option.bind (am_gr h 7 p 0) fun xq28 =>
  Option.bind (am_li h 9 xq28 (((18 : Int32) + xq26) - 1)) fun xq29 =>
  Option.bind (mi_X7_fromOf f h xq29) fun xq30 =>
  Option.bind (mi_X7_asOne f h xq1 xq4 xq30 (c - 1)) fun xq31 =>
  Option.bind (am_si h 9 xq27 (((18 : Int32) + xq26) - 1) xq31) fun hq32 =>
  Option.bind (am_gr hq32 7 p 3) fun xq33 =>
  Option.bind (am_si hq32 9 xq33 (((8 : Int32) * xq1) + xq4) 0) fun hq34 =>
  Option.bind (am_gr hq34 7 p 3) fun xq35 =>
  Option.bind (am_si hq34 9 xq35 (((8 : Int32) * xq4) + xq1) 0) fun hq36 =>
  some hq36))) fun hq8 =>
  some ((-9), hq8)))))))))))
theorem cs_X7_readPair {f : Nat} {h : am_H} {p : Nat} {a : Int32} {b : Bool} {c : Int32} {z : (Int32 × am_H)} (hm : mi_X7_readPair f h p a b c = some z) : ∃ n, h.1[p]? = some (7, n) := by
  unfold mi_X7_readPair at hm
  obtain ⟨n, hn, -⟩ := am_bs hm
  exact ⟨n, am_cls_of hn⟩
set_option maxHeartbeats 4000000 in
set_option maxRecDepth 100000 in
theorem ct_X7_readPair (l : Launch) {f : Nat} {h : am_H} {p : Nat} {a : Int32} {b : Bool} {c : Int32} {r : Int32} {h2 : am_H} (hm : mi_X7_readPair f h p a b c = some (r, h2)) : am_Ct l yX7_readPair cX7_readPair 7 (some .int) rm_X7_readPair [.ref p, .int a, .int (am_b b), .int c] h (some (.int r)) h2 := by
  refine am_met2 [(0, .ref p), (1, .int a), (2, .int (am_b b)), (3, .int c)] (by decide) (Nat.le_of_ble_eq_true rfl) rfl ?_
  generalize hK : (fun (v : Option Value) (h3 : am_H) => v = (some (.int r)) ∧ h3 = h2) = K
  have HK : K (some (.int r)) h2 := by rw [← hK]; exact ⟨rfl, rfl⟩
  clear hK
  unfold mi_X7_readPair at hm
  obtain ⟨_n, _hn, hm⟩ := am_bs hm
  refine r_aload_n 0 dX7_readPair_0 rfl ?_
  refine r_iload_n 1 dX7_readPair_1 rfl ?_
  refine r_iconst 1 dX7_readPair_2 (by decide) ?_
  refine r_iadd dX7_readPair_3 ?_
  obtain ⟨xq1, exq1, hm⟩ := am_bs hm
  refine r_cV1 [.int (a + 1)] (ct_X7_knotAt l exq1) vm_X7_92 (cs_X7_knotAt exq1) (by decide) ⟨rfl, rfl⟩ rfl (Nat.le_of_ble_eq_true rfl) dX7_readPair_4 ?_
  refine r_istore [(4, .int xq1), (0, .ref p), (1, .int a), (2, .int (am_b b)), (3, .int c)] dX7_readPair_7 (by decide) rfl ?_
  refine r_iload 0 dX7_readPair_9 rfl ?_
  refine r_bipush (-9) dX7_readPair_11 (by decide) ?_
  refine r_icmp_eq 35 dX7_readPair_13 (by decide) (fun q => ?_) (fun q => ?_)
  · rw [if_pos q] at hm
    refine r_iload_n 2 dX7_readPair_35 rfl ?_
    refine r_iconst 1 dX7_readPair_36 (by decide) ?_
    refine r_iadd dX7_readPair_37 ?_
    cases hm
    exact r_ireturn dX7_readPair_38 rfl (by decide) HK
  · rw [if_neg q] at hm
    refine r_aload_n 1 dX7_readPair_16 rfl ?_
    refine r_iload 0 dX7_readPair_17 rfl ?_
    obtain ⟨xq2, exq2, hm⟩ := am_bs hm
    refine r_cV1 [.int xq1] (ct_X7_linksOf l exq2) vm_X7_81 (cs_X7_linksOf exq2) (by decide) ⟨rfl, rfl⟩ rfl (Nat.le_of_ble_eq_true rfl) dX7_readPair_19 ?_
    refine r_iload_n 3 dX7_readPair_22 rfl ?_
    obtain ⟨jq3, hw, hm⟩ := am_bs hm
    try dsimp only at hm
    have HJ : am_R l yX7_readPair cX7_readPair 7 (some .int) rm_X7_readPair (fun _ _ _ => True) 0 0 32 [(0, .ref p), (1, .int a), (2, .int (am_b b)), (3, .int c), (4, .int xq1)] [.int jq3, .int xq2] h K := by
      refine r_icmp_ne 39 dX7_readPair_32 (by decide) (fun q => ?_) (fun q => ?_)
      · rw [if_neg q] at hm
        refine r_aload_n 0 dX7_readPair_39 rfl ?_
        refine r_iload_n 1 dX7_readPair_40 rfl ?_
        refine r_iconst 2 dX7_readPair_41 (by decide) ?_
        refine r_iadd dX7_readPair_42 ?_
        obtain ⟨xq4, exq4, hm⟩ := am_bs hm
        refine r_cV1 [.int (a + 2)] (ct_X7_knotAt l exq4) vm_X7_92 (cs_X7_knotAt exq4) (by decide) ⟨rfl, rfl⟩ rfl (Nat.le_of_ble_eq_true rfl) dX7_readPair_43 ?_
        refine r_istore [(5, .int xq4), (0, .ref p), (1, .int a), (2, .int (am_b b)), (3, .int c), (4, .int xq1)] dX7_readPair_46 (by decide) rfl ?_
        refine r_iload 0 dX7_readPair_48 rfl ?_
        refine r_bipush (-9) dX7_readPair_50 (by decide) ?_
        refine r_icmp_eq 87 dX7_readPair_52 (by decide) (fun q => ?_) (fun q => ?_)
        · rw [if_pos q] at hm
          refine r_iload_n 2 dX7_readPair_87 rfl ?_
          refine r_iconst 2 dX7_readPair_88 (by decide) ?_
          refine r_iadd dX7_readPair_89 ?_
          cases hm
          exact r_ireturn dX7_readPair_90 rfl (by decide) HK
        · rw [if_neg q] at hm
          refine r_iload 0 dX7_readPair_55 rfl ?_
          refine r_iload 5 dX7_readPair_57 rfl ?_
          refine r_icmp_eq 87 dX7_readPair_59 (by decide) (fun q => ?_) (fun q => ?_)
          · rw [if_pos q] at hm
            refine r_iload_n 2 dX7_readPair_87 rfl ?_
            refine r_iconst 2 dX7_readPair_88 (by decide) ?_
            refine r_iadd dX7_readPair_89 ?_
            cases hm
            exact r_ireturn dX7_readPair_90 rfl (by decide) HK
          · rw [if_neg q] at hm
            refine r_aload_n 1 dX7_readPair_62 rfl ?_
            obtain ⟨xq5, exq5, hm⟩ := am_bs hm
            refine r_getr exq5 fl_X7_16 rfl dX7_readPair_63 ?_
            refine r_bipush 8 dX7_readPair_66 (by decide) ?_
            refine r_iload 5 dX7_readPair_68 rfl ?_
            refine r_imul dX7_readPair_70 ?_
            refine r_iload 0 dX7_readPair_71 rfl ?_
            refine r_iadd dX7_readPair_73 ?_
            obtain ⟨xq6, exq6, hm⟩ := am_bs hm
            refine r_iald exq6 dX7_readPair_74 ?_
            obtain ⟨jq7, hw, hm⟩ := am_bs hm
            try dsimp only at hm
            have HJ : am_R l yX7_readPair cX7_readPair 7 (some .int) rm_X7_readPair (fun _ _ _ => True) 0 0 83 [(0, .ref p), (1, .int a), (2, .int (am_b b)), (3, .int c), (4, .int xq1), (5, .int xq4)] [.int (am_b jq7)] h K := by
              refine r_iload_n 2 dX7_readPair_83 rfl ?_
              refine r_icmp_ne 91 dX7_readPair_84 (by decide) (fun q => ?_) (fun q => ?_)
              · rw [if_neg q] at hm
                refine r_iload_n 2 dX7_readPair_91 rfl ?_
                obtain ⟨hq8, hw, hm⟩ := am_bs hm
                try dsimp only at hm
                have HJ : am_R l yX7_readPair cX7_readPair 7 (some .int) rm_X7_readPair (fun _ _ _ => True) 0 0 249 [] [] hq8 K := by
                  refine r_bipush (-9) dX7_readPair_249 (by decide) ?_
                  cases hm
                  exact r_ireturn dX7_readPair_251 rfl (by decide) HK
                clear hm
                have hm := hw
                clear hw
                refine r_if_eq 174 dX7_readPair_92 (by decide) (fun q => ?_) (fun q => ?_)
                · rw [if_neg (show ¬ b = true from by rw [am_b0 q]; decide)] at hm
                  refine r_bipush 18 dX7_readPair_174 (by decide) ?_
                  refine r_aload_n 0 dX7_readPair_176 rfl ?_
                  obtain ⟨xq25, exq25, hm⟩ := am_bs hm
                  refine r_getr exq25 fl_X7_16 rfl dX7_readPair_177 ?_
                  refine r_bipush 8 dX7_readPair_180 (by decide) ?_
                  refine r_iload 4 dX7_readPair_182 rfl ?_
                  refine r_imul dX7_readPair_184 ?_
                  refine r_iload 5 dX7_readPair_185 rfl ?_
                  refine r_iadd dX7_readPair_187 ?_
                  obtain ⟨xq26, exq26, hm⟩ := am_bs hm
                  refine r_iald exq26 dX7_readPair_188 ?_
                  refine r_iadd dX7_readPair_189 ?_
                  refine r_iconst 1 dX7_readPair_190 (by decide) ?_
                  refine r_isub dX7_readPair_191 ?_
                  refine r_istore [(6, .int (((18 : Int32) + xq26) - 1)), (0, .ref p), (1, .int a), (2, .int (am_b b)), (3, .int c), (4, .int xq1), (5, .int xq4)] dX7_readPair_192 (by decide) rfl ?_
                  refine r_aload_n 1 dX7_readPair_194 rfl ?_
                  obtain ⟨xq27, exq27, hm⟩ := am_bs hm
                  refine r_getr exq27 fl_X7_7 rfl dX7_readPair_195 ?_
                  refine r_iload 0 dX7_readPair_198 rfl ?_
                  refine r_iload 5 dX7_readPair_200 rfl ?_
                  refine r_iload 6 dX7_readPair_202 rfl ?_
                  refine r_aload_n 1 dX7_readPair_204 rfl ?_
                  obtain ⟨xq28, exq28, hm⟩ := am_bs hm
                  refine r_getr exq28 fl_X7_7 rfl dX7_readPair_205 ?_
                  refine r_iload 0 dX7_readPair_208 rfl ?_
                  obtain ⟨xq29, exq29, hm⟩ := am_bs hm
                  refine r_iald exq29 dX7_readPair_210 ?_
                  obtain ⟨xq30, exq30, hm⟩ := am_bs hm
                  refine r_cS1 [.int xq29] (ct_X7_fromOf l exq30) sm_X7_64 (by decide) ⟨rfl, rfl⟩ rfl (Nat.le_of_ble_eq_true rfl) dX7_readPair_211 ?_
                  refine r_iload_n 4 dX7_readPair_214 rfl ?_
                  refine r_iconst 1 dX7_readPair_215 (by decide) ?_
                  refine r_isub dX7_readPair_216 ?_
                  obtain ⟨xq31, exq31, hm⟩ := am_bs hm
                  refine r_cS1 [.int xq1, .int xq4, .int xq30, .int (c - 1)] (ct_X7_asOne l exq31) sm_X7_95 (by decide) ⟨rfl, rfl⟩ rfl (Nat.le_of_ble_eq_true rfl) dX7_readPair_217 ?_
                  obtain ⟨hq32, ehq32, hm⟩ := am_bs hm
                  refine r_iast ehq32 dX7_readPair_220 ?_
                  refine r_aload_n 1 dX7_readPair_221 rfl ?_
                  obtain ⟨xq33, exq33, hm⟩ := am_bs hm
                  refine r_getr exq33 fl_X7_16 rfl dX7_readPair_222 ?_
                  refine r_bipush 8 dX7_readPair_225 (by decide) ?_
                  refine r_iload 5 dX7_readPair_227 rfl ?_
                  refine r_imul dX7_readPair_229 ?_
                  refine r_iload 6 dX7_readPair_230 rfl ?_
                  refine r_iadd dX7_readPair_232 ?_
                  refine r_iconst 0 dX7_readPair_233 (by decide) ?_
                  obtain ⟨hq34, ehq34, hm⟩ := am_bs hm
                  refine r_iast ehq34 dX7_readPair_234 ?_
                  refine r_aload_n 1 dX7_readPair_235 rfl ?_
                  obtain ⟨xq35, exq35, hm⟩ := am_bs hm
                  refine r_getr exq35 fl_X7_16 rfl dX7_readPair_236 ?_
                  refine r_bipush 8 dX7_readPair_239 (by decide) ?_
                  refine r_iload 6 dX7_readPair_241 rfl ?_
                  refine r_imul dX7_readPair_243 ?_
                  refine r_iload 5 dX7_readPair_244 rfl ?_
                  refine r_iadd dX7_readPair_246 ?_
                  refine r_iconst 0 dX7_readPair_247 (by decide) ?_
                  obtain ⟨hq36, ehq36, hm⟩ := am_bs hm
                  refine r_iast ehq36 dX7_readPair_248 ?_
                  cases hm
                  exact r_lv [] _ rfl HJ
                · rw [if_pos (show b = true from am_b1 q)] at hm
                  refine r_aload_n 0 dX7_readPair_95 rfl ?_
                  obtain ⟨xq9, exq9, hm⟩ := am_bs hm
                  refine r_getr exq9 fl_X7_7 rfl dX7_readPair_96 ?_
                  refine r_bipush 18 dX7_readPair_99 (by decide) ?_
                  refine r_aload_n 0 dX7_readPair_101 rfl ?_
                  obtain ⟨xq10, exq10, hm⟩ := am_bs hm
                  refine r_getr exq10 fl_X7_7 rfl dX7_readPair_102 ?_
                  refine r_bipush 17 dX7_readPair_105 (by decide) ?_
                  obtain ⟨xq11, exq11, hm⟩ := am_bs hm
                  refine r_iald exq11 dX7_readPair_107 ?_
                  refine r_iadd dX7_readPair_108 ?_
                  refine r_iload 4 dX7_readPair_109 rfl ?_
                  refine r_iload 5 dX7_readPair_111 rfl ?_
                  refine r_iload_n 3 dX7_readPair_113 rfl ?_
                  refine r_bipush 15 dX7_readPair_114 (by decide) ?_
                  obtain ⟨xq12, exq12, hm⟩ := am_bs hm
                  refine r_cS1 [.int xq1, .int xq4, .int c, .int 15] (ct_X7_asOne l exq12) sm_X7_95 (by decide) ⟨rfl, rfl⟩ rfl (Nat.le_of_ble_eq_true rfl) dX7_readPair_116 ?_
                  obtain ⟨hq13, ehq13, hm⟩ := am_bs hm
                  refine r_iast ehq13 dX7_readPair_119 ?_
                  refine r_aload_n 0 dX7_readPair_120 rfl ?_
                  obtain ⟨xq14, exq14, hm⟩ := am_bs hm
                  refine r_getr exq14 fl_X7_7 rfl dX7_readPair_121 ?_
                  refine r_bipush 17 dX7_readPair_124 (by decide) ?_
                  refine r_dup2 dX7_readPair_126 rfl rfl ?_
                  obtain ⟨xq15, exq15, hm⟩ := am_bs hm
                  refine r_iald exq15 dX7_readPair_127 ?_
                  refine r_iconst 1 dX7_readPair_128 (by decide) ?_
                  refine r_iadd dX7_readPair_129 ?_
                  obtain ⟨hq16, ehq16, hm⟩ := am_bs hm
                  refine r_iast ehq16 dX7_readPair_130 ?_
                  refine r_aload_n 0 dX7_readPair_131 rfl ?_
                  obtain ⟨xq17, exq17, hm⟩ := am_bs hm
                  refine r_getr exq17 fl_X7_16 rfl dX7_readPair_132 ?_
                  refine r_bipush 8 dX7_readPair_135 (by decide) ?_
                  refine r_iload 4 dX7_readPair_137 rfl ?_
                  refine r_imul dX7_readPair_139 ?_
                  refine r_iload 5 dX7_readPair_140 rfl ?_
                  refine r_iadd dX7_readPair_142 ?_
                  refine r_aload_n 0 dX7_readPair_143 rfl ?_
                  obtain ⟨xq18, exq18, hm⟩ := am_bs hm
                  refine r_getr exq18 fl_X7_7 rfl dX7_readPair_144 ?_
                  refine r_bipush 17 dX7_readPair_147 (by decide) ?_
                  obtain ⟨xq19, exq19, hm⟩ := am_bs hm
                  refine r_iald exq19 dX7_readPair_149 ?_
                  obtain ⟨hq20, ehq20, hm⟩ := am_bs hm
                  refine r_iast ehq20 dX7_readPair_150 ?_
                  refine r_aload_n 0 dX7_readPair_151 rfl ?_
                  obtain ⟨xq21, exq21, hm⟩ := am_bs hm
                  refine r_getr exq21 fl_X7_16 rfl dX7_readPair_152 ?_
                  refine r_bipush 8 dX7_readPair_155 (by decide) ?_
                  refine r_iload 5 dX7_readPair_157 rfl ?_
                  refine r_imul dX7_readPair_159 ?_
                  refine r_iload 4 dX7_readPair_160 rfl ?_
                  refine r_iadd dX7_readPair_162 ?_
                  refine r_aload_n 0 dX7_readPair_163 rfl ?_
                  obtain ⟨xq22, exq22, hm⟩ := am_bs hm
                  refine r_getr exq22 fl_X7_7 rfl dX7_readPair_164 ?_
                  refine r_bipush 17 dX7_readPair_167 (by decide) ?_
                  obtain ⟨xq23, exq23, hm⟩ := am_bs hm
                  refine r_iald exq23 dX7_readPair_169 ?_
                  obtain ⟨hq24, ehq24, hm⟩ := am_bs hm
                  refine r_iast ehq24 dX7_readPair_170 ?_
                  refine r_goto 249 dX7_readPair_171 (by decide) ?_
                  cases hm
                  exact r_lv [] _ rfl HJ
              · rw [if_pos q] at hm
                refine r_iload_n 1 dX7_readPair_87 rfl ?_
                refine r_iconst 2 dX7_readPair_88 (by decide) ?_
                refine r_iadd dX7_readPair_89 ?_
                cases hm
                exact r_ireturn dX7_readPair_90 rfl (by decide) HK
            clear hm
            have hm := hw
            clear hw
            refine r_if_le 82 dX7_readPair_75 (by decide) (fun q => ?_) (fun q => ?_)
            · rw [if_pos q] at hm
              refine r_iconst 0 dX7_readPair_82 (by decide) ?_
              cases hm
              exact r_lv [1, 2, 3, 4, 5, 0] _ rfl HJ
            · rw [if_neg q] at hm
              refine r_iconst 1 dX7_readPair_78 (by decide) ?_
              refine r_goto 83 dX7_readPair_79 (by decide) ?_
              cases hm
              exact r_lv [1, 2, 3, 4, 5, 0] _ rfl HJ
      · rw [if_pos q] at hm
        refine r_iload_n 1 dX7_readPair_35 rfl ?_
        refine r_iconst 1 dX7_readPair_36 (by decide) ?_
        refine r_iadd dX7_readPair_37 ?_
        cases hm
        exact r_ireturn dX7_readPair_38 rfl (by decide) HK
    clear hm
    have hm := hw
    clear hw
    refine r_if_eq 31 dX7_readPair_23 (by decide) (fun q => ?_) (fun q => ?_)
    · rw [if_neg (show ¬ b = true from by rw [am_b0 q]; decide)] at hm
      refine r_iconst 0 dX7_readPair_31 (by decide) ?_
      cases hm
      exact r_lv [1, 2, 3, 4, 0] _ rfl HJ
    · rw [if_pos (show b = true from am_b1 q)] at hm
      refine r_bipush 7 dX7_readPair_26 (by decide) ?_
      refine r_goto 32 dX7_readPair_28 (by decide) ?_
      cases hm
      exact r_lv [1, 2, 3, 4, 0] _ rfl HJ
def lo_X7_readText_10 (f : Nat) (a0 : Nat) : Nat → Int32 → am_H → Option (am_H)
  | 0, _, _ => none
  | n + 1, a1, h =>
  (if 64 ≤ a1 then
  (some h)
  else (Option.bind (am_gr h 7 a0 3) fun xq1 =>
  Option.bind (am_si h 9 xq1 a1 0) fun hq2 =>
  lo_X7_readText_10 f a0 n (a1 + 1) hq2))
set_option maxHeartbeats 4000000 in
set_option maxRecDepth 100000 in
theorem ll_X7_readText_10 (l : Launch) (f : Nat) (a0 : Nat) (K : Option Value → am_H → Prop) : ∀ (n : Nat) (a1 : Int32) (h : am_H) (z : am_H), lo_X7_readText_10 f a0 n a1 h = some z →
    am_R l yX7_readText cX7_readText 7 (some .int) rm_X7_readText (fun _ _ _ => True) 0 0 29 [(0, .ref a0)] [] z K →
    am_R l yX7_readText cX7_readText 7 (some .int) rm_X7_readText (fun _ _ _ => True) 0 0 10 [(0, .ref a0), (1, .int a1)] [] h K := by
  intro n
  induction n with
  | zero =>
    intro a1 h z hm kE
    cases hm
  | succ n ih =>
    intro a1 h z hm kE
    rw [lo_X7_readText_10.eq_2] at hm
    refine r_iload_n 1 dX7_readText_10 rfl ?_
    refine r_bipush 64 dX7_readText_11 (by decide) ?_
    refine r_icmp_ge 29 dX7_readText_13 (by decide) (fun q => ?_) (fun q => ?_)
    · rw [if_pos q] at hm
      cases hm
      exact r_lv [0] _ rfl kE
    · rw [if_neg q] at hm
      refine r_aload_n 0 dX7_readText_16 rfl ?_
      obtain ⟨xq1, exq1, hm⟩ := am_bs hm
      refine r_getr exq1 fl_X7_16 rfl dX7_readText_17 ?_
      refine r_iload_n 1 dX7_readText_20 rfl ?_
      refine r_iconst 0 dX7_readText_21 (by decide) ?_
      obtain ⟨hq2, ehq2, hm⟩ := am_bs hm
      refine r_iast ehq2 dX7_readText_22 ?_
      refine r_inc 1 1 [(1, .int (a1 + 1)), (0, .ref a0)] dX7_readText_23 (by decide) rfl (by decide) rfl ?_
      refine r_goto 10 dX7_readText_26 (by decide) ?_
      exact r_lv [1, 0] _ rfl (ih (a1 + 1) hq2 _ hm kE)
def lo_X7_readText_53 (f : Nat) (a0 : Nat) : Nat → Int32 → Int32 → am_H → Option ((am_H) ⊕ (Int32 × am_H))
  | 0, _, _, _ => none
  | n + 1, a1, a2, h =>
  Option.bind (am_gi h 7 a0 2) fun xq1 =>
  (if xq1 ≤ a1 then
  (some (.inl h))
  else (Option.bind (am_gr h 7 a0 1) fun xq2 =>
  Option.bind (am_li h 9 xq2 a1) fun xq3 =>
  Option.bind ((if xq3 = 43 then
  (some true)
  else (some false))) fun jq4 =>
  Option.bind ((if xq3 = 45 then
  (Option.bind (mi_X7_linksOfAll f h a0) fun xq15 =>
  (if xq15 ≤ 0 then
  (some false)
  else (some true)))
  else (some false))) fun jq5 =>
  (if a2 = 16 then
  (some (.inr (a1, h)))
  else (Option.bind ((if jq4 = true then
  (some true)
  else ((if jq5 = true then
  (some true)
  else ((if xq3 = 46 then
  (some true)
  else (some false))))))) fun tq6 =>
  (if tq6 = true then
  (Option.bind (((if xq3 = 46 then
  (some (.inl h))
  else (Option.bind (mi_X7_readPair f h a0 a1 jq4 a2) fun (xq10, hq11) =>
  (if xq10 = (-9) then
  (some (.inl hq11))
  else (some (.inr (xq10, hq11)))))) : Option ((am_H) ⊕ (Int32 × am_H)))) fun wq8 => match wq8 with
  | .inl hq7 => (Option.bind ((if xq3 = 46 then
  (some 1)
  else (some 3))) fun jq9 =>
  lo_X7_readText_53 f a0 n (a1 + jq9) (a2 + 1) hq7)
  | .inr (rq13, hq14) => (some (.inr (rq13, hq14))))
  else (some (.inr (a1, h))))))))
set_option maxHeartbeats 4000000 in
set_option maxRecDepth 100000 in
theorem ll_X7_readText_53 (l : Launch) (f : Nat) (a0 : Nat) (K : Option Value → am_H → Prop) : ∀ (n : Nat) (a1 : Int32) (a2 : Int32) (h : am_H) (w : ((am_H) ⊕ (Int32 × am_H))), lo_X7_readText_53 f a0 n a1 a2 h = some w →
    (∀ (z : am_H), w = .inl z → am_R l yX7_readText cX7_readText 7 (some .int) rm_X7_readText (fun _ _ _ => True) 0 0 171 [] [] z K) → (∀ (z : Int32 × am_H), w = .inr z → K (some (.int z.1)) z.2) →
    am_R l yX7_readText cX7_readText 7 (some .int) rm_X7_readText (fun _ _ _ => True) 0 0 53 [(0, .ref a0), (1, .int a1), (2, .int a2)] [] h K := by
  intro n
  induction n with
  | zero =>
    intro a1 a2 h w hm kE kR
    cases hm
  | succ n ih =>
    intro a1 a2 h w hm kE kR
    rw [lo_X7_readText_53.eq_2] at hm
    refine r_iload_n 1 dX7_readText_53 rfl ?_
    refine r_aload_n 0 dX7_readText_54 rfl ?_
    obtain ⟨xq1, exq1, hm⟩ := am_bs hm
    refine r_geti exq1 fl_X7_73 rfl dX7_readText_55 ?_
    refine r_icmp_ge 171 dX7_readText_58 (by decide) (fun q => ?_) (fun q => ?_)
    · rw [if_pos q] at hm
      cases hm
      exact r_lv [] _ rfl (kE _ rfl)
    · rw [if_neg q] at hm
      refine r_aload_n 0 dX7_readText_61 rfl ?_
      obtain ⟨xq2, exq2, hm⟩ := am_bs hm
      refine r_getr exq2 fl_X7_13 rfl dX7_readText_62 ?_
      refine r_iload_n 1 dX7_readText_65 rfl ?_
      obtain ⟨xq3, exq3, hm⟩ := am_bs hm
      refine r_iald exq3 dX7_readText_66 ?_
      refine r_istore_n [(3, .int xq3), (0, .ref a0), (1, .int a1), (2, .int a2)] dX7_readText_67 (by decide) rfl ?_
      refine r_iload_n 0 dX7_readText_68 rfl ?_
      refine r_bipush 43 dX7_readText_69 (by decide) ?_
      obtain ⟨jq4, hw, hm⟩ := am_bs hm
      try dsimp only at hm
      have HJ : am_R l yX7_readText cX7_readText 7 (some .int) rm_X7_readText (fun _ _ _ => True) 0 0 79 [(0, .ref a0), (1, .int a1), (2, .int a2), (3, .int xq3)] [.int (am_b jq4)] h K := by
        refine r_istore [(4, .int (am_b jq4)), (0, .ref a0), (1, .int a1), (2, .int a2), (3, .int xq3)] dX7_readText_79 (by decide) rfl ?_
        refine r_iload_n 4 dX7_readText_81 rfl ?_
        refine r_bipush 45 dX7_readText_82 (by decide) ?_
        obtain ⟨jq5, hw, hm⟩ := am_bs hm
        try dsimp only at hm
        have HJ : am_R l yX7_readText cX7_readText 7 (some .int) rm_X7_readText (fun _ _ _ => True) 0 0 99 [(0, .ref a0), (1, .int a1), (2, .int a2), (3, .int xq3), (4, .int (am_b jq4))] [.int (am_b jq5)] h K := by
          refine r_istore [(5, .int (am_b jq5)), (0, .ref a0), (1, .int a1), (2, .int a2), (3, .int xq3), (4, .int (am_b jq4))] dX7_readText_99 (by decide) rfl ?_
          refine r_iload_n 3 dX7_readText_101 rfl ?_
          refine r_bipush 16 dX7_readText_102 (by decide) ?_
          refine r_icmp_eq 123 dX7_readText_104 (by decide) (fun q => ?_) (fun q => ?_)
          · rw [if_pos q] at hm
            refine r_iload_n 2 dX7_readText_123 rfl ?_
            cases hm
            exact r_ireturn dX7_readText_124 rfl (by decide) (kR _ rfl)
          · rw [if_neg q] at hm
            refine r_iload 5 dX7_readText_107 rfl ?_
            obtain ⟨tq6, hw, hm⟩ := am_bs hm
            try dsimp only at hm
            have HA : tq6 = true → am_R l yX7_readText cX7_readText 7 (some .int) rm_X7_readText (fun _ _ _ => True) 0 0 125 [(5, .int (am_b jq5)), (0, .ref a0), (1, .int a1), (2, .int a2), (3, .int xq3), (4, .int (am_b jq4))] [] h K := by
              intro q
              clear hw
              rw [if_pos q] at hm
              refine r_iload_n 4 dX7_readText_125 rfl ?_
              refine r_bipush 46 dX7_readText_126 (by decide) ?_
              obtain ⟨wq8, hw, hm⟩ := am_bs hm
              have HJ : ∀ (z : am_H), wq8 = .inl z → am_R l yX7_readText cX7_readText 7 (some .int) rm_X7_readText (fun _ _ _ => True) 0 0 151 [(0, .ref a0), (1, .int a1), (2, .int a2), (3, .int xq3)] [] z K := by
                intro z q
                clear hw
                obtain ⟨hq7, rfl⟩ : ∃ x, x = z := ⟨_, rfl⟩
                subst q
                try dsimp only at hm
                refine r_iload_n 1 dX7_readText_151 rfl ?_
                refine r_iload_n 3 dX7_readText_152 rfl ?_
                refine r_bipush 46 dX7_readText_153 (by decide) ?_
                obtain ⟨jq9, hw, hm⟩ := am_bs hm
                try dsimp only at hm
                have HJ : am_R l yX7_readText cX7_readText 7 (some .int) rm_X7_readText (fun _ _ _ => True) 0 0 163 [(0, .ref a0), (2, .int a2)] [.int jq9, .int a1] hq7 K := by
                  refine r_iadd dX7_readText_163 ?_
                  refine r_istore_n [(1, .int (a1 + jq9)), (0, .ref a0), (2, .int a2)] dX7_readText_164 (by decide) rfl ?_
                  refine r_inc 1 2 [(2, .int (a2 + 1)), (1, .int (a1 + jq9)), (0, .ref a0)] dX7_readText_165 (by decide) rfl (by decide) rfl ?_
                  refine r_goto 53 dX7_readText_168 (by decide) ?_
                  exact r_lv [2, 1, 0] _ rfl (ih (a1 + jq9) (a2 + 1) hq7 _ hm kE kR)
                clear hm
                have hm := hw
                clear hw
                refine r_icmp_ne 162 dX7_readText_155 (by decide) (fun q => ?_) (fun q => ?_)
                · rw [if_neg q] at hm
                  refine r_iconst 3 dX7_readText_162 (by decide) ?_
                  cases hm
                  exact r_lv [0, 2] _ rfl HJ
                · rw [if_pos q] at hm
                  refine r_iconst 1 dX7_readText_158 (by decide) ?_
                  refine r_goto 163 dX7_readText_159 (by decide) ?_
                  cases hm
                  exact r_lv [0, 2] _ rfl HJ
              have HR : ∀ (z : Int32 × am_H), wq8 = .inr z → K (some (.int z.1)) z.2 := by
                intro z q
                clear hw
                subst q
                obtain ⟨rq13, hq14⟩ := z
                try dsimp only at hm
                cases hm
                exact kR _ rfl
              clear hm
              have hm := hw
              clear hw
              refine r_icmp_eq 151 dX7_readText_128 (by decide) (fun q => ?_) (fun q => ?_)
              · rw [if_pos q] at hm
                cases hm
                exact r_lv [1, 2, 3, 4] _ rfl (HJ _ rfl)
              · rw [if_neg q] at hm
                refine r_aload_n 1 dX7_readText_131 rfl ?_
                refine r_iload_n 2 dX7_readText_132 rfl ?_
                refine r_iload 5 dX7_readText_133 rfl ?_
                refine r_iload_n 3 dX7_readText_135 rfl ?_
                obtain ⟨⟨xq10, hq11⟩, exq10, hm⟩ := am_bs hm
                try dsimp only at hm
                refine r_cV1 [.int a1, .int (am_b jq4), .int a2] (ct_X7_readPair l exq10) vm_X7_88 (cs_X7_readPair exq10) (by decide) ⟨rfl, rfl⟩ rfl (Nat.le_of_ble_eq_true rfl) dX7_readText_136 ?_
                refine r_istore [(6, .int xq10), (5, .int (am_b jq5)), (0, .ref a0), (1, .int a1), (2, .int a2), (3, .int xq3), (4, .int (am_b jq4))] dX7_readText_139 (by decide) rfl ?_
                refine r_iload 0 dX7_readText_141 rfl ?_
                refine r_bipush (-9) dX7_readText_143 (by decide) ?_
                refine r_icmp_eq 151 dX7_readText_145 (by decide) (fun q => ?_) (fun q => ?_)
                · rw [if_pos q] at hm
                  cases hm
                  exact r_lv [2, 3, 4, 5] _ rfl (HJ _ rfl)
                · rw [if_neg q] at hm
                  refine r_iload 0 dX7_readText_148 rfl ?_
                  cases hm
                  exact r_ireturn dX7_readText_150 rfl (by decide) (HR _ rfl)
            have HB : tq6 = false → am_R l yX7_readText cX7_readText 7 (some .int) rm_X7_readText (fun _ _ _ => True) 0 0 123 [(5, .int (am_b jq5)), (0, .ref a0), (1, .int a1), (2, .int a2), (3, .int xq3), (4, .int (am_b jq4))] [] h K := by
              intro q
              clear hw
              rw [if_neg (by rw [q]; decide)] at hm
              refine r_iload_n 2 dX7_readText_123 rfl ?_
              cases hm
              exact r_ireturn dX7_readText_124 rfl (by decide) (kR _ rfl)
            clear hm
            have hm := hw
            clear hw
            refine r_if_ne 125 dX7_readText_109 (by decide) (fun q => ?_) (fun q => ?_)
            · rw [if_pos (show jq4 = true from am_b1 q)] at hm
              cases hm
              exact HA rfl
            · rw [if_neg (show ¬ jq4 = true from by rw [am_b0 q]; decide)] at hm
              refine r_iload 0 dX7_readText_112 rfl ?_
              refine r_if_ne 125 dX7_readText_114 (by decide) (fun q => ?_) (fun q => ?_)
              · rw [if_pos (show jq5 = true from am_b1 q)] at hm
                cases hm
                exact HA rfl
              · rw [if_neg (show ¬ jq5 = true from by rw [am_b0 q]; decide)] at hm
                refine r_iload_n 4 dX7_readText_117 rfl ?_
                refine r_bipush 46 dX7_readText_118 (by decide) ?_
                refine r_icmp_eq 125 dX7_readText_120 (by decide) (fun q => ?_) (fun q => ?_)
                · rw [if_pos q] at hm
                  cases hm
                  exact HA rfl
                · rw [if_neg q] at hm
                  cases hm
                  exact HB rfl
        clear hm
        have hm := hw
        clear hw
        refine r_icmp_ne 98 dX7_readText_84 (by decide) (fun q => ?_) (fun q => ?_)
        · rw [if_neg q] at hm
          refine r_iconst 0 dX7_readText_98 (by decide) ?_
          cases hm
          exact r_lv [1, 2, 3, 4, 0] _ rfl HJ
        · rw [if_pos q] at hm
          refine r_aload_n 1 dX7_readText_87 rfl ?_
          obtain ⟨xq15, exq15, hm⟩ := am_bs hm
          refine r_cV1 [] (ct_X7_linksOfAll l exq15) vm_X7_84 (cs_X7_linksOfAll exq15) (by decide) ⟨rfl, rfl⟩ rfl (Nat.le_of_ble_eq_true rfl) dX7_readText_88 ?_
          refine r_if_le 98 dX7_readText_91 (by decide) (fun q => ?_) (fun q => ?_)
          · rw [if_pos q] at hm
            refine r_iconst 0 dX7_readText_98 (by decide) ?_
            cases hm
            exact r_lv [1, 2, 3, 4, 0] _ rfl HJ
          · rw [if_neg q] at hm
            refine r_iconst 1 dX7_readText_94 (by decide) ?_
            refine r_goto 99 dX7_readText_95 (by decide) ?_
            cases hm
            exact r_lv [1, 2, 3, 4, 0] _ rfl HJ
      clear hm
      have hm := hw
      clear hw
      refine r_icmp_ne 78 dX7_readText_71 (by decide) (fun q => ?_) (fun q => ?_)
      · rw [if_neg q] at hm
        refine r_iconst 0 dX7_readText_78 (by decide) ?_
        cases hm
        exact r_lv [1, 2, 3, 0] _ rfl HJ
      · rw [if_pos q] at hm
        refine r_iconst 1 dX7_readText_74 (by decide) ?_
        refine r_goto 79 dX7_readText_75 (by decide) ?_
        cases hm
        exact r_lv [1, 2, 3, 0] _ rfl HJ
def mi_X7_readText (f : Nat) (h : am_H) (p : Nat) : Option (Int32 × am_H) :=
  Option.bind (am_cls h 7 p) fun _n =>
  Option.bind (am_gr h 7 p 0) fun xq1 =>
  Option.bind (am_si h 9 xq1 17 0) fun hq2 =>
  Option.bind (lo_X7_readText_10 f p f 0 hq2) fun hq3 =>
  Option.bind (am_gi hq3 7 p 2) fun xq4 =>
  (if xq4 = 0 then
  (some (0, hq3))
  else (Option.bind (am_gr hq3 7 p 1) fun xq5 =>
  Option.bind (am_li hq3 9 xq5 0) fun xq6 =>
  (if xq6 = 76 then
  (Option.bind (lo_X7_readText_53 f p f 1 0 hq3) fun wq8 => match wq8 with
  | .inl hq7 => (some ((-9), hq7))
  | .inr (rq9, hq10) => (some (rq9, hq10)))
  else (some (0, hq3)))))
theorem cs_X7_readText {f : Nat} {h : am_H} {p : Nat} {z : (Int32 × am_H)} (hm : mi_X7_readText f h p = some z) : ∃ n, h.1[p]? = some (7, n) := by
  unfold mi_X7_readText at hm
  obtain ⟨n, hn, -⟩ := am_bs hm
  exact ⟨n, am_cls_of hn⟩
set_option maxHeartbeats 4000000 in
set_option maxRecDepth 100000 in
theorem ct_X7_readText (l : Launch) {f : Nat} {h : am_H} {p : Nat} {r : Int32} {h2 : am_H} (hm : mi_X7_readText f h p = some (r, h2)) : am_Ct l yX7_readText cX7_readText 7 (some .int) rm_X7_readText [.ref p] h (some (.int r)) h2 := by
  refine am_met2 [(0, .ref p)] (by decide) (Nat.le_of_ble_eq_true rfl) rfl ?_
  generalize hK : (fun (v : Option Value) (h3 : am_H) => v = (some (.int r)) ∧ h3 = h2) = K
  have HK : K (some (.int r)) h2 := by rw [← hK]; exact ⟨rfl, rfl⟩
  clear hK
  unfold mi_X7_readText at hm
  obtain ⟨_n, _hn, hm⟩ := am_bs hm
  refine r_aload_n 0 dX7_readText_0 rfl ?_
  obtain ⟨xq1, exq1, hm⟩ := am_bs hm
  refine r_getr exq1 fl_X7_7 rfl dX7_readText_1 ?_
  refine r_bipush 17 dX7_readText_4 (by decide) ?_
  refine r_iconst 0 dX7_readText_6 (by decide) ?_
  obtain ⟨hq2, ehq2, hm⟩ := am_bs hm
  refine r_iast ehq2 dX7_readText_7 ?_
  refine r_iconst 0 dX7_readText_8 (by decide) ?_
  refine r_istore_n [(1, .int 0), (0, .ref p)] dX7_readText_9 (by decide) rfl ?_
  obtain ⟨hq3, ew, hm⟩ := am_bs hm
  try dsimp only at hm
  refine r_lv [1, 0] _ rfl (ll_X7_readText_10 l f p _ f 0 hq2 _ ew ?_)
  refine r_aload_n 0 dX7_readText_29 rfl ?_
  obtain ⟨xq4, exq4, hm⟩ := am_bs hm
  refine r_geti exq4 fl_X7_73 rfl dX7_readText_30 ?_
  refine r_if_eq 47 dX7_readText_33 (by decide) (fun q => ?_) (fun q => ?_)
  · rw [if_pos q] at hm
    refine r_iconst 0 dX7_readText_47 (by decide) ?_
    cases hm
    exact r_ireturn dX7_readText_48 rfl (by decide) HK
  · rw [if_neg q] at hm
    refine r_aload_n 0 dX7_readText_36 rfl ?_
    obtain ⟨xq5, exq5, hm⟩ := am_bs hm
    refine r_getr exq5 fl_X7_13 rfl dX7_readText_37 ?_
    refine r_iconst 0 dX7_readText_40 (by decide) ?_
    obtain ⟨xq6, exq6, hm⟩ := am_bs hm
    refine r_iald exq6 dX7_readText_41 ?_
    refine r_bipush 76 dX7_readText_42 (by decide) ?_
    refine r_icmp_eq 49 dX7_readText_44 (by decide) (fun q => ?_) (fun q => ?_)
    · rw [if_pos q] at hm
      refine r_iconst 1 dX7_readText_49 (by decide) ?_
      refine r_istore_n [(1, .int 1), (0, .ref p)] dX7_readText_50 (by decide) rfl ?_
      refine r_iconst 0 dX7_readText_51 (by decide) ?_
      refine r_istore_n [(2, .int 0), (1, .int 1), (0, .ref p)] dX7_readText_52 (by decide) rfl ?_
      obtain ⟨wq8, ew, hm⟩ := am_bs hm
      refine r_lv [2, 1, 0] _ rfl (ll_X7_readText_53 l f p _ f 1 0 hq3 _ ew (fun z q => ?_) (fun z q => ?_))
      · obtain ⟨hq7, rfl⟩ : ∃ x, x = z := ⟨_, rfl⟩
        subst q
        dsimp only at hm
        refine r_bipush (-9) dX7_readText_171 (by decide) ?_
        cases hm
        exact r_ireturn dX7_readText_173 rfl (by decide) HK
      · subst q
        obtain ⟨rq9, hq10⟩ := z
        dsimp only at hm
        cases hm
        exact HK
    · rw [if_neg q] at hm
      refine r_iconst 0 dX7_readText_47 (by decide) ?_
      cases hm
      exact r_ireturn dX7_readText_48 rfl (by decide) HK
def mi_X7_fault (f : Nat) (h : am_H) (p : Nat) : Option (Int32 × am_H) :=
  Option.bind (am_cls h 7 p) fun _n =>
  Option.bind (mi_X7_readText f h p) fun (xq1, hq2) =>
  some (xq1, hq2)
theorem cs_X7_fault {f : Nat} {h : am_H} {p : Nat} {z : (Int32 × am_H)} (hm : mi_X7_fault f h p = some z) : ∃ n, h.1[p]? = some (7, n) := by
  unfold mi_X7_fault at hm
  obtain ⟨n, hn, -⟩ := am_bs hm
  exact ⟨n, am_cls_of hn⟩
set_option maxHeartbeats 4000000 in
set_option maxRecDepth 100000 in
theorem ct_X7_fault (l : Launch) {f : Nat} {h : am_H} {p : Nat} {r : Int32} {h2 : am_H} (hm : mi_X7_fault f h p = some (r, h2)) : am_Ct l yX7_fault cX7_fault 1 (some .int) rm_X7_fault [.ref p] h (some (.int r)) h2 := by
  refine am_met2 [(0, .ref p)] (by decide) (Nat.le_of_ble_eq_true rfl) rfl ?_
  generalize hK : (fun (v : Option Value) (h3 : am_H) => v = (some (.int r)) ∧ h3 = h2) = K
  have HK : K (some (.int r)) h2 := by rw [← hK]; exact ⟨rfl, rfl⟩
  clear hK
  unfold mi_X7_fault at hm
  obtain ⟨_n, _hn, hm⟩ := am_bs hm
  refine r_aload_n 0 dX7_fault_0 rfl ?_
  obtain ⟨⟨xq1, hq2⟩, exq1, hm⟩ := am_bs hm
  try dsimp only at hm
  refine r_cV1 [] (ct_X7_readText l exq1) vm_X7_99 (cs_X7_readText exq1) (by decide) ⟨rfl, rfl⟩ rfl (Nat.le_of_ble_eq_true rfl) dX7_fault_1 ?_
  cases hm
  exact r_ireturn dX7_fault_4 rfl (by decide) HK
def mi_X7_joined (f : Nat) (h : am_H) (p : Nat) (a : Int32) (b : Int32) (c : Int32) : Option (Int32 × am_H) :=
  Option.bind (am_cls h 7 p) fun _n =>
  Option.bind (mi_X7_isKnot f h a) fun xq1 =>
  (if xq1 = true then
  (Option.bind (mi_X7_isKnot f h b) fun xq2 =>
  (if xq2 = true then
  (Option.bind (mi_X7_isTime f h c) fun xq3 =>
  (if xq3 = true then
  (Option.bind (mi_X7_areJoined f h p 0 a b c 65535) fun (xq4, hq5) =>
  Option.bind ((if xq4 = true then
  (some true)
  else (some false))) fun jq7 =>
  some ((am_b jq7), hq5))
  else (some ((-1), h))))
  else (some ((-1), h))))
  else (some ((-1), h)))
theorem cs_X7_joined {f : Nat} {h : am_H} {p : Nat} {a : Int32} {b : Int32} {c : Int32} {z : (Int32 × am_H)} (hm : mi_X7_joined f h p a b c = some z) : ∃ n, h.1[p]? = some (7, n) := by
  unfold mi_X7_joined at hm
  obtain ⟨n, hn, -⟩ := am_bs hm
  exact ⟨n, am_cls_of hn⟩
set_option maxHeartbeats 4000000 in
set_option maxRecDepth 100000 in
theorem ct_X7_joined (l : Launch) {f : Nat} {h : am_H} {p : Nat} {a : Int32} {b : Int32} {c : Int32} {r : Int32} {h2 : am_H} (hm : mi_X7_joined f h p a b c = some (r, h2)) : am_Ct l yX7_joined cX7_joined 4 (some .int) rm_X7_joined [.ref p, .int a, .int b, .int c] h (some (.int r)) h2 := by
  refine am_met2 [(0, .ref p), (1, .int a), (2, .int b), (3, .int c)] (by decide) (Nat.le_of_ble_eq_true rfl) rfl ?_
  generalize hK : (fun (v : Option Value) (h3 : am_H) => v = (some (.int r)) ∧ h3 = h2) = K
  have HK : K (some (.int r)) h2 := by rw [← hK]; exact ⟨rfl, rfl⟩
  clear hK
  unfold mi_X7_joined at hm
  obtain ⟨_n, _hn, hm⟩ := am_bs hm
  refine r_iload_n 1 dX7_joined_0 rfl ?_
  obtain ⟨xq1, exq1, hm⟩ := am_bs hm
  refine r_cS1 [.int a] (ct_X7_isKnot l exq1) sm_X7_118 (by decide) ⟨rfl, rfl⟩ rfl (Nat.le_of_ble_eq_true rfl) dX7_joined_1 ?_
  refine r_if_eq 21 dX7_joined_4 (by decide) (fun q => ?_) (fun q => ?_)
  · rw [if_neg (show ¬ xq1 = true from by rw [am_b0 q]; decide)] at hm
    refine r_iconst (-1) dX7_joined_21 (by decide) ?_
    cases hm
    exact r_ireturn dX7_joined_22 rfl (by decide) HK
  · rw [if_pos (show xq1 = true from am_b1 q)] at hm
    refine r_iload_n 2 dX7_joined_7 rfl ?_
    obtain ⟨xq2, exq2, hm⟩ := am_bs hm
    refine r_cS1 [.int b] (ct_X7_isKnot l exq2) sm_X7_118 (by decide) ⟨rfl, rfl⟩ rfl (Nat.le_of_ble_eq_true rfl) dX7_joined_8 ?_
    refine r_if_eq 21 dX7_joined_11 (by decide) (fun q => ?_) (fun q => ?_)
    · rw [if_neg (show ¬ xq2 = true from by rw [am_b0 q]; decide)] at hm
      refine r_iconst (-1) dX7_joined_21 (by decide) ?_
      cases hm
      exact r_ireturn dX7_joined_22 rfl (by decide) HK
    · rw [if_pos (show xq2 = true from am_b1 q)] at hm
      refine r_iload_n 3 dX7_joined_14 rfl ?_
      obtain ⟨xq3, exq3, hm⟩ := am_bs hm
      refine r_cS1 [.int c] (ct_X7_isTime l exq3) sm_X7_122 (by decide) ⟨rfl, rfl⟩ rfl (Nat.le_of_ble_eq_true rfl) dX7_joined_15 ?_
      refine r_if_ne 23 dX7_joined_18 (by decide) (fun q => ?_) (fun q => ?_)
      · rw [if_pos (show xq3 = true from am_b1 q)] at hm
        refine r_aload_n 0 dX7_joined_23 rfl ?_
        refine r_iconst 0 dX7_joined_24 (by decide) ?_
        refine r_iload_n 1 dX7_joined_25 rfl ?_
        refine r_iload_n 2 dX7_joined_26 rfl ?_
        refine r_iload_n 3 dX7_joined_27 rfl ?_
        refine r_ldc (v := 65535) kw_X7_191 dX7_joined_28 ?_
        obtain ⟨⟨xq4, hq5⟩, exq4, hm⟩ := am_bs hm
        try dsimp only at hm
        refine r_cV1 [.int 0, .int a, .int b, .int c, .int 65535] (ct_X7_areJoined l exq4) vm_X7_223 (cs_X7_areJoined exq4) (by decide) ⟨rfl, rfl⟩ rfl (Nat.le_of_ble_eq_true rfl) dX7_joined_30 ?_
        obtain ⟨jq7, hw, hm⟩ := am_bs hm
        try dsimp only at hm
        have HJ : am_R l yX7_joined cX7_joined 4 (some .int) rm_X7_joined (fun _ _ _ => True) 0 0 41 [] [.int (am_b jq7)] hq5 K := by
          cases hm
          exact r_ireturn dX7_joined_41 rfl (by decide) HK
        clear hm
        have hm := hw
        clear hw
        refine r_if_eq 40 dX7_joined_33 (by decide) (fun q => ?_) (fun q => ?_)
        · rw [if_neg (show ¬ xq4 = true from by rw [am_b0 q]; decide)] at hm
          refine r_iconst 0 dX7_joined_40 (by decide) ?_
          cases hm
          exact r_lv [] _ rfl HJ
        · rw [if_pos (show xq4 = true from am_b1 q)] at hm
          refine r_iconst 1 dX7_joined_36 (by decide) ?_
          refine r_goto 41 dX7_joined_37 (by decide) ?_
          cases hm
          exact r_lv [] _ rfl HJ
      · rw [if_neg (show ¬ xq3 = true from by rw [am_b0 q]; decide)] at hm
        refine r_iconst (-1) dX7_joined_21 (by decide) ?_
        cases hm
        exact r_ireturn dX7_joined_22 rfl (by decide) HK
def lo_X7_byFives_4 (f : Nat) (h : am_H) (a0 : Int32) : Nat → Int64 → Int32 → Option (Int64)
  | 0, _, _ => none
  | n + 1, a1, a3 =>
  (if a0 ≤ a3 then
  (some a1)
  else (lo_X7_byFives_4 f h a0 n (a1 * 100000) (a3 + 1)))
set_option maxHeartbeats 4000000 in
set_option maxRecDepth 100000 in
theorem ll_X7_byFives_4 (l : Launch) (f : Nat) (h : am_H) (a0 : Int32) (K : Option Value → am_H → Prop) : ∀ (n : Nat) (a1 : Int64) (a3 : Int32) (z : Int64), lo_X7_byFives_4 f h a0 n a1 a3 = some z →
    am_R l yX7_byFives cX7_byFives 4 (some .long) rm_X7_byFives (fun _ _ _ => True) 0 0 21 [(1, .long z)] [] h K →
    am_R l yX7_byFives cX7_byFives 4 (some .long) rm_X7_byFives (fun _ _ _ => True) 0 0 4 [(0, .int a0), (1, .long a1), (3, .int a3)] [] h K := by
  intro n
  induction n with
  | zero =>
    intro a1 a3 z hm kE
    cases hm
  | succ n ih =>
    intro a1 a3 z hm kE
    rw [lo_X7_byFives_4.eq_2] at hm
    refine r_iload_n 2 dX7_byFives_4 rfl ?_
    refine r_iload_n 0 dX7_byFives_5 rfl ?_
    refine r_icmp_ge 21 dX7_byFives_6 (by decide) (fun q => ?_) (fun q => ?_)
    · rw [if_pos q] at hm
      cases hm
      exact r_lv [1] _ rfl kE
    · rw [if_neg q] at hm
      refine r_lload_n 1 dX7_byFives_9 rfl ?_
      refine r_ldc2 (v := 100000) kw_X7_233 dX7_byFives_10 ?_
      refine r_lmul dX7_byFives_13 ?_
      refine r_lstore_n [(1, .long (a1 * 100000)), (0, .int a0), (3, .int a3)] dX7_byFives_14 (by decide) rfl ?_
      refine r_inc 1 2 [(3, .int (a3 + 1)), (1, .long (a1 * 100000)), (0, .int a0)] dX7_byFives_15 (by decide) rfl (by decide) rfl ?_
      refine r_goto 4 dX7_byFives_18 (by decide) ?_
      exact r_lv [2, 1, 0] _ rfl (ih (a1 * 100000) (a3 + 1) _ hm kE)
def mi_X7_byFives (f : Nat) (h : am_H) (a : Int32) : Option Int64 :=
  Option.bind (lo_X7_byFives_4 f h a f 1 0) fun oq1 =>
  some oq1
set_option maxHeartbeats 4000000 in
set_option maxRecDepth 100000 in
theorem ct_X7_byFives (l : Launch) {f : Nat} {h : am_H} {a : Int32} {r : Int64} (hm : mi_X7_byFives f h a = some r) : am_Ct l yX7_byFives cX7_byFives 4 (some .long) rm_X7_byFives [.int a] h (some (.long r)) h := by
  refine am_met2 [(0, .int a)] (by decide) (Nat.le_of_ble_eq_true rfl) rfl ?_
  generalize hK : (fun (v : Option Value) (h3 : am_H) => v = (some (.long r)) ∧ h3 = h) = K
  have HK : K (some (.long r)) h := by rw [← hK]; exact ⟨rfl, rfl⟩
  clear hK
  unfold mi_X7_byFives at hm
  refine r_lconst 1 dX7_byFives_0 (by decide) ?_
  refine r_lstore_n [(1, .long 1), (0, .int a)] dX7_byFives_1 (by decide) rfl ?_
  refine r_iconst 0 dX7_byFives_2 (by decide) ?_
  refine r_istore_n [(3, .int 0), (1, .long 1), (0, .int a)] dX7_byFives_3 (by decide) rfl ?_
  obtain ⟨oq1, ew, hm⟩ := am_bs hm
  try dsimp only at hm
  refine r_lv [2, 1, 0] _ rfl (ll_X7_byFives_4 l f h a _ f 1 0 _ ew ?_)
  refine r_lload_n 0 dX7_byFives_21 rfl ?_
  cases hm
  exact r_lreturn dX7_byFives_22 rfl (by decide) HK
def mi_X7_tryThing (f : Nat) (h : am_H) (p : Nat) (a : Int32) (b : Int32) (c : Int32) : Option (Bool × am_H) :=
  Option.bind (am_cls h 7 p) fun _n =>
  (if a = 1 then
  (Option.bind (mi_X7_canPut f h p 1 (b / 10) (b - b / 10 * 10) (c / 10) (c - c / 10 * 10)) fun xq1 =>
  Option.bind ((if xq1 = true then
  (Option.bind (mi_X7_asOne f h (b / 10) (b - b / 10 * 10) (c / 10) (c - c / 10 * 10)) fun xq3 =>
  Option.bind (mi_X7_putOn f h p 1 xq3) fun hq5 =>
  some hq5)
  else (some h))) fun hq2 =>
  some (xq1, hq2))
  else (if a = 2 then
  (Option.bind ((if b = 0 then
  (Option.bind (mi_X7_many f h p 1) fun xq10 =>
  (if xq10 ≤ c then
  (some false)
  else (some true)))
  else (some false))) fun jq6 =>
  Option.bind ((if jq6 = true then
  (Option.bind (mi_X7_cutOn f h p 1 c) fun hq9 =>
  some hq9)
  else (some h))) fun hq7 =>
  some (jq6, hq7))
  else (if a = 3 then
  (Option.bind (mi_X7_canEnd f h p 1 b c) fun xq11 =>
  Option.bind ((if xq11 = true then
  (Option.bind (mi_X7_endOn f h p 1 b c) fun hq14 =>
  some hq14)
  else (some h))) fun hq12 =>
  some (xq11, hq12))
  else (if a = 4 then
  (Option.bind (mi_X7_isKnot f h (b / 10)) fun xq15 =>
  Option.bind ((if xq15 = true then
  (Option.bind (mi_X7_isKnot f h (b - b / 10 * 10)) fun xq18 =>
  (if xq18 = true then
  (Option.bind (mi_X7_isTime f h c) fun xq19 =>
  (if xq19 = true then
  (Option.bind (mi_X7_areJoined f h p 1 (b / 10) (b - b / 10 * 10) c 65535) fun (xq20, hq21) =>
  (if xq20 = true then
  (some (true, hq21))
  else (some (false, hq21))))
  else (some (false, h))))
  else (some (false, h))))
  else (some (false, h)))) fun (jq16, hq17) =>
  some (jq16, hq17))
  else (if a = 5 then
  (Option.bind ((if (b / 10) = 0 then
  (Option.bind (mi_X7_isTime f h c) fun xq25 =>
  (if xq25 = true then
  (Option.bind (mi_X7_partsBy f h p 1 c 65535) fun (xq26, hq27) =>
  (if xq26 < (b - b / 10 * 10) then
  (some (false, hq27))
  else (some (true, hq27))))
  else (some (false, h))))
  else (some (false, h)))) fun (jq23, hq24) =>
  some (jq23, hq24))
  else (some (false, h)))))))
theorem cs_X7_tryThing {f : Nat} {h : am_H} {p : Nat} {a : Int32} {b : Int32} {c : Int32} {z : (Bool × am_H)} (hm : mi_X7_tryThing f h p a b c = some z) : ∃ n, h.1[p]? = some (7, n) := by
  unfold mi_X7_tryThing at hm
  obtain ⟨n, hn, -⟩ := am_bs hm
  exact ⟨n, am_cls_of hn⟩
set_option maxHeartbeats 4000000 in
set_option maxRecDepth 100000 in
theorem ct_X7_tryThing (l : Launch) {f : Nat} {h : am_H} {p : Nat} {a : Int32} {b : Int32} {c : Int32} {r : Bool} {h2 : am_H} (hm : mi_X7_tryThing f h p a b c = some (r, h2)) : am_Ct l yX7_tryThing cX7_tryThing 9 (some .boolean) rm_X7_tryThing [.ref p, .int a, .int b, .int c] h (some (.int (am_b r))) h2 := by
  refine am_met2 [(0, .ref p), (1, .int a), (2, .int b), (3, .int c)] (by decide) (Nat.le_of_ble_eq_true rfl) rfl ?_
  generalize hK : (fun (v : Option Value) (h3 : am_H) => v = (some (.int (am_b r))) ∧ h3 = h2) = K
  have HK : K (some (.int (am_b r))) h2 := by rw [← hK]; exact ⟨rfl, rfl⟩
  clear hK
  unfold mi_X7_tryThing at hm
  obtain ⟨_n, _hn, hm⟩ := am_bs hm
  refine r_iload_n 2 dX7_tryThing_0 rfl ?_
  refine r_bipush 10 dX7_tryThing_1 (by decide) ?_
  refine r_idiv dX7_tryThing_3 (by decide) ?_
  refine r_istore [(4, .int (b / 10)), (0, .ref p), (1, .int a), (2, .int b), (3, .int c)] dX7_tryThing_4 (by decide) rfl ?_
  refine r_iload_n 3 dX7_tryThing_6 rfl ?_
  refine r_bipush 10 dX7_tryThing_7 (by decide) ?_
  refine r_irem dX7_tryThing_9 (by decide) ?_
  refine r_istore [(5, .int (b - b / 10 * 10)), (4, .int (b / 10)), (0, .ref p), (1, .int a), (2, .int b), (3, .int c)] dX7_tryThing_10 (by decide) rfl ?_
  refine r_iload_n 3 dX7_tryThing_12 rfl ?_
  by_cases q1 : a = 1
  · rw [if_pos q1] at hm
    refine r_tsw 48 dX7_tryThing_13 (Or.inl ⟨by rw [q1]; decide, by rw [q1]; decide⟩) ?_
    refine r_aload_n 2 dX7_tryThing_48 rfl ?_
    refine r_iconst 1 dX7_tryThing_49 (by decide) ?_
    refine r_iload 1 dX7_tryThing_50 rfl ?_
    refine r_iload 0 dX7_tryThing_52 rfl ?_
    refine r_iload_n 5 dX7_tryThing_54 rfl ?_
    refine r_bipush 10 dX7_tryThing_55 (by decide) ?_
    refine r_idiv dX7_tryThing_57 (by decide) ?_
    refine r_iload_n 5 dX7_tryThing_58 rfl ?_
    refine r_bipush 10 dX7_tryThing_59 (by decide) ?_
    refine r_irem dX7_tryThing_61 (by decide) ?_
    obtain ⟨xq1, exq1, hm⟩ := am_bs hm
    refine r_cV1 [.int 1, .int (b / 10), .int (b - b / 10 * 10), .int (c / 10), .int (c - c / 10 * 10)] (ct_X7_canPut l exq1) vm_X7_230 (cs_X7_canPut exq1) (by decide) ⟨rfl, rfl⟩ rfl (Nat.le_of_ble_eq_true rfl) dX7_tryThing_62 ?_
    refine r_istore [(6, .int (am_b xq1)), (5, .int (b - b / 10 * 10)), (4, .int (b / 10)), (0, .ref p), (1, .int a), (2, .int b), (3, .int c)] dX7_tryThing_65 (by decide) rfl ?_
    refine r_iload 0 dX7_tryThing_67 rfl ?_
    obtain ⟨hq2, hw, hm⟩ := am_bs hm
    try dsimp only at hm
    have HJ : am_R l yX7_tryThing cX7_tryThing 9 (some .boolean) rm_X7_tryThing (fun _ _ _ => True) 0 0 92 [(6, .int (am_b xq1))] [] hq2 K := by
      refine r_iload 0 dX7_tryThing_92 rfl ?_
      cases hm
      exact r_zreturn _ dX7_tryThing_94 rfl (by decide) HK
    clear hm
    have hm := hw
    clear hw
    refine r_if_eq 92 dX7_tryThing_69 (by decide) (fun q => ?_) (fun q => ?_)
    · rw [if_neg (show ¬ xq1 = true from by rw [am_b0 q]; decide)] at hm
      cases hm
      exact r_lv [0] _ rfl HJ
    · rw [if_pos (show xq1 = true from am_b1 q)] at hm
      refine r_aload_n 3 dX7_tryThing_72 rfl ?_
      refine r_iconst 1 dX7_tryThing_73 (by decide) ?_
      refine r_iload 2 dX7_tryThing_74 rfl ?_
      refine r_iload 1 dX7_tryThing_76 rfl ?_
      refine r_iload_n 6 dX7_tryThing_78 rfl ?_
      refine r_bipush 10 dX7_tryThing_79 (by decide) ?_
      refine r_idiv dX7_tryThing_81 (by decide) ?_
      refine r_iload_n 6 dX7_tryThing_82 rfl ?_
      refine r_bipush 10 dX7_tryThing_83 (by decide) ?_
      refine r_irem dX7_tryThing_85 (by decide) ?_
      obtain ⟨xq3, exq3, hm⟩ := am_bs hm
      refine r_cS1 [.int (b / 10), .int (b - b / 10 * 10), .int (c / 10), .int (c - c / 10 * 10)] (ct_X7_asOne l exq3) sm_X7_95 (by decide) ⟨rfl, rfl⟩ rfl (Nat.le_of_ble_eq_true rfl) dX7_tryThing_86 ?_
      obtain ⟨hq5, exq4, hm⟩ := am_bs hm
      refine r_cV0 [.int 1, .int xq3] (ct_X7_putOn l exq4) vm_X7_162 (cs_X7_putOn exq4) (by decide) ⟨rfl, rfl⟩ rfl (Nat.le_of_ble_eq_true rfl) dX7_tryThing_89 ?_
      cases hm
      exact r_lv [0] _ rfl HJ
  rw [if_neg q1] at hm
  by_cases q2 : a = 2
  · rw [if_pos q2] at hm
    refine r_tsw 95 dX7_tryThing_13 (Or.inl ⟨by rw [q2]; decide, by rw [q2]; decide⟩) ?_
    refine r_iload_n 4 dX7_tryThing_95 rfl ?_
    obtain ⟨jq6, hw, hm⟩ := am_bs hm
    try dsimp only at hm
    have HJ : am_R l yX7_tryThing cX7_tryThing 9 (some .boolean) rm_X7_tryThing (fun _ _ _ => True) 0 0 113 [(0, .ref p), (3, .int c)] [.int (am_b jq6)] h K := by
      refine r_istore [(7, .int (am_b jq6)), (0, .ref p), (3, .int c)] dX7_tryThing_113 (by decide) rfl ?_
      refine r_iload 0 dX7_tryThing_115 rfl ?_
      obtain ⟨hq7, hw, hm⟩ := am_bs hm
      try dsimp only at hm
      have HJ : am_R l yX7_tryThing cX7_tryThing 9 (some .boolean) rm_X7_tryThing (fun _ _ _ => True) 0 0 126 [(7, .int (am_b jq6))] [] hq7 K := by
        refine r_iload 0 dX7_tryThing_126 rfl ?_
        cases hm
        exact r_zreturn _ dX7_tryThing_128 rfl (by decide) HK
      clear hm
      have hm := hw
      clear hw
      refine r_if_eq 126 dX7_tryThing_117 (by decide) (fun q => ?_) (fun q => ?_)
      · rw [if_neg (show ¬ jq6 = true from by rw [am_b0 q]; decide)] at hm
        cases hm
        exact r_lv [0] _ rfl HJ
      · rw [if_pos (show jq6 = true from am_b1 q)] at hm
        refine r_aload_n 1 dX7_tryThing_120 rfl ?_
        refine r_iconst 1 dX7_tryThing_121 (by decide) ?_
        refine r_iload_n 2 dX7_tryThing_122 rfl ?_
        obtain ⟨hq9, exq8, hm⟩ := am_bs hm
        refine r_cV0 [.int 1, .int c] (ct_X7_cutOn l exq8) vm_X7_166 (cs_X7_cutOn exq8) (by decide) ⟨rfl, rfl⟩ rfl (Nat.le_of_ble_eq_true rfl) dX7_tryThing_123 ?_
        cases hm
        exact r_lv [0] _ rfl HJ
    clear hm
    have hm := hw
    clear hw
    refine r_if_ne 112 dX7_tryThing_96 (by decide) (fun q => ?_) (fun q => ?_)
    · rw [if_neg q] at hm
      refine r_iconst 0 dX7_tryThing_112 (by decide) ?_
      cases hm
      exact r_lv [2, 5] _ rfl HJ
    · rw [if_pos q] at hm
      refine r_iload_n 5 dX7_tryThing_99 rfl ?_
      refine r_aload_n 2 dX7_tryThing_100 rfl ?_
      refine r_iconst 1 dX7_tryThing_101 (by decide) ?_
      obtain ⟨xq10, exq10, hm⟩ := am_bs hm
      refine r_cV1 [.int 1] (ct_X7_many l exq10) vm_X7_105 (cs_X7_many exq10) (by decide) ⟨rfl, rfl⟩ rfl (Nat.le_of_ble_eq_true rfl) dX7_tryThing_102 ?_
      refine r_icmp_ge 112 dX7_tryThing_105 (by decide) (fun q => ?_) (fun q => ?_)
      · rw [if_pos q] at hm
        refine r_iconst 0 dX7_tryThing_112 (by decide) ?_
        cases hm
        exact r_lv [2, 5] _ rfl HJ
      · rw [if_neg q] at hm
        refine r_iconst 1 dX7_tryThing_108 (by decide) ?_
        refine r_goto 113 dX7_tryThing_109 (by decide) ?_
        cases hm
        exact r_lv [2, 5] _ rfl HJ
  rw [if_neg q2] at hm
  by_cases q3 : a = 3
  · rw [if_pos q3] at hm
    refine r_tsw 129 dX7_tryThing_13 (Or.inl ⟨by rw [q3]; decide, by rw [q3]; decide⟩) ?_
    refine r_aload_n 2 dX7_tryThing_129 rfl ?_
    refine r_iconst 1 dX7_tryThing_130 (by decide) ?_
    refine r_iload_n 4 dX7_tryThing_131 rfl ?_
    refine r_iload_n 5 dX7_tryThing_132 rfl ?_
    obtain ⟨xq11, exq11, hm⟩ := am_bs hm
    refine r_cV1 [.int 1, .int b, .int c] (ct_X7_canEnd l exq11) vm_X7_169 (cs_X7_canEnd exq11) (by decide) ⟨rfl, rfl⟩ rfl (Nat.le_of_ble_eq_true rfl) dX7_tryThing_133 ?_
    refine r_istore [(8, .int (am_b xq11)), (5, .int (b - b / 10 * 10)), (4, .int (b / 10)), (0, .ref p), (1, .int a), (2, .int b), (3, .int c)] dX7_tryThing_136 (by decide) rfl ?_
    refine r_iload 0 dX7_tryThing_138 rfl ?_
    obtain ⟨hq12, hw, hm⟩ := am_bs hm
    try dsimp only at hm
    have HJ : am_R l yX7_tryThing cX7_tryThing 9 (some .boolean) rm_X7_tryThing (fun _ _ _ => True) 0 0 150 [(8, .int (am_b xq11))] [] hq12 K := by
      refine r_iload 0 dX7_tryThing_150 rfl ?_
      cases hm
      exact r_zreturn _ dX7_tryThing_152 rfl (by decide) HK
    clear hm
    have hm := hw
    clear hw
    refine r_if_eq 150 dX7_tryThing_140 (by decide) (fun q => ?_) (fun q => ?_)
    · rw [if_neg (show ¬ xq11 = true from by rw [am_b0 q]; decide)] at hm
      cases hm
      exact r_lv [0] _ rfl HJ
    · rw [if_pos (show xq11 = true from am_b1 q)] at hm
      refine r_aload_n 3 dX7_tryThing_143 rfl ?_
      refine r_iconst 1 dX7_tryThing_144 (by decide) ?_
      refine r_iload_n 5 dX7_tryThing_145 rfl ?_
      refine r_iload_n 6 dX7_tryThing_146 rfl ?_
      obtain ⟨hq14, exq13, hm⟩ := am_bs hm
      refine r_cV0 [.int 1, .int b, .int c] (ct_X7_endOn l exq13) vm_X7_172 (cs_X7_endOn exq13) (by decide) ⟨rfl, rfl⟩ rfl (Nat.le_of_ble_eq_true rfl) dX7_tryThing_147 ?_
      cases hm
      exact r_lv [0] _ rfl HJ
  rw [if_neg q3] at hm
  by_cases q4 : a = 4
  · rw [if_pos q4] at hm
    refine r_tsw 153 dX7_tryThing_13 (Or.inl ⟨by rw [q4]; decide, by rw [q4]; decide⟩) ?_
    refine r_iload 1 dX7_tryThing_153 rfl ?_
    obtain ⟨xq15, exq15, hm⟩ := am_bs hm
    refine r_cS1 [.int (b / 10)] (ct_X7_isKnot l exq15) sm_X7_118 (by decide) ⟨rfl, rfl⟩ rfl (Nat.le_of_ble_eq_true rfl) dX7_tryThing_155 ?_
    obtain ⟨⟨jq16, hq17⟩, hw, hm⟩ := am_bs hm
    try dsimp only at hm
    have HJ : am_R l yX7_tryThing cX7_tryThing 9 (some .boolean) rm_X7_tryThing (fun _ _ _ => True) 0 0 196 [] [.int (am_b jq16)] hq17 K := by
      cases hm
      exact r_zreturn _ dX7_tryThing_196 rfl (by decide) HK
    clear hm
    have hm := hw
    clear hw
    refine r_if_eq 195 dX7_tryThing_158 (by decide) (fun q => ?_) (fun q => ?_)
    · rw [if_neg (show ¬ xq15 = true from by rw [am_b0 q]; decide)] at hm
      refine r_iconst 0 dX7_tryThing_195 (by decide) ?_
      cases hm
      exact r_lv [] _ rfl HJ
    · rw [if_pos (show xq15 = true from am_b1 q)] at hm
      refine r_iload 0 dX7_tryThing_161 rfl ?_
      obtain ⟨xq18, exq18, hm⟩ := am_bs hm
      refine r_cS1 [.int (b - b / 10 * 10)] (ct_X7_isKnot l exq18) sm_X7_118 (by decide) ⟨rfl, rfl⟩ rfl (Nat.le_of_ble_eq_true rfl) dX7_tryThing_163 ?_
      refine r_if_eq 195 dX7_tryThing_166 (by decide) (fun q => ?_) (fun q => ?_)
      · rw [if_neg (show ¬ xq18 = true from by rw [am_b0 q]; decide)] at hm
        refine r_iconst 0 dX7_tryThing_195 (by decide) ?_
        cases hm
        exact r_lv [] _ rfl HJ
      · rw [if_pos (show xq18 = true from am_b1 q)] at hm
        refine r_iload_n 5 dX7_tryThing_169 rfl ?_
        obtain ⟨xq19, exq19, hm⟩ := am_bs hm
        refine r_cS1 [.int c] (ct_X7_isTime l exq19) sm_X7_122 (by decide) ⟨rfl, rfl⟩ rfl (Nat.le_of_ble_eq_true rfl) dX7_tryThing_170 ?_
        refine r_if_eq 195 dX7_tryThing_173 (by decide) (fun q => ?_) (fun q => ?_)
        · rw [if_neg (show ¬ xq19 = true from by rw [am_b0 q]; decide)] at hm
          refine r_iconst 0 dX7_tryThing_195 (by decide) ?_
          cases hm
          exact r_lv [] _ rfl HJ
        · rw [if_pos (show xq19 = true from am_b1 q)] at hm
          refine r_aload_n 2 dX7_tryThing_176 rfl ?_
          refine r_iconst 1 dX7_tryThing_177 (by decide) ?_
          refine r_iload 1 dX7_tryThing_178 rfl ?_
          refine r_iload 0 dX7_tryThing_180 rfl ?_
          refine r_iload_n 5 dX7_tryThing_182 rfl ?_
          refine r_ldc (v := 65535) kw_X7_191 dX7_tryThing_183 ?_
          obtain ⟨⟨xq20, hq21⟩, exq20, hm⟩ := am_bs hm
          try dsimp only at hm
          refine r_cV1 [.int 1, .int (b / 10), .int (b - b / 10 * 10), .int c, .int 65535] (ct_X7_areJoined l exq20) vm_X7_223 (cs_X7_areJoined exq20) (by decide) ⟨rfl, rfl⟩ rfl (Nat.le_of_ble_eq_true rfl) dX7_tryThing_185 ?_
          refine r_if_eq 195 dX7_tryThing_188 (by decide) (fun q => ?_) (fun q => ?_)
          · rw [if_neg (show ¬ xq20 = true from by rw [am_b0 q]; decide)] at hm
            refine r_iconst 0 dX7_tryThing_195 (by decide) ?_
            cases hm
            exact r_lv [] _ rfl HJ
          · rw [if_pos (show xq20 = true from am_b1 q)] at hm
            refine r_iconst 1 dX7_tryThing_191 (by decide) ?_
            refine r_goto 196 dX7_tryThing_192 (by decide) ?_
            cases hm
            exact r_lv [] _ rfl HJ
  rw [if_neg q4] at hm
  by_cases q5 : a = 5
  · rw [if_pos q5] at hm
    refine r_tsw 197 dX7_tryThing_13 (Or.inl ⟨by rw [q5]; decide, by rw [q5]; decide⟩) ?_
    refine r_iload 1 dX7_tryThing_197 rfl ?_
    obtain ⟨⟨jq23, hq24⟩, hw, hm⟩ := am_bs hm
    try dsimp only at hm
    have HJ : am_R l yX7_tryThing cX7_tryThing 9 (some .boolean) rm_X7_tryThing (fun _ _ _ => True) 0 0 227 [] [.int (am_b jq23)] hq24 K := by
      cases hm
      exact r_zreturn _ dX7_tryThing_227 rfl (by decide) HK
    clear hm
    have hm := hw
    clear hw
    refine r_if_ne 226 dX7_tryThing_199 (by decide) (fun q => ?_) (fun q => ?_)
    · rw [if_neg q] at hm
      refine r_iconst 0 dX7_tryThing_226 (by decide) ?_
      cases hm
      exact r_lv [] _ rfl HJ
    · rw [if_pos q] at hm
      refine r_iload_n 5 dX7_tryThing_202 rfl ?_
      obtain ⟨xq25, exq25, hm⟩ := am_bs hm
      refine r_cS1 [.int c] (ct_X7_isTime l exq25) sm_X7_122 (by decide) ⟨rfl, rfl⟩ rfl (Nat.le_of_ble_eq_true rfl) dX7_tryThing_203 ?_
      refine r_if_eq 226 dX7_tryThing_206 (by decide) (fun q => ?_) (fun q => ?_)
      · rw [if_neg (show ¬ xq25 = true from by rw [am_b0 q]; decide)] at hm
        refine r_iconst 0 dX7_tryThing_226 (by decide) ?_
        cases hm
        exact r_lv [] _ rfl HJ
      · rw [if_pos (show xq25 = true from am_b1 q)] at hm
        refine r_aload_n 2 dX7_tryThing_209 rfl ?_
        refine r_iconst 1 dX7_tryThing_210 (by decide) ?_
        refine r_iload_n 5 dX7_tryThing_211 rfl ?_
        refine r_ldc (v := 65535) kw_X7_191 dX7_tryThing_212 ?_
        obtain ⟨⟨xq26, hq27⟩, exq26, hm⟩ := am_bs hm
        try dsimp only at hm
        refine r_cV1 [.int 1, .int c, .int 65535] (ct_X7_partsBy l exq26) vm_X7_192 (cs_X7_partsBy exq26) (by decide) ⟨rfl, rfl⟩ rfl (Nat.le_of_ble_eq_true rfl) dX7_tryThing_214 ?_
        refine r_iload 0 dX7_tryThing_217 rfl ?_
        refine r_icmp_lt 226 dX7_tryThing_219 (by decide) (fun q => ?_) (fun q => ?_)
        · rw [if_pos q] at hm
          refine r_iconst 0 dX7_tryThing_226 (by decide) ?_
          cases hm
          exact r_lv [] _ rfl HJ
        · rw [if_neg q] at hm
          refine r_iconst 1 dX7_tryThing_222 (by decide) ?_
          refine r_goto 227 dX7_tryThing_223 (by decide) ?_
          cases hm
          exact r_lv [] _ rfl HJ
  rw [if_neg q5] at hm
  refine r_tsw 228 dX7_tryThing_13 (Or.inr ⟨by have e1 := lv_neT q1 (show (1 : Int32).toInt = 1 from by decide); have e2 := lv_neT q2 (show (2 : Int32).toInt = 2 from by decide); have e3 := lv_neT q3 (show (3 : Int32).toInt = 3 from by decide); have e4 := lv_neT q4 (show (4 : Int32).toInt = 4 from by decide); have e5 := lv_neT q5 (show (5 : Int32).toInt = 5 from by decide); omega, by decide⟩) ?_
  refine r_iconst 0 dX7_tryThing_228 (by decide) ?_
  cases hm
  exact r_zreturn false dX7_tryThing_229 rfl (by decide) HK
def lo_X7_judge_36 (f : Nat) (a0 : Nat) (a1 : Int32) (a2 : Int64) : Nat → Int32 → am_H → Option ((am_H) ⊕ (Int32 × am_H))
  | 0, _, _ => none
  | n + 1, a4, h =>
  (if a1 ≤ a4 then
  (some (.inl h))
  else (Option.bind (mi_X7_byFives f h ((a1 - 1) - a4)) fun xq1 =>
  Option.bind (am_nzl xq1) fun uq2 =>
  Option.bind (mi_X7_tryThing f h a0 (((((a2 / xq1) - (a2 / xq1) / 100000 * 100000) : Int64).toInt32) / 10000) ((((((a2 / xq1) - (a2 / xq1) / 100000 * 100000) : Int64).toInt32) / 100) - (((((a2 / xq1) - (a2 / xq1) / 100000 * 100000) : Int64).toInt32) / 100) / 100 * 100) (((((a2 / xq1) - (a2 / xq1) / 100000 * 100000) : Int64).toInt32) - ((((a2 / xq1) - (a2 / xq1) / 100000 * 100000) : Int64).toInt32) / 100 * 100)) fun (xq3, hq4) =>
  (if xq3 = true then
  (lo_X7_judge_36 f a0 a1 a2 n (a4 + 1) hq4)
  else (some (.inr (a4, hq4))))))
set_option maxHeartbeats 4000000 in
set_option maxRecDepth 100000 in
theorem ll_X7_judge_36 (l : Launch) (f : Nat) (a0 : Nat) (a1 : Int32) (a2 : Int64) (K : Option Value → am_H → Prop) : ∀ (n : Nat) (a4 : Int32) (h : am_H) (w : ((am_H) ⊕ (Int32 × am_H))), lo_X7_judge_36 f a0 a1 a2 n a4 h = some w →
    (∀ (z : am_H), w = .inl z → am_R l yX7_judge cX7_judge 6 (some .int) rm_X7_judge (fun _ _ _ => True) 0 0 95 [] [] z K) → (∀ (z : Int32 × am_H), w = .inr z → K (some (.int z.1)) z.2) →
    am_R l yX7_judge cX7_judge 6 (some .int) rm_X7_judge (fun _ _ _ => True) 0 0 36 [(0, .ref a0), (1, .int a1), (2, .long a2), (4, .int a4)] [] h K := by
  intro n
  induction n with
  | zero =>
    intro a4 h w hm kE kR
    cases hm
  | succ n ih =>
    intro a4 h w hm kE kR
    rw [lo_X7_judge_36.eq_2] at hm
    refine r_iload 3 dX7_judge_36 rfl ?_
    refine r_iload_n 1 dX7_judge_38 rfl ?_
    refine r_icmp_ge 95 dX7_judge_39 (by decide) (fun q => ?_) (fun q => ?_)
    · rw [if_pos q] at hm
      cases hm
      exact r_lv [] _ rfl (kE _ rfl)
    · rw [if_neg q] at hm
      refine r_lload_n 2 dX7_judge_42 rfl ?_
      refine r_iload_n 1 dX7_judge_43 rfl ?_
      refine r_iconst 1 dX7_judge_44 (by decide) ?_
      refine r_isub dX7_judge_45 ?_
      refine r_iload 3 dX7_judge_46 rfl ?_
      refine r_isub dX7_judge_48 ?_
      obtain ⟨xq1, exq1, hm⟩ := am_bs hm
      refine r_cS1 [.int ((a1 - 1) - a4)] (ct_X7_byFives l exq1) sm_X7_237 (by decide) ⟨rfl, rfl⟩ rfl (Nat.le_of_ble_eq_true rfl) dX7_judge_49 ?_
      obtain ⟨uq2, euq2, hm⟩ := am_bs hm
      refine r_ldiv dX7_judge_52 (am_nzl_of euq2) ?_
      refine r_ldc2 (v := 100000) kw_X7_233 dX7_judge_53 ?_
      refine r_lrem dX7_judge_56 (by decide) ?_
      refine r_l2i dX7_judge_57 ?_
      refine r_istore [(5, .int ((((a2 / xq1) - (a2 / xq1) / 100000 * 100000) : Int64).toInt32)), (0, .ref a0), (1, .int a1), (2, .long a2), (4, .int a4)] dX7_judge_58 (by decide) rfl ?_
      refine r_aload_n 1 dX7_judge_60 rfl ?_
      refine r_iload 0 dX7_judge_61 rfl ?_
      refine r_sipush 10000 dX7_judge_63 (by decide) ?_
      refine r_idiv dX7_judge_66 (by decide) ?_
      refine r_iload 0 dX7_judge_67 rfl ?_
      refine r_bipush 100 dX7_judge_69 (by decide) ?_
      refine r_idiv dX7_judge_71 (by decide) ?_
      refine r_bipush 100 dX7_judge_72 (by decide) ?_
      refine r_irem dX7_judge_74 (by decide) ?_
      refine r_iload 0 dX7_judge_75 rfl ?_
      refine r_bipush 100 dX7_judge_77 (by decide) ?_
      refine r_irem dX7_judge_79 (by decide) ?_
      obtain ⟨⟨xq3, hq4⟩, exq3, hm⟩ := am_bs hm
      try dsimp only at hm
      refine r_cV1 [.int (((((a2 / xq1) - (a2 / xq1) / 100000 * 100000) : Int64).toInt32) / 10000), .int ((((((a2 / xq1) - (a2 / xq1) / 100000 * 100000) : Int64).toInt32) / 100) - (((((a2 / xq1) - (a2 / xq1) / 100000 * 100000) : Int64).toInt32) / 100) / 100 * 100), .int (((((a2 / xq1) - (a2 / xq1) / 100000 * 100000) : Int64).toInt32) - ((((a2 / xq1) - (a2 / xq1) / 100000 * 100000) : Int64).toInt32) / 100 * 100)] (ct_X7_tryThing l exq3) vm_X7_244 (cs_X7_tryThing exq3) (by decide) ⟨rfl, rfl⟩ rfl (Nat.le_of_ble_eq_true rfl) dX7_judge_80 ?_
      refine r_if_ne 89 dX7_judge_83 (by decide) (fun q => ?_) (fun q => ?_)
      · rw [if_pos (show xq3 = true from am_b1 q)] at hm
        refine r_inc 1 4 [(4, .int (a4 + 1)), (5, .int ((((a2 / xq1) - (a2 / xq1) / 100000 * 100000) : Int64).toInt32)), (0, .ref a0), (1, .int a1), (2, .long a2)] dX7_judge_89 (by decide) rfl (by decide) rfl ?_
        refine r_goto 36 dX7_judge_92 (by decide) ?_
        exact r_lv [2, 3, 4, 0] _ rfl (ih (a4 + 1) hq4 _ hm kE kR)
      · rw [if_neg (show ¬ xq3 = true from by rw [am_b0 q]; decide)] at hm
        refine r_iload 4 dX7_judge_86 rfl ?_
        cases hm
        exact r_ireturn dX7_judge_88 rfl (by decide) (kR _ rfl)
def mi_X7_judge (f : Nat) (h : am_H) (p : Nat) (a : Int32) (b : Int64) : Option (Int32 × am_H) :=
  Option.bind (am_cls h 7 p) fun _n =>
  Option.bind (mi_X7_in f h ((a : Int32).toInt64) 1 3) fun xq1 =>
  (if xq1 = true then
  (Option.bind (mi_X7_byFives f h a) fun xq2 =>
  Option.bind (mi_X7_in f h b 0 (xq2 - 1)) fun xq3 =>
  (if xq3 = true then
  (Option.bind (mi_X7_layTrial f h p) fun hq5 =>
  Option.bind (lo_X7_judge_36 f p a b f 0 hq5) fun wq7 => match wq7 with
  | .inl hq6 => (some ((-9), hq6))
  | .inr (rq8, hq9) => (some (rq8, hq9)))
  else (some ((-2), h))))
  else (some ((-2), h)))
theorem cs_X7_judge {f : Nat} {h : am_H} {p : Nat} {a : Int32} {b : Int64} {z : (Int32 × am_H)} (hm : mi_X7_judge f h p a b = some z) : ∃ n, h.1[p]? = some (7, n) := by
  unfold mi_X7_judge at hm
  obtain ⟨n, hn, -⟩ := am_bs hm
  exact ⟨n, am_cls_of hn⟩
set_option maxHeartbeats 4000000 in
set_option maxRecDepth 100000 in
theorem ct_X7_judge (l : Launch) {f : Nat} {h : am_H} {p : Nat} {a : Int32} {b : Int64} {r : Int32} {h2 : am_H} (hm : mi_X7_judge f h p a b = some (r, h2)) : am_Ct l yX7_judge cX7_judge 6 (some .int) rm_X7_judge [.ref p, .int a, .long b] h (some (.int r)) h2 := by
  refine am_met2 [(0, .ref p), (1, .int a), (2, .long b)] (by decide) (Nat.le_of_ble_eq_true rfl) rfl ?_
  generalize hK : (fun (v : Option Value) (h3 : am_H) => v = (some (.int r)) ∧ h3 = h2) = K
  have HK : K (some (.int r)) h2 := by rw [← hK]; exact ⟨rfl, rfl⟩
  clear hK
  unfold mi_X7_judge at hm
  obtain ⟨_n, _hn, hm⟩ := am_bs hm
  refine r_iload_n 1 dX7_judge_0 rfl ?_
  refine r_i2l dX7_judge_1 ?_
  refine r_lconst 1 dX7_judge_2 (by decide) ?_
  refine r_ldc2 (v := 3) kw_X7_235 dX7_judge_3 ?_
  obtain ⟨xq1, exq1, hm⟩ := am_bs hm
  refine r_cS1 [.long ((a : Int32).toInt64), .long 1, .long 3] (ct_X7_in l exq1) sm_X7_58 (by decide) ⟨rfl, rfl⟩ rfl (Nat.le_of_ble_eq_true rfl) dX7_judge_6 ?_
  refine r_if_eq 26 dX7_judge_9 (by decide) (fun q => ?_) (fun q => ?_)
  · rw [if_neg (show ¬ xq1 = true from by rw [am_b0 q]; decide)] at hm
    refine r_bipush (-2) dX7_judge_26 (by decide) ?_
    cases hm
    exact r_ireturn dX7_judge_28 rfl (by decide) HK
  · rw [if_pos (show xq1 = true from am_b1 q)] at hm
    refine r_lload_n 2 dX7_judge_12 rfl ?_
    refine r_lconst 0 dX7_judge_13 (by decide) ?_
    refine r_iload_n 1 dX7_judge_14 rfl ?_
    obtain ⟨xq2, exq2, hm⟩ := am_bs hm
    refine r_cS1 [.int a] (ct_X7_byFives l exq2) sm_X7_237 (by decide) ⟨rfl, rfl⟩ rfl (Nat.le_of_ble_eq_true rfl) dX7_judge_15 ?_
    refine r_lconst 1 dX7_judge_18 (by decide) ?_
    refine r_lsub dX7_judge_19 ?_
    obtain ⟨xq3, exq3, hm⟩ := am_bs hm
    refine r_cS1 [.long b, .long 0, .long (xq2 - 1)] (ct_X7_in l exq3) sm_X7_58 (by decide) ⟨rfl, rfl⟩ rfl (Nat.le_of_ble_eq_true rfl) dX7_judge_20 ?_
    refine r_if_ne 29 dX7_judge_23 (by decide) (fun q => ?_) (fun q => ?_)
    · rw [if_pos (show xq3 = true from am_b1 q)] at hm
      refine r_aload_n 0 dX7_judge_29 rfl ?_
      obtain ⟨hq5, exq4, hm⟩ := am_bs hm
      refine r_cV0 [] (ct_X7_layTrial l exq4) vm_X7_241 (cs_X7_layTrial exq4) (by decide) ⟨rfl, rfl⟩ rfl (Nat.le_of_ble_eq_true rfl) dX7_judge_30 ?_
      refine r_iconst 0 dX7_judge_33 (by decide) ?_
      refine r_istore [(4, .int 0), (0, .ref p), (1, .int a), (2, .long b)] dX7_judge_34 (by decide) rfl ?_
      obtain ⟨wq7, ew, hm⟩ := am_bs hm
      refine r_lv [1, 2, 3, 0] _ rfl (ll_X7_judge_36 l f p a b _ f 0 hq5 _ ew (fun z q => ?_) (fun z q => ?_))
      · obtain ⟨hq6, rfl⟩ : ∃ x, x = z := ⟨_, rfl⟩
        subst q
        dsimp only at hm
        refine r_bipush (-9) dX7_judge_95 (by decide) ?_
        cases hm
        exact r_ireturn dX7_judge_97 rfl (by decide) HK
      · subst q
        obtain ⟨rq8, hq9⟩ := z
        dsimp only at hm
        cases hm
        exact HK
    · rw [if_neg (show ¬ xq3 = true from by rw [am_b0 q]; decide)] at hm
      refine r_bipush (-2) dX7_judge_26 (by decide) ?_
      cases hm
      exact r_ireturn dX7_judge_28 rfl (by decide) HK
def lo_X7_keep_21 (f : Nat) (a0 : Nat) (a1 : Int32) : Nat → Int32 → am_H → Option (am_H)
  | 0, _, _ => none
  | n + 1, a2, h =>
  (if 17 ≤ a2 then
  (some h)
  else (Option.bind (am_gr h 7 a0 19) fun xq1 =>
  Option.bind (am_gr h 7 a0 0) fun xq2 =>
  Option.bind (am_li h 9 xq2 a2) fun xq3 =>
  Option.bind (am_si h 9 xq1 (((17 : Int32) * a1) + a2) xq3) fun hq4 =>
  lo_X7_keep_21 f a0 a1 n (a2 + 1) hq4))
set_option maxHeartbeats 4000000 in
set_option maxRecDepth 100000 in
theorem ll_X7_keep_21 (l : Launch) (f : Nat) (a0 : Nat) (a1 : Int32) (K : Option Value → am_H → Prop) : ∀ (n : Nat) (a2 : Int32) (h : am_H) (z : am_H), lo_X7_keep_21 f a0 a1 n a2 h = some z →
    am_R l yX7_keep cX7_keep 3 (some .int) rm_X7_keep (fun _ _ _ => True) 0 0 50 [(0, .ref a0)] [] z K →
    am_R l yX7_keep cX7_keep 3 (some .int) rm_X7_keep (fun _ _ _ => True) 0 0 21 [(0, .ref a0), (1, .int a1), (2, .int a2)] [] h K := by
  intro n
  induction n with
  | zero =>
    intro a2 h z hm kE
    cases hm
  | succ n ih =>
    intro a2 h z hm kE
    rw [lo_X7_keep_21.eq_2] at hm
    refine r_iload_n 2 dX7_keep_21 rfl ?_
    refine r_bipush 17 dX7_keep_22 (by decide) ?_
    refine r_icmp_ge 50 dX7_keep_24 (by decide) (fun q => ?_) (fun q => ?_)
    · rw [if_pos q] at hm
      cases hm
      exact r_lv [0] _ rfl kE
    · rw [if_neg q] at hm
      refine r_aload_n 0 dX7_keep_27 rfl ?_
      obtain ⟨xq1, exq1, hm⟩ := am_bs hm
      refine r_getr exq1 fl_X7_53 rfl dX7_keep_28 ?_
      refine r_bipush 17 dX7_keep_31 (by decide) ?_
      refine r_iload_n 1 dX7_keep_33 rfl ?_
      refine r_imul dX7_keep_34 ?_
      refine r_iload_n 2 dX7_keep_35 rfl ?_
      refine r_iadd dX7_keep_36 ?_
      refine r_aload_n 0 dX7_keep_37 rfl ?_
      obtain ⟨xq2, exq2, hm⟩ := am_bs hm
      refine r_getr exq2 fl_X7_7 rfl dX7_keep_38 ?_
      refine r_iload_n 2 dX7_keep_41 rfl ?_
      obtain ⟨xq3, exq3, hm⟩ := am_bs hm
      refine r_iald exq3 dX7_keep_42 ?_
      obtain ⟨hq4, ehq4, hm⟩ := am_bs hm
      refine r_iast ehq4 dX7_keep_43 ?_
      refine r_inc 1 2 [(2, .int (a2 + 1)), (0, .ref a0), (1, .int a1)] dX7_keep_44 (by decide) rfl (by decide) rfl ?_
      refine r_goto 21 dX7_keep_47 (by decide) ?_
      exact r_lv [1, 2, 0] _ rfl (ih (a2 + 1) hq4 _ hm kE)
def mi_X7_keep (f : Nat) (h : am_H) (p : Nat) (a : Int32) : Option (Int32 × am_H) :=
  Option.bind (am_cls h 7 p) fun _n =>
  Option.bind (mi_X7_in f h ((a : Int32).toInt64) 0 1) fun xq1 =>
  (if xq1 = true then
  (Option.bind (am_gr h 7 p 18) fun xq2 =>
  Option.bind (am_si h 10 xq2 a (vp_nar .boolean 1)) fun hq3 =>
  Option.bind (lo_X7_keep_21 f p a f 0 hq3) fun hq4 =>
  Option.bind (mi_X7_many f hq4 p 0) fun xq5 =>
  some (xq5, hq4))
  else (some ((-1), h)))
theorem cs_X7_keep {f : Nat} {h : am_H} {p : Nat} {a : Int32} {z : (Int32 × am_H)} (hm : mi_X7_keep f h p a = some z) : ∃ n, h.1[p]? = some (7, n) := by
  unfold mi_X7_keep at hm
  obtain ⟨n, hn, -⟩ := am_bs hm
  exact ⟨n, am_cls_of hn⟩
set_option maxHeartbeats 4000000 in
set_option maxRecDepth 100000 in
theorem ct_X7_keep (l : Launch) {f : Nat} {h : am_H} {p : Nat} {a : Int32} {r : Int32} {h2 : am_H} (hm : mi_X7_keep f h p a = some (r, h2)) : am_Ct l yX7_keep cX7_keep 3 (some .int) rm_X7_keep [.ref p, .int a] h (some (.int r)) h2 := by
  refine am_met2 [(0, .ref p), (1, .int a)] (by decide) (Nat.le_of_ble_eq_true rfl) rfl ?_
  generalize hK : (fun (v : Option Value) (h3 : am_H) => v = (some (.int r)) ∧ h3 = h2) = K
  have HK : K (some (.int r)) h2 := by rw [← hK]; exact ⟨rfl, rfl⟩
  clear hK
  unfold mi_X7_keep at hm
  obtain ⟨_n, _hn, hm⟩ := am_bs hm
  refine r_iload_n 1 dX7_keep_0 rfl ?_
  refine r_i2l dX7_keep_1 ?_
  refine r_lconst 0 dX7_keep_2 (by decide) ?_
  refine r_lconst 1 dX7_keep_3 (by decide) ?_
  obtain ⟨xq1, exq1, hm⟩ := am_bs hm
  refine r_cS1 [.long ((a : Int32).toInt64), .long 0, .long 1] (ct_X7_in l exq1) sm_X7_58 (by decide) ⟨rfl, rfl⟩ rfl (Nat.le_of_ble_eq_true rfl) dX7_keep_4 ?_
  refine r_if_ne 12 dX7_keep_7 (by decide) (fun q => ?_) (fun q => ?_)
  · rw [if_pos (show xq1 = true from am_b1 q)] at hm
    refine r_aload_n 0 dX7_keep_12 rfl ?_
    obtain ⟨xq2, exq2, hm⟩ := am_bs hm
    refine r_getr exq2 fl_X7_49 rfl dX7_keep_13 ?_
    refine r_iload_n 1 dX7_keep_16 rfl ?_
    refine r_iconst 1 dX7_keep_17 (by decide) ?_
    obtain ⟨hq3, ehq3, hm⟩ := am_bs hm
    refine r_zast ehq3 dX7_keep_18 ?_
    refine r_iconst 0 dX7_keep_19 (by decide) ?_
    refine r_istore_n [(2, .int 0), (0, .ref p), (1, .int a)] dX7_keep_20 (by decide) rfl ?_
    obtain ⟨hq4, ew, hm⟩ := am_bs hm
    try dsimp only at hm
    refine r_lv [1, 2, 0] _ rfl (ll_X7_keep_21 l f p a _ f 0 hq3 _ ew ?_)
    refine r_aload_n 0 dX7_keep_50 rfl ?_
    refine r_iconst 0 dX7_keep_51 (by decide) ?_
    obtain ⟨xq5, exq5, hm⟩ := am_bs hm
    refine r_cV1 [.int 0] (ct_X7_many l exq5) vm_X7_105 (cs_X7_many exq5) (by decide) ⟨rfl, rfl⟩ rfl (Nat.le_of_ble_eq_true rfl) dX7_keep_52 ?_
    cases hm
    exact r_ireturn dX7_keep_55 rfl (by decide) HK
  · rw [if_neg (show ¬ xq1 = true from by rw [am_b0 q]; decide)] at hm
    refine r_iconst (-1) dX7_keep_10 (by decide) ?_
    cases hm
    exact r_ireturn dX7_keep_11 rfl (by decide) HK
def mi_X7_knot (f : Nat) (h : am_H) (p : Nat) (a : Int32) (b : Int32) (c : Int32) : Option (Int32 × am_H) :=
  Option.bind (am_cls h 7 p) fun _n =>
  Option.bind (mi_X7_isKnot f h a) fun xq1 =>
  (if xq1 = true then
  (Option.bind (mi_X7_isTime f h b) fun xq2 =>
  (if xq2 = true then
  (Option.bind (mi_X7_in f h ((c : Int32).toInt64) 0 2) fun xq3 =>
  (if xq3 = true then
  (Option.bind (mi_X7_walkTo f h p ((16 : Int32) + b)) fun (xq4, hq5) =>
  Option.bind ((if c = 0 then
  (Option.bind (mi_X7_rootOf f hq5 p a) fun xq8 =>
  some xq8)
  else ((if c = 1 then
  (Option.bind (mi_X7_depthAt f hq5 p a) fun xq9 =>
  some xq9)
  else (Option.bind (am_gr hq5 7 p 8) fun xq10 =>
  Option.bind (mi_X7_rootOf f hq5 p a) fun xq11 =>
  Option.bind (am_li hq5 9 xq10 xq11) fun xq12 =>
  some xq12))))) fun jq7 =>
  some (jq7, hq5))
  else (some ((-2), h))))
  else (some ((-1), h))))
  else (some ((-1), h)))
theorem cs_X7_knot {f : Nat} {h : am_H} {p : Nat} {a : Int32} {b : Int32} {c : Int32} {z : (Int32 × am_H)} (hm : mi_X7_knot f h p a b c = some z) : ∃ n, h.1[p]? = some (7, n) := by
  unfold mi_X7_knot at hm
  obtain ⟨n, hn, -⟩ := am_bs hm
  exact ⟨n, am_cls_of hn⟩
set_option maxHeartbeats 4000000 in
set_option maxRecDepth 100000 in
theorem ct_X7_knot (l : Launch) {f : Nat} {h : am_H} {p : Nat} {a : Int32} {b : Int32} {c : Int32} {r : Int32} {h2 : am_H} (hm : mi_X7_knot f h p a b c = some (r, h2)) : am_Ct l yX7_knot cX7_knot 4 (some .int) rm_X7_knot [.ref p, .int a, .int b, .int c] h (some (.int r)) h2 := by
  refine am_met2 [(0, .ref p), (1, .int a), (2, .int b), (3, .int c)] (by decide) (Nat.le_of_ble_eq_true rfl) rfl ?_
  generalize hK : (fun (v : Option Value) (h3 : am_H) => v = (some (.int r)) ∧ h3 = h2) = K
  have HK : K (some (.int r)) h2 := by rw [← hK]; exact ⟨rfl, rfl⟩
  clear hK
  unfold mi_X7_knot at hm
  obtain ⟨_n, _hn, hm⟩ := am_bs hm
  refine r_iload_n 1 dX7_knot_0 rfl ?_
  obtain ⟨xq1, exq1, hm⟩ := am_bs hm
  refine r_cS1 [.int a] (ct_X7_isKnot l exq1) sm_X7_118 (by decide) ⟨rfl, rfl⟩ rfl (Nat.le_of_ble_eq_true rfl) dX7_knot_1 ?_
  refine r_if_eq 14 dX7_knot_4 (by decide) (fun q => ?_) (fun q => ?_)
  · rw [if_neg (show ¬ xq1 = true from by rw [am_b0 q]; decide)] at hm
    refine r_iconst (-1) dX7_knot_14 (by decide) ?_
    cases hm
    exact r_ireturn dX7_knot_15 rfl (by decide) HK
  · rw [if_pos (show xq1 = true from am_b1 q)] at hm
    refine r_iload_n 2 dX7_knot_7 rfl ?_
    obtain ⟨xq2, exq2, hm⟩ := am_bs hm
    refine r_cS1 [.int b] (ct_X7_isTime l exq2) sm_X7_122 (by decide) ⟨rfl, rfl⟩ rfl (Nat.le_of_ble_eq_true rfl) dX7_knot_8 ?_
    refine r_if_ne 16 dX7_knot_11 (by decide) (fun q => ?_) (fun q => ?_)
    · rw [if_pos (show xq2 = true from am_b1 q)] at hm
      refine r_iload_n 3 dX7_knot_16 rfl ?_
      refine r_i2l dX7_knot_17 ?_
      refine r_lconst 0 dX7_knot_18 (by decide) ?_
      refine r_ldc2 (v := 2) kw_X7_221 dX7_knot_19 ?_
      obtain ⟨xq3, exq3, hm⟩ := am_bs hm
      refine r_cS1 [.long ((c : Int32).toInt64), .long 0, .long 2] (ct_X7_in l exq3) sm_X7_58 (by decide) ⟨rfl, rfl⟩ rfl (Nat.le_of_ble_eq_true rfl) dX7_knot_22 ?_
      refine r_if_ne 31 dX7_knot_25 (by decide) (fun q => ?_) (fun q => ?_)
      · rw [if_pos (show xq3 = true from am_b1 q)] at hm
        refine r_aload_n 0 dX7_knot_31 rfl ?_
        refine r_bipush 16 dX7_knot_32 (by decide) ?_
        refine r_iload_n 2 dX7_knot_34 rfl ?_
        refine r_iadd dX7_knot_35 ?_
        obtain ⟨⟨xq4, hq5⟩, exq4, hm⟩ := am_bs hm
        try dsimp only at hm
        refine r_cV1 [.int ((16 : Int32) + b)] (ct_X7_walkTo l exq4) vm_X7_203 (cs_X7_walkTo exq4) (by decide) ⟨rfl, rfl⟩ rfl (Nat.le_of_ble_eq_true rfl) dX7_knot_36 ?_
        refine r_pop dX7_knot_39 rfl ?_
        refine r_iload_n 3 dX7_knot_40 rfl ?_
        obtain ⟨jq7, hw, hm⟩ := am_bs hm
        try dsimp only at hm
        have HJ : am_R l yX7_knot cX7_knot 4 (some .int) rm_X7_knot (fun _ _ _ => True) 0 0 75 [] [.int jq7] hq5 K := by
          cases hm
          exact r_ireturn dX7_knot_75 rfl (by decide) HK
        clear hm
        have hm := hw
        clear hw
        refine r_if_ne 52 dX7_knot_41 (by decide) (fun q => ?_) (fun q => ?_)
        · rw [if_neg q] at hm
          refine r_iload_n 3 dX7_knot_52 rfl ?_
          refine r_iconst 1 dX7_knot_53 (by decide) ?_
          refine r_icmp_ne 65 dX7_knot_54 (by decide) (fun q => ?_) (fun q => ?_)
          · rw [if_neg q] at hm
            refine r_aload_n 0 dX7_knot_65 rfl ?_
            obtain ⟨xq10, exq10, hm⟩ := am_bs hm
            refine r_getr exq10 fl_X7_25 rfl dX7_knot_66 ?_
            refine r_aload_n 0 dX7_knot_69 rfl ?_
            refine r_iload_n 1 dX7_knot_70 rfl ?_
            obtain ⟨xq11, exq11, hm⟩ := am_bs hm
            refine r_cV1 [.int a] (ct_X7_rootOf l exq11) vm_X7_176 (cs_X7_rootOf exq11) (by decide) ⟨rfl, rfl⟩ rfl (Nat.le_of_ble_eq_true rfl) dX7_knot_71 ?_
            obtain ⟨xq12, exq12, hm⟩ := am_bs hm
            refine r_iald exq12 dX7_knot_74 ?_
            cases hm
            exact r_lv [] _ rfl HJ
          · rw [if_pos q] at hm
            refine r_aload_n 0 dX7_knot_57 rfl ?_
            refine r_iload_n 1 dX7_knot_58 rfl ?_
            obtain ⟨xq9, exq9, hm⟩ := am_bs hm
            refine r_cV1 [.int a] (ct_X7_depthAt l exq9) vm_X7_206 (cs_X7_depthAt exq9) (by decide) ⟨rfl, rfl⟩ rfl (Nat.le_of_ble_eq_true rfl) dX7_knot_59 ?_
            refine r_goto 75 dX7_knot_62 (by decide) ?_
            cases hm
            exact r_lv [] _ rfl HJ
        · rw [if_pos q] at hm
          refine r_aload_n 0 dX7_knot_44 rfl ?_
          refine r_iload_n 1 dX7_knot_45 rfl ?_
          obtain ⟨xq8, exq8, hm⟩ := am_bs hm
          refine r_cV1 [.int a] (ct_X7_rootOf l exq8) vm_X7_176 (cs_X7_rootOf exq8) (by decide) ⟨rfl, rfl⟩ rfl (Nat.le_of_ble_eq_true rfl) dX7_knot_46 ?_
          refine r_goto 75 dX7_knot_49 (by decide) ?_
          cases hm
          exact r_lv [] _ rfl HJ
      · rw [if_neg (show ¬ xq3 = true from by rw [am_b0 q]; decide)] at hm
        refine r_bipush (-2) dX7_knot_28 (by decide) ?_
        cases hm
        exact r_ireturn dX7_knot_30 rfl (by decide) HK
    · rw [if_neg (show ¬ xq2 = true from by rw [am_b0 q]; decide)] at hm
      refine r_iconst (-1) dX7_knot_14 (by decide) ?_
      cases hm
      exact r_ireturn dX7_knot_15 rfl (by decide) HK
def lo_X7_ones_4 (f : Nat) (h : am_H) (a0 : Int32) : Nat → Int32 → Int32 → Option (Int32)
  | 0, _, _ => none
  | n + 1, a1, a2 =>
  (if 16 ≤ a2 then
  (some a1)
  else (lo_X7_ones_4 f h a0 n (a1 + ((a0 >>> (a2 &&& 31)) &&& 1)) (a2 + 1)))
set_option maxHeartbeats 4000000 in
set_option maxRecDepth 100000 in
theorem ll_X7_ones_4 (l : Launch) (f : Nat) (h : am_H) (a0 : Int32) (K : Option Value → am_H → Prop) : ∀ (n : Nat) (a1 : Int32) (a2 : Int32) (z : Int32), lo_X7_ones_4 f h a0 n a1 a2 = some z →
    am_R l yX7_ones cX7_ones 3 (some .int) rm_X7_ones (fun _ _ _ => True) 0 0 24 [(1, .int z)] [] h K →
    am_R l yX7_ones cX7_ones 3 (some .int) rm_X7_ones (fun _ _ _ => True) 0 0 4 [(0, .int a0), (1, .int a1), (2, .int a2)] [] h K := by
  intro n
  induction n with
  | zero =>
    intro a1 a2 z hm kE
    cases hm
  | succ n ih =>
    intro a1 a2 z hm kE
    rw [lo_X7_ones_4.eq_2] at hm
    refine r_iload_n 2 dX7_ones_4 rfl ?_
    refine r_bipush 16 dX7_ones_5 (by decide) ?_
    refine r_icmp_ge 24 dX7_ones_7 (by decide) (fun q => ?_) (fun q => ?_)
    · rw [if_pos q] at hm
      cases hm
      exact r_lv [1] _ rfl kE
    · rw [if_neg q] at hm
      refine r_iload_n 1 dX7_ones_10 rfl ?_
      refine r_iload_n 0 dX7_ones_11 rfl ?_
      refine r_iload_n 2 dX7_ones_12 rfl ?_
      refine r_ishr dX7_ones_13 ?_
      refine r_iconst 1 dX7_ones_14 (by decide) ?_
      refine r_iand dX7_ones_15 ?_
      refine r_iadd dX7_ones_16 ?_
      refine r_istore_n [(1, .int (a1 + ((a0 >>> (a2 &&& 31)) &&& 1))), (0, .int a0), (2, .int a2)] dX7_ones_17 (by decide) rfl ?_
      refine r_inc 1 2 [(2, .int (a2 + 1)), (1, .int (a1 + ((a0 >>> (a2 &&& 31)) &&& 1))), (0, .int a0)] dX7_ones_18 (by decide) rfl (by decide) rfl ?_
      refine r_goto 4 dX7_ones_21 (by decide) ?_
      exact r_lv [2, 1, 0] _ rfl (ih (a1 + ((a0 >>> (a2 &&& 31)) &&& 1)) (a2 + 1) _ hm kE)
def mi_X7_ones (f : Nat) (h : am_H) (a : Int32) : Option Int32 :=
  Option.bind (lo_X7_ones_4 f h a f 0 0) fun oq1 =>
  some oq1
set_option maxHeartbeats 4000000 in
set_option maxRecDepth 100000 in
theorem ct_X7_ones (l : Launch) {f : Nat} {h : am_H} {a : Int32} {r : Int32} (hm : mi_X7_ones f h a = some r) : am_Ct l yX7_ones cX7_ones 3 (some .int) rm_X7_ones [.int a] h (some (.int r)) h := by
  refine am_met2 [(0, .int a)] (by decide) (Nat.le_of_ble_eq_true rfl) rfl ?_
  generalize hK : (fun (v : Option Value) (h3 : am_H) => v = (some (.int r)) ∧ h3 = h) = K
  have HK : K (some (.int r)) h := by rw [← hK]; exact ⟨rfl, rfl⟩
  clear hK
  unfold mi_X7_ones at hm
  refine r_iconst 0 dX7_ones_0 (by decide) ?_
  refine r_istore_n [(1, .int 0), (0, .int a)] dX7_ones_1 (by decide) rfl ?_
  refine r_iconst 0 dX7_ones_2 (by decide) ?_
  refine r_istore_n [(2, .int 0), (1, .int 0), (0, .int a)] dX7_ones_3 (by decide) rfl ?_
  obtain ⟨oq1, ew, hm⟩ := am_bs hm
  try dsimp only at hm
  refine r_lv [2, 1, 0] _ rfl (ll_X7_ones_4 l f h a _ f 0 0 _ ew ?_)
  refine r_iload_n 0 dX7_ones_24 rfl ?_
  cases hm
  exact r_ireturn dX7_ones_25 rfl (by decide) HK
def lo_X7_least_69 (f : Nat) (a0 : Nat) (a1 : Int32) (a2 : Int32) (a3 : Int32) (a4 : Int32) (a5 : Int32) : Nat → Int32 → Int32 → am_H → Option (Int32 × am_H)
  | 0, _, _, _ => none
  | n + 1, a6, a7, h =>
  Option.bind (mi_X7_many f h a0 0) fun xq1 =>
  (if ((1 : Int32) <<< (xq1 &&& 31)) ≤ a7 then
  (some (a6, h))
  else (Option.bind ((if (a7 &&& (a5 ^^^ (-1))) = 0 then
  (Option.bind (mi_X7_ones f h a7) fun xq4 =>
  Option.bind (mi_X7_ones f h a6) fun xq5 =>
  Option.bind ((if xq4 < xq5 then
  (some true)
  else (Option.bind (mi_X7_ones f h a7) fun xq7 =>
  Option.bind (mi_X7_ones f h a6) fun xq8 =>
  (if xq7 = xq8 then
  ((if a6 ≤ a7 then
  (some false)
  else (some true)))
  else (some false))))) fun tq6 =>
  (if tq6 = true then
  (Option.bind (mi_X7_areJoined f h a0 0 a1 a2 a3 ((65535 : Int32) &&& (a7 ^^^ (-1)))) fun (xq9, hq10) =>
  Option.bind ((if xq9 = true then
  (some a6)
  else (some a7))) fun jq12 =>
  some (jq12, hq10))
  else (some (a6, h))))
  else (some (a6, h)))) fun (jq2, hq3) =>
  lo_X7_least_69 f a0 a1 a2 a3 a4 a5 n jq2 (a7 + 1) hq3))
set_option maxHeartbeats 4000000 in
set_option maxRecDepth 100000 in
theorem ll_X7_least_69 (l : Launch) (f : Nat) (a0 : Nat) (a1 : Int32) (a2 : Int32) (a3 : Int32) (a4 : Int32) (a5 : Int32) (K : Option Value → am_H → Prop) : ∀ (n : Nat) (a6 : Int32) (a7 : Int32) (h : am_H) (z : Int32 × am_H), lo_X7_least_69 f a0 a1 a2 a3 a4 a5 n a6 a7 h = some z →
    am_R l yX7_least cX7_least 8 (some .int) rm_X7_least (fun _ _ _ => True) 0 0 157 [(4, .int a4), (6, .int z.1)] [] z.2 K →
    am_R l yX7_least cX7_least 8 (some .int) rm_X7_least (fun _ _ _ => True) 0 0 69 [(0, .ref a0), (1, .int a1), (2, .int a2), (3, .int a3), (4, .int a4), (5, .int a5), (6, .int a6), (7, .int a7)] [] h K := by
  intro n
  induction n with
  | zero =>
    intro a6 a7 h z hm kE
    cases hm
  | succ n ih =>
    intro a6 a7 h z hm kE
    rw [lo_X7_least_69.eq_2] at hm
    refine r_iload 7 dX7_least_69 rfl ?_
    refine r_iconst 1 dX7_least_71 (by decide) ?_
    refine r_aload_n 0 dX7_least_72 rfl ?_
    refine r_iconst 0 dX7_least_73 (by decide) ?_
    obtain ⟨xq1, exq1, hm⟩ := am_bs hm
    refine r_cV1 [.int 0] (ct_X7_many l exq1) vm_X7_105 (cs_X7_many exq1) (by decide) ⟨rfl, rfl⟩ rfl (Nat.le_of_ble_eq_true rfl) dX7_least_74 ?_
    refine r_ishl dX7_least_77 ?_
    refine r_icmp_ge 157 dX7_least_78 (by decide) (fun q => ?_) (fun q => ?_)
    · rw [if_pos q] at hm
      cases hm
      exact r_lv [4, 6] _ rfl kE
    · rw [if_neg q] at hm
      refine r_iload 7 dX7_least_81 rfl ?_
      refine r_iload 5 dX7_least_83 rfl ?_
      refine r_iconst (-1) dX7_least_85 (by decide) ?_
      refine r_ixor dX7_least_86 ?_
      refine r_iand dX7_least_87 ?_
      obtain ⟨⟨jq2, hq3⟩, hw, hm⟩ := am_bs hm
      try dsimp only at hm
      have HJ : am_R l yX7_least cX7_least 8 (some .int) rm_X7_least (fun _ _ _ => True) 0 0 151 [(0, .ref a0), (1, .int a1), (2, .int a2), (3, .int a3), (4, .int a4), (5, .int a5), (6, .int jq2), (7, .int a7)] [] hq3 K := by
        refine r_inc 1 7 [(7, .int (a7 + 1)), (0, .ref a0), (1, .int a1), (2, .int a2), (3, .int a3), (4, .int a4), (5, .int a5), (6, .int jq2)] dX7_least_151 (by decide) rfl (by decide) rfl ?_
        refine r_goto 69 dX7_least_154 (by decide) ?_
        exact r_lv [1, 2, 3, 4, 5, 6, 7, 0] _ rfl (ih jq2 (a7 + 1) hq3 _ hm kE)
      clear hm
      have hm := hw
      clear hw
      refine r_if_ne 151 dX7_least_88 (by decide) (fun q => ?_) (fun q => ?_)
      · rw [if_neg q] at hm
        cases hm
        exact r_lv [0, 1, 2, 3, 4, 5, 6, 7] _ rfl HJ
      · rw [if_pos q] at hm
        refine r_iload 7 dX7_least_91 rfl ?_
        obtain ⟨xq4, exq4, hm⟩ := am_bs hm
        refine r_cS1 [.int a7] (ct_X7_ones l exq4) sm_X7_227 (by decide) ⟨rfl, rfl⟩ rfl (Nat.le_of_ble_eq_true rfl) dX7_least_93 ?_
        refine r_iload 6 dX7_least_96 rfl ?_
        obtain ⟨xq5, exq5, hm⟩ := am_bs hm
        refine r_cS1 [.int a6] (ct_X7_ones l exq5) sm_X7_227 (by decide) ⟨rfl, rfl⟩ rfl (Nat.le_of_ble_eq_true rfl) dX7_least_98 ?_
        obtain ⟨tq6, hw, hm⟩ := am_bs hm
        try dsimp only at hm
        have HA : tq6 = true → am_R l yX7_least cX7_least 8 (some .int) rm_X7_least (fun _ _ _ => True) 0 0 124 [(0, .ref a0), (1, .int a1), (2, .int a2), (3, .int a3), (4, .int a4), (5, .int a5), (6, .int a6), (7, .int a7)] [] h K := by
          intro q
          clear hw
          rw [if_pos q] at hm
          refine r_aload_n 0 dX7_least_124 rfl ?_
          refine r_iconst 0 dX7_least_125 (by decide) ?_
          refine r_iload_n 1 dX7_least_126 rfl ?_
          refine r_iload_n 2 dX7_least_127 rfl ?_
          refine r_iload_n 3 dX7_least_128 rfl ?_
          refine r_ldc (v := 65535) kw_X7_191 dX7_least_129 ?_
          refine r_iload 7 dX7_least_131 rfl ?_
          refine r_iconst (-1) dX7_least_133 (by decide) ?_
          refine r_ixor dX7_least_134 ?_
          refine r_iand dX7_least_135 ?_
          obtain ⟨⟨xq9, hq10⟩, exq9, hm⟩ := am_bs hm
          try dsimp only at hm
          refine r_cV1 [.int 0, .int a1, .int a2, .int a3, .int ((65535 : Int32) &&& (a7 ^^^ (-1)))] (ct_X7_areJoined l exq9) vm_X7_223 (cs_X7_areJoined exq9) (by decide) ⟨rfl, rfl⟩ rfl (Nat.le_of_ble_eq_true rfl) dX7_least_136 ?_
          obtain ⟨jq12, hw, hm⟩ := am_bs hm
          try dsimp only at hm
          have HJ : am_R l yX7_least cX7_least 8 (some .int) rm_X7_least (fun _ _ _ => True) 0 0 149 [(0, .ref a0), (1, .int a1), (2, .int a2), (3, .int a3), (4, .int a4), (5, .int a5), (7, .int a7)] [.int jq12] hq10 K := by
            refine r_istore [(6, .int jq12), (0, .ref a0), (1, .int a1), (2, .int a2), (3, .int a3), (4, .int a4), (5, .int a5), (7, .int a7)] dX7_least_149 (by decide) rfl ?_
            cases hm
            exact r_lv [1, 2, 3, 4, 5, 6, 0, 7] _ rfl HJ
          clear hm
          have hm := hw
          clear hw
          refine r_if_eq 147 dX7_least_139 (by decide) (fun q => ?_) (fun q => ?_)
          · rw [if_neg (show ¬ xq9 = true from by rw [am_b0 q]; decide)] at hm
            refine r_iload 7 dX7_least_147 rfl ?_
            cases hm
            exact r_lv [0, 1, 2, 3, 4, 5, 7] _ rfl HJ
          · rw [if_pos (show xq9 = true from am_b1 q)] at hm
            refine r_iload 6 dX7_least_142 rfl ?_
            refine r_goto 149 dX7_least_144 (by decide) ?_
            cases hm
            exact r_lv [0, 1, 2, 3, 4, 5, 7] _ rfl HJ
        have HB : tq6 = false → am_R l yX7_least cX7_least 8 (some .int) rm_X7_least (fun _ _ _ => True) 0 0 151 [(0, .ref a0), (1, .int a1), (2, .int a2), (3, .int a3), (4, .int a4), (5, .int a5), (6, .int a6), (7, .int a7)] [] h K := by
          intro q
          clear hw
          rw [if_neg (by rw [q]; decide)] at hm
          cases hm
          exact r_lv [0, 1, 2, 3, 4, 5, 6, 7] _ rfl HJ
        clear hm
        have hm := hw
        clear hw
        refine r_icmp_lt 124 dX7_least_101 (by decide) (fun q => ?_) (fun q => ?_)
        · rw [if_pos q] at hm
          cases hm
          exact HA rfl
        · rw [if_neg q] at hm
          refine r_iload 7 dX7_least_104 rfl ?_
          obtain ⟨xq7, exq7, hm⟩ := am_bs hm
          refine r_cS1 [.int a7] (ct_X7_ones l exq7) sm_X7_227 (by decide) ⟨rfl, rfl⟩ rfl (Nat.le_of_ble_eq_true rfl) dX7_least_106 ?_
          refine r_iload 6 dX7_least_109 rfl ?_
          obtain ⟨xq8, exq8, hm⟩ := am_bs hm
          refine r_cS1 [.int a6] (ct_X7_ones l exq8) sm_X7_227 (by decide) ⟨rfl, rfl⟩ rfl (Nat.le_of_ble_eq_true rfl) dX7_least_111 ?_
          refine r_icmp_ne 151 dX7_least_114 (by decide) (fun q => ?_) (fun q => ?_)
          · rw [if_neg q] at hm
            cases hm
            exact HB rfl
          · rw [if_pos q] at hm
            refine r_iload 7 dX7_least_117 rfl ?_
            refine r_iload 6 dX7_least_119 rfl ?_
            refine r_icmp_ge 151 dX7_least_121 (by decide) (fun q => ?_) (fun q => ?_)
            · rw [if_pos q] at hm
              cases hm
              exact HB rfl
            · rw [if_neg q] at hm
              cases hm
              exact HA rfl
def mi_X7_least (f : Nat) (h : am_H) (p : Nat) (a : Int32) (b : Int32) (c : Int32) (d : Int32) : Option (Int32 × am_H) :=
  Option.bind (am_cls h 7 p) fun _n =>
  Option.bind (mi_X7_isKnot f h a) fun xq1 =>
  (if xq1 = true then
  (Option.bind (mi_X7_isKnot f h b) fun xq2 =>
  (if xq2 = true then
  (Option.bind (mi_X7_isTime f h c) fun xq3 =>
  (if xq3 = true then
  ((if a = b then
  (some ((-2), h))
  else (Option.bind (mi_X7_in f h ((d : Int32).toInt64) 0 1) fun xq4 =>
  (if xq4 = true then
  (Option.bind (mi_X7_livingAt f h p c) fun xq5 =>
  Option.bind (mi_X7_ones f h xq5) fun xq6 =>
  (if xq6 ≤ 10 then
  (Option.bind (lo_X7_least_69 f p a b c d xq5 f xq5 0 h) fun (oq7, hq8) =>
  Option.bind ((if d = 0 then
  (Option.bind (mi_X7_ones f hq8 oq7) fun xq10 =>
  some xq10)
  else (some oq7))) fun jq9 =>
  some (jq9, hq8))
  else (some ((-4), h))))
  else (some ((-2), h))))))
  else (some ((-1), h))))
  else (some ((-1), h))))
  else (some ((-1), h)))
theorem cs_X7_least {f : Nat} {h : am_H} {p : Nat} {a : Int32} {b : Int32} {c : Int32} {d : Int32} {z : (Int32 × am_H)} (hm : mi_X7_least f h p a b c d = some z) : ∃ n, h.1[p]? = some (7, n) := by
  unfold mi_X7_least at hm
  obtain ⟨n, hn, -⟩ := am_bs hm
  exact ⟨n, am_cls_of hn⟩
set_option maxHeartbeats 4000000 in
set_option maxRecDepth 100000 in
theorem ct_X7_least (l : Launch) {f : Nat} {h : am_H} {p : Nat} {a : Int32} {b : Int32} {c : Int32} {d : Int32} {r : Int32} {h2 : am_H} (hm : mi_X7_least f h p a b c d = some (r, h2)) : am_Ct l yX7_least cX7_least 8 (some .int) rm_X7_least [.ref p, .int a, .int b, .int c, .int d] h (some (.int r)) h2 := by
  refine am_met2 [(0, .ref p), (1, .int a), (2, .int b), (3, .int c), (4, .int d)] (by decide) (Nat.le_of_ble_eq_true rfl) rfl ?_
  generalize hK : (fun (v : Option Value) (h3 : am_H) => v = (some (.int r)) ∧ h3 = h2) = K
  have HK : K (some (.int r)) h2 := by rw [← hK]; exact ⟨rfl, rfl⟩
  clear hK
  unfold mi_X7_least at hm
  obtain ⟨_n, _hn, hm⟩ := am_bs hm
  refine r_iload_n 1 dX7_least_0 rfl ?_
  obtain ⟨xq1, exq1, hm⟩ := am_bs hm
  refine r_cS1 [.int a] (ct_X7_isKnot l exq1) sm_X7_118 (by decide) ⟨rfl, rfl⟩ rfl (Nat.le_of_ble_eq_true rfl) dX7_least_1 ?_
  refine r_if_eq 21 dX7_least_4 (by decide) (fun q => ?_) (fun q => ?_)
  · rw [if_neg (show ¬ xq1 = true from by rw [am_b0 q]; decide)] at hm
    refine r_iconst (-1) dX7_least_21 (by decide) ?_
    cases hm
    exact r_ireturn dX7_least_22 rfl (by decide) HK
  · rw [if_pos (show xq1 = true from am_b1 q)] at hm
    refine r_iload_n 2 dX7_least_7 rfl ?_
    obtain ⟨xq2, exq2, hm⟩ := am_bs hm
    refine r_cS1 [.int b] (ct_X7_isKnot l exq2) sm_X7_118 (by decide) ⟨rfl, rfl⟩ rfl (Nat.le_of_ble_eq_true rfl) dX7_least_8 ?_
    refine r_if_eq 21 dX7_least_11 (by decide) (fun q => ?_) (fun q => ?_)
    · rw [if_neg (show ¬ xq2 = true from by rw [am_b0 q]; decide)] at hm
      refine r_iconst (-1) dX7_least_21 (by decide) ?_
      cases hm
      exact r_ireturn dX7_least_22 rfl (by decide) HK
    · rw [if_pos (show xq2 = true from am_b1 q)] at hm
      refine r_iload_n 3 dX7_least_14 rfl ?_
      obtain ⟨xq3, exq3, hm⟩ := am_bs hm
      refine r_cS1 [.int c] (ct_X7_isTime l exq3) sm_X7_122 (by decide) ⟨rfl, rfl⟩ rfl (Nat.le_of_ble_eq_true rfl) dX7_least_15 ?_
      refine r_if_ne 23 dX7_least_18 (by decide) (fun q => ?_) (fun q => ?_)
      · rw [if_pos (show xq3 = true from am_b1 q)] at hm
        refine r_iload_n 1 dX7_least_23 rfl ?_
        refine r_iload_n 2 dX7_least_24 rfl ?_
        refine r_icmp_eq 39 dX7_least_25 (by decide) (fun q => ?_) (fun q => ?_)
        · rw [if_pos q] at hm
          refine r_bipush (-2) dX7_least_39 (by decide) ?_
          cases hm
          exact r_ireturn dX7_least_41 rfl (by decide) HK
        · rw [if_neg q] at hm
          refine r_iload 4 dX7_least_28 rfl ?_
          refine r_i2l dX7_least_30 ?_
          refine r_lconst 0 dX7_least_31 (by decide) ?_
          refine r_lconst 1 dX7_least_32 (by decide) ?_
          obtain ⟨xq4, exq4, hm⟩ := am_bs hm
          refine r_cS1 [.long ((d : Int32).toInt64), .long 0, .long 1] (ct_X7_in l exq4) sm_X7_58 (by decide) ⟨rfl, rfl⟩ rfl (Nat.le_of_ble_eq_true rfl) dX7_least_33 ?_
          refine r_if_ne 42 dX7_least_36 (by decide) (fun q => ?_) (fun q => ?_)
          · rw [if_pos (show xq4 = true from am_b1 q)] at hm
            refine r_aload_n 0 dX7_least_42 rfl ?_
            refine r_iload_n 3 dX7_least_43 rfl ?_
            obtain ⟨xq5, exq5, hm⟩ := am_bs hm
            refine r_cV1 [.int c] (ct_X7_livingAt l exq5) vm_X7_209 (cs_X7_livingAt exq5) (by decide) ⟨rfl, rfl⟩ rfl (Nat.le_of_ble_eq_true rfl) dX7_least_44 ?_
            refine r_istore [(5, .int xq5), (0, .ref p), (1, .int a), (2, .int b), (3, .int c), (4, .int d)] dX7_least_47 (by decide) rfl ?_
            refine r_iload 0 dX7_least_49 rfl ?_
            obtain ⟨xq6, exq6, hm⟩ := am_bs hm
            refine r_cS1 [.int xq5] (ct_X7_ones l exq6) sm_X7_227 (by decide) ⟨rfl, rfl⟩ rfl (Nat.le_of_ble_eq_true rfl) dX7_least_51 ?_
            refine r_bipush 10 dX7_least_54 (by decide) ?_
            refine r_icmp_le 62 dX7_least_56 (by decide) (fun q => ?_) (fun q => ?_)
            · rw [if_pos q] at hm
              refine r_iload 0 dX7_least_62 rfl ?_
              refine r_istore [(6, .int xq5), (5, .int xq5), (0, .ref p), (1, .int a), (2, .int b), (3, .int c), (4, .int d)] dX7_least_64 (by decide) rfl ?_
              refine r_iconst 0 dX7_least_66 (by decide) ?_
              refine r_istore [(7, .int 0), (6, .int xq5), (5, .int xq5), (0, .ref p), (1, .int a), (2, .int b), (3, .int c), (4, .int d)] dX7_least_67 (by decide) rfl ?_
              obtain ⟨⟨oq7, hq8⟩, ew, hm⟩ := am_bs hm
              try dsimp only at hm
              refine r_lv [3, 4, 5, 6, 7, 2, 1, 0] _ rfl (ll_X7_least_69 l f p a b c d xq5 _ f xq5 0 h _ ew ?_)
              refine r_iload 0 dX7_least_157 rfl ?_
              obtain ⟨jq9, hw, hm⟩ := am_bs hm
              try dsimp only at hm
              have HJ : am_R l yX7_least cX7_least 8 (some .int) rm_X7_least (fun _ _ _ => True) 0 0 172 [] [.int jq9] hq8 K := by
                cases hm
                exact r_ireturn dX7_least_172 rfl (by decide) HK
              clear hm
              have hm := hw
              clear hw
              refine r_if_ne 170 dX7_least_159 (by decide) (fun q => ?_) (fun q => ?_)
              · rw [if_neg q] at hm
                refine r_iload 1 dX7_least_170 rfl ?_
                cases hm
                exact r_lv [] _ rfl HJ
              · rw [if_pos q] at hm
                refine r_iload 1 dX7_least_162 rfl ?_
                obtain ⟨xq10, exq10, hm⟩ := am_bs hm
                refine r_cS1 [.int oq7] (ct_X7_ones l exq10) sm_X7_227 (by decide) ⟨rfl, rfl⟩ rfl (Nat.le_of_ble_eq_true rfl) dX7_least_164 ?_
                refine r_goto 172 dX7_least_167 (by decide) ?_
                cases hm
                exact r_lv [] _ rfl HJ
            · rw [if_neg q] at hm
              refine r_bipush (-4) dX7_least_59 (by decide) ?_
              cases hm
              exact r_ireturn dX7_least_61 rfl (by decide) HK
          · rw [if_neg (show ¬ xq4 = true from by rw [am_b0 q]; decide)] at hm
            refine r_bipush (-2) dX7_least_39 (by decide) ?_
            cases hm
            exact r_ireturn dX7_least_41 rfl (by decide) HK
      · rw [if_neg (show ¬ xq3 = true from by rw [am_b0 q]; decide)] at hm
        refine r_iconst (-1) dX7_least_21 (by decide) ?_
        cases hm
        exact r_ireturn dX7_least_22 rfl (by decide) HK
def lo_X7_life_14 (f : Nat) (a0 : Nat) : Nat → Int32 → am_H → Option (am_H)
  | 0, _, _ => none
  | n + 1, a1, h =>
  (if 17 ≤ a1 then
  (some h)
  else (Option.bind (am_gr h 7 a0 0) fun xq1 =>
  Option.bind (am_gr h 7 a0 0) fun xq2 =>
  Option.bind (am_li h 9 xq2 ((17 : Int32) + a1)) fun xq3 =>
  Option.bind (am_si h 9 xq1 a1 xq3) fun hq4 =>
  lo_X7_life_14 f a0 n (a1 + 1) hq4))
set_option maxHeartbeats 4000000 in
set_option maxRecDepth 100000 in
theorem ll_X7_life_14 (l : Launch) (f : Nat) (a0 : Nat) (K : Option Value → am_H → Prop) : ∀ (n : Nat) (a1 : Int32) (h : am_H) (z : am_H), lo_X7_life_14 f a0 n a1 h = some z →
    am_R l yX7_life cX7_life 2 (some .int) rm_X7_life (fun _ _ _ => True) 0 0 41 [(0, .ref a0)] [] z K →
    am_R l yX7_life cX7_life 2 (some .int) rm_X7_life (fun _ _ _ => True) 0 0 14 [(0, .ref a0), (1, .int a1)] [] h K := by
  intro n
  induction n with
  | zero =>
    intro a1 h z hm kE
    cases hm
  | succ n ih =>
    intro a1 h z hm kE
    rw [lo_X7_life_14.eq_2] at hm
    refine r_iload_n 1 dX7_life_14 rfl ?_
    refine r_bipush 17 dX7_life_15 (by decide) ?_
    refine r_icmp_ge 41 dX7_life_17 (by decide) (fun q => ?_) (fun q => ?_)
    · rw [if_pos q] at hm
      cases hm
      exact r_lv [0] _ rfl kE
    · rw [if_neg q] at hm
      refine r_aload_n 0 dX7_life_20 rfl ?_
      obtain ⟨xq1, exq1, hm⟩ := am_bs hm
      refine r_getr exq1 fl_X7_7 rfl dX7_life_21 ?_
      refine r_iload_n 1 dX7_life_24 rfl ?_
      refine r_aload_n 0 dX7_life_25 rfl ?_
      obtain ⟨xq2, exq2, hm⟩ := am_bs hm
      refine r_getr exq2 fl_X7_7 rfl dX7_life_26 ?_
      refine r_bipush 17 dX7_life_29 (by decide) ?_
      refine r_iload_n 1 dX7_life_31 rfl ?_
      refine r_iadd dX7_life_32 ?_
      obtain ⟨xq3, exq3, hm⟩ := am_bs hm
      refine r_iald exq3 dX7_life_33 ?_
      obtain ⟨hq4, ehq4, hm⟩ := am_bs hm
      refine r_iast ehq4 dX7_life_34 ?_
      refine r_inc 1 1 [(1, .int (a1 + 1)), (0, .ref a0)] dX7_life_35 (by decide) rfl (by decide) rfl ?_
      refine r_goto 14 dX7_life_38 (by decide) ?_
      exact r_lv [1, 0] _ rfl (ih (a1 + 1) hq4 _ hm kE)
def mi_X7_life (f : Nat) (h : am_H) (p : Nat) : Option (Int32 × am_H) :=
  Option.bind (am_cls h 7 p) fun _n =>
  Option.bind (mi_X7_readText f h p) fun (xq1, hq2) =>
  (if xq1 = (-9) then
  (Option.bind (lo_X7_life_14 f p f 0 hq2) fun hq4 =>
  Option.bind (am_pi hq4 7 p 4 0) fun hq5 =>
  Option.bind (am_gr hq5 7 p 18) fun xq6 =>
  Option.bind (am_si hq5 10 xq6 0 (vp_nar .boolean 0)) fun hq7 =>
  Option.bind (am_gr hq7 7 p 18) fun xq8 =>
  Option.bind (am_si hq7 10 xq8 1 (vp_nar .boolean 0)) fun hq9 =>
  Option.bind (am_gr hq9 7 p 0) fun xq10 =>
  Option.bind (am_li hq9 9 xq10 0) fun xq11 =>
  some (xq11, hq9))
  else (some ((-3), hq2)))
theorem cs_X7_life {f : Nat} {h : am_H} {p : Nat} {z : (Int32 × am_H)} (hm : mi_X7_life f h p = some z) : ∃ n, h.1[p]? = some (7, n) := by
  unfold mi_X7_life at hm
  obtain ⟨n, hn, -⟩ := am_bs hm
  exact ⟨n, am_cls_of hn⟩
set_option maxHeartbeats 4000000 in
set_option maxRecDepth 100000 in
theorem ct_X7_life (l : Launch) {f : Nat} {h : am_H} {p : Nat} {r : Int32} {h2 : am_H} (hm : mi_X7_life f h p = some (r, h2)) : am_Ct l yX7_life cX7_life 2 (some .int) rm_X7_life [.ref p] h (some (.int r)) h2 := by
  refine am_met2 [(0, .ref p)] (by decide) (Nat.le_of_ble_eq_true rfl) rfl ?_
  generalize hK : (fun (v : Option Value) (h3 : am_H) => v = (some (.int r)) ∧ h3 = h2) = K
  have HK : K (some (.int r)) h2 := by rw [← hK]; exact ⟨rfl, rfl⟩
  clear hK
  unfold mi_X7_life at hm
  obtain ⟨_n, _hn, hm⟩ := am_bs hm
  refine r_aload_n 0 dX7_life_0 rfl ?_
  obtain ⟨⟨xq1, hq2⟩, exq1, hm⟩ := am_bs hm
  try dsimp only at hm
  refine r_cV1 [] (ct_X7_readText l exq1) vm_X7_99 (cs_X7_readText exq1) (by decide) ⟨rfl, rfl⟩ rfl (Nat.le_of_ble_eq_true rfl) dX7_life_1 ?_
  refine r_bipush (-9) dX7_life_4 (by decide) ?_
  refine r_icmp_eq 12 dX7_life_6 (by decide) (fun q => ?_) (fun q => ?_)
  · rw [if_pos q] at hm
    refine r_iconst 0 dX7_life_12 (by decide) ?_
    refine r_istore_n [(1, .int 0), (0, .ref p)] dX7_life_13 (by decide) rfl ?_
    obtain ⟨hq4, ew, hm⟩ := am_bs hm
    try dsimp only at hm
    refine r_lv [1, 0] _ rfl (ll_X7_life_14 l f p _ f 0 hq2 _ ew ?_)
    refine r_aload_n 0 dX7_life_41 rfl ?_
    refine r_iconst 0 dX7_life_42 (by decide) ?_
    obtain ⟨hq5, ehq5, hm⟩ := am_bs hm
    refine r_puti ehq5 fl_X7_102 rfl rfl dX7_life_43 ?_
    refine r_aload_n 0 dX7_life_46 rfl ?_
    obtain ⟨xq6, exq6, hm⟩ := am_bs hm
    refine r_getr exq6 fl_X7_49 rfl dX7_life_47 ?_
    refine r_iconst 0 dX7_life_50 (by decide) ?_
    refine r_iconst 0 dX7_life_51 (by decide) ?_
    obtain ⟨hq7, ehq7, hm⟩ := am_bs hm
    refine r_zast ehq7 dX7_life_52 ?_
    refine r_aload_n 0 dX7_life_53 rfl ?_
    obtain ⟨xq8, exq8, hm⟩ := am_bs hm
    refine r_getr exq8 fl_X7_49 rfl dX7_life_54 ?_
    refine r_iconst 1 dX7_life_57 (by decide) ?_
    refine r_iconst 0 dX7_life_58 (by decide) ?_
    obtain ⟨hq9, ehq9, hm⟩ := am_bs hm
    refine r_zast ehq9 dX7_life_59 ?_
    refine r_aload_n 0 dX7_life_60 rfl ?_
    obtain ⟨xq10, exq10, hm⟩ := am_bs hm
    refine r_getr exq10 fl_X7_7 rfl dX7_life_61 ?_
    refine r_iconst 0 dX7_life_64 (by decide) ?_
    obtain ⟨xq11, exq11, hm⟩ := am_bs hm
    refine r_iald exq11 dX7_life_65 ?_
    cases hm
    exact r_ireturn dX7_life_66 rfl (by decide) HK
  · rw [if_neg q] at hm
    refine r_bipush (-3) dX7_life_9 (by decide) ?_
    cases hm
    exact r_ireturn dX7_life_11 rfl (by decide) HK
def lo_X7_mayBe_14 (f : Nat) (a0 : Nat) : Nat → Bool → Int32 → am_H → Option (Bool × am_H)
  | 0, _, _, _ => none
  | n + 1, a2, a3, h =>
  Option.bind (am_gi h 7 a0 11) fun xq1 =>
  (if xq1 ≤ a3 then
  (some (a2, h))
  else ((if a2 = true then
  (Option.bind (am_gr h 7 a0 13) fun xq2 =>
  Option.bind (am_li h 9 xq2 a3) fun xq3 =>
  Option.bind (am_gr h 7 a0 14) fun xq4 =>
  Option.bind (am_li h 9 xq4 a3) fun xq5 =>
  Option.bind (am_gr h 7 a0 12) fun xq6 =>
  Option.bind (am_li h 9 xq6 a3) fun xq7 =>
  Option.bind (mi_X7_areJoined f h a0 1 xq3 xq5 xq7 65535) fun (xq8, hq9) =>
  Option.bind (am_gr hq9 7 a0 15) fun xq11 =>
  Option.bind (am_li hq9 9 xq11 a3) fun xq12 =>
  Option.bind ((if xq12 = 1 then
  (some true)
  else (some false))) fun jq13 =>
  Option.bind ((if (am_b xq8) = (am_b jq13) then
  (some true)
  else (some false))) fun jq14 =>
  lo_X7_mayBe_14 f a0 n jq14 (a3 + 1) hq9)
  else (some (a2, h)))))
set_option maxHeartbeats 4000000 in
set_option maxRecDepth 100000 in
theorem ll_X7_mayBe_14 (l : Launch) (f : Nat) (a0 : Nat) (K : Option Value → am_H → Prop) : ∀ (n : Nat) (a2 : Bool) (a3 : Int32) (h : am_H) (z : Bool × am_H), lo_X7_mayBe_14 f a0 n a2 a3 h = some z →
    am_R l yX7_mayBe cX7_mayBe 4 (some .boolean) rm_X7_mayBe (fun _ _ _ => True) 0 0 81 [(2, .int (am_b z.1))] [] z.2 K →
    am_R l yX7_mayBe cX7_mayBe 4 (some .boolean) rm_X7_mayBe (fun _ _ _ => True) 0 0 14 [(0, .ref a0), (2, .int (am_b a2)), (3, .int a3)] [] h K := by
  intro n
  induction n with
  | zero =>
    intro a2 a3 h z hm kE
    cases hm
  | succ n ih =>
    intro a2 a3 h z hm kE
    rw [lo_X7_mayBe_14.eq_2] at hm
    refine r_iload_n 2 dX7_mayBe_14 rfl ?_
    refine r_aload_n 0 dX7_mayBe_15 rfl ?_
    obtain ⟨xq1, exq1, hm⟩ := am_bs hm
    refine r_geti exq1 fl_X7_247 rfl dX7_mayBe_16 ?_
    refine r_icmp_ge 81 dX7_mayBe_19 (by decide) (fun q => ?_) (fun q => ?_)
    · rw [if_pos q] at hm
      cases hm
      exact r_lv [1] _ rfl kE
    · rw [if_neg q] at hm
      refine r_iload_n 1 dX7_mayBe_22 rfl ?_
      refine r_if_eq 81 dX7_mayBe_23 (by decide) (fun q => ?_) (fun q => ?_)
      · rw [if_neg (show ¬ a2 = true from by rw [am_b0 q]; decide)] at hm
        cases hm
        exact r_lv [1] _ rfl kE
      · rw [if_pos (show a2 = true from am_b1 q)] at hm
        refine r_aload_n 0 dX7_mayBe_26 rfl ?_
        refine r_iconst 1 dX7_mayBe_27 (by decide) ?_
        refine r_aload_n 0 dX7_mayBe_28 rfl ?_
        obtain ⟨xq2, exq2, hm⟩ := am_bs hm
        refine r_getr exq2 fl_X7_37 rfl dX7_mayBe_29 ?_
        refine r_iload_n 2 dX7_mayBe_32 rfl ?_
        obtain ⟨xq3, exq3, hm⟩ := am_bs hm
        refine r_iald exq3 dX7_mayBe_33 ?_
        refine r_aload_n 0 dX7_mayBe_34 rfl ?_
        obtain ⟨xq4, exq4, hm⟩ := am_bs hm
        refine r_getr exq4 fl_X7_40 rfl dX7_mayBe_35 ?_
        refine r_iload_n 2 dX7_mayBe_38 rfl ?_
        obtain ⟨xq5, exq5, hm⟩ := am_bs hm
        refine r_iald exq5 dX7_mayBe_39 ?_
        refine r_aload_n 0 dX7_mayBe_40 rfl ?_
        obtain ⟨xq6, exq6, hm⟩ := am_bs hm
        refine r_getr exq6 fl_X7_34 rfl dX7_mayBe_41 ?_
        refine r_iload_n 2 dX7_mayBe_44 rfl ?_
        obtain ⟨xq7, exq7, hm⟩ := am_bs hm
        refine r_iald exq7 dX7_mayBe_45 ?_
        refine r_ldc (v := 65535) kw_X7_191 dX7_mayBe_46 ?_
        obtain ⟨⟨xq8, hq9⟩, exq8, hm⟩ := am_bs hm
        try dsimp only at hm
        refine r_cV1 [.int 1, .int xq3, .int xq5, .int xq7, .int 65535] (ct_X7_areJoined l exq8) vm_X7_223 (cs_X7_areJoined exq8) (by decide) ⟨rfl, rfl⟩ rfl (Nat.le_of_ble_eq_true rfl) dX7_mayBe_48 ?_
        refine r_aload_n 0 dX7_mayBe_51 rfl ?_
        obtain ⟨xq11, exq11, hm⟩ := am_bs hm
        refine r_getr exq11 fl_X7_43 rfl dX7_mayBe_52 ?_
        refine r_iload_n 2 dX7_mayBe_55 rfl ?_
        obtain ⟨xq12, exq12, hm⟩ := am_bs hm
        refine r_iald exq12 dX7_mayBe_56 ?_
        refine r_iconst 1 dX7_mayBe_57 (by decide) ?_
        obtain ⟨jq13, hw, hm⟩ := am_bs hm
        try dsimp only at hm
        have HJ : am_R l yX7_mayBe cX7_mayBe 4 (some .boolean) rm_X7_mayBe (fun _ _ _ => True) 0 0 66 [(0, .ref a0), (3, .int a3)] [.int (am_b jq13), .int (am_b xq8)] hq9 K := by
          obtain ⟨jq14, hw, hm⟩ := am_bs hm
          try dsimp only at hm
          have HJ : am_R l yX7_mayBe cX7_mayBe 4 (some .boolean) rm_X7_mayBe (fun _ _ _ => True) 0 0 74 [(0, .ref a0), (3, .int a3)] [.int (am_b jq14)] hq9 K := by
            refine r_istore_n [(2, .int (am_b jq14)), (0, .ref a0), (3, .int a3)] dX7_mayBe_74 (by decide) rfl ?_
            refine r_inc 1 2 [(3, .int (a3 + 1)), (2, .int (am_b jq14)), (0, .ref a0)] dX7_mayBe_75 (by decide) rfl (by decide) rfl ?_
            refine r_goto 14 dX7_mayBe_78 (by decide) ?_
            exact r_lv [2, 1, 0] _ rfl (ih jq14 (a3 + 1) hq9 _ hm kE)
          clear hm
          have hm := hw
          clear hw
          refine r_icmp_ne 73 dX7_mayBe_66 (by decide) (fun q => ?_) (fun q => ?_)
          · rw [if_neg q] at hm
            refine r_iconst 0 dX7_mayBe_73 (by decide) ?_
            cases hm
            exact r_lv [0, 1] _ rfl HJ
          · rw [if_pos q] at hm
            refine r_iconst 1 dX7_mayBe_69 (by decide) ?_
            refine r_goto 74 dX7_mayBe_70 (by decide) ?_
            cases hm
            exact r_lv [0, 1] _ rfl HJ
        clear hm
        have hm := hw
        clear hw
        refine r_icmp_ne 65 dX7_mayBe_58 (by decide) (fun q => ?_) (fun q => ?_)
        · rw [if_neg q] at hm
          refine r_iconst 0 dX7_mayBe_65 (by decide) ?_
          cases hm
          exact r_lv [0, 2] _ rfl HJ
        · rw [if_pos q] at hm
          refine r_iconst 1 dX7_mayBe_61 (by decide) ?_
          refine r_goto 66 dX7_mayBe_62 (by decide) ?_
          cases hm
          exact r_lv [0, 2] _ rfl HJ
def mi_X7_mayBe (f : Nat) (h : am_H) (p : Nat) (a : Int32) : Option (Bool × am_H) :=
  Option.bind (am_cls h 7 p) fun _n =>
  Option.bind (mi_X7_layTrial f h p) fun hq2 =>
  Option.bind (mi_X7_putOn f hq2 p 1 a) fun hq4 =>
  Option.bind (lo_X7_mayBe_14 f p f true 0 hq4) fun (oq5, hq6) =>
  some (oq5, hq6)
theorem cs_X7_mayBe {f : Nat} {h : am_H} {p : Nat} {a : Int32} {z : (Bool × am_H)} (hm : mi_X7_mayBe f h p a = some z) : ∃ n, h.1[p]? = some (7, n) := by
  unfold mi_X7_mayBe at hm
  obtain ⟨n, hn, -⟩ := am_bs hm
  exact ⟨n, am_cls_of hn⟩
set_option maxHeartbeats 4000000 in
set_option maxRecDepth 100000 in
theorem ct_X7_mayBe (l : Launch) {f : Nat} {h : am_H} {p : Nat} {a : Int32} {r : Bool} {h2 : am_H} (hm : mi_X7_mayBe f h p a = some (r, h2)) : am_Ct l yX7_mayBe cX7_mayBe 4 (some .boolean) rm_X7_mayBe [.ref p, .int a] h (some (.int (am_b r))) h2 := by
  refine am_met2 [(0, .ref p), (1, .int a)] (by decide) (Nat.le_of_ble_eq_true rfl) rfl ?_
  generalize hK : (fun (v : Option Value) (h3 : am_H) => v = (some (.int (am_b r))) ∧ h3 = h2) = K
  have HK : K (some (.int (am_b r))) h2 := by rw [← hK]; exact ⟨rfl, rfl⟩
  clear hK
  unfold mi_X7_mayBe at hm
  obtain ⟨_n, _hn, hm⟩ := am_bs hm
  refine r_aload_n 0 dX7_mayBe_0 rfl ?_
  obtain ⟨hq2, exq1, hm⟩ := am_bs hm
  refine r_cV0 [] (ct_X7_layTrial l exq1) vm_X7_241 (cs_X7_layTrial exq1) (by decide) ⟨rfl, rfl⟩ rfl (Nat.le_of_ble_eq_true rfl) dX7_mayBe_1 ?_
  refine r_aload_n 0 dX7_mayBe_4 rfl ?_
  refine r_iconst 1 dX7_mayBe_5 (by decide) ?_
  refine r_iload_n 1 dX7_mayBe_6 rfl ?_
  obtain ⟨hq4, exq3, hm⟩ := am_bs hm
  refine r_cV0 [.int 1, .int a] (ct_X7_putOn l exq3) vm_X7_162 (cs_X7_putOn exq3) (by decide) ⟨rfl, rfl⟩ rfl (Nat.le_of_ble_eq_true rfl) dX7_mayBe_7 ?_
  refine r_iconst 1 dX7_mayBe_10 (by decide) ?_
  refine r_istore_n [(2, .int 1), (0, .ref p), (1, .int a)] dX7_mayBe_11 (by decide) rfl ?_
  refine r_iconst 0 dX7_mayBe_12 (by decide) ?_
  refine r_istore_n [(3, .int 0), (2, .int 1), (0, .ref p), (1, .int a)] dX7_mayBe_13 (by decide) rfl ?_
  obtain ⟨⟨oq5, hq6⟩, ew, hm⟩ := am_bs hm
  try dsimp only at hm
  refine r_lv [2, 1, 0] _ rfl (ll_X7_mayBe_14 l f p _ f true 0 hq4 _ ew ?_)
  refine r_iload_n 0 dX7_mayBe_81 rfl ?_
  cases hm
  exact r_zreturn _ dX7_mayBe_82 rfl (by decide) HK
def lo_X7_missing_34 (f : Nat) (a0 : Nat) (a1 : Int32) : Nat → Int32 → Int32 → Int32 → am_H → Option (Int32 × Int32 × am_H)
  | 0, _, _, _, _ => none
  | n + 1, a2, a3, a4, h =>
  (if 16384 ≤ a4 then
  (some (a2, a3, h))
  else (Option.bind (mi_X7_lowOf f h a4) fun xq1 =>
  Option.bind (mi_X7_highOf f h a4) fun xq2 =>
  Option.bind ((if xq2 ≤ xq1 then
  (some false)
  else (Option.bind (mi_X7_lowOf f h a4) fun xq15 =>
  Option.bind (mi_X7_highOf f h a4) fun xq16 =>
  Option.bind (mi_X7_fromOf f h a4) fun xq17 =>
  Option.bind (mi_X7_toOf f h a4) fun xq18 =>
  Option.bind (mi_X7_canPut f h a0 0 xq15 xq16 xq17 xq18) fun xq19 =>
  (if xq19 = true then
  (some true)
  else (some false))))) fun jq3 =>
  Option.bind ((if jq3 = true then
  (Option.bind (mi_X7_mayBe f h a0 a4) fun (xq7, hq8) =>
  (if xq7 = true then
  (Option.bind ((if a2 = 0 then
  (Option.bind (mi_X7_lowOf f hq8 a4) fun xq11 =>
  Option.bind (mi_X7_highOf f hq8 a4) fun xq12 =>
  Option.bind (mi_X7_fromOf f hq8 a4) fun xq13 =>
  Option.bind (mi_X7_toOf f hq8 a4) fun xq14 =>
  some (((((100000 : Int32) * xq11) + ((10000 : Int32) * xq12)) + ((100 : Int32) * xq13)) + xq14))
  else (some a3))) fun jq10 =>
  some ((a2 + 1), jq10, hq8))
  else (some (a2, a3, hq8))))
  else (some (a2, a3, h)))) fun (jq4, jq5, hq6) =>
  lo_X7_missing_34 f a0 a1 n jq4 jq5 (a4 + 1) hq6))
set_option maxHeartbeats 4000000 in
set_option maxRecDepth 100000 in
theorem ll_X7_missing_34 (l : Launch) (f : Nat) (a0 : Nat) (a1 : Int32) (K : Option Value → am_H → Prop) : ∀ (n : Nat) (a2 : Int32) (a3 : Int32) (a4 : Int32) (h : am_H) (z : Int32 × Int32 × am_H), lo_X7_missing_34 f a0 a1 n a2 a3 a4 h = some z →
    am_R l yX7_missing cX7_missing 6 (some .int) rm_X7_missing (fun _ _ _ => True) 0 0 155 [(1, .int a1), (2, .int z.1), (3, .int z.2.1)] [] z.2.2 K →
    am_R l yX7_missing cX7_missing 6 (some .int) rm_X7_missing (fun _ _ _ => True) 0 0 34 [(0, .ref a0), (1, .int a1), (2, .int a2), (3, .int a3), (4, .int a4)] [] h K := by
  intro n
  induction n with
  | zero =>
    intro a2 a3 a4 h z hm kE
    cases hm
  | succ n ih =>
    intro a2 a3 a4 h z hm kE
    rw [lo_X7_missing_34.eq_2] at hm
    refine r_iload 4 dX7_missing_34 rfl ?_
    refine r_sipush 16384 dX7_missing_36 (by decide) ?_
    refine r_icmp_ge 155 dX7_missing_39 (by decide) (fun q => ?_) (fun q => ?_)
    · rw [if_pos q] at hm
      cases hm
      exact r_lv [1, 2, 3] _ rfl kE
    · rw [if_neg q] at hm
      refine r_iload 4 dX7_missing_42 rfl ?_
      obtain ⟨xq1, exq1, hm⟩ := am_bs hm
      refine r_cS1 [.int a4] (ct_X7_lowOf l exq1) sm_X7_112 (by decide) ⟨rfl, rfl⟩ rfl (Nat.le_of_ble_eq_true rfl) dX7_missing_44 ?_
      refine r_iload 4 dX7_missing_47 rfl ?_
      obtain ⟨xq2, exq2, hm⟩ := am_bs hm
      refine r_cS1 [.int a4] (ct_X7_highOf l exq2) sm_X7_115 (by decide) ⟨rfl, rfl⟩ rfl (Nat.le_of_ble_eq_true rfl) dX7_missing_49 ?_
      obtain ⟨jq3, hw, hm⟩ := am_bs hm
      try dsimp only at hm
      have HJ : am_R l yX7_missing cX7_missing 6 (some .int) rm_X7_missing (fun _ _ _ => True) 0 0 88 [(0, .ref a0), (1, .int a1), (2, .int a2), (3, .int a3), (4, .int a4)] [.int (am_b jq3)] h K := by
        refine r_istore [(5, .int (am_b jq3)), (0, .ref a0), (1, .int a1), (2, .int a2), (3, .int a3), (4, .int a4)] dX7_missing_88 (by decide) rfl ?_
        refine r_iload 0 dX7_missing_90 rfl ?_
        obtain ⟨⟨jq4, jq5, hq6⟩, hw, hm⟩ := am_bs hm
        try dsimp only at hm
        have HJ : am_R l yX7_missing cX7_missing 6 (some .int) rm_X7_missing (fun _ _ _ => True) 0 0 149 [(0, .ref a0), (1, .int a1), (2, .int jq4), (3, .int jq5), (4, .int a4)] [] hq6 K := by
          refine r_inc 1 4 [(4, .int (a4 + 1)), (0, .ref a0), (1, .int a1), (2, .int jq4), (3, .int jq5)] dX7_missing_149 (by decide) rfl (by decide) rfl ?_
          refine r_goto 34 dX7_missing_152 (by decide) ?_
          exact r_lv [1, 2, 3, 4, 0] _ rfl (ih jq4 jq5 (a4 + 1) hq6 _ hm kE)
        clear hm
        have hm := hw
        clear hw
        refine r_if_eq 149 dX7_missing_92 (by decide) (fun q => ?_) (fun q => ?_)
        · rw [if_neg (show ¬ jq3 = true from by rw [am_b0 q]; decide)] at hm
          cases hm
          exact r_lv [1, 2, 3, 4, 5] _ rfl HJ
        · rw [if_pos (show jq3 = true from am_b1 q)] at hm
          refine r_aload_n 1 dX7_missing_95 rfl ?_
          refine r_iload 5 dX7_missing_96 rfl ?_
          obtain ⟨⟨xq7, hq8⟩, exq7, hm⟩ := am_bs hm
          try dsimp only at hm
          refine r_cV1 [.int a4] (ct_X7_mayBe l exq7) vm_X7_250 (cs_X7_mayBe exq7) (by decide) ⟨rfl, rfl⟩ rfl (Nat.le_of_ble_eq_true rfl) dX7_missing_98 ?_
          refine r_if_eq 149 dX7_missing_101 (by decide) (fun q => ?_) (fun q => ?_)
          · rw [if_neg (show ¬ xq7 = true from by rw [am_b0 q]; decide)] at hm
            cases hm
            exact r_lv [1, 2, 3, 4, 5] _ rfl HJ
          · rw [if_pos (show xq7 = true from am_b1 q)] at hm
            refine r_iload_n 3 dX7_missing_104 rfl ?_
            obtain ⟨jq10, hw, hm⟩ := am_bs hm
            try dsimp only at hm
            have HJ : am_R l yX7_missing cX7_missing 6 (some .int) rm_X7_missing (fun _ _ _ => True) 0 0 145 [(0, .ref a0), (1, .int a1), (2, .int a2), (4, .int a4)] [.int jq10] hq8 K := by
              refine r_istore_n [(3, .int jq10), (0, .ref a0), (1, .int a1), (2, .int a2), (4, .int a4)] dX7_missing_145 (by decide) rfl ?_
              refine r_inc 1 3 [(2, .int (a2 + 1)), (3, .int jq10), (0, .ref a0), (1, .int a1), (4, .int a4)] dX7_missing_146 (by decide) rfl (by decide) rfl ?_
              cases hm
              exact r_lv [2, 3, 0, 1, 4] _ rfl HJ
            clear hm
            have hm := hw
            clear hw
            refine r_if_ne 144 dX7_missing_105 (by decide) (fun q => ?_) (fun q => ?_)
            · rw [if_neg q] at hm
              refine r_iload_n 4 dX7_missing_144 rfl ?_
              cases hm
              exact r_lv [1, 2, 3, 5] _ rfl HJ
            · rw [if_pos q] at hm
              refine r_ldc (v := 100000) kw_X7_253 dX7_missing_108 ?_
              refine r_iload 5 dX7_missing_110 rfl ?_
              obtain ⟨xq11, exq11, hm⟩ := am_bs hm
              refine r_cS1 [.int a4] (ct_X7_lowOf l exq11) sm_X7_112 (by decide) ⟨rfl, rfl⟩ rfl (Nat.le_of_ble_eq_true rfl) dX7_missing_112 ?_
              refine r_imul dX7_missing_115 ?_
              refine r_sipush 10000 dX7_missing_116 (by decide) ?_
              refine r_iload 5 dX7_missing_119 rfl ?_
              obtain ⟨xq12, exq12, hm⟩ := am_bs hm
              refine r_cS1 [.int a4] (ct_X7_highOf l exq12) sm_X7_115 (by decide) ⟨rfl, rfl⟩ rfl (Nat.le_of_ble_eq_true rfl) dX7_missing_121 ?_
              refine r_imul dX7_missing_124 ?_
              refine r_iadd dX7_missing_125 ?_
              refine r_bipush 100 dX7_missing_126 (by decide) ?_
              refine r_iload 5 dX7_missing_128 rfl ?_
              obtain ⟨xq13, exq13, hm⟩ := am_bs hm
              refine r_cS1 [.int a4] (ct_X7_fromOf l exq13) sm_X7_64 (by decide) ⟨rfl, rfl⟩ rfl (Nat.le_of_ble_eq_true rfl) dX7_missing_130 ?_
              refine r_imul dX7_missing_133 ?_
              refine r_iadd dX7_missing_134 ?_
              refine r_iload 5 dX7_missing_135 rfl ?_
              obtain ⟨xq14, exq14, hm⟩ := am_bs hm
              refine r_cS1 [.int a4] (ct_X7_toOf l exq14) sm_X7_68 (by decide) ⟨rfl, rfl⟩ rfl (Nat.le_of_ble_eq_true rfl) dX7_missing_137 ?_
              refine r_iadd dX7_missing_140 ?_
              refine r_goto 145 dX7_missing_141 (by decide) ?_
              cases hm
              exact r_lv [1, 2, 3, 5] _ rfl HJ
      clear hm
      have hm := hw
      clear hw
      refine r_icmp_ge 87 dX7_missing_52 (by decide) (fun q => ?_) (fun q => ?_)
      · rw [if_pos q] at hm
        refine r_iconst 0 dX7_missing_87 (by decide) ?_
        cases hm
        exact r_lv [0, 1, 2, 3, 4] _ rfl HJ
      · rw [if_neg q] at hm
        refine r_aload_n 0 dX7_missing_55 rfl ?_
        refine r_iconst 0 dX7_missing_56 (by decide) ?_
        refine r_iload 4 dX7_missing_57 rfl ?_
        obtain ⟨xq15, exq15, hm⟩ := am_bs hm
        refine r_cS1 [.int a4] (ct_X7_lowOf l exq15) sm_X7_112 (by decide) ⟨rfl, rfl⟩ rfl (Nat.le_of_ble_eq_true rfl) dX7_missing_59 ?_
        refine r_iload 4 dX7_missing_62 rfl ?_
        obtain ⟨xq16, exq16, hm⟩ := am_bs hm
        refine r_cS1 [.int a4] (ct_X7_highOf l exq16) sm_X7_115 (by decide) ⟨rfl, rfl⟩ rfl (Nat.le_of_ble_eq_true rfl) dX7_missing_64 ?_
        refine r_iload 4 dX7_missing_67 rfl ?_
        obtain ⟨xq17, exq17, hm⟩ := am_bs hm
        refine r_cS1 [.int a4] (ct_X7_fromOf l exq17) sm_X7_64 (by decide) ⟨rfl, rfl⟩ rfl (Nat.le_of_ble_eq_true rfl) dX7_missing_69 ?_
        refine r_iload 4 dX7_missing_72 rfl ?_
        obtain ⟨xq18, exq18, hm⟩ := am_bs hm
        refine r_cS1 [.int a4] (ct_X7_toOf l exq18) sm_X7_68 (by decide) ⟨rfl, rfl⟩ rfl (Nat.le_of_ble_eq_true rfl) dX7_missing_74 ?_
        obtain ⟨xq19, exq19, hm⟩ := am_bs hm
        refine r_cV1 [.int 0, .int xq15, .int xq16, .int xq17, .int xq18] (ct_X7_canPut l exq19) vm_X7_230 (cs_X7_canPut exq19) (by decide) ⟨rfl, rfl⟩ rfl (Nat.le_of_ble_eq_true rfl) dX7_missing_77 ?_
        refine r_if_eq 87 dX7_missing_80 (by decide) (fun q => ?_) (fun q => ?_)
        · rw [if_neg (show ¬ xq19 = true from by rw [am_b0 q]; decide)] at hm
          refine r_iconst 0 dX7_missing_87 (by decide) ?_
          cases hm
          exact r_lv [0, 1, 2, 3, 4] _ rfl HJ
        · rw [if_pos (show xq19 = true from am_b1 q)] at hm
          refine r_iconst 1 dX7_missing_83 (by decide) ?_
          refine r_goto 88 dX7_missing_84 (by decide) ?_
          cases hm
          exact r_lv [0, 1, 2, 3, 4] _ rfl HJ
def mi_X7_missing (f : Nat) (h : am_H) (p : Nat) (a : Int32) : Option (Int32 × am_H) :=
  Option.bind (am_cls h 7 p) fun _n =>
  Option.bind (mi_X7_in f h ((a : Int32).toInt64) 0 1) fun xq1 =>
  (if xq1 = true then
  (Option.bind (mi_X7_many f h p 0) fun xq2 =>
  (if xq2 = 16 then
  (some ((-4), h))
  else (Option.bind (lo_X7_missing_34 f p a f 0 (-9) 0 h) fun (oq3, oq4, hq5) =>
  Option.bind ((if a = 0 then
  (some oq3)
  else (some oq4))) fun jq6 =>
  some (jq6, hq5))))
  else (some ((-2), h)))
theorem cs_X7_missing {f : Nat} {h : am_H} {p : Nat} {a : Int32} {z : (Int32 × am_H)} (hm : mi_X7_missing f h p a = some z) : ∃ n, h.1[p]? = some (7, n) := by
  unfold mi_X7_missing at hm
  obtain ⟨n, hn, -⟩ := am_bs hm
  exact ⟨n, am_cls_of hn⟩
set_option maxHeartbeats 4000000 in
set_option maxRecDepth 100000 in
theorem ct_X7_missing (l : Launch) {f : Nat} {h : am_H} {p : Nat} {a : Int32} {r : Int32} {h2 : am_H} (hm : mi_X7_missing f h p a = some (r, h2)) : am_Ct l yX7_missing cX7_missing 6 (some .int) rm_X7_missing [.ref p, .int a] h (some (.int r)) h2 := by
  refine am_met2 [(0, .ref p), (1, .int a)] (by decide) (Nat.le_of_ble_eq_true rfl) rfl ?_
  generalize hK : (fun (v : Option Value) (h3 : am_H) => v = (some (.int r)) ∧ h3 = h2) = K
  have HK : K (some (.int r)) h2 := by rw [← hK]; exact ⟨rfl, rfl⟩
  clear hK
  unfold mi_X7_missing at hm
  obtain ⟨_n, _hn, hm⟩ := am_bs hm
  refine r_iload_n 1 dX7_missing_0 rfl ?_
  refine r_i2l dX7_missing_1 ?_
  refine r_lconst 0 dX7_missing_2 (by decide) ?_
  refine r_lconst 1 dX7_missing_3 (by decide) ?_
  obtain ⟨xq1, exq1, hm⟩ := am_bs hm
  refine r_cS1 [.long ((a : Int32).toInt64), .long 0, .long 1] (ct_X7_in l exq1) sm_X7_58 (by decide) ⟨rfl, rfl⟩ rfl (Nat.le_of_ble_eq_true rfl) dX7_missing_4 ?_
  refine r_if_ne 13 dX7_missing_7 (by decide) (fun q => ?_) (fun q => ?_)
  · rw [if_pos (show xq1 = true from am_b1 q)] at hm
    refine r_aload_n 0 dX7_missing_13 rfl ?_
    refine r_iconst 0 dX7_missing_14 (by decide) ?_
    obtain ⟨xq2, exq2, hm⟩ := am_bs hm
    refine r_cV1 [.int 0] (ct_X7_many l exq2) vm_X7_105 (cs_X7_many exq2) (by decide) ⟨rfl, rfl⟩ rfl (Nat.le_of_ble_eq_true rfl) dX7_missing_15 ?_
    refine r_bipush 16 dX7_missing_18 (by decide) ?_
    refine r_icmp_ne 26 dX7_missing_20 (by decide) (fun q => ?_) (fun q => ?_)
    · rw [if_neg q] at hm
      refine r_iconst 0 dX7_missing_26 (by decide) ?_
      refine r_istore_n [(2, .int 0), (0, .ref p), (1, .int a)] dX7_missing_27 (by decide) rfl ?_
      refine r_bipush (-9) dX7_missing_28 (by decide) ?_
      refine r_istore_n [(3, .int (-9)), (2, .int 0), (0, .ref p), (1, .int a)] dX7_missing_30 (by decide) rfl ?_
      refine r_iconst 0 dX7_missing_31 (by decide) ?_
      refine r_istore [(4, .int 0), (3, .int (-9)), (2, .int 0), (0, .ref p), (1, .int a)] dX7_missing_32 (by decide) rfl ?_
      obtain ⟨⟨oq3, oq4, hq5⟩, ew, hm⟩ := am_bs hm
      try dsimp only at hm
      refine r_lv [3, 4, 2, 1, 0] _ rfl (ll_X7_missing_34 l f p a _ f 0 (-9) 0 h _ ew ?_)
      refine r_iload_n 0 dX7_missing_155 rfl ?_
      obtain ⟨jq6, hw, hm⟩ := am_bs hm
      try dsimp only at hm
      have HJ : am_R l yX7_missing cX7_missing 6 (some .int) rm_X7_missing (fun _ _ _ => True) 0 0 164 [] [.int jq6] hq5 K := by
        cases hm
        exact r_ireturn dX7_missing_164 rfl (by decide) HK
      clear hm
      have hm := hw
      clear hw
      refine r_if_ne 163 dX7_missing_156 (by decide) (fun q => ?_) (fun q => ?_)
      · rw [if_neg q] at hm
        refine r_iload_n 2 dX7_missing_163 rfl ?_
        cases hm
        exact r_lv [] _ rfl HJ
      · rw [if_pos q] at hm
        refine r_iload_n 1 dX7_missing_159 rfl ?_
        refine r_goto 164 dX7_missing_160 (by decide) ?_
        cases hm
        exact r_lv [] _ rfl HJ
    · rw [if_pos q] at hm
      refine r_bipush (-4) dX7_missing_23 (by decide) ?_
      cases hm
      exact r_ireturn dX7_missing_25 rfl (by decide) HK
  · rw [if_neg (show ¬ xq1 = true from by rw [am_b0 q]; decide)] at hm
    refine r_bipush (-2) dX7_missing_10 (by decide) ?_
    cases hm
    exact r_ireturn dX7_missing_12 rfl (by decide) HK
def lo_X7_liesOn_4 (f : Nat) (h : am_H) (a0 : Nat) (a1 : Int32) : Nat → Int32 → Int32 → Option (Int32)
  | 0, _, _ => none
  | n + 1, a2, a3 =>
  Option.bind (mi_X7_many f h a0 0) fun xq1 =>
  (if xq1 ≤ a3 then
  (some a2)
  else (Option.bind (mi_X7_spanOf f h a0 0 a3) fun xq2 =>
  Option.bind (mi_X7_lies f h xq2 a1) fun xq3 =>
  Option.bind ((if xq3 = true then
  (some ((1 : Int32) <<< (a3 &&& 31)))
  else (some 0))) fun jq4 =>
  lo_X7_liesOn_4 f h a0 a1 n (a2 ||| jq4) (a3 + 1)))
set_option maxHeartbeats 4000000 in
set_option maxRecDepth 100000 in
theorem ll_X7_liesOn_4 (l : Launch) (f : Nat) (h : am_H) (a0 : Nat) (a1 : Int32) (K : Option Value → am_H → Prop) : ∀ (n : Nat) (a2 : Int32) (a3 : Int32) (z : Int32), lo_X7_liesOn_4 f h a0 a1 n a2 a3 = some z →
    am_R l yX7_liesOn cX7_liesOn 4 (some .int) rm_X7_liesOn (fun _ _ _ => True) 0 0 42 [(2, .int z)] [] h K →
    am_R l yX7_liesOn cX7_liesOn 4 (some .int) rm_X7_liesOn (fun _ _ _ => True) 0 0 4 [(0, .ref a0), (1, .int a1), (2, .int a2), (3, .int a3)] [] h K := by
  intro n
  induction n with
  | zero =>
    intro a2 a3 z hm kE
    cases hm
  | succ n ih =>
    intro a2 a3 z hm kE
    rw [lo_X7_liesOn_4.eq_2] at hm
    refine r_iload_n 3 dX7_liesOn_4 rfl ?_
    refine r_aload_n 0 dX7_liesOn_5 rfl ?_
    refine r_iconst 0 dX7_liesOn_6 (by decide) ?_
    obtain ⟨xq1, exq1, hm⟩ := am_bs hm
    refine r_cV1 [.int 0] (ct_X7_many l exq1) vm_X7_105 (cs_X7_many exq1) (by decide) ⟨rfl, rfl⟩ rfl (Nat.le_of_ble_eq_true rfl) dX7_liesOn_7 ?_
    refine r_icmp_ge 42 dX7_liesOn_10 (by decide) (fun q => ?_) (fun q => ?_)
    · rw [if_pos q] at hm
      cases hm
      exact r_lv [2] _ rfl kE
    · rw [if_neg q] at hm
      refine r_iload_n 2 dX7_liesOn_13 rfl ?_
      refine r_aload_n 0 dX7_liesOn_14 rfl ?_
      refine r_iconst 0 dX7_liesOn_15 (by decide) ?_
      refine r_iload_n 3 dX7_liesOn_16 rfl ?_
      obtain ⟨xq2, exq2, hm⟩ := am_bs hm
      refine r_cV1 [.int 0, .int a3] (ct_X7_spanOf l exq2) vm_X7_108 (cs_X7_spanOf exq2) (by decide) ⟨rfl, rfl⟩ rfl (Nat.le_of_ble_eq_true rfl) dX7_liesOn_17 ?_
      refine r_iload_n 1 dX7_liesOn_20 rfl ?_
      obtain ⟨xq3, exq3, hm⟩ := am_bs hm
      refine r_cS1 [.int xq2, .int a1] (ct_X7_lies l exq3) sm_X7_142 (by decide) ⟨rfl, rfl⟩ rfl (Nat.le_of_ble_eq_true rfl) dX7_liesOn_21 ?_
      obtain ⟨jq4, hw, hm⟩ := am_bs hm
      try dsimp only at hm
      have HJ : am_R l yX7_liesOn cX7_liesOn 4 (some .int) rm_X7_liesOn (fun _ _ _ => True) 0 0 34 [(0, .ref a0), (1, .int a1), (3, .int a3)] [.int jq4, .int a2] h K := by
        refine r_ior dX7_liesOn_34 ?_
        refine r_istore_n [(2, .int (a2 ||| jq4)), (0, .ref a0), (1, .int a1), (3, .int a3)] dX7_liesOn_35 (by decide) rfl ?_
        refine r_inc 1 3 [(3, .int (a3 + 1)), (2, .int (a2 ||| jq4)), (0, .ref a0), (1, .int a1)] dX7_liesOn_36 (by decide) rfl (by decide) rfl ?_
        refine r_goto 4 dX7_liesOn_39 (by decide) ?_
        exact r_lv [2, 3, 1, 0] _ rfl (ih (a2 ||| jq4) (a3 + 1) _ hm kE)
      clear hm
      have hm := hw
      clear hw
      refine r_if_eq 33 dX7_liesOn_24 (by decide) (fun q => ?_) (fun q => ?_)
      · rw [if_neg (show ¬ xq3 = true from by rw [am_b0 q]; decide)] at hm
        refine r_iconst 0 dX7_liesOn_33 (by decide) ?_
        cases hm
        exact r_lv [0, 1, 3] _ rfl HJ
      · rw [if_pos (show xq3 = true from am_b1 q)] at hm
        refine r_iconst 1 dX7_liesOn_27 (by decide) ?_
        refine r_iload_n 3 dX7_liesOn_28 rfl ?_
        refine r_ishl dX7_liesOn_29 ?_
        refine r_goto 34 dX7_liesOn_30 (by decide) ?_
        cases hm
        exact r_lv [0, 1, 3] _ rfl HJ
def mi_X7_liesOn (f : Nat) (h : am_H) (p : Nat) (a : Int32) : Option Int32 :=
  Option.bind (am_cls h 7 p) fun _n =>
  Option.bind (lo_X7_liesOn_4 f h p a f 0 0) fun oq1 =>
  some oq1
theorem cs_X7_liesOn {f : Nat} {h : am_H} {p : Nat} {a : Int32} {z : Int32} (hm : mi_X7_liesOn f h p a = some z) : ∃ n, h.1[p]? = some (7, n) := by
  unfold mi_X7_liesOn at hm
  obtain ⟨n, hn, -⟩ := am_bs hm
  exact ⟨n, am_cls_of hn⟩
set_option maxHeartbeats 4000000 in
set_option maxRecDepth 100000 in
theorem ct_X7_liesOn (l : Launch) {f : Nat} {h : am_H} {p : Nat} {a : Int32} {r : Int32} (hm : mi_X7_liesOn f h p a = some r) : am_Ct l yX7_liesOn cX7_liesOn 4 (some .int) rm_X7_liesOn [.ref p, .int a] h (some (.int r)) h := by
  refine am_met2 [(0, .ref p), (1, .int a)] (by decide) (Nat.le_of_ble_eq_true rfl) rfl ?_
  generalize hK : (fun (v : Option Value) (h3 : am_H) => v = (some (.int r)) ∧ h3 = h) = K
  have HK : K (some (.int r)) h := by rw [← hK]; exact ⟨rfl, rfl⟩
  clear hK
  unfold mi_X7_liesOn at hm
  obtain ⟨_n, _hn, hm⟩ := am_bs hm
  refine r_iconst 0 dX7_liesOn_0 (by decide) ?_
  refine r_istore_n [(2, .int 0), (0, .ref p), (1, .int a)] dX7_liesOn_1 (by decide) rfl ?_
  refine r_iconst 0 dX7_liesOn_2 (by decide) ?_
  refine r_istore_n [(3, .int 0), (2, .int 0), (0, .ref p), (1, .int a)] dX7_liesOn_3 (by decide) rfl ?_
  obtain ⟨oq1, ew, hm⟩ := am_bs hm
  try dsimp only at hm
  refine r_lv [2, 3, 1, 0] _ rfl (ll_X7_liesOn_4 l f h p a _ f 0 0 _ ew ?_)
  refine r_iload_n 0 dX7_liesOn_42 rfl ?_
  cases hm
  exact r_ireturn dX7_liesOn_43 rfl (by decide) HK
def mi_X7_node (f : Nat) (h : am_H) (p : Nat) (a : Int32) : Option Int32 :=
  Option.bind (am_cls h 7 p) fun _n =>
  Option.bind (mi_X7_in f h ((a : Int32).toInt64) 1 31) fun xq1 =>
  Option.bind ((if xq1 = true then
  (Option.bind (mi_X7_liesOn f h p a) fun xq3 =>
  some xq3)
  else (some (-1)))) fun jq2 =>
  some jq2
theorem cs_X7_node {f : Nat} {h : am_H} {p : Nat} {a : Int32} {z : Int32} (hm : mi_X7_node f h p a = some z) : ∃ n, h.1[p]? = some (7, n) := by
  unfold mi_X7_node at hm
  obtain ⟨n, hn, -⟩ := am_bs hm
  exact ⟨n, am_cls_of hn⟩
set_option maxHeartbeats 4000000 in
set_option maxRecDepth 100000 in
theorem ct_X7_node (l : Launch) {f : Nat} {h : am_H} {p : Nat} {a : Int32} {r : Int32} (hm : mi_X7_node f h p a = some r) : am_Ct l yX7_node cX7_node 2 (some .int) rm_X7_node [.ref p, .int a] h (some (.int r)) h := by
  refine am_met2 [(0, .ref p), (1, .int a)] (by decide) (Nat.le_of_ble_eq_true rfl) rfl ?_
  generalize hK : (fun (v : Option Value) (h3 : am_H) => v = (some (.int r)) ∧ h3 = h) = K
  have HK : K (some (.int r)) h := by rw [← hK]; exact ⟨rfl, rfl⟩
  clear hK
  unfold mi_X7_node at hm
  obtain ⟨_n, _hn, hm⟩ := am_bs hm
  refine r_iload_n 1 dX7_node_0 rfl ?_
  refine r_i2l dX7_node_1 ?_
  refine r_lconst 1 dX7_node_2 (by decide) ?_
  refine r_ldc2 (v := 31) kw_X7_151 dX7_node_3 ?_
  obtain ⟨xq1, exq1, hm⟩ := am_bs hm
  refine r_cS1 [.long ((a : Int32).toInt64), .long 1, .long 31] (ct_X7_in l exq1) sm_X7_58 (by decide) ⟨rfl, rfl⟩ rfl (Nat.le_of_ble_eq_true rfl) dX7_node_6 ?_
  obtain ⟨jq2, hw, hm⟩ := am_bs hm
  try dsimp only at hm
  have HJ : am_R l yX7_node cX7_node 2 (some .int) rm_X7_node (fun _ _ _ => True) 0 0 21 [] [.int jq2] h K := by
    cases hm
    exact r_ireturn dX7_node_21 rfl (by decide) HK
  clear hm
  have hm := hw
  clear hw
  refine r_if_eq 20 dX7_node_9 (by decide) (fun q => ?_) (fun q => ?_)
  · rw [if_neg (show ¬ xq1 = true from by rw [am_b0 q]; decide)] at hm
    refine r_iconst (-1) dX7_node_20 (by decide) ?_
    cases hm
    exact r_lv [] _ rfl HJ
  · rw [if_pos (show xq1 = true from am_b1 q)] at hm
    refine r_aload_n 0 dX7_node_12 rfl ?_
    refine r_iload_n 1 dX7_node_13 rfl ?_
    obtain ⟨xq3, exq3, hm⟩ := am_bs hm
    refine r_cV1 [.int a] (ct_X7_liesOn l exq3) vm_X7_153 (cs_X7_liesOn exq3) (by decide) ⟨rfl, rfl⟩ rfl (Nat.le_of_ble_eq_true rfl) dX7_node_14 ?_
    refine r_goto 21 dX7_node_17 (by decide) ?_
    cases hm
    exact r_lv [] _ rfl HJ
def mi_X7_put (f : Nat) (h : am_H) (p : Nat) (a : Int32) (b : Int32) (c : Int32) (d : Int32) : Option (Int32 × am_H) :=
  Option.bind (am_cls h 7 p) fun _n =>
  Option.bind (mi_X7_isKnot f h a) fun xq1 =>
  (if xq1 = true then
  (Option.bind (mi_X7_isKnot f h b) fun xq2 =>
  (if xq2 = true then
  (Option.bind (mi_X7_isTime f h c) fun xq3 =>
  (if xq3 = true then
  (Option.bind (mi_X7_isTime f h d) fun xq4 =>
  (if xq4 = true then
  ((if a = b then
  (some ((-2), h))
  else ((if c ≤ d then
  (Option.bind (mi_X7_asOne f h a b c d) fun xq5 =>
  Option.bind (mi_X7_isFree f h p 0 xq5 (-9)) fun xq6 =>
  (if xq6 = true then
  (Option.bind (mi_X7_many f h p 0) fun xq7 =>
  (if xq7 = 16 then
  (some ((-4), h))
  else (Option.bind (mi_X7_keepAct f h p) fun hq9 =>
  Option.bind (mi_X7_asOne f hq9 a b c d) fun xq10 =>
  Option.bind (mi_X7_putOn f hq9 p 0 xq10) fun hq12 =>
  Option.bind (mi_X7_many f hq12 p 0) fun xq13 =>
  some ((xq13 - 1), hq12))))
  else (some ((-3), h))))
  else (some ((-2), h))))))
  else (some ((-1), h))))
  else (some ((-1), h))))
  else (some ((-1), h))))
  else (some ((-1), h)))
theorem cs_X7_put {f : Nat} {h : am_H} {p : Nat} {a : Int32} {b : Int32} {c : Int32} {d : Int32} {z : (Int32 × am_H)} (hm : mi_X7_put f h p a b c d = some z) : ∃ n, h.1[p]? = some (7, n) := by
  unfold mi_X7_put at hm
  obtain ⟨n, hn, -⟩ := am_bs hm
  exact ⟨n, am_cls_of hn⟩
set_option maxHeartbeats 4000000 in
set_option maxRecDepth 100000 in
theorem ct_X7_put (l : Launch) {f : Nat} {h : am_H} {p : Nat} {a : Int32} {b : Int32} {c : Int32} {d : Int32} {r : Int32} {h2 : am_H} (hm : mi_X7_put f h p a b c d = some (r, h2)) : am_Ct l yX7_put cX7_put 5 (some .int) rm_X7_put [.ref p, .int a, .int b, .int c, .int d] h (some (.int r)) h2 := by
  refine am_met2 [(0, .ref p), (1, .int a), (2, .int b), (3, .int c), (4, .int d)] (by decide) (Nat.le_of_ble_eq_true rfl) rfl ?_
  generalize hK : (fun (v : Option Value) (h3 : am_H) => v = (some (.int r)) ∧ h3 = h2) = K
  have HK : K (some (.int r)) h2 := by rw [← hK]; exact ⟨rfl, rfl⟩
  clear hK
  unfold mi_X7_put at hm
  obtain ⟨_n, _hn, hm⟩ := am_bs hm
  refine r_iload_n 1 dX7_put_0 rfl ?_
  obtain ⟨xq1, exq1, hm⟩ := am_bs hm
  refine r_cS1 [.int a] (ct_X7_isKnot l exq1) sm_X7_118 (by decide) ⟨rfl, rfl⟩ rfl (Nat.le_of_ble_eq_true rfl) dX7_put_1 ?_
  refine r_if_eq 29 dX7_put_4 (by decide) (fun q => ?_) (fun q => ?_)
  · rw [if_neg (show ¬ xq1 = true from by rw [am_b0 q]; decide)] at hm
    refine r_iconst (-1) dX7_put_29 (by decide) ?_
    cases hm
    exact r_ireturn dX7_put_30 rfl (by decide) HK
  · rw [if_pos (show xq1 = true from am_b1 q)] at hm
    refine r_iload_n 2 dX7_put_7 rfl ?_
    obtain ⟨xq2, exq2, hm⟩ := am_bs hm
    refine r_cS1 [.int b] (ct_X7_isKnot l exq2) sm_X7_118 (by decide) ⟨rfl, rfl⟩ rfl (Nat.le_of_ble_eq_true rfl) dX7_put_8 ?_
    refine r_if_eq 29 dX7_put_11 (by decide) (fun q => ?_) (fun q => ?_)
    · rw [if_neg (show ¬ xq2 = true from by rw [am_b0 q]; decide)] at hm
      refine r_iconst (-1) dX7_put_29 (by decide) ?_
      cases hm
      exact r_ireturn dX7_put_30 rfl (by decide) HK
    · rw [if_pos (show xq2 = true from am_b1 q)] at hm
      refine r_iload_n 3 dX7_put_14 rfl ?_
      obtain ⟨xq3, exq3, hm⟩ := am_bs hm
      refine r_cS1 [.int c] (ct_X7_isTime l exq3) sm_X7_122 (by decide) ⟨rfl, rfl⟩ rfl (Nat.le_of_ble_eq_true rfl) dX7_put_15 ?_
      refine r_if_eq 29 dX7_put_18 (by decide) (fun q => ?_) (fun q => ?_)
      · rw [if_neg (show ¬ xq3 = true from by rw [am_b0 q]; decide)] at hm
        refine r_iconst (-1) dX7_put_29 (by decide) ?_
        cases hm
        exact r_ireturn dX7_put_30 rfl (by decide) HK
      · rw [if_pos (show xq3 = true from am_b1 q)] at hm
        refine r_iload 4 dX7_put_21 rfl ?_
        obtain ⟨xq4, exq4, hm⟩ := am_bs hm
        refine r_cS1 [.int d] (ct_X7_isTime l exq4) sm_X7_122 (by decide) ⟨rfl, rfl⟩ rfl (Nat.le_of_ble_eq_true rfl) dX7_put_23 ?_
        refine r_if_ne 31 dX7_put_26 (by decide) (fun q => ?_) (fun q => ?_)
        · rw [if_pos (show xq4 = true from am_b1 q)] at hm
          refine r_iload_n 1 dX7_put_31 rfl ?_
          refine r_iload_n 2 dX7_put_32 rfl ?_
          refine r_icmp_eq 42 dX7_put_33 (by decide) (fun q => ?_) (fun q => ?_)
          · rw [if_pos q] at hm
            refine r_bipush (-2) dX7_put_42 (by decide) ?_
            cases hm
            exact r_ireturn dX7_put_44 rfl (by decide) HK
          · rw [if_neg q] at hm
            refine r_iload 4 dX7_put_36 rfl ?_
            refine r_iload_n 3 dX7_put_38 rfl ?_
            refine r_icmp_ge 45 dX7_put_39 (by decide) (fun q => ?_) (fun q => ?_)
            · rw [if_pos q] at hm
              refine r_aload_n 0 dX7_put_45 rfl ?_
              refine r_iconst 0 dX7_put_46 (by decide) ?_
              refine r_iload_n 1 dX7_put_47 rfl ?_
              refine r_iload_n 2 dX7_put_48 rfl ?_
              refine r_iload_n 3 dX7_put_49 rfl ?_
              refine r_iload 4 dX7_put_50 rfl ?_
              obtain ⟨xq5, exq5, hm⟩ := am_bs hm
              refine r_cS1 [.int a, .int b, .int c, .int d] (ct_X7_asOne l exq5) sm_X7_95 (by decide) ⟨rfl, rfl⟩ rfl (Nat.le_of_ble_eq_true rfl) dX7_put_52 ?_
              refine r_bipush (-9) dX7_put_55 (by decide) ?_
              obtain ⟨xq6, exq6, hm⟩ := am_bs hm
              refine r_cV1 [.int 0, .int xq5, .int (-9)] (ct_X7_isFree l exq6) vm_X7_125 (cs_X7_isFree exq6) (by decide) ⟨rfl, rfl⟩ rfl (Nat.le_of_ble_eq_true rfl) dX7_put_57 ?_
              refine r_if_ne 66 dX7_put_60 (by decide) (fun q => ?_) (fun q => ?_)
              · rw [if_pos (show xq6 = true from am_b1 q)] at hm
                refine r_aload_n 0 dX7_put_66 rfl ?_
                refine r_iconst 0 dX7_put_67 (by decide) ?_
                obtain ⟨xq7, exq7, hm⟩ := am_bs hm
                refine r_cV1 [.int 0] (ct_X7_many l exq7) vm_X7_105 (cs_X7_many exq7) (by decide) ⟨rfl, rfl⟩ rfl (Nat.le_of_ble_eq_true rfl) dX7_put_68 ?_
                refine r_bipush 16 dX7_put_71 (by decide) ?_
                refine r_icmp_ne 79 dX7_put_73 (by decide) (fun q => ?_) (fun q => ?_)
                · rw [if_neg q] at hm
                  refine r_aload_n 0 dX7_put_79 rfl ?_
                  obtain ⟨hq9, exq8, hm⟩ := am_bs hm
                  refine r_cV0 [] (ct_X7_keepAct l exq8) vm_X7_159 (cs_X7_keepAct exq8) (by decide) ⟨rfl, rfl⟩ rfl (Nat.le_of_ble_eq_true rfl) dX7_put_80 ?_
                  refine r_aload_n 0 dX7_put_83 rfl ?_
                  refine r_iconst 0 dX7_put_84 (by decide) ?_
                  refine r_iload_n 1 dX7_put_85 rfl ?_
                  refine r_iload_n 2 dX7_put_86 rfl ?_
                  refine r_iload_n 3 dX7_put_87 rfl ?_
                  refine r_iload 4 dX7_put_88 rfl ?_
                  obtain ⟨xq10, exq10, hm⟩ := am_bs hm
                  refine r_cS1 [.int a, .int b, .int c, .int d] (ct_X7_asOne l exq10) sm_X7_95 (by decide) ⟨rfl, rfl⟩ rfl (Nat.le_of_ble_eq_true rfl) dX7_put_90 ?_
                  obtain ⟨hq12, exq11, hm⟩ := am_bs hm
                  refine r_cV0 [.int 0, .int xq10] (ct_X7_putOn l exq11) vm_X7_162 (cs_X7_putOn exq11) (by decide) ⟨rfl, rfl⟩ rfl (Nat.le_of_ble_eq_true rfl) dX7_put_93 ?_
                  refine r_aload_n 0 dX7_put_96 rfl ?_
                  refine r_iconst 0 dX7_put_97 (by decide) ?_
                  obtain ⟨xq13, exq13, hm⟩ := am_bs hm
                  refine r_cV1 [.int 0] (ct_X7_many l exq13) vm_X7_105 (cs_X7_many exq13) (by decide) ⟨rfl, rfl⟩ rfl (Nat.le_of_ble_eq_true rfl) dX7_put_98 ?_
                  refine r_iconst 1 dX7_put_101 (by decide) ?_
                  refine r_isub dX7_put_102 ?_
                  cases hm
                  exact r_ireturn dX7_put_103 rfl (by decide) HK
                · rw [if_pos q] at hm
                  refine r_bipush (-4) dX7_put_76 (by decide) ?_
                  cases hm
                  exact r_ireturn dX7_put_78 rfl (by decide) HK
              · rw [if_neg (show ¬ xq6 = true from by rw [am_b0 q]; decide)] at hm
                refine r_bipush (-3) dX7_put_63 (by decide) ?_
                cases hm
                exact r_ireturn dX7_put_65 rfl (by decide) HK
            · rw [if_neg q] at hm
              refine r_bipush (-2) dX7_put_42 (by decide) ?_
              cases hm
              exact r_ireturn dX7_put_44 rfl (by decide) HK
        · rw [if_neg (show ¬ xq4 = true from by rw [am_b0 q]; decide)] at hm
          refine r_iconst (-1) dX7_put_29 (by decide) ?_
          cases hm
          exact r_ireturn dX7_put_30 rfl (by decide) HK
def mi_X7_see (f : Nat) (h : am_H) (p : Nat) (a : Int32) (b : Int32) (c : Int32) (d : Int32) : Option (Int32 × am_H) :=
  Option.bind (am_cls h 7 p) fun _n =>
  Option.bind (mi_X7_isTime f h a) fun xq1 =>
  (if xq1 = true then
  (Option.bind (mi_X7_isKnot f h b) fun xq2 =>
  (if xq2 = true then
  (Option.bind (mi_X7_isKnot f h c) fun xq3 =>
  (if xq3 = true then
  ((if b = c then
  (some ((-2), h))
  else (Option.bind (mi_X7_in f h ((d : Int32).toInt64) 0 1) fun xq4 =>
  (if xq4 = true then
  (Option.bind (am_gi h 7 p 11) fun xq5 =>
  (if xq5 = 6 then
  (some ((-4), h))
  else (Option.bind (am_gr h 7 p 12) fun xq6 =>
  Option.bind (am_gi h 7 p 11) fun xq7 =>
  Option.bind (am_si h 9 xq6 xq7 a) fun hq8 =>
  Option.bind (am_gr hq8 7 p 13) fun xq9 =>
  Option.bind (am_gi hq8 7 p 11) fun xq10 =>
  Option.bind (am_si hq8 9 xq9 xq10 b) fun hq11 =>
  Option.bind (am_gr hq11 7 p 14) fun xq12 =>
  Option.bind (am_gi hq11 7 p 11) fun xq13 =>
  Option.bind (am_si hq11 9 xq12 xq13 c) fun hq14 =>
  Option.bind (am_gr hq14 7 p 15) fun xq15 =>
  Option.bind (am_gi hq14 7 p 11) fun xq16 =>
  Option.bind (am_si hq14 9 xq15 xq16 d) fun hq17 =>
  Option.bind (am_gi hq17 7 p 11) fun xq18 =>
  Option.bind (am_pi hq17 7 p 11 (xq18 + 1)) fun hq19 =>
  Option.bind (am_gi hq19 7 p 11) fun xq20 =>
  some (xq20, hq19))))
  else (some ((-2), h))))))
  else (some ((-1), h))))
  else (some ((-1), h))))
  else (some ((-1), h)))
theorem cs_X7_see {f : Nat} {h : am_H} {p : Nat} {a : Int32} {b : Int32} {c : Int32} {d : Int32} {z : (Int32 × am_H)} (hm : mi_X7_see f h p a b c d = some z) : ∃ n, h.1[p]? = some (7, n) := by
  unfold mi_X7_see at hm
  obtain ⟨n, hn, -⟩ := am_bs hm
  exact ⟨n, am_cls_of hn⟩
set_option maxHeartbeats 4000000 in
set_option maxRecDepth 100000 in
theorem ct_X7_see (l : Launch) {f : Nat} {h : am_H} {p : Nat} {a : Int32} {b : Int32} {c : Int32} {d : Int32} {r : Int32} {h2 : am_H} (hm : mi_X7_see f h p a b c d = some (r, h2)) : am_Ct l yX7_see cX7_see 5 (some .int) rm_X7_see [.ref p, .int a, .int b, .int c, .int d] h (some (.int r)) h2 := by
  refine am_met2 [(0, .ref p), (1, .int a), (2, .int b), (3, .int c), (4, .int d)] (by decide) (Nat.le_of_ble_eq_true rfl) rfl ?_
  generalize hK : (fun (v : Option Value) (h3 : am_H) => v = (some (.int r)) ∧ h3 = h2) = K
  have HK : K (some (.int r)) h2 := by rw [← hK]; exact ⟨rfl, rfl⟩
  clear hK
  unfold mi_X7_see at hm
  obtain ⟨_n, _hn, hm⟩ := am_bs hm
  refine r_iload_n 1 dX7_see_0 rfl ?_
  obtain ⟨xq1, exq1, hm⟩ := am_bs hm
  refine r_cS1 [.int a] (ct_X7_isTime l exq1) sm_X7_122 (by decide) ⟨rfl, rfl⟩ rfl (Nat.le_of_ble_eq_true rfl) dX7_see_1 ?_
  refine r_if_eq 21 dX7_see_4 (by decide) (fun q => ?_) (fun q => ?_)
  · rw [if_neg (show ¬ xq1 = true from by rw [am_b0 q]; decide)] at hm
    refine r_iconst (-1) dX7_see_21 (by decide) ?_
    cases hm
    exact r_ireturn dX7_see_22 rfl (by decide) HK
  · rw [if_pos (show xq1 = true from am_b1 q)] at hm
    refine r_iload_n 2 dX7_see_7 rfl ?_
    obtain ⟨xq2, exq2, hm⟩ := am_bs hm
    refine r_cS1 [.int b] (ct_X7_isKnot l exq2) sm_X7_118 (by decide) ⟨rfl, rfl⟩ rfl (Nat.le_of_ble_eq_true rfl) dX7_see_8 ?_
    refine r_if_eq 21 dX7_see_11 (by decide) (fun q => ?_) (fun q => ?_)
    · rw [if_neg (show ¬ xq2 = true from by rw [am_b0 q]; decide)] at hm
      refine r_iconst (-1) dX7_see_21 (by decide) ?_
      cases hm
      exact r_ireturn dX7_see_22 rfl (by decide) HK
    · rw [if_pos (show xq2 = true from am_b1 q)] at hm
      refine r_iload_n 3 dX7_see_14 rfl ?_
      obtain ⟨xq3, exq3, hm⟩ := am_bs hm
      refine r_cS1 [.int c] (ct_X7_isKnot l exq3) sm_X7_118 (by decide) ⟨rfl, rfl⟩ rfl (Nat.le_of_ble_eq_true rfl) dX7_see_15 ?_
      refine r_if_ne 23 dX7_see_18 (by decide) (fun q => ?_) (fun q => ?_)
      · rw [if_pos (show xq3 = true from am_b1 q)] at hm
        refine r_iload_n 2 dX7_see_23 rfl ?_
        refine r_iload_n 3 dX7_see_24 rfl ?_
        refine r_icmp_eq 39 dX7_see_25 (by decide) (fun q => ?_) (fun q => ?_)
        · rw [if_pos q] at hm
          refine r_bipush (-2) dX7_see_39 (by decide) ?_
          cases hm
          exact r_ireturn dX7_see_41 rfl (by decide) HK
        · rw [if_neg q] at hm
          refine r_iload 4 dX7_see_28 rfl ?_
          refine r_i2l dX7_see_30 ?_
          refine r_lconst 0 dX7_see_31 (by decide) ?_
          refine r_lconst 1 dX7_see_32 (by decide) ?_
          obtain ⟨xq4, exq4, hm⟩ := am_bs hm
          refine r_cS1 [.long ((d : Int32).toInt64), .long 0, .long 1] (ct_X7_in l exq4) sm_X7_58 (by decide) ⟨rfl, rfl⟩ rfl (Nat.le_of_ble_eq_true rfl) dX7_see_33 ?_
          refine r_if_ne 42 dX7_see_36 (by decide) (fun q => ?_) (fun q => ?_)
          · rw [if_pos (show xq4 = true from am_b1 q)] at hm
            refine r_aload_n 0 dX7_see_42 rfl ?_
            obtain ⟨xq5, exq5, hm⟩ := am_bs hm
            refine r_geti exq5 fl_X7_247 rfl dX7_see_43 ?_
            refine r_bipush 6 dX7_see_46 (by decide) ?_
            refine r_icmp_ne 54 dX7_see_48 (by decide) (fun q => ?_) (fun q => ?_)
            · rw [if_neg q] at hm
              refine r_aload_n 0 dX7_see_54 rfl ?_
              obtain ⟨xq6, exq6, hm⟩ := am_bs hm
              refine r_getr exq6 fl_X7_34 rfl dX7_see_55 ?_
              refine r_aload_n 0 dX7_see_58 rfl ?_
              obtain ⟨xq7, exq7, hm⟩ := am_bs hm
              refine r_geti exq7 fl_X7_247 rfl dX7_see_59 ?_
              refine r_iload_n 1 dX7_see_62 rfl ?_
              obtain ⟨hq8, ehq8, hm⟩ := am_bs hm
              refine r_iast ehq8 dX7_see_63 ?_
              refine r_aload_n 0 dX7_see_64 rfl ?_
              obtain ⟨xq9, exq9, hm⟩ := am_bs hm
              refine r_getr exq9 fl_X7_37 rfl dX7_see_65 ?_
              refine r_aload_n 0 dX7_see_68 rfl ?_
              obtain ⟨xq10, exq10, hm⟩ := am_bs hm
              refine r_geti exq10 fl_X7_247 rfl dX7_see_69 ?_
              refine r_iload_n 2 dX7_see_72 rfl ?_
              obtain ⟨hq11, ehq11, hm⟩ := am_bs hm
              refine r_iast ehq11 dX7_see_73 ?_
              refine r_aload_n 0 dX7_see_74 rfl ?_
              obtain ⟨xq12, exq12, hm⟩ := am_bs hm
              refine r_getr exq12 fl_X7_40 rfl dX7_see_75 ?_
              refine r_aload_n 0 dX7_see_78 rfl ?_
              obtain ⟨xq13, exq13, hm⟩ := am_bs hm
              refine r_geti exq13 fl_X7_247 rfl dX7_see_79 ?_
              refine r_iload_n 3 dX7_see_82 rfl ?_
              obtain ⟨hq14, ehq14, hm⟩ := am_bs hm
              refine r_iast ehq14 dX7_see_83 ?_
              refine r_aload_n 0 dX7_see_84 rfl ?_
              obtain ⟨xq15, exq15, hm⟩ := am_bs hm
              refine r_getr exq15 fl_X7_43 rfl dX7_see_85 ?_
              refine r_aload_n 0 dX7_see_88 rfl ?_
              obtain ⟨xq16, exq16, hm⟩ := am_bs hm
              refine r_geti exq16 fl_X7_247 rfl dX7_see_89 ?_
              refine r_iload 4 dX7_see_92 rfl ?_
              obtain ⟨hq17, ehq17, hm⟩ := am_bs hm
              refine r_iast ehq17 dX7_see_94 ?_
              refine r_aload_n 0 dX7_see_95 rfl ?_
              refine r_dup dX7_see_96 rfl ?_
              obtain ⟨xq18, exq18, hm⟩ := am_bs hm
              refine r_geti exq18 fl_X7_247 rfl dX7_see_97 ?_
              refine r_iconst 1 dX7_see_100 (by decide) ?_
              refine r_iadd dX7_see_101 ?_
              obtain ⟨hq19, ehq19, hm⟩ := am_bs hm
              refine r_puti ehq19 fl_X7_247 rfl rfl dX7_see_102 ?_
              refine r_aload_n 0 dX7_see_105 rfl ?_
              obtain ⟨xq20, exq20, hm⟩ := am_bs hm
              refine r_geti exq20 fl_X7_247 rfl dX7_see_106 ?_
              cases hm
              exact r_ireturn dX7_see_109 rfl (by decide) HK
            · rw [if_pos q] at hm
              refine r_bipush (-4) dX7_see_51 (by decide) ?_
              cases hm
              exact r_ireturn dX7_see_53 rfl (by decide) HK
          · rw [if_neg (show ¬ xq4 = true from by rw [am_b0 q]; decide)] at hm
            refine r_bipush (-2) dX7_see_39 (by decide) ?_
            cases hm
            exact r_ireturn dX7_see_41 rfl (by decide) HK
      · rw [if_neg (show ¬ xq3 = true from by rw [am_b0 q]; decide)] at hm
        refine r_iconst (-1) dX7_see_21 (by decide) ?_
        cases hm
        exact r_ireturn dX7_see_22 rfl (by decide) HK
def mi_X7_seed (f : Nat) (h : am_H) (p : Nat) (a : Int64) : Option (Int64 × am_H) :=
  Option.bind (am_cls h 7 p) fun _n =>
  Option.bind (am_gl h 7 p 17) fun xq1 =>
  Option.bind (am_pl h 7 p 17 a) fun hq2 =>
  some (xq1, hq2)
theorem cs_X7_seed {f : Nat} {h : am_H} {p : Nat} {a : Int64} {z : (Int64 × am_H)} (hm : mi_X7_seed f h p a = some z) : ∃ n, h.1[p]? = some (7, n) := by
  unfold mi_X7_seed at hm
  obtain ⟨n, hn, -⟩ := am_bs hm
  exact ⟨n, am_cls_of hn⟩
set_option maxHeartbeats 4000000 in
set_option maxRecDepth 100000 in
theorem ct_X7_seed (l : Launch) {f : Nat} {h : am_H} {p : Nat} {a : Int64} {r : Int64} {h2 : am_H} (hm : mi_X7_seed f h p a = some (r, h2)) : am_Ct l yX7_seed cX7_seed 5 (some .long) rm_X7_seed [.ref p, .long a] h (some (.long r)) h2 := by
  refine am_met2 [(0, .ref p), (1, .long a)] (by decide) (Nat.le_of_ble_eq_true rfl) rfl ?_
  generalize hK : (fun (v : Option Value) (h3 : am_H) => v = (some (.long r)) ∧ h3 = h2) = K
  have HK : K (some (.long r)) h2 := by rw [← hK]; exact ⟨rfl, rfl⟩
  clear hK
  unfold mi_X7_seed at hm
  obtain ⟨_n, _hn, hm⟩ := am_bs hm
  refine r_aload_n 0 dX7_seed_0 rfl ?_
  obtain ⟨xq1, exq1, hm⟩ := am_bs hm
  refine r_getl exq1 fl_X7_268 rfl dX7_seed_1 ?_
  refine r_lstore_n [(3, .long xq1), (0, .ref p), (1, .long a)] dX7_seed_4 (by decide) rfl ?_
  refine r_aload_n 1 dX7_seed_5 rfl ?_
  refine r_lload_n 2 dX7_seed_6 rfl ?_
  obtain ⟨hq2, ehq2, hm⟩ := am_bs hm
  refine r_putl ehq2 fl_X7_268 rfl rfl dX7_seed_7 ?_
  refine r_lload_n 0 dX7_seed_10 rfl ?_
  cases hm
  exact r_lreturn dX7_seed_11 rfl (by decide) HK
def lo_X7_factorial_4 (f : Nat) (h : am_H) (a0 : Int32) : Nat → Int32 → Int32 → Option (Int32)
  | 0, _, _ => none
  | n + 1, a1, a2 =>
  (if a0 < a2 then
  (some a1)
  else (lo_X7_factorial_4 f h a0 n (a1 * a2) (a2 + 1)))
set_option maxHeartbeats 4000000 in
set_option maxRecDepth 100000 in
theorem ll_X7_factorial_4 (l : Launch) (f : Nat) (h : am_H) (a0 : Int32) (K : Option Value → am_H → Prop) : ∀ (n : Nat) (a1 : Int32) (a2 : Int32) (z : Int32), lo_X7_factorial_4 f h a0 n a1 a2 = some z →
    am_R l yX7_factorial cX7_factorial 3 (some .int) rm_X7_factorial (fun _ _ _ => True) 0 0 19 [(1, .int z)] [] h K →
    am_R l yX7_factorial cX7_factorial 3 (some .int) rm_X7_factorial (fun _ _ _ => True) 0 0 4 [(0, .int a0), (1, .int a1), (2, .int a2)] [] h K := by
  intro n
  induction n with
  | zero =>
    intro a1 a2 z hm kE
    cases hm
  | succ n ih =>
    intro a1 a2 z hm kE
    rw [lo_X7_factorial_4.eq_2] at hm
    refine r_iload_n 2 dX7_factorial_4 rfl ?_
    refine r_iload_n 0 dX7_factorial_5 rfl ?_
    refine r_icmp_gt 19 dX7_factorial_6 (by decide) (fun q => ?_) (fun q => ?_)
    · rw [if_pos q] at hm
      cases hm
      exact r_lv [1] _ rfl kE
    · rw [if_neg q] at hm
      refine r_iload_n 1 dX7_factorial_9 rfl ?_
      refine r_iload_n 2 dX7_factorial_10 rfl ?_
      refine r_imul dX7_factorial_11 ?_
      refine r_istore_n [(1, .int (a1 * a2)), (0, .int a0), (2, .int a2)] dX7_factorial_12 (by decide) rfl ?_
      refine r_inc 1 2 [(2, .int (a2 + 1)), (1, .int (a1 * a2)), (0, .int a0)] dX7_factorial_13 (by decide) rfl (by decide) rfl ?_
      refine r_goto 4 dX7_factorial_16 (by decide) ?_
      exact r_lv [2, 1, 0] _ rfl (ih (a1 * a2) (a2 + 1) _ hm kE)
def mi_X7_factorial (f : Nat) (h : am_H) (a : Int32) : Option Int32 :=
  Option.bind (lo_X7_factorial_4 f h a f 1 2) fun oq1 =>
  some oq1
set_option maxHeartbeats 4000000 in
set_option maxRecDepth 100000 in
theorem ct_X7_factorial (l : Launch) {f : Nat} {h : am_H} {a : Int32} {r : Int32} (hm : mi_X7_factorial f h a = some r) : am_Ct l yX7_factorial cX7_factorial 3 (some .int) rm_X7_factorial [.int a] h (some (.int r)) h := by
  refine am_met2 [(0, .int a)] (by decide) (Nat.le_of_ble_eq_true rfl) rfl ?_
  generalize hK : (fun (v : Option Value) (h3 : am_H) => v = (some (.int r)) ∧ h3 = h) = K
  have HK : K (some (.int r)) h := by rw [← hK]; exact ⟨rfl, rfl⟩
  clear hK
  unfold mi_X7_factorial at hm
  refine r_iconst 1 dX7_factorial_0 (by decide) ?_
  refine r_istore_n [(1, .int 1), (0, .int a)] dX7_factorial_1 (by decide) rfl ?_
  refine r_iconst 2 dX7_factorial_2 (by decide) ?_
  refine r_istore_n [(2, .int 2), (1, .int 1), (0, .int a)] dX7_factorial_3 (by decide) rfl ?_
  obtain ⟨oq1, ew, hm⟩ := am_bs hm
  try dsimp only at hm
  refine r_lv [2, 1, 0] _ rfl (ll_X7_factorial_4 l f h a _ f 1 2 _ ew ?_)
  refine r_iload_n 0 dX7_factorial_19 rfl ?_
  cases hm
  exact r_ireturn dX7_factorial_20 rfl (by decide) HK
def lo_X7_share_40 (f : Nat) (a0 : Nat) (a1 : Int32) (a2 : Int32) (a3 : Bool) (a4 : Int32) : Nat → Int32 → Int32 → am_H → Option (Int32 × am_H)
  | 0, _, _, _ => none
  | n + 1, a5, a6, h =>
  (if ((1 : Int32) <<< (a4 &&& 31)) ≤ a6 then
  (some (a5, h))
  else (Option.bind (mi_X7_spansOf f h a0 a6 a4) fun xq1 =>
  Option.bind (mi_X7_has f h xq1 a1) fun xq2 =>
  Option.bind ((if xq2 = true then
  (some (a5, h))
  else (Option.bind (mi_X7_spanOf f h a0 0 a1) fun xq5 =>
  Option.bind (mi_X7_livesAt f h xq5 a2) fun xq6 =>
  (if xq6 = true then
  (Option.bind (mi_X7_ones f h a6) fun xq7 =>
  Option.bind (mi_X7_factorial f h xq7) fun xq8 =>
  Option.bind (mi_X7_ones f h a6) fun xq9 =>
  Option.bind (mi_X7_factorial f h ((a4 - 1) - xq9)) fun xq10 =>
  Option.bind (mi_X7_partsBy f h a0 0 a2 xq1) fun (xq11, hq12) =>
  Option.bind (mi_X7_partsBy f hq12 a0 0 a2 (xq1 ||| ((1 : Int32) <<< (a1 &&& 31)))) fun (xq14, hq15) =>
  some ((a5 + ((xq8 * xq10) * (xq11 - xq14))), hq15))
  else (some (a5, h)))))) fun (jq3, hq4) =>
  lo_X7_share_40 f a0 a1 a2 a3 a4 n jq3 (a6 + 1) hq4))
set_option maxHeartbeats 4000000 in
set_option maxRecDepth 100000 in
theorem ll_X7_share_40 (l : Launch) (f : Nat) (a0 : Nat) (a1 : Int32) (a2 : Int32) (a3 : Bool) (a4 : Int32) (K : Option Value → am_H → Prop) : ∀ (n : Nat) (a5 : Int32) (a6 : Int32) (h : am_H) (z : Int32 × am_H), lo_X7_share_40 f a0 a1 a2 a3 a4 n a5 a6 h = some z →
    am_R l yX7_share cX7_share 9 (some .int) rm_X7_share (fun _ _ _ => True) 0 0 140 [(3, .int (am_b a3)), (4, .int a4), (5, .int z.1)] [] z.2 K →
    am_R l yX7_share cX7_share 9 (some .int) rm_X7_share (fun _ _ _ => True) 0 0 40 [(0, .ref a0), (1, .int a1), (2, .int a2), (3, .int (am_b a3)), (4, .int a4), (5, .int a5), (6, .int a6)] [] h K := by
  intro n
  induction n with
  | zero =>
    intro a5 a6 h z hm kE
    cases hm
  | succ n ih =>
    intro a5 a6 h z hm kE
    rw [lo_X7_share_40.eq_2] at hm
    refine r_iload 6 dX7_share_40 rfl ?_
    refine r_iconst 1 dX7_share_42 (by decide) ?_
    refine r_iload 4 dX7_share_43 rfl ?_
    refine r_ishl dX7_share_45 ?_
    refine r_icmp_ge 140 dX7_share_46 (by decide) (fun q => ?_) (fun q => ?_)
    · rw [if_pos q] at hm
      cases hm
      exact r_lv [3, 4, 5] _ rfl kE
    · rw [if_neg q] at hm
      refine r_aload_n 0 dX7_share_49 rfl ?_
      refine r_iload 6 dX7_share_50 rfl ?_
      refine r_iload 4 dX7_share_52 rfl ?_
      obtain ⟨xq1, exq1, hm⟩ := am_bs hm
      refine r_cV1 [.int a6, .int a4] (ct_X7_spansOf l exq1) vm_X7_257 (cs_X7_spansOf exq1) (by decide) ⟨rfl, rfl⟩ rfl (Nat.le_of_ble_eq_true rfl) dX7_share_54 ?_
      refine r_istore [(7, .int xq1), (0, .ref a0), (1, .int a1), (2, .int a2), (3, .int (am_b a3)), (4, .int a4), (5, .int a5), (6, .int a6)] dX7_share_57 (by decide) rfl ?_
      refine r_iload 0 dX7_share_59 rfl ?_
      refine r_iload_n 2 dX7_share_61 rfl ?_
      obtain ⟨xq2, exq2, hm⟩ := am_bs hm
      refine r_cS1 [.int xq1, .int a1] (ct_X7_has l exq2) sm_X7_185 (by decide) ⟨rfl, rfl⟩ rfl (Nat.le_of_ble_eq_true rfl) dX7_share_62 ?_
      obtain ⟨⟨jq3, hq4⟩, hw, hm⟩ := am_bs hm
      try dsimp only at hm
      have HJ : am_R l yX7_share cX7_share 9 (some .int) rm_X7_share (fun _ _ _ => True) 0 0 134 [(0, .ref a0), (1, .int a1), (2, .int a2), (3, .int (am_b a3)), (4, .int a4), (5, .int jq3), (6, .int a6)] [] hq4 K := by
        refine r_inc 1 6 [(6, .int (a6 + 1)), (0, .ref a0), (1, .int a1), (2, .int a2), (3, .int (am_b a3)), (4, .int a4), (5, .int jq3)] dX7_share_134 (by decide) rfl (by decide) rfl ?_
        refine r_goto 40 dX7_share_137 (by decide) ?_
        exact r_lv [1, 2, 3, 4, 5, 6, 0] _ rfl (ih jq3 (a6 + 1) hq4 _ hm kE)
      clear hm
      have hm := hw
      clear hw
      refine r_if_ne 134 dX7_share_65 (by decide) (fun q => ?_) (fun q => ?_)
      · rw [if_pos (show xq2 = true from am_b1 q)] at hm
        cases hm
        exact r_lv [1, 2, 3, 4, 5, 6, 7] _ rfl HJ
      · rw [if_neg (show ¬ xq2 = true from by rw [am_b0 q]; decide)] at hm
        refine r_aload_n 1 dX7_share_68 rfl ?_
        refine r_iconst 0 dX7_share_69 (by decide) ?_
        refine r_iload_n 2 dX7_share_70 rfl ?_
        obtain ⟨xq5, exq5, hm⟩ := am_bs hm
        refine r_cV1 [.int 0, .int a1] (ct_X7_spanOf l exq5) vm_X7_108 (cs_X7_spanOf exq5) (by decide) ⟨rfl, rfl⟩ rfl (Nat.le_of_ble_eq_true rfl) dX7_share_71 ?_
        refine r_iload_n 3 dX7_share_74 rfl ?_
        obtain ⟨xq6, exq6, hm⟩ := am_bs hm
        refine r_cS1 [.int xq5, .int a2] (ct_X7_livesAt l exq6) sm_X7_188 (by decide) ⟨rfl, rfl⟩ rfl (Nat.le_of_ble_eq_true rfl) dX7_share_75 ?_
        refine r_if_eq 134 dX7_share_78 (by decide) (fun q => ?_) (fun q => ?_)
        · rw [if_neg (show ¬ xq6 = true from by rw [am_b0 q]; decide)] at hm
          cases hm
          exact r_lv [1, 2, 3, 4, 5, 6, 7] _ rfl HJ
        · rw [if_pos (show xq6 = true from am_b1 q)] at hm
          refine r_iload 7 dX7_share_81 rfl ?_
          obtain ⟨xq7, exq7, hm⟩ := am_bs hm
          refine r_cS1 [.int a6] (ct_X7_ones l exq7) sm_X7_227 (by decide) ⟨rfl, rfl⟩ rfl (Nat.le_of_ble_eq_true rfl) dX7_share_83 ?_
          obtain ⟨xq8, exq8, hm⟩ := am_bs hm
          refine r_cS1 [.int xq7] (ct_X7_factorial l exq8) sm_X7_260 (by decide) ⟨rfl, rfl⟩ rfl (Nat.le_of_ble_eq_true rfl) dX7_share_86 ?_
          refine r_iload 5 dX7_share_89 rfl ?_
          refine r_iconst 1 dX7_share_91 (by decide) ?_
          refine r_isub dX7_share_92 ?_
          refine r_iload 7 dX7_share_93 rfl ?_
          obtain ⟨xq9, exq9, hm⟩ := am_bs hm
          refine r_cS1 [.int a6] (ct_X7_ones l exq9) sm_X7_227 (by decide) ⟨rfl, rfl⟩ rfl (Nat.le_of_ble_eq_true rfl) dX7_share_95 ?_
          refine r_isub dX7_share_98 ?_
          obtain ⟨xq10, exq10, hm⟩ := am_bs hm
          refine r_cS1 [.int ((a4 - 1) - xq9)] (ct_X7_factorial l exq10) sm_X7_260 (by decide) ⟨rfl, rfl⟩ rfl (Nat.le_of_ble_eq_true rfl) dX7_share_99 ?_
          refine r_imul dX7_share_102 ?_
          refine r_istore [(8, .int (xq8 * xq10)), (7, .int xq1), (0, .ref a0), (1, .int a1), (2, .int a2), (3, .int (am_b a3)), (4, .int a4), (5, .int a5), (6, .int a6)] dX7_share_103 (by decide) rfl ?_
          refine r_iload 7 dX7_share_105 rfl ?_
          refine r_iload 0 dX7_share_107 rfl ?_
          refine r_aload_n 2 dX7_share_109 rfl ?_
          refine r_iconst 0 dX7_share_110 (by decide) ?_
          refine r_iload_n 4 dX7_share_111 rfl ?_
          refine r_iload 1 dX7_share_112 rfl ?_
          obtain ⟨⟨xq11, hq12⟩, exq11, hm⟩ := am_bs hm
          try dsimp only at hm
          refine r_cV1 [.int 0, .int a2, .int xq1] (ct_X7_partsBy l exq11) vm_X7_192 (cs_X7_partsBy exq11) (by decide) ⟨rfl, rfl⟩ rfl (Nat.le_of_ble_eq_true rfl) dX7_share_114 ?_
          refine r_aload_n 2 dX7_share_117 rfl ?_
          refine r_iconst 0 dX7_share_118 (by decide) ?_
          refine r_iload_n 4 dX7_share_119 rfl ?_
          refine r_iload 1 dX7_share_120 rfl ?_
          refine r_iconst 1 dX7_share_122 (by decide) ?_
          refine r_iload_n 3 dX7_share_123 rfl ?_
          refine r_ishl dX7_share_124 ?_
          refine r_ior dX7_share_125 ?_
          obtain ⟨⟨xq14, hq15⟩, exq14, hm⟩ := am_bs hm
          try dsimp only at hm
          refine r_cV1 [.int 0, .int a2, .int (xq1 ||| ((1 : Int32) <<< (a1 &&& 31)))] (ct_X7_partsBy l exq14) vm_X7_192 (cs_X7_partsBy exq14) (by decide) ⟨rfl, rfl⟩ rfl (Nat.le_of_ble_eq_true rfl) dX7_share_126 ?_
          refine r_isub dX7_share_129 ?_
          refine r_imul dX7_share_130 ?_
          refine r_iadd dX7_share_131 ?_
          refine r_istore [(5, .int (a5 + ((xq8 * xq10) * (xq11 - xq14)))), (8, .int (xq8 * xq10)), (7, .int xq1), (0, .ref a0), (1, .int a1), (2, .int a2), (3, .int (am_b a3)), (4, .int a4), (6, .int a6)] dX7_share_132 (by decide) rfl ?_
          cases hm
          exact r_lv [3, 4, 5, 6, 7, 0, 8] _ rfl HJ
def mi_X7_share (f : Nat) (h : am_H) (p : Nat) (a : Int32) (b : Int32) (c : Bool) : Option (Int32 × am_H) :=
  Option.bind (am_cls h 7 p) fun _n =>
  Option.bind (mi_X7_isSpan f h p a) fun xq1 =>
  (if xq1 = true then
  (Option.bind (mi_X7_isTime f h b) fun xq2 =>
  (if xq2 = true then
  (Option.bind (mi_X7_findLiving f h p b) fun (xq3, hq4) =>
  (if xq3 ≤ 8 then
  (Option.bind (lo_X7_share_40 f p a b c xq3 f 0 0 hq4) fun (oq6, hq7) =>
  Option.bind (mi_X7_factorial f hq7 xq3) fun xq8 =>
  Option.bind (mi_X7_common f hq7 oq6 xq8) fun xq9 =>
  Option.bind ((if c = true then
  (Option.bind (am_nz xq9) fun uq11 =>
  some (oq6 / xq9))
  else (Option.bind (mi_X7_factorial f hq7 xq3) fun xq12 =>
  Option.bind (am_nz xq9) fun uq13 =>
  some (xq12 / xq9)))) fun jq10 =>
  some (jq10, hq7))
  else (some ((-4), hq4))))
  else (some ((-1), h))))
  else (some ((-1), h)))
theorem cs_X7_share {f : Nat} {h : am_H} {p : Nat} {a : Int32} {b : Int32} {c : Bool} {z : (Int32 × am_H)} (hm : mi_X7_share f h p a b c = some z) : ∃ n, h.1[p]? = some (7, n) := by
  unfold mi_X7_share at hm
  obtain ⟨n, hn, -⟩ := am_bs hm
  exact ⟨n, am_cls_of hn⟩
set_option maxHeartbeats 4000000 in
set_option maxRecDepth 100000 in
theorem ct_X7_share (l : Launch) {f : Nat} {h : am_H} {p : Nat} {a : Int32} {b : Int32} {c : Bool} {r : Int32} {h2 : am_H} (hm : mi_X7_share f h p a b c = some (r, h2)) : am_Ct l yX7_share cX7_share 9 (some .int) rm_X7_share [.ref p, .int a, .int b, .int (am_b c)] h (some (.int r)) h2 := by
  refine am_met2 [(0, .ref p), (1, .int a), (2, .int b), (3, .int (am_b c))] (by decide) (Nat.le_of_ble_eq_true rfl) rfl ?_
  generalize hK : (fun (v : Option Value) (h3 : am_H) => v = (some (.int r)) ∧ h3 = h2) = K
  have HK : K (some (.int r)) h2 := by rw [← hK]; exact ⟨rfl, rfl⟩
  clear hK
  unfold mi_X7_share at hm
  obtain ⟨_n, _hn, hm⟩ := am_bs hm
  refine r_aload_n 0 dX7_share_0 rfl ?_
  refine r_iload_n 1 dX7_share_1 rfl ?_
  obtain ⟨xq1, exq1, hm⟩ := am_bs hm
  refine r_cV1 [.int a] (ct_X7_isSpan l exq1) vm_X7_145 (cs_X7_isSpan exq1) (by decide) ⟨rfl, rfl⟩ rfl (Nat.le_of_ble_eq_true rfl) dX7_share_2 ?_
  refine r_if_eq 15 dX7_share_5 (by decide) (fun q => ?_) (fun q => ?_)
  · rw [if_neg (show ¬ xq1 = true from by rw [am_b0 q]; decide)] at hm
    refine r_iconst (-1) dX7_share_15 (by decide) ?_
    cases hm
    exact r_ireturn dX7_share_16 rfl (by decide) HK
  · rw [if_pos (show xq1 = true from am_b1 q)] at hm
    refine r_iload_n 2 dX7_share_8 rfl ?_
    obtain ⟨xq2, exq2, hm⟩ := am_bs hm
    refine r_cS1 [.int b] (ct_X7_isTime l exq2) sm_X7_122 (by decide) ⟨rfl, rfl⟩ rfl (Nat.le_of_ble_eq_true rfl) dX7_share_9 ?_
    refine r_if_ne 17 dX7_share_12 (by decide) (fun q => ?_) (fun q => ?_)
    · rw [if_pos (show xq2 = true from am_b1 q)] at hm
      refine r_aload_n 0 dX7_share_17 rfl ?_
      refine r_iload_n 2 dX7_share_18 rfl ?_
      obtain ⟨⟨xq3, hq4⟩, exq3, hm⟩ := am_bs hm
      try dsimp only at hm
      refine r_cV1 [.int b] (ct_X7_findLiving l exq3) vm_X7_254 (cs_X7_findLiving exq3) (by decide) ⟨rfl, rfl⟩ rfl (Nat.le_of_ble_eq_true rfl) dX7_share_19 ?_
      refine r_istore [(4, .int xq3), (0, .ref p), (1, .int a), (2, .int b), (3, .int (am_b c))] dX7_share_22 (by decide) rfl ?_
      refine r_iload 0 dX7_share_24 rfl ?_
      refine r_bipush 8 dX7_share_26 (by decide) ?_
      refine r_icmp_le 34 dX7_share_28 (by decide) (fun q => ?_) (fun q => ?_)
      · rw [if_pos q] at hm
        refine r_iconst 0 dX7_share_34 (by decide) ?_
        refine r_istore [(5, .int 0), (4, .int xq3), (0, .ref p), (1, .int a), (2, .int b), (3, .int (am_b c))] dX7_share_35 (by decide) rfl ?_
        refine r_iconst 0 dX7_share_37 (by decide) ?_
        refine r_istore [(6, .int 0), (5, .int 0), (4, .int xq3), (0, .ref p), (1, .int a), (2, .int b), (3, .int (am_b c))] dX7_share_38 (by decide) rfl ?_
        obtain ⟨⟨oq6, hq7⟩, ew, hm⟩ := am_bs hm
        try dsimp only at hm
        refine r_lv [3, 4, 5, 6, 2, 1, 0] _ rfl (ll_X7_share_40 l f p a b c xq3 _ f 0 0 hq4 _ ew ?_)
        refine r_iload 2 dX7_share_140 rfl ?_
        refine r_iload 1 dX7_share_142 rfl ?_
        obtain ⟨xq8, exq8, hm⟩ := am_bs hm
        refine r_cS1 [.int xq3] (ct_X7_factorial l exq8) sm_X7_260 (by decide) ⟨rfl, rfl⟩ rfl (Nat.le_of_ble_eq_true rfl) dX7_share_144 ?_
        obtain ⟨xq9, exq9, hm⟩ := am_bs hm
        refine r_cS1 [.int oq6, .int xq8] (ct_X7_common l exq9) sm_X7_263 (by decide) ⟨rfl, rfl⟩ rfl (Nat.le_of_ble_eq_true rfl) dX7_share_147 ?_
        refine r_istore [(6, .int xq9), (3, .int (am_b c)), (4, .int xq3), (5, .int oq6)] dX7_share_150 (by decide) rfl ?_
        refine r_iload_n 1 dX7_share_152 rfl ?_
        obtain ⟨jq10, hw, hm⟩ := am_bs hm
        try dsimp only at hm
        have HJ : am_R l yX7_share cX7_share 9 (some .int) rm_X7_share (fun _ _ _ => True) 0 0 172 [] [.int jq10] hq7 K := by
          cases hm
          exact r_ireturn dX7_share_172 rfl (by decide) HK
        clear hm
        have hm := hw
        clear hw
        refine r_if_eq 164 dX7_share_153 (by decide) (fun q => ?_) (fun q => ?_)
        · rw [if_neg (show ¬ c = true from by rw [am_b0 q]; decide)] at hm
          refine r_iload 2 dX7_share_164 rfl ?_
          obtain ⟨xq12, exq12, hm⟩ := am_bs hm
          refine r_cS1 [.int xq3] (ct_X7_factorial l exq12) sm_X7_260 (by decide) ⟨rfl, rfl⟩ rfl (Nat.le_of_ble_eq_true rfl) dX7_share_166 ?_
          refine r_iload 0 dX7_share_169 rfl ?_
          obtain ⟨uq13, euq13, hm⟩ := am_bs hm
          refine r_idiv dX7_share_171 (am_nz_of euq13) ?_
          cases hm
          exact r_lv [] _ rfl HJ
        · rw [if_pos (show c = true from am_b1 q)] at hm
          refine r_iload 3 dX7_share_156 rfl ?_
          refine r_iload 0 dX7_share_158 rfl ?_
          obtain ⟨uq11, euq11, hm⟩ := am_bs hm
          refine r_idiv dX7_share_160 (am_nz_of euq11) ?_
          refine r_goto 172 dX7_share_161 (by decide) ?_
          cases hm
          exact r_lv [] _ rfl HJ
      · rw [if_neg q] at hm
        refine r_bipush (-4) dX7_share_31 (by decide) ?_
        cases hm
        exact r_ireturn dX7_share_33 rfl (by decide) HK
    · rw [if_neg (show ¬ xq2 = true from by rw [am_b0 q]; decide)] at hm
      refine r_iconst (-1) dX7_share_15 (by decide) ?_
      cases hm
      exact r_ireturn dX7_share_16 rfl (by decide) HK
def mi_X7_side (f : Nat) (h : am_H) (p : Nat) (a : Int32) (b : Int32) (c : Int32) : Option (Int32 × am_H) :=
  Option.bind (am_cls h 7 p) fun _n =>
  Option.bind (mi_X7_isKnot f h a) fun xq1 =>
  (if xq1 = true then
  (Option.bind (mi_X7_isKnot f h b) fun xq2 =>
  (if xq2 = true then
  (Option.bind (mi_X7_isTime f h c) fun xq3 =>
  (if xq3 = true then
  ((if a = b then
  (some (0, h))
  else (Option.bind (mi_X7_findSides f h p c) fun hq5 =>
  Option.bind (mi_X7_rootOf f hq5 p a) fun xq6 =>
  Option.bind (mi_X7_rootOf f hq5 p b) fun xq7 =>
  (if xq6 = xq7 then
  (Option.bind (am_gr hq5 7 p 10) fun xq8 =>
  Option.bind (mi_X7_rootOf f hq5 p a) fun xq9 =>
  Option.bind (am_li hq5 9 xq8 xq9) fun xq10 =>
  (if xq10 = 1 then
  (some ((-3), hq5))
  else (Option.bind (am_gr hq5 7 p 9) fun xq11 =>
  Option.bind (am_li hq5 9 xq11 a) fun xq12 =>
  Option.bind (am_gr hq5 7 p 9) fun xq13 =>
  Option.bind (am_li hq5 9 xq13 b) fun xq14 =>
  Option.bind ((if xq12 = xq14 then
  (some false)
  else (some true))) fun jq15 =>
  some ((am_b jq15), hq5))))
  else (some ((-3), hq5))))))
  else (some ((-1), h))))
  else (some ((-1), h))))
  else (some ((-1), h)))
theorem cs_X7_side {f : Nat} {h : am_H} {p : Nat} {a : Int32} {b : Int32} {c : Int32} {z : (Int32 × am_H)} (hm : mi_X7_side f h p a b c = some z) : ∃ n, h.1[p]? = some (7, n) := by
  unfold mi_X7_side at hm
  obtain ⟨n, hn, -⟩ := am_bs hm
  exact ⟨n, am_cls_of hn⟩
set_option maxHeartbeats 4000000 in
set_option maxRecDepth 100000 in
theorem ct_X7_side (l : Launch) {f : Nat} {h : am_H} {p : Nat} {a : Int32} {b : Int32} {c : Int32} {r : Int32} {h2 : am_H} (hm : mi_X7_side f h p a b c = some (r, h2)) : am_Ct l yX7_side cX7_side 4 (some .int) rm_X7_side [.ref p, .int a, .int b, .int c] h (some (.int r)) h2 := by
  refine am_met2 [(0, .ref p), (1, .int a), (2, .int b), (3, .int c)] (by decide) (Nat.le_of_ble_eq_true rfl) rfl ?_
  generalize hK : (fun (v : Option Value) (h3 : am_H) => v = (some (.int r)) ∧ h3 = h2) = K
  have HK : K (some (.int r)) h2 := by rw [← hK]; exact ⟨rfl, rfl⟩
  clear hK
  unfold mi_X7_side at hm
  obtain ⟨_n, _hn, hm⟩ := am_bs hm
  refine r_iload_n 1 dX7_side_0 rfl ?_
  obtain ⟨xq1, exq1, hm⟩ := am_bs hm
  refine r_cS1 [.int a] (ct_X7_isKnot l exq1) sm_X7_118 (by decide) ⟨rfl, rfl⟩ rfl (Nat.le_of_ble_eq_true rfl) dX7_side_1 ?_
  refine r_if_eq 21 dX7_side_4 (by decide) (fun q => ?_) (fun q => ?_)
  · rw [if_neg (show ¬ xq1 = true from by rw [am_b0 q]; decide)] at hm
    refine r_iconst (-1) dX7_side_21 (by decide) ?_
    cases hm
    exact r_ireturn dX7_side_22 rfl (by decide) HK
  · rw [if_pos (show xq1 = true from am_b1 q)] at hm
    refine r_iload_n 2 dX7_side_7 rfl ?_
    obtain ⟨xq2, exq2, hm⟩ := am_bs hm
    refine r_cS1 [.int b] (ct_X7_isKnot l exq2) sm_X7_118 (by decide) ⟨rfl, rfl⟩ rfl (Nat.le_of_ble_eq_true rfl) dX7_side_8 ?_
    refine r_if_eq 21 dX7_side_11 (by decide) (fun q => ?_) (fun q => ?_)
    · rw [if_neg (show ¬ xq2 = true from by rw [am_b0 q]; decide)] at hm
      refine r_iconst (-1) dX7_side_21 (by decide) ?_
      cases hm
      exact r_ireturn dX7_side_22 rfl (by decide) HK
    · rw [if_pos (show xq2 = true from am_b1 q)] at hm
      refine r_iload_n 3 dX7_side_14 rfl ?_
      obtain ⟨xq3, exq3, hm⟩ := am_bs hm
      refine r_cS1 [.int c] (ct_X7_isTime l exq3) sm_X7_122 (by decide) ⟨rfl, rfl⟩ rfl (Nat.le_of_ble_eq_true rfl) dX7_side_15 ?_
      refine r_if_ne 23 dX7_side_18 (by decide) (fun q => ?_) (fun q => ?_)
      · rw [if_pos (show xq3 = true from am_b1 q)] at hm
        refine r_iload_n 1 dX7_side_23 rfl ?_
        refine r_iload_n 2 dX7_side_24 rfl ?_
        refine r_icmp_ne 30 dX7_side_25 (by decide) (fun q => ?_) (fun q => ?_)
        · rw [if_neg q] at hm
          refine r_aload_n 0 dX7_side_30 rfl ?_
          refine r_iload_n 3 dX7_side_31 rfl ?_
          obtain ⟨hq5, exq4, hm⟩ := am_bs hm
          refine r_cV0 [.int c] (ct_X7_findSides l exq4) vm_X7_200 (cs_X7_findSides exq4) (by decide) ⟨rfl, rfl⟩ rfl (Nat.le_of_ble_eq_true rfl) dX7_side_32 ?_
          refine r_aload_n 0 dX7_side_35 rfl ?_
          refine r_iload_n 1 dX7_side_36 rfl ?_
          obtain ⟨xq6, exq6, hm⟩ := am_bs hm
          refine r_cV1 [.int a] (ct_X7_rootOf l exq6) vm_X7_176 (cs_X7_rootOf exq6) (by decide) ⟨rfl, rfl⟩ rfl (Nat.le_of_ble_eq_true rfl) dX7_side_37 ?_
          refine r_aload_n 0 dX7_side_40 rfl ?_
          refine r_iload_n 2 dX7_side_41 rfl ?_
          obtain ⟨xq7, exq7, hm⟩ := am_bs hm
          refine r_cV1 [.int b] (ct_X7_rootOf l exq7) vm_X7_176 (cs_X7_rootOf exq7) (by decide) ⟨rfl, rfl⟩ rfl (Nat.le_of_ble_eq_true rfl) dX7_side_42 ?_
          refine r_icmp_ne 62 dX7_side_45 (by decide) (fun q => ?_) (fun q => ?_)
          · rw [if_neg q] at hm
            refine r_bipush (-3) dX7_side_62 (by decide) ?_
            cases hm
            exact r_ireturn dX7_side_64 rfl (by decide) HK
          · rw [if_pos q] at hm
            refine r_aload_n 0 dX7_side_48 rfl ?_
            obtain ⟨xq8, exq8, hm⟩ := am_bs hm
            refine r_getr exq8 fl_X7_31 rfl dX7_side_49 ?_
            refine r_aload_n 0 dX7_side_52 rfl ?_
            refine r_iload_n 1 dX7_side_53 rfl ?_
            obtain ⟨xq9, exq9, hm⟩ := am_bs hm
            refine r_cV1 [.int a] (ct_X7_rootOf l exq9) vm_X7_176 (cs_X7_rootOf exq9) (by decide) ⟨rfl, rfl⟩ rfl (Nat.le_of_ble_eq_true rfl) dX7_side_54 ?_
            obtain ⟨xq10, exq10, hm⟩ := am_bs hm
            refine r_iald exq10 dX7_side_57 ?_
            refine r_iconst 1 dX7_side_58 (by decide) ?_
            refine r_icmp_ne 65 dX7_side_59 (by decide) (fun q => ?_) (fun q => ?_)
            · rw [if_neg q] at hm
              refine r_aload_n 0 dX7_side_65 rfl ?_
              obtain ⟨xq11, exq11, hm⟩ := am_bs hm
              refine r_getr exq11 fl_X7_28 rfl dX7_side_66 ?_
              refine r_iload_n 1 dX7_side_69 rfl ?_
              obtain ⟨xq12, exq12, hm⟩ := am_bs hm
              refine r_iald exq12 dX7_side_70 ?_
              refine r_aload_n 0 dX7_side_71 rfl ?_
              obtain ⟨xq13, exq13, hm⟩ := am_bs hm
              refine r_getr exq13 fl_X7_28 rfl dX7_side_72 ?_
              refine r_iload_n 2 dX7_side_75 rfl ?_
              obtain ⟨xq14, exq14, hm⟩ := am_bs hm
              refine r_iald exq14 dX7_side_76 ?_
              obtain ⟨jq15, hw, hm⟩ := am_bs hm
              try dsimp only at hm
              have HJ : am_R l yX7_side cX7_side 4 (some .int) rm_X7_side (fun _ _ _ => True) 0 0 85 [] [.int (am_b jq15)] hq5 K := by
                cases hm
                exact r_ireturn dX7_side_85 rfl (by decide) HK
              clear hm
              have hm := hw
              clear hw
              refine r_icmp_ne 84 dX7_side_77 (by decide) (fun q => ?_) (fun q => ?_)
              · rw [if_neg q] at hm
                refine r_iconst 1 dX7_side_84 (by decide) ?_
                cases hm
                exact r_lv [] _ rfl HJ
              · rw [if_pos q] at hm
                refine r_iconst 0 dX7_side_80 (by decide) ?_
                refine r_goto 85 dX7_side_81 (by decide) ?_
                cases hm
                exact r_lv [] _ rfl HJ
            · rw [if_pos q] at hm
              refine r_bipush (-3) dX7_side_62 (by decide) ?_
              cases hm
              exact r_ireturn dX7_side_64 rfl (by decide) HK
        · rw [if_pos q] at hm
          refine r_iconst 0 dX7_side_28 (by decide) ?_
          cases hm
          exact r_ireturn dX7_side_29 rfl (by decide) HK
      · rw [if_neg (show ¬ xq3 = true from by rw [am_b0 q]; decide)] at hm
        refine r_iconst (-1) dX7_side_21 (by decide) ?_
        cases hm
        exact r_ireturn dX7_side_22 rfl (by decide) HK
def lo_X7_nodesOf_4 (f : Nat) (h : am_H) (a0 : Int32) : Nat → Int32 → Int32 → Option (Int32)
  | 0, _, _ => none
  | n + 1, a1, a2 =>
  (if 32 ≤ a2 then
  (some a1)
  else (Option.bind (mi_X7_lies f h a0 a2) fun xq1 =>
  Option.bind ((if xq1 = true then
  (some true)
  else (some false))) fun jq2 =>
  lo_X7_nodesOf_4 f h a0 n (a1 + (am_b jq2)) (a2 + 1)))
set_option maxHeartbeats 4000000 in
set_option maxRecDepth 100000 in
theorem ll_X7_nodesOf_4 (l : Launch) (f : Nat) (h : am_H) (a0 : Int32) (K : Option Value → am_H → Prop) : ∀ (n : Nat) (a1 : Int32) (a2 : Int32) (z : Int32), lo_X7_nodesOf_4 f h a0 n a1 a2 = some z →
    am_R l yX7_nodesOf cX7_nodesOf 3 (some .int) rm_X7_nodesOf (fun _ _ _ => True) 0 0 32 [(1, .int z)] [] h K →
    am_R l yX7_nodesOf cX7_nodesOf 3 (some .int) rm_X7_nodesOf (fun _ _ _ => True) 0 0 4 [(0, .int a0), (1, .int a1), (2, .int a2)] [] h K := by
  intro n
  induction n with
  | zero =>
    intro a1 a2 z hm kE
    cases hm
  | succ n ih =>
    intro a1 a2 z hm kE
    rw [lo_X7_nodesOf_4.eq_2] at hm
    refine r_iload_n 2 dX7_nodesOf_4 rfl ?_
    refine r_bipush 32 dX7_nodesOf_5 (by decide) ?_
    refine r_icmp_ge 32 dX7_nodesOf_7 (by decide) (fun q => ?_) (fun q => ?_)
    · rw [if_pos q] at hm
      cases hm
      exact r_lv [1] _ rfl kE
    · rw [if_neg q] at hm
      refine r_iload_n 1 dX7_nodesOf_10 rfl ?_
      refine r_iload_n 0 dX7_nodesOf_11 rfl ?_
      refine r_iload_n 2 dX7_nodesOf_12 rfl ?_
      obtain ⟨xq1, exq1, hm⟩ := am_bs hm
      refine r_cS1 [.int a0, .int a2] (ct_X7_lies l exq1) sm_X7_142 (by decide) ⟨rfl, rfl⟩ rfl (Nat.le_of_ble_eq_true rfl) dX7_nodesOf_13 ?_
      obtain ⟨jq2, hw, hm⟩ := am_bs hm
      try dsimp only at hm
      have HJ : am_R l yX7_nodesOf cX7_nodesOf 3 (some .int) rm_X7_nodesOf (fun _ _ _ => True) 0 0 24 [(0, .int a0), (2, .int a2)] [.int (am_b jq2), .int a1] h K := by
        refine r_iadd dX7_nodesOf_24 ?_
        refine r_istore_n [(1, .int (a1 + (am_b jq2))), (0, .int a0), (2, .int a2)] dX7_nodesOf_25 (by decide) rfl ?_
        refine r_inc 1 2 [(2, .int (a2 + 1)), (1, .int (a1 + (am_b jq2))), (0, .int a0)] dX7_nodesOf_26 (by decide) rfl (by decide) rfl ?_
        refine r_goto 4 dX7_nodesOf_29 (by decide) ?_
        exact r_lv [2, 1, 0] _ rfl (ih (a1 + (am_b jq2)) (a2 + 1) _ hm kE)
      clear hm
      have hm := hw
      clear hw
      refine r_if_eq 23 dX7_nodesOf_16 (by decide) (fun q => ?_) (fun q => ?_)
      · rw [if_neg (show ¬ xq1 = true from by rw [am_b0 q]; decide)] at hm
        refine r_iconst 0 dX7_nodesOf_23 (by decide) ?_
        cases hm
        exact r_lv [0, 2] _ rfl HJ
      · rw [if_pos (show xq1 = true from am_b1 q)] at hm
        refine r_iconst 1 dX7_nodesOf_19 (by decide) ?_
        refine r_goto 24 dX7_nodesOf_20 (by decide) ?_
        cases hm
        exact r_lv [0, 2] _ rfl HJ
def mi_X7_nodesOf (f : Nat) (h : am_H) (a : Int32) : Option Int32 :=
  Option.bind (lo_X7_nodesOf_4 f h a f 0 1) fun oq1 =>
  some oq1
set_option maxHeartbeats 4000000 in
set_option maxRecDepth 100000 in
theorem ct_X7_nodesOf (l : Launch) {f : Nat} {h : am_H} {a : Int32} {r : Int32} (hm : mi_X7_nodesOf f h a = some r) : am_Ct l yX7_nodesOf cX7_nodesOf 3 (some .int) rm_X7_nodesOf [.int a] h (some (.int r)) h := by
  refine am_met2 [(0, .int a)] (by decide) (Nat.le_of_ble_eq_true rfl) rfl ?_
  generalize hK : (fun (v : Option Value) (h3 : am_H) => v = (some (.int r)) ∧ h3 = h) = K
  have HK : K (some (.int r)) h := by rw [← hK]; exact ⟨rfl, rfl⟩
  clear hK
  unfold mi_X7_nodesOf at hm
  refine r_iconst 0 dX7_nodesOf_0 (by decide) ?_
  refine r_istore_n [(1, .int 0), (0, .int a)] dX7_nodesOf_1 (by decide) rfl ?_
  refine r_iconst 1 dX7_nodesOf_2 (by decide) ?_
  refine r_istore_n [(2, .int 1), (1, .int 0), (0, .int a)] dX7_nodesOf_3 (by decide) rfl ?_
  obtain ⟨oq1, ew, hm⟩ := am_bs hm
  try dsimp only at hm
  refine r_lv [2, 1, 0] _ rfl (ll_X7_nodesOf_4 l f h a _ f 0 1 _ ew ?_)
  refine r_iload_n 0 dX7_nodesOf_32 rfl ?_
  cases hm
  exact r_ireturn dX7_nodesOf_33 rfl (by decide) HK
def mi_X7_span (f : Nat) (h : am_H) (p : Nat) (a : Int32) (b : Int32) : Option Int32 :=
  Option.bind (am_cls h 7 p) fun _n =>
  Option.bind (mi_X7_isSpan f h p a) fun xq1 =>
  (if xq1 = true then
  (Option.bind (mi_X7_spanOf f h p 0 a) fun xq2 =>
  (if b = 0 then
  (Option.bind (mi_X7_lowOf f h xq2) fun xq3 =>
  some xq3)
  else (if b = 1 then
  (Option.bind (mi_X7_highOf f h xq2) fun xq4 =>
  some xq4)
  else (if b = 2 then
  (Option.bind (mi_X7_fromOf f h xq2) fun xq5 =>
  some xq5)
  else (if b = 3 then
  (Option.bind (mi_X7_toOf f h xq2) fun xq6 =>
  some xq6)
  else (if b = 4 then
  (Option.bind (mi_X7_nodesOf f h xq2) fun xq7 =>
  some xq7)
  else (some (-2))))))))
  else (some (-1)))
theorem cs_X7_span {f : Nat} {h : am_H} {p : Nat} {a : Int32} {b : Int32} {z : Int32} (hm : mi_X7_span f h p a b = some z) : ∃ n, h.1[p]? = some (7, n) := by
  unfold mi_X7_span at hm
  obtain ⟨n, hn, -⟩ := am_bs hm
  exact ⟨n, am_cls_of hn⟩
set_option maxHeartbeats 4000000 in
set_option maxRecDepth 100000 in
theorem ct_X7_span (l : Launch) {f : Nat} {h : am_H} {p : Nat} {a : Int32} {b : Int32} {r : Int32} (hm : mi_X7_span f h p a b = some r) : am_Ct l yX7_span cX7_span 4 (some .int) rm_X7_span [.ref p, .int a, .int b] h (some (.int r)) h := by
  refine am_met2 [(0, .ref p), (1, .int a), (2, .int b)] (by decide) (Nat.le_of_ble_eq_true rfl) rfl ?_
  generalize hK : (fun (v : Option Value) (h3 : am_H) => v = (some (.int r)) ∧ h3 = h) = K
  have HK : K (some (.int r)) h := by rw [← hK]; exact ⟨rfl, rfl⟩
  clear hK
  unfold mi_X7_span at hm
  obtain ⟨_n, _hn, hm⟩ := am_bs hm
  refine r_aload_n 0 dX7_span_0 rfl ?_
  refine r_iload_n 1 dX7_span_1 rfl ?_
  obtain ⟨xq1, exq1, hm⟩ := am_bs hm
  refine r_cV1 [.int a] (ct_X7_isSpan l exq1) vm_X7_145 (cs_X7_isSpan exq1) (by decide) ⟨rfl, rfl⟩ rfl (Nat.le_of_ble_eq_true rfl) dX7_span_2 ?_
  refine r_if_ne 10 dX7_span_5 (by decide) (fun q => ?_) (fun q => ?_)
  · rw [if_pos (show xq1 = true from am_b1 q)] at hm
    refine r_aload_n 0 dX7_span_10 rfl ?_
    refine r_iconst 0 dX7_span_11 (by decide) ?_
    refine r_iload_n 1 dX7_span_12 rfl ?_
    obtain ⟨xq2, exq2, hm⟩ := am_bs hm
    refine r_cV1 [.int 0, .int a] (ct_X7_spanOf l exq2) vm_X7_108 (cs_X7_spanOf exq2) (by decide) ⟨rfl, rfl⟩ rfl (Nat.le_of_ble_eq_true rfl) dX7_span_13 ?_
    refine r_istore_n [(3, .int xq2), (0, .ref p), (1, .int a), (2, .int b)] dX7_span_16 (by decide) rfl ?_
    refine r_iload_n 3 dX7_span_17 rfl ?_
    by_cases q0 : b = 0
    · rw [if_pos q0] at hm
      refine r_tsw 52 dX7_span_18 (Or.inl ⟨by rw [q0]; decide, by rw [q0]; decide⟩) ?_
      refine r_iload_n 0 dX7_span_52 rfl ?_
      obtain ⟨xq3, exq3, hm⟩ := am_bs hm
      refine r_cS1 [.int xq2] (ct_X7_lowOf l exq3) sm_X7_112 (by decide) ⟨rfl, rfl⟩ rfl (Nat.le_of_ble_eq_true rfl) dX7_span_53 ?_
      cases hm
      exact r_ireturn dX7_span_56 rfl (by decide) HK
    rw [if_neg q0] at hm
    by_cases q1 : b = 1
    · rw [if_pos q1] at hm
      refine r_tsw 57 dX7_span_18 (Or.inl ⟨by rw [q1]; decide, by rw [q1]; decide⟩) ?_
      refine r_iload_n 0 dX7_span_57 rfl ?_
      obtain ⟨xq4, exq4, hm⟩ := am_bs hm
      refine r_cS1 [.int xq2] (ct_X7_highOf l exq4) sm_X7_115 (by decide) ⟨rfl, rfl⟩ rfl (Nat.le_of_ble_eq_true rfl) dX7_span_58 ?_
      cases hm
      exact r_ireturn dX7_span_61 rfl (by decide) HK
    rw [if_neg q1] at hm
    by_cases q2 : b = 2
    · rw [if_pos q2] at hm
      refine r_tsw 62 dX7_span_18 (Or.inl ⟨by rw [q2]; decide, by rw [q2]; decide⟩) ?_
      refine r_iload_n 0 dX7_span_62 rfl ?_
      obtain ⟨xq5, exq5, hm⟩ := am_bs hm
      refine r_cS1 [.int xq2] (ct_X7_fromOf l exq5) sm_X7_64 (by decide) ⟨rfl, rfl⟩ rfl (Nat.le_of_ble_eq_true rfl) dX7_span_63 ?_
      cases hm
      exact r_ireturn dX7_span_66 rfl (by decide) HK
    rw [if_neg q2] at hm
    by_cases q3 : b = 3
    · rw [if_pos q3] at hm
      refine r_tsw 67 dX7_span_18 (Or.inl ⟨by rw [q3]; decide, by rw [q3]; decide⟩) ?_
      refine r_iload_n 0 dX7_span_67 rfl ?_
      obtain ⟨xq6, exq6, hm⟩ := am_bs hm
      refine r_cS1 [.int xq2] (ct_X7_toOf l exq6) sm_X7_68 (by decide) ⟨rfl, rfl⟩ rfl (Nat.le_of_ble_eq_true rfl) dX7_span_68 ?_
      cases hm
      exact r_ireturn dX7_span_71 rfl (by decide) HK
    rw [if_neg q3] at hm
    by_cases q4 : b = 4
    · rw [if_pos q4] at hm
      refine r_tsw 72 dX7_span_18 (Or.inl ⟨by rw [q4]; decide, by rw [q4]; decide⟩) ?_
      refine r_iload_n 0 dX7_span_72 rfl ?_
      obtain ⟨xq7, exq7, hm⟩ := am_bs hm
      refine r_cS1 [.int xq2] (ct_X7_nodesOf l exq7) sm_X7_148 (by decide) ⟨rfl, rfl⟩ rfl (Nat.le_of_ble_eq_true rfl) dX7_span_73 ?_
      cases hm
      exact r_ireturn dX7_span_76 rfl (by decide) HK
    rw [if_neg q4] at hm
    refine r_tsw 77 dX7_span_18 (Or.inr ⟨by have e0 := lv_neT q0 (show (0 : Int32).toInt = 0 from by decide); have e1 := lv_neT q1 (show (1 : Int32).toInt = 1 from by decide); have e2 := lv_neT q2 (show (2 : Int32).toInt = 2 from by decide); have e3 := lv_neT q3 (show (3 : Int32).toInt = 3 from by decide); have e4 := lv_neT q4 (show (4 : Int32).toInt = 4 from by decide); omega, by decide⟩) ?_
    refine r_bipush (-2) dX7_span_77 (by decide) ?_
    cases hm
    exact r_ireturn dX7_span_79 rfl (by decide) HK
  · rw [if_neg (show ¬ xq1 = true from by rw [am_b0 q]; decide)] at hm
    refine r_iconst (-1) dX7_span_8 (by decide) ?_
    cases hm
    exact r_ireturn dX7_span_9 rfl (by decide) HK
def lo_X7_undo_36 (f : Nat) (a0 : Nat) : Nat → Int32 → am_H → Option (am_H)
  | 0, _, _ => none
  | n + 1, a1, h =>
  (if 17 ≤ a1 then
  (some h)
  else (Option.bind (am_gr h 7 a0 0) fun xq1 =>
  Option.bind (am_gr h 7 a0 6) fun xq2 =>
  Option.bind (am_gi h 7 a0 5) fun xq3 =>
  Option.bind (am_li h 9 xq2 (((17 : Int32) * xq3) + a1)) fun xq4 =>
  Option.bind (am_si h 9 xq1 a1 xq4) fun hq5 =>
  lo_X7_undo_36 f a0 n (a1 + 1) hq5))
set_option maxHeartbeats 4000000 in
set_option maxRecDepth 100000 in
theorem ll_X7_undo_36 (l : Launch) (f : Nat) (a0 : Nat) (K : Option Value → am_H → Prop) : ∀ (n : Nat) (a1 : Int32) (h : am_H) (z : am_H), lo_X7_undo_36 f a0 n a1 h = some z →
    am_R l yX7_undo cX7_undo 2 (some .int) rm_X7_undo (fun _ _ _ => True) 0 0 68 [(0, .ref a0)] [] z K →
    am_R l yX7_undo cX7_undo 2 (some .int) rm_X7_undo (fun _ _ _ => True) 0 0 36 [(0, .ref a0), (1, .int a1)] [] h K := by
  intro n
  induction n with
  | zero =>
    intro a1 h z hm kE
    cases hm
  | succ n ih =>
    intro a1 h z hm kE
    rw [lo_X7_undo_36.eq_2] at hm
    refine r_iload_n 1 dX7_undo_36 rfl ?_
    refine r_bipush 17 dX7_undo_37 (by decide) ?_
    refine r_icmp_ge 68 dX7_undo_39 (by decide) (fun q => ?_) (fun q => ?_)
    · rw [if_pos q] at hm
      cases hm
      exact r_lv [0] _ rfl kE
    · rw [if_neg q] at hm
      refine r_aload_n 0 dX7_undo_42 rfl ?_
      obtain ⟨xq1, exq1, hm⟩ := am_bs hm
      refine r_getr exq1 fl_X7_7 rfl dX7_undo_43 ?_
      refine r_iload_n 1 dX7_undo_46 rfl ?_
      refine r_aload_n 0 dX7_undo_47 rfl ?_
      obtain ⟨xq2, exq2, hm⟩ := am_bs hm
      refine r_getr exq2 fl_X7_19 rfl dX7_undo_48 ?_
      refine r_bipush 17 dX7_undo_51 (by decide) ?_
      refine r_aload_n 0 dX7_undo_53 rfl ?_
      obtain ⟨xq3, exq3, hm⟩ := am_bs hm
      refine r_geti exq3 fl_X7_156 rfl dX7_undo_54 ?_
      refine r_imul dX7_undo_57 ?_
      refine r_iload_n 1 dX7_undo_58 rfl ?_
      refine r_iadd dX7_undo_59 ?_
      obtain ⟨xq4, exq4, hm⟩ := am_bs hm
      refine r_iald exq4 dX7_undo_60 ?_
      obtain ⟨hq5, ehq5, hm⟩ := am_bs hm
      refine r_iast ehq5 dX7_undo_61 ?_
      refine r_inc 1 1 [(1, .int (a1 + 1)), (0, .ref a0)] dX7_undo_62 (by decide) rfl (by decide) rfl ?_
      refine r_goto 36 dX7_undo_65 (by decide) ?_
      exact r_lv [1, 0] _ rfl (ih (a1 + 1) hq5 _ hm kE)
def mi_X7_undo (f : Nat) (h : am_H) (p : Nat) : Option (Int32 × am_H) :=
  Option.bind (am_cls h 7 p) fun _n =>
  Option.bind (am_gi h 7 p 4) fun xq1 =>
  (if xq1 = 0 then
  (some ((-3), h))
  else (Option.bind (am_gi h 7 p 4) fun xq2 =>
  Option.bind (am_pi h 7 p 4 (xq2 - 1)) fun hq3 =>
  Option.bind (am_gi hq3 7 p 5) fun xq4 =>
  Option.bind (am_pi hq3 7 p 5 ((xq4 + 13) - (xq4 + 13) / 14 * 14)) fun hq5 =>
  Option.bind (lo_X7_undo_36 f p f 0 hq5) fun hq6 =>
  Option.bind (am_gi hq6 7 p 4) fun xq7 =>
  some (xq7, hq6)))
theorem cs_X7_undo {f : Nat} {h : am_H} {p : Nat} {z : (Int32 × am_H)} (hm : mi_X7_undo f h p = some z) : ∃ n, h.1[p]? = some (7, n) := by
  unfold mi_X7_undo at hm
  obtain ⟨n, hn, -⟩ := am_bs hm
  exact ⟨n, am_cls_of hn⟩
set_option maxHeartbeats 4000000 in
set_option maxRecDepth 100000 in
theorem ct_X7_undo (l : Launch) {f : Nat} {h : am_H} {p : Nat} {r : Int32} {h2 : am_H} (hm : mi_X7_undo f h p = some (r, h2)) : am_Ct l yX7_undo cX7_undo 2 (some .int) rm_X7_undo [.ref p] h (some (.int r)) h2 := by
  refine am_met2 [(0, .ref p)] (by decide) (Nat.le_of_ble_eq_true rfl) rfl ?_
  generalize hK : (fun (v : Option Value) (h3 : am_H) => v = (some (.int r)) ∧ h3 = h2) = K
  have HK : K (some (.int r)) h2 := by rw [← hK]; exact ⟨rfl, rfl⟩
  clear hK
  unfold mi_X7_undo at hm
  obtain ⟨_n, _hn, hm⟩ := am_bs hm
  refine r_aload_n 0 dX7_undo_0 rfl ?_
  obtain ⟨xq1, exq1, hm⟩ := am_bs hm
  refine r_geti exq1 fl_X7_102 rfl dX7_undo_1 ?_
  refine r_if_ne 10 dX7_undo_4 (by decide) (fun q => ?_) (fun q => ?_)
  · rw [if_neg q] at hm
    refine r_aload_n 0 dX7_undo_10 rfl ?_
    refine r_dup dX7_undo_11 rfl ?_
    obtain ⟨xq2, exq2, hm⟩ := am_bs hm
    refine r_geti exq2 fl_X7_102 rfl dX7_undo_12 ?_
    refine r_iconst 1 dX7_undo_15 (by decide) ?_
    refine r_isub dX7_undo_16 ?_
    obtain ⟨hq3, ehq3, hm⟩ := am_bs hm
    refine r_puti ehq3 fl_X7_102 rfl rfl dX7_undo_17 ?_
    refine r_aload_n 0 dX7_undo_20 rfl ?_
    refine r_aload_n 0 dX7_undo_21 rfl ?_
    obtain ⟨xq4, exq4, hm⟩ := am_bs hm
    refine r_geti exq4 fl_X7_156 rfl dX7_undo_22 ?_
    refine r_bipush 13 dX7_undo_25 (by decide) ?_
    refine r_iadd dX7_undo_27 ?_
    refine r_bipush 14 dX7_undo_28 (by decide) ?_
    refine r_irem dX7_undo_30 (by decide) ?_
    obtain ⟨hq5, ehq5, hm⟩ := am_bs hm
    refine r_puti ehq5 fl_X7_156 rfl rfl dX7_undo_31 ?_
    refine r_iconst 0 dX7_undo_34 (by decide) ?_
    refine r_istore_n [(1, .int 0), (0, .ref p)] dX7_undo_35 (by decide) rfl ?_
    obtain ⟨hq6, ew, hm⟩ := am_bs hm
    try dsimp only at hm
    refine r_lv [1, 0] _ rfl (ll_X7_undo_36 l f p _ f 0 hq5 _ ew ?_)
    refine r_aload_n 0 dX7_undo_68 rfl ?_
    obtain ⟨xq7, exq7, hm⟩ := am_bs hm
    refine r_geti exq7 fl_X7_102 rfl dX7_undo_69 ?_
    cases hm
    exact r_ireturn dX7_undo_72 rfl (by decide) HK
  · rw [if_pos q] at hm
    refine r_bipush (-3) dX7_undo_7 (by decide) ?_
    cases hm
    exact r_ireturn dX7_undo_9 rfl (by decide) HK
def mi_X7_unsee (f : Nat) (h : am_H) (p : Nat) : Option (Int32 × am_H) :=
  Option.bind (am_cls h 7 p) fun _n =>
  Option.bind (am_gi h 7 p 11) fun xq1 =>
  Option.bind (am_pi h 7 p 11 0) fun hq2 =>
  some (xq1, hq2)
theorem cs_X7_unsee {f : Nat} {h : am_H} {p : Nat} {z : (Int32 × am_H)} (hm : mi_X7_unsee f h p = some z) : ∃ n, h.1[p]? = some (7, n) := by
  unfold mi_X7_unsee at hm
  obtain ⟨n, hn, -⟩ := am_bs hm
  exact ⟨n, am_cls_of hn⟩
set_option maxHeartbeats 4000000 in
set_option maxRecDepth 100000 in
theorem ct_X7_unsee (l : Launch) {f : Nat} {h : am_H} {p : Nat} {r : Int32} {h2 : am_H} (hm : mi_X7_unsee f h p = some (r, h2)) : am_Ct l yX7_unsee cX7_unsee 2 (some .int) rm_X7_unsee [.ref p] h (some (.int r)) h2 := by
  refine am_met2 [(0, .ref p)] (by decide) (Nat.le_of_ble_eq_true rfl) rfl ?_
  generalize hK : (fun (v : Option Value) (h3 : am_H) => v = (some (.int r)) ∧ h3 = h2) = K
  have HK : K (some (.int r)) h2 := by rw [← hK]; exact ⟨rfl, rfl⟩
  clear hK
  unfold mi_X7_unsee at hm
  obtain ⟨_n, _hn, hm⟩ := am_bs hm
  refine r_aload_n 0 dX7_unsee_0 rfl ?_
  obtain ⟨xq1, exq1, hm⟩ := am_bs hm
  refine r_geti exq1 fl_X7_247 rfl dX7_unsee_1 ?_
  refine r_istore_n [(1, .int xq1), (0, .ref p)] dX7_unsee_4 (by decide) rfl ?_
  refine r_aload_n 1 dX7_unsee_5 rfl ?_
  refine r_iconst 0 dX7_unsee_6 (by decide) ?_
  obtain ⟨hq2, ehq2, hm⟩ := am_bs hm
  refine r_puti ehq2 fl_X7_247 rfl rfl dX7_unsee_7 ?_
  refine r_iload_n 0 dX7_unsee_10 rfl ?_
  cases hm
  exact r_ireturn dX7_unsee_11 rfl (by decide) HK
def lo_X7_when_21 (f : Nat) (a0 : Nat) (a1 : Int32) (a2 : Int32) : Nat → Int32 → Int32 → am_H → Option (Int32 × am_H)
  | 0, _, _, _ => none
  | n + 1, a3, a4, h =>
  (if 16 ≤ a4 then
  (some (a3, h))
  else (Option.bind (mi_X7_areJoined f h a0 0 a1 a2 a4 65535) fun (xq1, hq2) =>
  Option.bind ((if xq1 = true then
  (some ((1 : Int32) <<< (a4 &&& 31)))
  else (some 0))) fun jq4 =>
  lo_X7_when_21 f a0 a1 a2 n (a3 ||| jq4) (a4 + 1) hq2))
set_option maxHeartbeats 4000000 in
set_option maxRecDepth 100000 in
theorem ll_X7_when_21 (l : Launch) (f : Nat) (a0 : Nat) (a1 : Int32) (a2 : Int32) (K : Option Value → am_H → Prop) : ∀ (n : Nat) (a3 : Int32) (a4 : Int32) (h : am_H) (z : Int32 × am_H), lo_X7_when_21 f a0 a1 a2 n a3 a4 h = some z →
    am_R l yX7_when cX7_when 5 (some .int) rm_X7_when (fun _ _ _ => True) 0 0 59 [(3, .int z.1)] [] z.2 K →
    am_R l yX7_when cX7_when 5 (some .int) rm_X7_when (fun _ _ _ => True) 0 0 21 [(0, .ref a0), (1, .int a1), (2, .int a2), (3, .int a3), (4, .int a4)] [] h K := by
  intro n
  induction n with
  | zero =>
    intro a3 a4 h z hm kE
    cases hm
  | succ n ih =>
    intro a3 a4 h z hm kE
    rw [lo_X7_when_21.eq_2] at hm
    refine r_iload 4 dX7_when_21 rfl ?_
    refine r_bipush 16 dX7_when_23 (by decide) ?_
    refine r_icmp_ge 59 dX7_when_25 (by decide) (fun q => ?_) (fun q => ?_)
    · rw [if_pos q] at hm
      cases hm
      exact r_lv [3] _ rfl kE
    · rw [if_neg q] at hm
      refine r_iload_n 3 dX7_when_28 rfl ?_
      refine r_aload_n 0 dX7_when_29 rfl ?_
      refine r_iconst 0 dX7_when_30 (by decide) ?_
      refine r_iload_n 1 dX7_when_31 rfl ?_
      refine r_iload_n 2 dX7_when_32 rfl ?_
      refine r_iload 4 dX7_when_33 rfl ?_
      refine r_ldc (v := 65535) kw_X7_191 dX7_when_35 ?_
      obtain ⟨⟨xq1, hq2⟩, exq1, hm⟩ := am_bs hm
      try dsimp only at hm
      refine r_cV1 [.int 0, .int a1, .int a2, .int a4, .int 65535] (ct_X7_areJoined l exq1) vm_X7_223 (cs_X7_areJoined exq1) (by decide) ⟨rfl, rfl⟩ rfl (Nat.le_of_ble_eq_true rfl) dX7_when_37 ?_
      obtain ⟨jq4, hw, hm⟩ := am_bs hm
      try dsimp only at hm
      have HJ : am_R l yX7_when cX7_when 5 (some .int) rm_X7_when (fun _ _ _ => True) 0 0 51 [(0, .ref a0), (1, .int a1), (2, .int a2), (4, .int a4)] [.int jq4, .int a3] hq2 K := by
        refine r_ior dX7_when_51 ?_
        refine r_istore_n [(3, .int (a3 ||| jq4)), (0, .ref a0), (1, .int a1), (2, .int a2), (4, .int a4)] dX7_when_52 (by decide) rfl ?_
        refine r_inc 1 4 [(4, .int (a4 + 1)), (3, .int (a3 ||| jq4)), (0, .ref a0), (1, .int a1), (2, .int a2)] dX7_when_53 (by decide) rfl (by decide) rfl ?_
        refine r_goto 21 dX7_when_56 (by decide) ?_
        exact r_lv [2, 3, 4, 1, 0] _ rfl (ih (a3 ||| jq4) (a4 + 1) hq2 _ hm kE)
      clear hm
      have hm := hw
      clear hw
      refine r_if_eq 50 dX7_when_40 (by decide) (fun q => ?_) (fun q => ?_)
      · rw [if_neg (show ¬ xq1 = true from by rw [am_b0 q]; decide)] at hm
        refine r_iconst 0 dX7_when_50 (by decide) ?_
        cases hm
        exact r_lv [0, 1, 2, 4] _ rfl HJ
      · rw [if_pos (show xq1 = true from am_b1 q)] at hm
        refine r_iconst 1 dX7_when_43 (by decide) ?_
        refine r_iload 4 dX7_when_44 rfl ?_
        refine r_ishl dX7_when_46 ?_
        refine r_goto 51 dX7_when_47 (by decide) ?_
        cases hm
        exact r_lv [0, 1, 2, 4] _ rfl HJ
def mi_X7_when (f : Nat) (h : am_H) (p : Nat) (a : Int32) (b : Int32) : Option (Int32 × am_H) :=
  Option.bind (am_cls h 7 p) fun _n =>
  Option.bind (mi_X7_isKnot f h a) fun xq1 =>
  (if xq1 = true then
  (Option.bind (mi_X7_isKnot f h b) fun xq2 =>
  (if xq2 = true then
  (Option.bind (lo_X7_when_21 f p a b f 0 0 h) fun (oq3, hq4) =>
  some (oq3, hq4))
  else (some ((-1), h))))
  else (some ((-1), h)))
theorem cs_X7_when {f : Nat} {h : am_H} {p : Nat} {a : Int32} {b : Int32} {z : (Int32 × am_H)} (hm : mi_X7_when f h p a b = some z) : ∃ n, h.1[p]? = some (7, n) := by
  unfold mi_X7_when at hm
  obtain ⟨n, hn, -⟩ := am_bs hm
  exact ⟨n, am_cls_of hn⟩
set_option maxHeartbeats 4000000 in
set_option maxRecDepth 100000 in
theorem ct_X7_when (l : Launch) {f : Nat} {h : am_H} {p : Nat} {a : Int32} {b : Int32} {r : Int32} {h2 : am_H} (hm : mi_X7_when f h p a b = some (r, h2)) : am_Ct l yX7_when cX7_when 5 (some .int) rm_X7_when [.ref p, .int a, .int b] h (some (.int r)) h2 := by
  refine am_met2 [(0, .ref p), (1, .int a), (2, .int b)] (by decide) (Nat.le_of_ble_eq_true rfl) rfl ?_
  generalize hK : (fun (v : Option Value) (h3 : am_H) => v = (some (.int r)) ∧ h3 = h2) = K
  have HK : K (some (.int r)) h2 := by rw [← hK]; exact ⟨rfl, rfl⟩
  clear hK
  unfold mi_X7_when at hm
  obtain ⟨_n, _hn, hm⟩ := am_bs hm
  refine r_iload_n 1 dX7_when_0 rfl ?_
  obtain ⟨xq1, exq1, hm⟩ := am_bs hm
  refine r_cS1 [.int a] (ct_X7_isKnot l exq1) sm_X7_118 (by decide) ⟨rfl, rfl⟩ rfl (Nat.le_of_ble_eq_true rfl) dX7_when_1 ?_
  refine r_if_eq 14 dX7_when_4 (by decide) (fun q => ?_) (fun q => ?_)
  · rw [if_neg (show ¬ xq1 = true from by rw [am_b0 q]; decide)] at hm
    refine r_iconst (-1) dX7_when_14 (by decide) ?_
    cases hm
    exact r_ireturn dX7_when_15 rfl (by decide) HK
  · rw [if_pos (show xq1 = true from am_b1 q)] at hm
    refine r_iload_n 2 dX7_when_7 rfl ?_
    obtain ⟨xq2, exq2, hm⟩ := am_bs hm
    refine r_cS1 [.int b] (ct_X7_isKnot l exq2) sm_X7_118 (by decide) ⟨rfl, rfl⟩ rfl (Nat.le_of_ble_eq_true rfl) dX7_when_8 ?_
    refine r_if_ne 16 dX7_when_11 (by decide) (fun q => ?_) (fun q => ?_)
    · rw [if_pos (show xq2 = true from am_b1 q)] at hm
      refine r_iconst 0 dX7_when_16 (by decide) ?_
      refine r_istore_n [(3, .int 0), (0, .ref p), (1, .int a), (2, .int b)] dX7_when_17 (by decide) rfl ?_
      refine r_iconst 0 dX7_when_18 (by decide) ?_
      refine r_istore [(4, .int 0), (3, .int 0), (0, .ref p), (1, .int a), (2, .int b)] dX7_when_19 (by decide) rfl ?_
      obtain ⟨⟨oq3, hq4⟩, ew, hm⟩ := am_bs hm
      try dsimp only at hm
      refine r_lv [2, 3, 4, 1, 0] _ rfl (ll_X7_when_21 l f p a b _ f 0 0 h _ ew ?_)
      refine r_iload_n 0 dX7_when_59 rfl ?_
      cases hm
      exact r_ireturn dX7_when_60 rfl (by decide) HK
    · rw [if_neg (show ¬ xq2 = true from by rw [am_b0 q]; decide)] at hm
      refine r_iconst (-1) dX7_when_14 (by decide) ?_
      cases hm
      exact r_ireturn dX7_when_15 rfl (by decide) HK
def mi_X7_wipe (f : Nat) (h : am_H) (p : Nat) : Option (Int32 × am_H) :=
  Option.bind (am_cls h 7 p) fun _n =>
  Option.bind (am_gi h 7 p 2) fun xq1 =>
  Option.bind (am_pi h 7 p 2 0) fun hq2 =>
  some (xq1, hq2)
theorem cs_X7_wipe {f : Nat} {h : am_H} {p : Nat} {z : (Int32 × am_H)} (hm : mi_X7_wipe f h p = some z) : ∃ n, h.1[p]? = some (7, n) := by
  unfold mi_X7_wipe at hm
  obtain ⟨n, hn, -⟩ := am_bs hm
  exact ⟨n, am_cls_of hn⟩
set_option maxHeartbeats 4000000 in
set_option maxRecDepth 100000 in
theorem ct_X7_wipe (l : Launch) {f : Nat} {h : am_H} {p : Nat} {r : Int32} {h2 : am_H} (hm : mi_X7_wipe f h p = some (r, h2)) : am_Ct l yX7_wipe cX7_wipe 2 (some .int) rm_X7_wipe [.ref p] h (some (.int r)) h2 := by
  refine am_met2 [(0, .ref p)] (by decide) (Nat.le_of_ble_eq_true rfl) rfl ?_
  generalize hK : (fun (v : Option Value) (h3 : am_H) => v = (some (.int r)) ∧ h3 = h2) = K
  have HK : K (some (.int r)) h2 := by rw [← hK]; exact ⟨rfl, rfl⟩
  clear hK
  unfold mi_X7_wipe at hm
  obtain ⟨_n, _hn, hm⟩ := am_bs hm
  refine r_aload_n 0 dX7_wipe_0 rfl ?_
  obtain ⟨xq1, exq1, hm⟩ := am_bs hm
  refine r_geti exq1 fl_X7_73 rfl dX7_wipe_1 ?_
  refine r_istore_n [(1, .int xq1), (0, .ref p)] dX7_wipe_4 (by decide) rfl ?_
  refine r_aload_n 1 dX7_wipe_5 rfl ?_
  refine r_iconst 0 dX7_wipe_6 (by decide) ?_
  obtain ⟨hq2, ehq2, hm⟩ := am_bs hm
  refine r_puti ehq2 fl_X7_73 rfl rfl dX7_wipe_7 ?_
  refine r_iload_n 0 dX7_wipe_10 rfl ?_
  cases hm
  exact r_ireturn dX7_wipe_11 rfl (by decide) HK
def lo_X7_work_17 (f : Nat) (a0 : Nat) (a1 : Int32) : Nat → Int32 → Int32 → am_H → Option (Int32 × am_H)
  | 0, _, _, _ => none
  | n + 1, a2, a3, h =>
  (if 32 ≤ a3 then
  (some (a2, h))
  else (Option.bind ((if a1 = 0 then
  (Option.bind (mi_X7_liesOn f h a0 a3) fun xq3 =>
  Option.bind (mi_X7_ones f h xq3) fun xq4 =>
  some (xq4, h))
  else (Option.bind (mi_X7_walkTo f h a0 a3) fun (xq5, hq6) =>
  some (xq5, hq6)))) fun (jq1, hq2) =>
  lo_X7_work_17 f a0 a1 n (a2 + jq1) (a3 + 1) hq2))
set_option maxHeartbeats 4000000 in
set_option maxRecDepth 100000 in
theorem ll_X7_work_17 (l : Launch) (f : Nat) (a0 : Nat) (a1 : Int32) (K : Option Value → am_H → Prop) : ∀ (n : Nat) (a2 : Int32) (a3 : Int32) (h : am_H) (z : Int32 × am_H), lo_X7_work_17 f a0 a1 n a2 a3 h = some z →
    am_R l yX7_work cX7_work 4 (some .int) rm_X7_work (fun _ _ _ => True) 0 0 52 [(2, .int z.1)] [] z.2 K →
    am_R l yX7_work cX7_work 4 (some .int) rm_X7_work (fun _ _ _ => True) 0 0 17 [(0, .ref a0), (1, .int a1), (2, .int a2), (3, .int a3)] [] h K := by
  intro n
  induction n with
  | zero =>
    intro a2 a3 h z hm kE
    cases hm
  | succ n ih =>
    intro a2 a3 h z hm kE
    rw [lo_X7_work_17.eq_2] at hm
    refine r_iload_n 3 dX7_work_17 rfl ?_
    refine r_bipush 32 dX7_work_18 (by decide) ?_
    refine r_icmp_ge 52 dX7_work_20 (by decide) (fun q => ?_) (fun q => ?_)
    · rw [if_pos q] at hm
      cases hm
      exact r_lv [2] _ rfl kE
    · rw [if_neg q] at hm
      refine r_iload_n 2 dX7_work_23 rfl ?_
      refine r_iload_n 1 dX7_work_24 rfl ?_
      obtain ⟨⟨jq1, hq2⟩, hw, hm⟩ := am_bs hm
      try dsimp only at hm
      have HJ : am_R l yX7_work cX7_work 4 (some .int) rm_X7_work (fun _ _ _ => True) 0 0 44 [(0, .ref a0), (1, .int a1), (3, .int a3)] [.int jq1, .int a2] hq2 K := by
        refine r_iadd dX7_work_44 ?_
        refine r_istore_n [(2, .int (a2 + jq1)), (0, .ref a0), (1, .int a1), (3, .int a3)] dX7_work_45 (by decide) rfl ?_
        refine r_inc 1 3 [(3, .int (a3 + 1)), (2, .int (a2 + jq1)), (0, .ref a0), (1, .int a1)] dX7_work_46 (by decide) rfl (by decide) rfl ?_
        refine r_goto 17 dX7_work_49 (by decide) ?_
        exact r_lv [2, 3, 1, 0] _ rfl (ih (a2 + jq1) (a3 + 1) hq2 _ hm kE)
      clear hm
      have hm := hw
      clear hw
      refine r_if_ne 39 dX7_work_25 (by decide) (fun q => ?_) (fun q => ?_)
      · rw [if_neg q] at hm
        refine r_aload_n 0 dX7_work_39 rfl ?_
        refine r_iload_n 3 dX7_work_40 rfl ?_
        obtain ⟨⟨xq5, hq6⟩, exq5, hm⟩ := am_bs hm
        try dsimp only at hm
        refine r_cV1 [.int a3] (ct_X7_walkTo l exq5) vm_X7_203 (cs_X7_walkTo exq5) (by decide) ⟨rfl, rfl⟩ rfl (Nat.le_of_ble_eq_true rfl) dX7_work_41 ?_
        cases hm
        exact r_lv [0, 1, 3] _ rfl HJ
      · rw [if_pos q] at hm
        refine r_aload_n 0 dX7_work_28 rfl ?_
        refine r_iload_n 3 dX7_work_29 rfl ?_
        obtain ⟨xq3, exq3, hm⟩ := am_bs hm
        refine r_cV1 [.int a3] (ct_X7_liesOn l exq3) vm_X7_153 (cs_X7_liesOn exq3) (by decide) ⟨rfl, rfl⟩ rfl (Nat.le_of_ble_eq_true rfl) dX7_work_30 ?_
        obtain ⟨xq4, exq4, hm⟩ := am_bs hm
        refine r_cS1 [.int xq3] (ct_X7_ones l exq4) sm_X7_227 (by decide) ⟨rfl, rfl⟩ rfl (Nat.le_of_ble_eq_true rfl) dX7_work_33 ?_
        refine r_goto 44 dX7_work_36 (by decide) ?_
        cases hm
        exact r_lv [0, 1, 3] _ rfl HJ
def mi_X7_work (f : Nat) (h : am_H) (p : Nat) (a : Int32) : Option (Int32 × am_H) :=
  Option.bind (am_cls h 7 p) fun _n =>
  Option.bind (mi_X7_in f h ((a : Int32).toInt64) 0 1) fun xq1 =>
  (if xq1 = true then
  (Option.bind (lo_X7_work_17 f p a f 0 1 h) fun (oq2, hq3) =>
  some (oq2, hq3))
  else (some ((-2), h)))
theorem cs_X7_work {f : Nat} {h : am_H} {p : Nat} {a : Int32} {z : (Int32 × am_H)} (hm : mi_X7_work f h p a = some z) : ∃ n, h.1[p]? = some (7, n) := by
  unfold mi_X7_work at hm
  obtain ⟨n, hn, -⟩ := am_bs hm
  exact ⟨n, am_cls_of hn⟩
set_option maxHeartbeats 4000000 in
set_option maxRecDepth 100000 in
theorem ct_X7_work (l : Launch) {f : Nat} {h : am_H} {p : Nat} {a : Int32} {r : Int32} {h2 : am_H} (hm : mi_X7_work f h p a = some (r, h2)) : am_Ct l yX7_work cX7_work 4 (some .int) rm_X7_work [.ref p, .int a] h (some (.int r)) h2 := by
  refine am_met2 [(0, .ref p), (1, .int a)] (by decide) (Nat.le_of_ble_eq_true rfl) rfl ?_
  generalize hK : (fun (v : Option Value) (h3 : am_H) => v = (some (.int r)) ∧ h3 = h2) = K
  have HK : K (some (.int r)) h2 := by rw [← hK]; exact ⟨rfl, rfl⟩
  clear hK
  unfold mi_X7_work at hm
  obtain ⟨_n, _hn, hm⟩ := am_bs hm
  refine r_iload_n 1 dX7_work_0 rfl ?_
  refine r_i2l dX7_work_1 ?_
  refine r_lconst 0 dX7_work_2 (by decide) ?_
  refine r_lconst 1 dX7_work_3 (by decide) ?_
  obtain ⟨xq1, exq1, hm⟩ := am_bs hm
  refine r_cS1 [.long ((a : Int32).toInt64), .long 0, .long 1] (ct_X7_in l exq1) sm_X7_58 (by decide) ⟨rfl, rfl⟩ rfl (Nat.le_of_ble_eq_true rfl) dX7_work_4 ?_
  refine r_if_ne 13 dX7_work_7 (by decide) (fun q => ?_) (fun q => ?_)
  · rw [if_pos (show xq1 = true from am_b1 q)] at hm
    refine r_iconst 0 dX7_work_13 (by decide) ?_
    refine r_istore_n [(2, .int 0), (0, .ref p), (1, .int a)] dX7_work_14 (by decide) rfl ?_
    refine r_iconst 1 dX7_work_15 (by decide) ?_
    refine r_istore_n [(3, .int 1), (2, .int 0), (0, .ref p), (1, .int a)] dX7_work_16 (by decide) rfl ?_
    obtain ⟨⟨oq2, hq3⟩, ew, hm⟩ := am_bs hm
    try dsimp only at hm
    refine r_lv [2, 3, 1, 0] _ rfl (ll_X7_work_17 l f p a _ f 0 1 h _ ew ?_)
    refine r_iload_n 0 dX7_work_52 rfl ?_
    cases hm
    exact r_ireturn dX7_work_53 rfl (by decide) HK
  · rw [if_neg (show ¬ xq1 = true from by rw [am_b0 q]; decide)] at hm
    refine r_bipush (-2) dX7_work_10 (by decide) ?_
    cases hm
    exact r_ireturn dX7_work_12 rfl (by decide) HK
def mi_X7_write (f : Nat) (h : am_H) (p : Nat) (a : Int32) : Option (Int32 × am_H) :=
  Option.bind (am_cls h 7 p) fun _n =>
  Option.bind (mi_X7_in f h ((a : Int32).toInt64) 0 255) fun xq1 =>
  (if xq1 = true then
  (Option.bind (am_gi h 7 p 2) fun xq2 =>
  (if xq2 = 64 then
  (some ((-4), h))
  else (Option.bind (am_gr h 7 p 1) fun xq3 =>
  Option.bind (am_gi h 7 p 2) fun xq4 =>
  Option.bind (am_si h 9 xq3 xq4 a) fun hq5 =>
  Option.bind (am_gi hq5 7 p 2) fun xq6 =>
  Option.bind (am_pi hq5 7 p 2 (xq6 + 1)) fun hq7 =>
  Option.bind (am_gi hq7 7 p 2) fun xq8 =>
  some (xq8, hq7))))
  else (some ((-2), h)))
theorem cs_X7_write {f : Nat} {h : am_H} {p : Nat} {a : Int32} {z : (Int32 × am_H)} (hm : mi_X7_write f h p a = some z) : ∃ n, h.1[p]? = some (7, n) := by
  unfold mi_X7_write at hm
  obtain ⟨n, hn, -⟩ := am_bs hm
  exact ⟨n, am_cls_of hn⟩
set_option maxHeartbeats 4000000 in
set_option maxRecDepth 100000 in
theorem ct_X7_write (l : Launch) {f : Nat} {h : am_H} {p : Nat} {a : Int32} {r : Int32} {h2 : am_H} (hm : mi_X7_write f h p a = some (r, h2)) : am_Ct l yX7_write cX7_write 2 (some .int) rm_X7_write [.ref p, .int a] h (some (.int r)) h2 := by
  refine am_met2 [(0, .ref p), (1, .int a)] (by decide) (Nat.le_of_ble_eq_true rfl) rfl ?_
  generalize hK : (fun (v : Option Value) (h3 : am_H) => v = (some (.int r)) ∧ h3 = h2) = K
  have HK : K (some (.int r)) h2 := by rw [← hK]; exact ⟨rfl, rfl⟩
  clear hK
  unfold mi_X7_write at hm
  obtain ⟨_n, _hn, hm⟩ := am_bs hm
  refine r_iload_n 1 dX7_write_0 rfl ?_
  refine r_i2l dX7_write_1 ?_
  refine r_lconst 0 dX7_write_2 (by decide) ?_
  refine r_ldc2 (v := 255) kw_X7_71 dX7_write_3 ?_
  obtain ⟨xq1, exq1, hm⟩ := am_bs hm
  refine r_cS1 [.long ((a : Int32).toInt64), .long 0, .long 255] (ct_X7_in l exq1) sm_X7_58 (by decide) ⟨rfl, rfl⟩ rfl (Nat.le_of_ble_eq_true rfl) dX7_write_6 ?_
  refine r_if_ne 15 dX7_write_9 (by decide) (fun q => ?_) (fun q => ?_)
  · rw [if_pos (show xq1 = true from am_b1 q)] at hm
    refine r_aload_n 0 dX7_write_15 rfl ?_
    obtain ⟨xq2, exq2, hm⟩ := am_bs hm
    refine r_geti exq2 fl_X7_73 rfl dX7_write_16 ?_
    refine r_bipush 64 dX7_write_19 (by decide) ?_
    refine r_icmp_ne 27 dX7_write_21 (by decide) (fun q => ?_) (fun q => ?_)
    · rw [if_neg q] at hm
      refine r_aload_n 0 dX7_write_27 rfl ?_
      obtain ⟨xq3, exq3, hm⟩ := am_bs hm
      refine r_getr exq3 fl_X7_13 rfl dX7_write_28 ?_
      refine r_aload_n 0 dX7_write_31 rfl ?_
      obtain ⟨xq4, exq4, hm⟩ := am_bs hm
      refine r_geti exq4 fl_X7_73 rfl dX7_write_32 ?_
      refine r_iload_n 1 dX7_write_35 rfl ?_
      obtain ⟨hq5, ehq5, hm⟩ := am_bs hm
      refine r_iast ehq5 dX7_write_36 ?_
      refine r_aload_n 0 dX7_write_37 rfl ?_
      refine r_dup dX7_write_38 rfl ?_
      obtain ⟨xq6, exq6, hm⟩ := am_bs hm
      refine r_geti exq6 fl_X7_73 rfl dX7_write_39 ?_
      refine r_iconst 1 dX7_write_42 (by decide) ?_
      refine r_iadd dX7_write_43 ?_
      obtain ⟨hq7, ehq7, hm⟩ := am_bs hm
      refine r_puti ehq7 fl_X7_73 rfl rfl dX7_write_44 ?_
      refine r_aload_n 0 dX7_write_47 rfl ?_
      obtain ⟨xq8, exq8, hm⟩ := am_bs hm
      refine r_geti exq8 fl_X7_73 rfl dX7_write_48 ?_
      cases hm
      exact r_ireturn dX7_write_51 rfl (by decide) HK
    · rw [if_pos q] at hm
      refine r_bipush (-4) dX7_write_24 (by decide) ?_
      cases hm
      exact r_ireturn dX7_write_26 rfl (by decide) HK
  · rw [if_neg (show ¬ xq1 = true from by rw [am_b0 q]; decide)] at hm
    refine r_bipush (-2) dX7_write_12 (by decide) ?_
    cases hm
    exact r_ireturn dX7_write_14 rfl (by decide) HK
