def rm_X3_init : Room := { frames := 1, cells := 5, slots := 120, locals := 20 }
def mi_X3_init (f : Nat) (h : am_H) (p : Nat) : Option am_H :=
  Option.bind (am_cls h 3 p) fun _n =>
  Option.bind (am_rk [p, p] h.1.length (h.1.length + 1)) fun uq1 =>
  Option.bind (some (am_nw h (8, 64))) fun hq2 =>
  Option.bind (am_pr hq2 3 p 0 h.1.length) fun hq3 =>
  Option.bind (am_rk [p, p] hq3.1.length (hq3.1.length + 1)) fun uq4 =>
  Option.bind (some (am_nw hq3 (9, 8))) fun hq5 =>
  Option.bind (am_pr hq5 3 p 2 hq3.1.length) fun hq6 =>
  Option.bind (am_rk [p, p] hq6.1.length (hq6.1.length + 1)) fun uq7 =>
  Option.bind (some (am_nw hq6 (8, 16))) fun hq8 =>
  Option.bind (am_pr hq8 3 p 4 hq6.1.length) fun hq9 =>
  Option.bind (am_rk [p, p] hq9.1.length (hq9.1.length + 1)) fun uq10 =>
  Option.bind (some (am_nw hq9 (9, 16))) fun hq11 =>
  Option.bind (am_pr hq11 3 p 5 hq9.1.length) fun hq12 =>
  Option.bind (am_rk [p, p] hq12.1.length (hq12.1.length + 1)) fun uq13 =>
  Option.bind (some (am_nw hq12 (9, 16))) fun hq14 =>
  Option.bind (am_pr hq14 3 p 6 hq12.1.length) fun hq15 =>
  some hq15
theorem cs_X3_init {f : Nat} {h : am_H} {p : Nat} {z : am_H} (hm : mi_X3_init f h p = some z) : ∃ n, h.1[p]? = some (3, n) := by
  unfold mi_X3_init at hm
  obtain ⟨n, hn, -⟩ := am_bs hm
  exact ⟨n, am_cls_of hn⟩
set_option maxHeartbeats 4000000 in
set_option maxRecDepth 100000 in
theorem ct_X3_init (l : Launch) {f : Nat} {h : am_H} {p : Nat} {h2 : am_H} (hm : mi_X3_init f h p = some h2) : am_Ct l yX3_init cX3_init 1 (none) rm_X3_init [.ref p] h none h2 := by
  refine am_met2 [(0, .ref p)] (by decide) (Nat.le_of_ble_eq_true rfl) rfl ?_
  generalize hK : (fun (v : Option Value) (h3 : am_H) => v = none ∧ h3 = h2) = K
  have HK : K none h2 := by rw [← hK]; exact ⟨rfl, rfl⟩
  clear hK
  unfold mi_X3_init at hm
  obtain ⟨_n, _hn, hm⟩ := am_bs hm
  refine r_aload_n 0 dX3_init_0 rfl ?_
  refine r_obj ko_X3 ko_i ko_c (by decide) dX3_init_1 ?_
  refine r_aload_n 0 dX3_init_4 rfl ?_
  refine r_bipush 64 dX3_init_5 (by decide) ?_
  obtain ⟨uq1, euq1, hm⟩ := am_bs hm
  obtain ⟨hq2, ehq2, hm⟩ := am_bs hm
  refine r_newa2 8 64 1 64 euq1 rfl (Option.some.inj ehq2) (by decide) ka_char (by decide) (by decide) (by decide) ⟨rfl, rfl⟩ (by decide) am_Mv_T dX3_init_7 ?_
  obtain ⟨hq3, ehq3, hm⟩ := am_bs hm
  refine r_putr ehq3 fl_X3_9 rfl ⟨rfl, rfl, rfl, fk_X3_9⟩ dX3_init_9 ?_
  refine r_aload_n 0 dX3_init_12 rfl ?_
  refine r_bipush 8 dX3_init_13 (by decide) ?_
  obtain ⟨uq4, euq4, hm⟩ := am_bs hm
  obtain ⟨hq5, ehq5, hm⟩ := am_bs hm
  refine r_newa2 9 8 2 72 euq4 rfl (Option.some.inj ehq5) (by decide) ka_int (by decide) (by decide) (by decide) ⟨rfl, rfl⟩ (by decide) am_Mv_T dX3_init_15 ?_
  obtain ⟨hq6, ehq6, hm⟩ := am_bs hm
  refine r_putr ehq6 fl_X3_15 rfl ⟨rfl, rfl, rfl, fk_X3_15⟩ dX3_init_17 ?_
  refine r_aload_n 0 dX3_init_20 rfl ?_
  refine r_bipush 16 dX3_init_21 (by decide) ?_
  obtain ⟨uq7, euq7, hm⟩ := am_bs hm
  obtain ⟨hq8, ehq8, hm⟩ := am_bs hm
  refine r_newa2 8 16 3 88 euq7 rfl (Option.some.inj ehq8) (by decide) ka_char (by decide) (by decide) (by decide) ⟨rfl, rfl⟩ (by decide) am_Mv_T dX3_init_23 ?_
  obtain ⟨hq9, ehq9, hm⟩ := am_bs hm
  refine r_putr ehq9 fl_X3_19 rfl ⟨rfl, rfl, rfl, fk_X3_19⟩ dX3_init_25 ?_
  refine r_aload_n 0 dX3_init_28 rfl ?_
  refine r_bipush 16 dX3_init_29 (by decide) ?_
  obtain ⟨uq10, euq10, hm⟩ := am_bs hm
  obtain ⟨hq11, ehq11, hm⟩ := am_bs hm
  refine r_newa2 9 16 4 104 euq10 rfl (Option.some.inj ehq11) (by decide) ka_int (by decide) (by decide) (by decide) ⟨rfl, rfl⟩ (by decide) am_Mv_T dX3_init_31 ?_
  obtain ⟨hq12, ehq12, hm⟩ := am_bs hm
  refine r_putr ehq12 fl_X3_22 rfl ⟨rfl, rfl, rfl, fk_X3_22⟩ dX3_init_33 ?_
  refine r_aload_n 0 dX3_init_36 rfl ?_
  refine r_bipush 16 dX3_init_37 (by decide) ?_
  obtain ⟨uq13, euq13, hm⟩ := am_bs hm
  obtain ⟨hq14, ehq14, hm⟩ := am_bs hm
  refine r_newa2 9 16 5 120 euq13 rfl (Option.some.inj ehq14) (by decide) ka_int (by decide) (by decide) (by decide) ⟨rfl, rfl⟩ (by decide) am_Mv_T dX3_init_39 ?_
  obtain ⟨hq15, ehq15, hm⟩ := am_bs hm
  refine r_putr ehq15 fl_X3_25 rfl ⟨rfl, rfl, rfl, fk_X3_25⟩ dX3_init_41 ?_
  cases hm
  exact r_return dX3_init_44 rfl (by decide) HK
def rm_X5_init : Room := { frames := 1, cells := 4, slots := 64, locals := 20 }
def mi_X5_init (f : Nat) (h : am_H) (p : Nat) : Option am_H :=
  Option.bind (am_cls h 5 p) fun _n =>
  Option.bind (am_rk [p, p] h.1.length (h.1.length + 1)) fun uq1 =>
  Option.bind (some (am_nw h (9, 16))) fun hq2 =>
  Option.bind (am_pr hq2 5 p 0 h.1.length) fun hq3 =>
  Option.bind (am_rk [p, p] hq3.1.length (hq3.1.length + 1)) fun uq4 =>
  Option.bind (some (am_nw hq3 (9, 16))) fun hq5 =>
  Option.bind (am_pr hq5 5 p 1 hq3.1.length) fun hq6 =>
  Option.bind (am_rk [p, p] hq6.1.length (hq6.1.length + 1)) fun uq7 =>
  Option.bind (some (am_nw hq6 (9, 16))) fun hq8 =>
  Option.bind (am_pr hq8 5 p 2 hq6.1.length) fun hq9 =>
  Option.bind (am_rk [p, p] hq9.1.length (hq9.1.length + 1)) fun uq10 =>
  Option.bind (some (am_nw hq9 (9, 16))) fun hq11 =>
  Option.bind (am_pr hq11 5 p 3 hq9.1.length) fun hq12 =>
  some hq12
theorem cs_X5_init {f : Nat} {h : am_H} {p : Nat} {z : am_H} (hm : mi_X5_init f h p = some z) : ∃ n, h.1[p]? = some (5, n) := by
  unfold mi_X5_init at hm
  obtain ⟨n, hn, -⟩ := am_bs hm
  exact ⟨n, am_cls_of hn⟩
set_option maxHeartbeats 4000000 in
set_option maxRecDepth 100000 in
theorem ct_X5_init (l : Launch) {f : Nat} {h : am_H} {p : Nat} {h2 : am_H} (hm : mi_X5_init f h p = some h2) : am_Ct l yX5_init cX5_init 1 (none) rm_X5_init [.ref p] h none h2 := by
  refine am_met2 [(0, .ref p)] (by decide) (Nat.le_of_ble_eq_true rfl) rfl ?_
  generalize hK : (fun (v : Option Value) (h3 : am_H) => v = none ∧ h3 = h2) = K
  have HK : K none h2 := by rw [← hK]; exact ⟨rfl, rfl⟩
  clear hK
  unfold mi_X5_init at hm
  obtain ⟨_n, _hn, hm⟩ := am_bs hm
  refine r_aload_n 0 dX5_init_0 rfl ?_
  refine r_obj ko_X5 ko_i ko_c (by decide) dX5_init_1 ?_
  refine r_aload_n 0 dX5_init_4 rfl ?_
  refine r_bipush 16 dX5_init_5 (by decide) ?_
  obtain ⟨uq1, euq1, hm⟩ := am_bs hm
  obtain ⟨hq2, ehq2, hm⟩ := am_bs hm
  refine r_newa2 9 16 1 16 euq1 rfl (Option.some.inj ehq2) (by decide) ka_int (by decide) (by decide) (by decide) ⟨rfl, rfl⟩ (by decide) am_Mv_T dX5_init_7 ?_
  obtain ⟨hq3, ehq3, hm⟩ := am_bs hm
  refine r_putr ehq3 fl_X5_9 rfl ⟨rfl, rfl, rfl, fk_X5_9⟩ dX5_init_9 ?_
  refine r_aload_n 0 dX5_init_12 rfl ?_
  refine r_bipush 16 dX5_init_13 (by decide) ?_
  obtain ⟨uq4, euq4, hm⟩ := am_bs hm
  obtain ⟨hq5, ehq5, hm⟩ := am_bs hm
  refine r_newa2 9 16 2 32 euq4 rfl (Option.some.inj ehq5) (by decide) ka_int (by decide) (by decide) (by decide) ⟨rfl, rfl⟩ (by decide) am_Mv_T dX5_init_15 ?_
  obtain ⟨hq6, ehq6, hm⟩ := am_bs hm
  refine r_putr ehq6 fl_X5_15 rfl ⟨rfl, rfl, rfl, fk_X5_15⟩ dX5_init_17 ?_
  refine r_aload_n 0 dX5_init_20 rfl ?_
  refine r_bipush 16 dX5_init_21 (by decide) ?_
  obtain ⟨uq7, euq7, hm⟩ := am_bs hm
  obtain ⟨hq8, ehq8, hm⟩ := am_bs hm
  refine r_newa2 9 16 3 48 euq7 rfl (Option.some.inj ehq8) (by decide) ka_int (by decide) (by decide) (by decide) ⟨rfl, rfl⟩ (by decide) am_Mv_T dX5_init_23 ?_
  obtain ⟨hq9, ehq9, hm⟩ := am_bs hm
  refine r_putr ehq9 fl_X5_18 rfl ⟨rfl, rfl, rfl, fk_X5_18⟩ dX5_init_25 ?_
  refine r_aload_n 0 dX5_init_28 rfl ?_
  refine r_bipush 16 dX5_init_29 (by decide) ?_
  obtain ⟨uq10, euq10, hm⟩ := am_bs hm
  obtain ⟨hq11, ehq11, hm⟩ := am_bs hm
  refine r_newa2 9 16 4 64 euq10 rfl (Option.some.inj ehq11) (by decide) ka_int (by decide) (by decide) (by decide) ⟨rfl, rfl⟩ (by decide) am_Mv_T dX5_init_31 ?_
  obtain ⟨hq12, ehq12, hm⟩ := am_bs hm
  refine r_putr ehq12 fl_X5_21 rfl ⟨rfl, rfl, rfl, fk_X5_21⟩ dX5_init_33 ?_
  cases hm
  exact r_return dX5_init_36 rfl (by decide) HK
def rm_X0_init : Room := { frames := 2, cells := 71, slots := 980, locals := 40 }
def mi_X0_init (f : Nat) (h : am_H) (p : Nat) : Option am_H :=
  Option.bind (am_cls h 0 p) fun _n =>
  Option.bind (am_rk [p, p] h.1.length (h.1.length + 1)) fun uq1 =>
  Option.bind (some (am_nw h (11, 14))) fun hq2 =>
  Option.bind (am_pr hq2 0 p 0 h.1.length) fun hq3 =>
  Option.bind (am_gr hq3 0 p 0) fun xq4 =>
  Option.bind (am_rk [p, xq4] hq3.1.length (hq3.1.length + 1)) fun uq5 =>
  Option.bind (some (am_nw hq3 (5, 5))) fun hq6 =>
  Option.bind (mi_X5_init f hq6 hq3.1.length) fun hq8 =>
  Option.bind (am_rk [p, hq3.1.length, xq4] hq6.1.length hq8.1.length) fun uq9 =>
  Option.bind (am_sr hq8 xq4 0 hq3.1.length) fun hq10 =>
  Option.bind (am_gr hq10 0 p 0) fun xq11 =>
  Option.bind (am_rk [p, xq11] hq10.1.length (hq10.1.length + 1)) fun uq12 =>
  Option.bind (some (am_nw hq10 (5, 5))) fun hq13 =>
  Option.bind (mi_X5_init f hq13 hq10.1.length) fun hq15 =>
  Option.bind (am_rk [p, hq10.1.length, xq11] hq13.1.length hq15.1.length) fun uq16 =>
  Option.bind (am_sr hq15 xq11 1 hq10.1.length) fun hq17 =>
  Option.bind (am_gr hq17 0 p 0) fun xq18 =>
  Option.bind (am_rk [p, xq18] hq17.1.length (hq17.1.length + 1)) fun uq19 =>
  Option.bind (some (am_nw hq17 (5, 5))) fun hq20 =>
  Option.bind (mi_X5_init f hq20 hq17.1.length) fun hq22 =>
  Option.bind (am_rk [p, hq17.1.length, xq18] hq20.1.length hq22.1.length) fun uq23 =>
  Option.bind (am_sr hq22 xq18 2 hq17.1.length) fun hq24 =>
  Option.bind (am_gr hq24 0 p 0) fun xq25 =>
  Option.bind (am_rk [p, xq25] hq24.1.length (hq24.1.length + 1)) fun uq26 =>
  Option.bind (some (am_nw hq24 (5, 5))) fun hq27 =>
  Option.bind (mi_X5_init f hq27 hq24.1.length) fun hq29 =>
  Option.bind (am_rk [p, hq24.1.length, xq25] hq27.1.length hq29.1.length) fun uq30 =>
  Option.bind (am_sr hq29 xq25 3 hq24.1.length) fun hq31 =>
  Option.bind (am_gr hq31 0 p 0) fun xq32 =>
  Option.bind (am_rk [p, xq32] hq31.1.length (hq31.1.length + 1)) fun uq33 =>
  Option.bind (some (am_nw hq31 (5, 5))) fun hq34 =>
  Option.bind (mi_X5_init f hq34 hq31.1.length) fun hq36 =>
  Option.bind (am_rk [p, hq31.1.length, xq32] hq34.1.length hq36.1.length) fun uq37 =>
  Option.bind (am_sr hq36 xq32 4 hq31.1.length) fun hq38 =>
  Option.bind (am_gr hq38 0 p 0) fun xq39 =>
  Option.bind (am_rk [p, xq39] hq38.1.length (hq38.1.length + 1)) fun uq40 =>
  Option.bind (some (am_nw hq38 (5, 5))) fun hq41 =>
  Option.bind (mi_X5_init f hq41 hq38.1.length) fun hq43 =>
  Option.bind (am_rk [p, hq38.1.length, xq39] hq41.1.length hq43.1.length) fun uq44 =>
  Option.bind (am_sr hq43 xq39 5 hq38.1.length) fun hq45 =>
  Option.bind (am_gr hq45 0 p 0) fun xq46 =>
  Option.bind (am_rk [p, xq46] hq45.1.length (hq45.1.length + 1)) fun uq47 =>
  Option.bind (some (am_nw hq45 (5, 5))) fun hq48 =>
  Option.bind (mi_X5_init f hq48 hq45.1.length) fun hq50 =>
  Option.bind (am_rk [p, hq45.1.length, xq46] hq48.1.length hq50.1.length) fun uq51 =>
  Option.bind (am_sr hq50 xq46 6 hq45.1.length) fun hq52 =>
  Option.bind (am_gr hq52 0 p 0) fun xq53 =>
  Option.bind (am_rk [p, xq53] hq52.1.length (hq52.1.length + 1)) fun uq54 =>
  Option.bind (some (am_nw hq52 (5, 5))) fun hq55 =>
  Option.bind (mi_X5_init f hq55 hq52.1.length) fun hq57 =>
  Option.bind (am_rk [p, hq52.1.length, xq53] hq55.1.length hq57.1.length) fun uq58 =>
  Option.bind (am_sr hq57 xq53 7 hq52.1.length) fun hq59 =>
  Option.bind (am_gr hq59 0 p 0) fun xq60 =>
  Option.bind (am_rk [p, xq60] hq59.1.length (hq59.1.length + 1)) fun uq61 =>
  Option.bind (some (am_nw hq59 (5, 5))) fun hq62 =>
  Option.bind (mi_X5_init f hq62 hq59.1.length) fun hq64 =>
  Option.bind (am_rk [p, hq59.1.length, xq60] hq62.1.length hq64.1.length) fun uq65 =>
  Option.bind (am_sr hq64 xq60 8 hq59.1.length) fun hq66 =>
  Option.bind (am_gr hq66 0 p 0) fun xq67 =>
  Option.bind (am_rk [p, xq67] hq66.1.length (hq66.1.length + 1)) fun uq68 =>
  Option.bind (some (am_nw hq66 (5, 5))) fun hq69 =>
  Option.bind (mi_X5_init f hq69 hq66.1.length) fun hq71 =>
  Option.bind (am_rk [p, hq66.1.length, xq67] hq69.1.length hq71.1.length) fun uq72 =>
  Option.bind (am_sr hq71 xq67 9 hq66.1.length) fun hq73 =>
  Option.bind (am_gr hq73 0 p 0) fun xq74 =>
  Option.bind (am_rk [p, xq74] hq73.1.length (hq73.1.length + 1)) fun uq75 =>
  Option.bind (some (am_nw hq73 (5, 5))) fun hq76 =>
  Option.bind (mi_X5_init f hq76 hq73.1.length) fun hq78 =>
  Option.bind (am_rk [p, hq73.1.length, xq74] hq76.1.length hq78.1.length) fun uq79 =>
  Option.bind (am_sr hq78 xq74 10 hq73.1.length) fun hq80 =>
  Option.bind (am_gr hq80 0 p 0) fun xq81 =>
  Option.bind (am_rk [p, xq81] hq80.1.length (hq80.1.length + 1)) fun uq82 =>
  Option.bind (some (am_nw hq80 (5, 5))) fun hq83 =>
  Option.bind (mi_X5_init f hq83 hq80.1.length) fun hq85 =>
  Option.bind (am_rk [p, hq80.1.length, xq81] hq83.1.length hq85.1.length) fun uq86 =>
  Option.bind (am_sr hq85 xq81 11 hq80.1.length) fun hq87 =>
  Option.bind (am_gr hq87 0 p 0) fun xq88 =>
  Option.bind (am_rk [p, xq88] hq87.1.length (hq87.1.length + 1)) fun uq89 =>
  Option.bind (some (am_nw hq87 (5, 5))) fun hq90 =>
  Option.bind (mi_X5_init f hq90 hq87.1.length) fun hq92 =>
  Option.bind (am_rk [p, hq87.1.length, xq88] hq90.1.length hq92.1.length) fun uq93 =>
  Option.bind (am_sr hq92 xq88 12 hq87.1.length) fun hq94 =>
  Option.bind (am_gr hq94 0 p 0) fun xq95 =>
  Option.bind (am_rk [p, xq95] hq94.1.length (hq94.1.length + 1)) fun uq96 =>
  Option.bind (some (am_nw hq94 (5, 5))) fun hq97 =>
  Option.bind (mi_X5_init f hq97 hq94.1.length) fun hq99 =>
  Option.bind (am_rk [p, hq94.1.length, xq95] hq97.1.length hq99.1.length) fun uq100 =>
  Option.bind (am_sr hq99 xq95 13 hq94.1.length) fun hq101 =>
  some hq101
theorem cs_X0_init {f : Nat} {h : am_H} {p : Nat} {z : am_H} (hm : mi_X0_init f h p = some z) : ∃ n, h.1[p]? = some (0, n) := by
  unfold mi_X0_init at hm
  obtain ⟨n, hn, -⟩ := am_bs hm
  exact ⟨n, am_cls_of hn⟩
set_option maxHeartbeats 4000000 in
set_option maxRecDepth 100000 in
theorem ct_X0_init (l : Launch) {f : Nat} {h : am_H} {p : Nat} {h2 : am_H} (hm : mi_X0_init f h p = some h2) : am_Ct l yX0_init cX0_init 2 (none) rm_X0_init [.ref p] h none h2 := by
  refine am_met2 [(0, .ref p)] (by decide) (Nat.le_of_ble_eq_true rfl) rfl ?_
  generalize hK : (fun (v : Option Value) (h3 : am_H) => v = none ∧ h3 = h2) = K
  have HK : K none h2 := by rw [← hK]; exact ⟨rfl, rfl⟩
  clear hK
  unfold mi_X0_init at hm
  obtain ⟨_n, _hn, hm⟩ := am_bs hm
  refine r_aload_n 0 dX0_init_0 rfl ?_
  refine r_obj ko_X0 ko_i ko_c (by decide) dX0_init_1 ?_
  refine r_aload_n 0 dX0_init_4 rfl ?_
  refine r_bipush 14 dX0_init_5 (by decide) ?_
  obtain ⟨uq1, euq1, hm⟩ := am_bs hm
  obtain ⟨hq2, ehq2, hm⟩ := am_bs hm
  refine r_anew2 14 1 14 euq1 rfl (Option.some.inj ehq2) kq_X0_9 (by decide) (by decide) (by decide) ⟨rfl, rfl⟩ (by decide) am_Mv_T dX0_init_7 ?_
  obtain ⟨hq3, ehq3, hm⟩ := am_bs hm
  refine r_putr ehq3 fl_X0_11 rfl ⟨rfl, rfl, rfl, fk_X0_11⟩ dX0_init_10 ?_
  refine r_iconst 0 dX0_init_13 (by decide) ?_
  refine r_istore_n [(1, .int 0), (0, .ref p)] dX0_init_14 (by decide) rfl ?_
  refine r_iload_n 0 dX0_init_15 rfl ?_
  refine r_bipush 14 dX0_init_16 (by decide) ?_
  refine r_icmp_ge 40 dX0_init_18 (by decide) (fun q => absurd q (by decide)) (fun _ => ?_)
  refine r_aload_n 1 dX0_init_21 rfl ?_
  obtain ⟨xq4, exq4, hm⟩ := am_bs hm
  refine r_getr exq4 fl_X0_11 rfl dX0_init_22 ?_
  refine r_iload_n 0 dX0_init_25 rfl ?_
  obtain ⟨uq5, euq5, hm⟩ := am_bs hm
  obtain ⟨hq6, ehq6, hm⟩ := am_bs hm
  refine r_new2 5 2 19 euq5 rfl (Option.some.inj ehq6) (by decide) kc_X0_9 ki_5 kn_5 ⟨rfl, rfl⟩ (by decide) am_Mv_T dX0_init_26 ?_
  refine r_dup dX0_init_29 rfl ?_
  obtain ⟨hq8, exq7, hm⟩ := am_bs hm
  obtain ⟨uq9, euq9, hm⟩ := am_bs hm
  refine r_cI2 6 83 (ct_X5_init l exq7) euq9 rfl im_X0_17 (by decide) ⟨rfl, rfl⟩ rfl (Nat.le_of_ble_eq_true rfl) dX0_init_30 am_Mv_T ?_
  obtain ⟨hq10, ehq10, hm⟩ := am_bs hm
  refine r_aast ehq10 dX0_init_33 ?_
  refine r_iinc 0 [(1, .int 1), (0, .ref p)] dX0_init_34 rfl (by decide) (by decide) rfl ?_
  refine r_goto 15 dX0_init_37 (by decide) ?_
  refine r_iload_n 0 dX0_init_15 rfl ?_
  refine r_bipush 14 dX0_init_16 (by decide) ?_
  refine r_icmp_ge 40 dX0_init_18 (by decide) (fun q => absurd q (by decide)) (fun _ => ?_)
  refine r_aload_n 1 dX0_init_21 rfl ?_
  obtain ⟨xq11, exq11, hm⟩ := am_bs hm
  refine r_getr exq11 fl_X0_11 rfl dX0_init_22 ?_
  refine r_iload_n 0 dX0_init_25 rfl ?_
  obtain ⟨uq12, euq12, hm⟩ := am_bs hm
  obtain ⟨hq13, ehq13, hm⟩ := am_bs hm
  refine r_new2 5 7 88 euq12 rfl (Option.some.inj ehq13) (by decide) kc_X0_9 ki_5 kn_5 ⟨rfl, rfl⟩ (by decide) am_Mv_T dX0_init_26 ?_
  refine r_dup dX0_init_29 rfl ?_
  obtain ⟨hq15, exq14, hm⟩ := am_bs hm
  obtain ⟨uq16, euq16, hm⟩ := am_bs hm
  refine r_cI2 11 152 (ct_X5_init l exq14) euq16 rfl im_X0_17 (by decide) ⟨rfl, rfl⟩ rfl (Nat.le_of_ble_eq_true rfl) dX0_init_30 am_Mv_T ?_
  obtain ⟨hq17, ehq17, hm⟩ := am_bs hm
  refine r_aast ehq17 dX0_init_33 ?_
  refine r_iinc 0 [(1, .int 2), (0, .ref p)] dX0_init_34 rfl (by decide) (by decide) rfl ?_
  refine r_goto 15 dX0_init_37 (by decide) ?_
  refine r_iload_n 0 dX0_init_15 rfl ?_
  refine r_bipush 14 dX0_init_16 (by decide) ?_
  refine r_icmp_ge 40 dX0_init_18 (by decide) (fun q => absurd q (by decide)) (fun _ => ?_)
  refine r_aload_n 1 dX0_init_21 rfl ?_
  obtain ⟨xq18, exq18, hm⟩ := am_bs hm
  refine r_getr exq18 fl_X0_11 rfl dX0_init_22 ?_
  refine r_iload_n 0 dX0_init_25 rfl ?_
  obtain ⟨uq19, euq19, hm⟩ := am_bs hm
  obtain ⟨hq20, ehq20, hm⟩ := am_bs hm
  refine r_new2 5 12 157 euq19 rfl (Option.some.inj ehq20) (by decide) kc_X0_9 ki_5 kn_5 ⟨rfl, rfl⟩ (by decide) am_Mv_T dX0_init_26 ?_
  refine r_dup dX0_init_29 rfl ?_
  obtain ⟨hq22, exq21, hm⟩ := am_bs hm
  obtain ⟨uq23, euq23, hm⟩ := am_bs hm
  refine r_cI2 16 221 (ct_X5_init l exq21) euq23 rfl im_X0_17 (by decide) ⟨rfl, rfl⟩ rfl (Nat.le_of_ble_eq_true rfl) dX0_init_30 am_Mv_T ?_
  obtain ⟨hq24, ehq24, hm⟩ := am_bs hm
  refine r_aast ehq24 dX0_init_33 ?_
  refine r_iinc 0 [(1, .int 3), (0, .ref p)] dX0_init_34 rfl (by decide) (by decide) rfl ?_
  refine r_goto 15 dX0_init_37 (by decide) ?_
  refine r_iload_n 0 dX0_init_15 rfl ?_
  refine r_bipush 14 dX0_init_16 (by decide) ?_
  refine r_icmp_ge 40 dX0_init_18 (by decide) (fun q => absurd q (by decide)) (fun _ => ?_)
  refine r_aload_n 1 dX0_init_21 rfl ?_
  obtain ⟨xq25, exq25, hm⟩ := am_bs hm
  refine r_getr exq25 fl_X0_11 rfl dX0_init_22 ?_
  refine r_iload_n 0 dX0_init_25 rfl ?_
  obtain ⟨uq26, euq26, hm⟩ := am_bs hm
  obtain ⟨hq27, ehq27, hm⟩ := am_bs hm
  refine r_new2 5 17 226 euq26 rfl (Option.some.inj ehq27) (by decide) kc_X0_9 ki_5 kn_5 ⟨rfl, rfl⟩ (by decide) am_Mv_T dX0_init_26 ?_
  refine r_dup dX0_init_29 rfl ?_
  obtain ⟨hq29, exq28, hm⟩ := am_bs hm
  obtain ⟨uq30, euq30, hm⟩ := am_bs hm
  refine r_cI2 21 290 (ct_X5_init l exq28) euq30 rfl im_X0_17 (by decide) ⟨rfl, rfl⟩ rfl (Nat.le_of_ble_eq_true rfl) dX0_init_30 am_Mv_T ?_
  obtain ⟨hq31, ehq31, hm⟩ := am_bs hm
  refine r_aast ehq31 dX0_init_33 ?_
  refine r_iinc 0 [(1, .int 4), (0, .ref p)] dX0_init_34 rfl (by decide) (by decide) rfl ?_
  refine r_goto 15 dX0_init_37 (by decide) ?_
  refine r_iload_n 0 dX0_init_15 rfl ?_
  refine r_bipush 14 dX0_init_16 (by decide) ?_
  refine r_icmp_ge 40 dX0_init_18 (by decide) (fun q => absurd q (by decide)) (fun _ => ?_)
  refine r_aload_n 1 dX0_init_21 rfl ?_
  obtain ⟨xq32, exq32, hm⟩ := am_bs hm
  refine r_getr exq32 fl_X0_11 rfl dX0_init_22 ?_
  refine r_iload_n 0 dX0_init_25 rfl ?_
  obtain ⟨uq33, euq33, hm⟩ := am_bs hm
  obtain ⟨hq34, ehq34, hm⟩ := am_bs hm
  refine r_new2 5 22 295 euq33 rfl (Option.some.inj ehq34) (by decide) kc_X0_9 ki_5 kn_5 ⟨rfl, rfl⟩ (by decide) am_Mv_T dX0_init_26 ?_
  refine r_dup dX0_init_29 rfl ?_
  obtain ⟨hq36, exq35, hm⟩ := am_bs hm
  obtain ⟨uq37, euq37, hm⟩ := am_bs hm
  refine r_cI2 26 359 (ct_X5_init l exq35) euq37 rfl im_X0_17 (by decide) ⟨rfl, rfl⟩ rfl (Nat.le_of_ble_eq_true rfl) dX0_init_30 am_Mv_T ?_
  obtain ⟨hq38, ehq38, hm⟩ := am_bs hm
  refine r_aast ehq38 dX0_init_33 ?_
  refine r_iinc 0 [(1, .int 5), (0, .ref p)] dX0_init_34 rfl (by decide) (by decide) rfl ?_
  refine r_goto 15 dX0_init_37 (by decide) ?_
  refine r_iload_n 0 dX0_init_15 rfl ?_
  refine r_bipush 14 dX0_init_16 (by decide) ?_
  refine r_icmp_ge 40 dX0_init_18 (by decide) (fun q => absurd q (by decide)) (fun _ => ?_)
  refine r_aload_n 1 dX0_init_21 rfl ?_
  obtain ⟨xq39, exq39, hm⟩ := am_bs hm
  refine r_getr exq39 fl_X0_11 rfl dX0_init_22 ?_
  refine r_iload_n 0 dX0_init_25 rfl ?_
  obtain ⟨uq40, euq40, hm⟩ := am_bs hm
  obtain ⟨hq41, ehq41, hm⟩ := am_bs hm
  refine r_new2 5 27 364 euq40 rfl (Option.some.inj ehq41) (by decide) kc_X0_9 ki_5 kn_5 ⟨rfl, rfl⟩ (by decide) am_Mv_T dX0_init_26 ?_
  refine r_dup dX0_init_29 rfl ?_
  obtain ⟨hq43, exq42, hm⟩ := am_bs hm
  obtain ⟨uq44, euq44, hm⟩ := am_bs hm
  refine r_cI2 31 428 (ct_X5_init l exq42) euq44 rfl im_X0_17 (by decide) ⟨rfl, rfl⟩ rfl (Nat.le_of_ble_eq_true rfl) dX0_init_30 am_Mv_T ?_
  obtain ⟨hq45, ehq45, hm⟩ := am_bs hm
  refine r_aast ehq45 dX0_init_33 ?_
  refine r_iinc 0 [(1, .int 6), (0, .ref p)] dX0_init_34 rfl (by decide) (by decide) rfl ?_
  refine r_goto 15 dX0_init_37 (by decide) ?_
  refine r_iload_n 0 dX0_init_15 rfl ?_
  refine r_bipush 14 dX0_init_16 (by decide) ?_
  refine r_icmp_ge 40 dX0_init_18 (by decide) (fun q => absurd q (by decide)) (fun _ => ?_)
  refine r_aload_n 1 dX0_init_21 rfl ?_
  obtain ⟨xq46, exq46, hm⟩ := am_bs hm
  refine r_getr exq46 fl_X0_11 rfl dX0_init_22 ?_
  refine r_iload_n 0 dX0_init_25 rfl ?_
  obtain ⟨uq47, euq47, hm⟩ := am_bs hm
  obtain ⟨hq48, ehq48, hm⟩ := am_bs hm
  refine r_new2 5 32 433 euq47 rfl (Option.some.inj ehq48) (by decide) kc_X0_9 ki_5 kn_5 ⟨rfl, rfl⟩ (by decide) am_Mv_T dX0_init_26 ?_
  refine r_dup dX0_init_29 rfl ?_
  obtain ⟨hq50, exq49, hm⟩ := am_bs hm
  obtain ⟨uq51, euq51, hm⟩ := am_bs hm
  refine r_cI2 36 497 (ct_X5_init l exq49) euq51 rfl im_X0_17 (by decide) ⟨rfl, rfl⟩ rfl (Nat.le_of_ble_eq_true rfl) dX0_init_30 am_Mv_T ?_
  obtain ⟨hq52, ehq52, hm⟩ := am_bs hm
  refine r_aast ehq52 dX0_init_33 ?_
  refine r_iinc 0 [(1, .int 7), (0, .ref p)] dX0_init_34 rfl (by decide) (by decide) rfl ?_
  refine r_goto 15 dX0_init_37 (by decide) ?_
  refine r_iload_n 0 dX0_init_15 rfl ?_
  refine r_bipush 14 dX0_init_16 (by decide) ?_
  refine r_icmp_ge 40 dX0_init_18 (by decide) (fun q => absurd q (by decide)) (fun _ => ?_)
  refine r_aload_n 1 dX0_init_21 rfl ?_
  obtain ⟨xq53, exq53, hm⟩ := am_bs hm
  refine r_getr exq53 fl_X0_11 rfl dX0_init_22 ?_
  refine r_iload_n 0 dX0_init_25 rfl ?_
  obtain ⟨uq54, euq54, hm⟩ := am_bs hm
  obtain ⟨hq55, ehq55, hm⟩ := am_bs hm
  refine r_new2 5 37 502 euq54 rfl (Option.some.inj ehq55) (by decide) kc_X0_9 ki_5 kn_5 ⟨rfl, rfl⟩ (by decide) am_Mv_T dX0_init_26 ?_
  refine r_dup dX0_init_29 rfl ?_
  obtain ⟨hq57, exq56, hm⟩ := am_bs hm
  obtain ⟨uq58, euq58, hm⟩ := am_bs hm
  refine r_cI2 41 566 (ct_X5_init l exq56) euq58 rfl im_X0_17 (by decide) ⟨rfl, rfl⟩ rfl (Nat.le_of_ble_eq_true rfl) dX0_init_30 am_Mv_T ?_
  obtain ⟨hq59, ehq59, hm⟩ := am_bs hm
  refine r_aast ehq59 dX0_init_33 ?_
  refine r_iinc 0 [(1, .int 8), (0, .ref p)] dX0_init_34 rfl (by decide) (by decide) rfl ?_
  refine r_goto 15 dX0_init_37 (by decide) ?_
  refine r_iload_n 0 dX0_init_15 rfl ?_
  refine r_bipush 14 dX0_init_16 (by decide) ?_
  refine r_icmp_ge 40 dX0_init_18 (by decide) (fun q => absurd q (by decide)) (fun _ => ?_)
  refine r_aload_n 1 dX0_init_21 rfl ?_
  obtain ⟨xq60, exq60, hm⟩ := am_bs hm
  refine r_getr exq60 fl_X0_11 rfl dX0_init_22 ?_
  refine r_iload_n 0 dX0_init_25 rfl ?_
  obtain ⟨uq61, euq61, hm⟩ := am_bs hm
  obtain ⟨hq62, ehq62, hm⟩ := am_bs hm
  refine r_new2 5 42 571 euq61 rfl (Option.some.inj ehq62) (by decide) kc_X0_9 ki_5 kn_5 ⟨rfl, rfl⟩ (by decide) am_Mv_T dX0_init_26 ?_
  refine r_dup dX0_init_29 rfl ?_
  obtain ⟨hq64, exq63, hm⟩ := am_bs hm
  obtain ⟨uq65, euq65, hm⟩ := am_bs hm
  refine r_cI2 46 635 (ct_X5_init l exq63) euq65 rfl im_X0_17 (by decide) ⟨rfl, rfl⟩ rfl (Nat.le_of_ble_eq_true rfl) dX0_init_30 am_Mv_T ?_
  obtain ⟨hq66, ehq66, hm⟩ := am_bs hm
  refine r_aast ehq66 dX0_init_33 ?_
  refine r_iinc 0 [(1, .int 9), (0, .ref p)] dX0_init_34 rfl (by decide) (by decide) rfl ?_
  refine r_goto 15 dX0_init_37 (by decide) ?_
  refine r_iload_n 0 dX0_init_15 rfl ?_
  refine r_bipush 14 dX0_init_16 (by decide) ?_
  refine r_icmp_ge 40 dX0_init_18 (by decide) (fun q => absurd q (by decide)) (fun _ => ?_)
  refine r_aload_n 1 dX0_init_21 rfl ?_
  obtain ⟨xq67, exq67, hm⟩ := am_bs hm
  refine r_getr exq67 fl_X0_11 rfl dX0_init_22 ?_
  refine r_iload_n 0 dX0_init_25 rfl ?_
  obtain ⟨uq68, euq68, hm⟩ := am_bs hm
  obtain ⟨hq69, ehq69, hm⟩ := am_bs hm
  refine r_new2 5 47 640 euq68 rfl (Option.some.inj ehq69) (by decide) kc_X0_9 ki_5 kn_5 ⟨rfl, rfl⟩ (by decide) am_Mv_T dX0_init_26 ?_
  refine r_dup dX0_init_29 rfl ?_
  obtain ⟨hq71, exq70, hm⟩ := am_bs hm
  obtain ⟨uq72, euq72, hm⟩ := am_bs hm
  refine r_cI2 51 704 (ct_X5_init l exq70) euq72 rfl im_X0_17 (by decide) ⟨rfl, rfl⟩ rfl (Nat.le_of_ble_eq_true rfl) dX0_init_30 am_Mv_T ?_
  obtain ⟨hq73, ehq73, hm⟩ := am_bs hm
  refine r_aast ehq73 dX0_init_33 ?_
  refine r_iinc 0 [(1, .int 10), (0, .ref p)] dX0_init_34 rfl (by decide) (by decide) rfl ?_
  refine r_goto 15 dX0_init_37 (by decide) ?_
  refine r_iload_n 0 dX0_init_15 rfl ?_
  refine r_bipush 14 dX0_init_16 (by decide) ?_
  refine r_icmp_ge 40 dX0_init_18 (by decide) (fun q => absurd q (by decide)) (fun _ => ?_)
  refine r_aload_n 1 dX0_init_21 rfl ?_
  obtain ⟨xq74, exq74, hm⟩ := am_bs hm
  refine r_getr exq74 fl_X0_11 rfl dX0_init_22 ?_
  refine r_iload_n 0 dX0_init_25 rfl ?_
  obtain ⟨uq75, euq75, hm⟩ := am_bs hm
  obtain ⟨hq76, ehq76, hm⟩ := am_bs hm
  refine r_new2 5 52 709 euq75 rfl (Option.some.inj ehq76) (by decide) kc_X0_9 ki_5 kn_5 ⟨rfl, rfl⟩ (by decide) am_Mv_T dX0_init_26 ?_
  refine r_dup dX0_init_29 rfl ?_
  obtain ⟨hq78, exq77, hm⟩ := am_bs hm
  obtain ⟨uq79, euq79, hm⟩ := am_bs hm
  refine r_cI2 56 773 (ct_X5_init l exq77) euq79 rfl im_X0_17 (by decide) ⟨rfl, rfl⟩ rfl (Nat.le_of_ble_eq_true rfl) dX0_init_30 am_Mv_T ?_
  obtain ⟨hq80, ehq80, hm⟩ := am_bs hm
  refine r_aast ehq80 dX0_init_33 ?_
  refine r_iinc 0 [(1, .int 11), (0, .ref p)] dX0_init_34 rfl (by decide) (by decide) rfl ?_
  refine r_goto 15 dX0_init_37 (by decide) ?_
  refine r_iload_n 0 dX0_init_15 rfl ?_
  refine r_bipush 14 dX0_init_16 (by decide) ?_
  refine r_icmp_ge 40 dX0_init_18 (by decide) (fun q => absurd q (by decide)) (fun _ => ?_)
  refine r_aload_n 1 dX0_init_21 rfl ?_
  obtain ⟨xq81, exq81, hm⟩ := am_bs hm
  refine r_getr exq81 fl_X0_11 rfl dX0_init_22 ?_
  refine r_iload_n 0 dX0_init_25 rfl ?_
  obtain ⟨uq82, euq82, hm⟩ := am_bs hm
  obtain ⟨hq83, ehq83, hm⟩ := am_bs hm
  refine r_new2 5 57 778 euq82 rfl (Option.some.inj ehq83) (by decide) kc_X0_9 ki_5 kn_5 ⟨rfl, rfl⟩ (by decide) am_Mv_T dX0_init_26 ?_
  refine r_dup dX0_init_29 rfl ?_
  obtain ⟨hq85, exq84, hm⟩ := am_bs hm
  obtain ⟨uq86, euq86, hm⟩ := am_bs hm
  refine r_cI2 61 842 (ct_X5_init l exq84) euq86 rfl im_X0_17 (by decide) ⟨rfl, rfl⟩ rfl (Nat.le_of_ble_eq_true rfl) dX0_init_30 am_Mv_T ?_
  obtain ⟨hq87, ehq87, hm⟩ := am_bs hm
  refine r_aast ehq87 dX0_init_33 ?_
  refine r_iinc 0 [(1, .int 12), (0, .ref p)] dX0_init_34 rfl (by decide) (by decide) rfl ?_
  refine r_goto 15 dX0_init_37 (by decide) ?_
  refine r_iload_n 0 dX0_init_15 rfl ?_
  refine r_bipush 14 dX0_init_16 (by decide) ?_
  refine r_icmp_ge 40 dX0_init_18 (by decide) (fun q => absurd q (by decide)) (fun _ => ?_)
  refine r_aload_n 1 dX0_init_21 rfl ?_
  obtain ⟨xq88, exq88, hm⟩ := am_bs hm
  refine r_getr exq88 fl_X0_11 rfl dX0_init_22 ?_
  refine r_iload_n 0 dX0_init_25 rfl ?_
  obtain ⟨uq89, euq89, hm⟩ := am_bs hm
  obtain ⟨hq90, ehq90, hm⟩ := am_bs hm
  refine r_new2 5 62 847 euq89 rfl (Option.some.inj ehq90) (by decide) kc_X0_9 ki_5 kn_5 ⟨rfl, rfl⟩ (by decide) am_Mv_T dX0_init_26 ?_
  refine r_dup dX0_init_29 rfl ?_
  obtain ⟨hq92, exq91, hm⟩ := am_bs hm
  obtain ⟨uq93, euq93, hm⟩ := am_bs hm
  refine r_cI2 66 911 (ct_X5_init l exq91) euq93 rfl im_X0_17 (by decide) ⟨rfl, rfl⟩ rfl (Nat.le_of_ble_eq_true rfl) dX0_init_30 am_Mv_T ?_
  obtain ⟨hq94, ehq94, hm⟩ := am_bs hm
  refine r_aast ehq94 dX0_init_33 ?_
  refine r_iinc 0 [(1, .int 13), (0, .ref p)] dX0_init_34 rfl (by decide) (by decide) rfl ?_
  refine r_goto 15 dX0_init_37 (by decide) ?_
  refine r_iload_n 0 dX0_init_15 rfl ?_
  refine r_bipush 14 dX0_init_16 (by decide) ?_
  refine r_icmp_ge 40 dX0_init_18 (by decide) (fun q => absurd q (by decide)) (fun _ => ?_)
  refine r_aload_n 1 dX0_init_21 rfl ?_
  obtain ⟨xq95, exq95, hm⟩ := am_bs hm
  refine r_getr exq95 fl_X0_11 rfl dX0_init_22 ?_
  refine r_iload_n 0 dX0_init_25 rfl ?_
  obtain ⟨uq96, euq96, hm⟩ := am_bs hm
  obtain ⟨hq97, ehq97, hm⟩ := am_bs hm
  refine r_new2 5 67 916 euq96 rfl (Option.some.inj ehq97) (by decide) kc_X0_9 ki_5 kn_5 ⟨rfl, rfl⟩ (by decide) am_Mv_T dX0_init_26 ?_
  refine r_dup dX0_init_29 rfl ?_
  obtain ⟨hq99, exq98, hm⟩ := am_bs hm
  obtain ⟨uq100, euq100, hm⟩ := am_bs hm
  refine r_cI2 71 980 (ct_X5_init l exq98) euq100 rfl im_X0_17 (by decide) ⟨rfl, rfl⟩ rfl (Nat.le_of_ble_eq_true rfl) dX0_init_30 am_Mv_T ?_
  obtain ⟨hq101, ehq101, hm⟩ := am_bs hm
  refine r_aast ehq101 dX0_init_33 ?_
  refine r_iinc 0 [(1, .int 14), (0, .ref p)] dX0_init_34 rfl (by decide) (by decide) rfl ?_
  refine r_goto 15 dX0_init_37 (by decide) ?_
  refine r_iload_n 0 dX0_init_15 rfl ?_
  refine r_bipush 14 dX0_init_16 (by decide) ?_
  refine r_icmp_ge 40 dX0_init_18 (by decide) (fun _ => ?_) (fun q => absurd q (by decide))
  cases hm
  exact r_return dX0_init_40 rfl (by decide) HK
def rm_X2_init : Room := { frames := 1, cells := 4, slots := 32, locals := 20 }
def mi_X2_init (f : Nat) (h : am_H) (p : Nat) : Option am_H :=
  Option.bind (am_cls h 2 p) fun _n =>
  Option.bind (am_rk [p, p] h.1.length (h.1.length + 1)) fun uq1 =>
  Option.bind (some (am_nw h (9, 8))) fun hq2 =>
  Option.bind (am_pr hq2 2 p 0 h.1.length) fun hq3 =>
  Option.bind (am_rk [p, p] hq3.1.length (hq3.1.length + 1)) fun uq4 =>
  Option.bind (some (am_nw hq3 (9, 8))) fun hq5 =>
  Option.bind (am_pr hq5 2 p 1 hq3.1.length) fun hq6 =>
  Option.bind (am_rk [p, p] hq6.1.length (hq6.1.length + 1)) fun uq7 =>
  Option.bind (some (am_nw hq6 (9, 8))) fun hq8 =>
  Option.bind (am_pr hq8 2 p 2 hq6.1.length) fun hq9 =>
  Option.bind (am_rk [p, p] hq9.1.length (hq9.1.length + 1)) fun uq10 =>
  Option.bind (some (am_nw hq9 (10, 8))) fun hq11 =>
  Option.bind (am_pr hq11 2 p 3 hq9.1.length) fun hq12 =>
  some hq12
theorem cs_X2_init {f : Nat} {h : am_H} {p : Nat} {z : am_H} (hm : mi_X2_init f h p = some z) : ∃ n, h.1[p]? = some (2, n) := by
  unfold mi_X2_init at hm
  obtain ⟨n, hn, -⟩ := am_bs hm
  exact ⟨n, am_cls_of hn⟩
set_option maxHeartbeats 4000000 in
set_option maxRecDepth 100000 in
theorem ct_X2_init (l : Launch) {f : Nat} {h : am_H} {p : Nat} {h2 : am_H} (hm : mi_X2_init f h p = some h2) : am_Ct l yX2_init cX2_init 1 (none) rm_X2_init [.ref p] h none h2 := by
  refine am_met2 [(0, .ref p)] (by decide) (Nat.le_of_ble_eq_true rfl) rfl ?_
  generalize hK : (fun (v : Option Value) (h3 : am_H) => v = none ∧ h3 = h2) = K
  have HK : K none h2 := by rw [← hK]; exact ⟨rfl, rfl⟩
  clear hK
  unfold mi_X2_init at hm
  obtain ⟨_n, _hn, hm⟩ := am_bs hm
  refine r_aload_n 0 dX2_init_0 rfl ?_
  refine r_obj ko_X2 ko_i ko_c (by decide) dX2_init_1 ?_
  refine r_aload_n 0 dX2_init_4 rfl ?_
  refine r_bipush 8 dX2_init_5 (by decide) ?_
  obtain ⟨uq1, euq1, hm⟩ := am_bs hm
  obtain ⟨hq2, ehq2, hm⟩ := am_bs hm
  refine r_newa2 9 8 1 8 euq1 rfl (Option.some.inj ehq2) (by decide) ka_int (by decide) (by decide) (by decide) ⟨rfl, rfl⟩ (by decide) am_Mv_T dX2_init_7 ?_
  obtain ⟨hq3, ehq3, hm⟩ := am_bs hm
  refine r_putr ehq3 fl_X2_9 rfl ⟨rfl, rfl, rfl, fk_X2_9⟩ dX2_init_9 ?_
  refine r_aload_n 0 dX2_init_12 rfl ?_
  refine r_bipush 8 dX2_init_13 (by decide) ?_
  obtain ⟨uq4, euq4, hm⟩ := am_bs hm
  obtain ⟨hq5, ehq5, hm⟩ := am_bs hm
  refine r_newa2 9 8 2 16 euq4 rfl (Option.some.inj ehq5) (by decide) ka_int (by decide) (by decide) (by decide) ⟨rfl, rfl⟩ (by decide) am_Mv_T dX2_init_15 ?_
  obtain ⟨hq6, ehq6, hm⟩ := am_bs hm
  refine r_putr ehq6 fl_X2_15 rfl ⟨rfl, rfl, rfl, fk_X2_15⟩ dX2_init_17 ?_
  refine r_aload_n 0 dX2_init_20 rfl ?_
  refine r_bipush 8 dX2_init_21 (by decide) ?_
  obtain ⟨uq7, euq7, hm⟩ := am_bs hm
  obtain ⟨hq8, ehq8, hm⟩ := am_bs hm
  refine r_newa2 9 8 3 24 euq7 rfl (Option.some.inj ehq8) (by decide) ka_int (by decide) (by decide) (by decide) ⟨rfl, rfl⟩ (by decide) am_Mv_T dX2_init_23 ?_
  obtain ⟨hq9, ehq9, hm⟩ := am_bs hm
  refine r_putr ehq9 fl_X2_18 rfl ⟨rfl, rfl, rfl, fk_X2_18⟩ dX2_init_25 ?_
  refine r_aload_n 0 dX2_init_28 rfl ?_
  refine r_bipush 8 dX2_init_29 (by decide) ?_
  obtain ⟨uq10, euq10, hm⟩ := am_bs hm
  obtain ⟨hq11, ehq11, hm⟩ := am_bs hm
  refine r_newa2 10 8 4 32 euq10 rfl (Option.some.inj ehq11) (by decide) ka_boolean (by decide) (by decide) (by decide) ⟨rfl, rfl⟩ (by decide) am_Mv_T dX2_init_31 ?_
  obtain ⟨hq12, ehq12, hm⟩ := am_bs hm
  refine r_putr ehq12 fl_X2_21 rfl ⟨rfl, rfl, rfl, fk_X2_21⟩ dX2_init_33 ?_
  cases hm
  exact r_return dX2_init_36 rfl (by decide) HK
def rm_X1_init : Room := { frames := 1, cells := 4, slots := 64, locals := 20 }
def mi_X1_init (f : Nat) (h : am_H) (p : Nat) : Option am_H :=
  Option.bind (am_cls h 1 p) fun _n =>
  Option.bind (am_rk [p, p] h.1.length (h.1.length + 1)) fun uq1 =>
  Option.bind (some (am_nw h (9, 16))) fun hq2 =>
  Option.bind (am_pr hq2 1 p 0 h.1.length) fun hq3 =>
  Option.bind (am_rk [p, p] hq3.1.length (hq3.1.length + 1)) fun uq4 =>
  Option.bind (some (am_nw hq3 (9, 16))) fun hq5 =>
  Option.bind (am_pr hq5 1 p 1 hq3.1.length) fun hq6 =>
  Option.bind (am_rk [p, p] hq6.1.length (hq6.1.length + 1)) fun uq7 =>
  Option.bind (some (am_nw hq6 (9, 16))) fun hq8 =>
  Option.bind (am_pr hq8 1 p 2 hq6.1.length) fun hq9 =>
  Option.bind (am_rk [p, p] hq9.1.length (hq9.1.length + 1)) fun uq10 =>
  Option.bind (some (am_nw hq9 (9, 16))) fun hq11 =>
  Option.bind (am_pr hq11 1 p 3 hq9.1.length) fun hq12 =>
  some hq12
theorem cs_X1_init {f : Nat} {h : am_H} {p : Nat} {z : am_H} (hm : mi_X1_init f h p = some z) : ∃ n, h.1[p]? = some (1, n) := by
  unfold mi_X1_init at hm
  obtain ⟨n, hn, -⟩ := am_bs hm
  exact ⟨n, am_cls_of hn⟩
set_option maxHeartbeats 4000000 in
set_option maxRecDepth 100000 in
theorem ct_X1_init (l : Launch) {f : Nat} {h : am_H} {p : Nat} {h2 : am_H} (hm : mi_X1_init f h p = some h2) : am_Ct l yX1_init cX1_init 1 (none) rm_X1_init [.ref p] h none h2 := by
  refine am_met2 [(0, .ref p)] (by decide) (Nat.le_of_ble_eq_true rfl) rfl ?_
  generalize hK : (fun (v : Option Value) (h3 : am_H) => v = none ∧ h3 = h2) = K
  have HK : K none h2 := by rw [← hK]; exact ⟨rfl, rfl⟩
  clear hK
  unfold mi_X1_init at hm
  obtain ⟨_n, _hn, hm⟩ := am_bs hm
  refine r_aload_n 0 dX1_init_0 rfl ?_
  refine r_obj ko_X1 ko_i ko_c (by decide) dX1_init_1 ?_
  refine r_aload_n 0 dX1_init_4 rfl ?_
  refine r_bipush 16 dX1_init_5 (by decide) ?_
  obtain ⟨uq1, euq1, hm⟩ := am_bs hm
  obtain ⟨hq2, ehq2, hm⟩ := am_bs hm
  refine r_newa2 9 16 1 16 euq1 rfl (Option.some.inj ehq2) (by decide) ka_int (by decide) (by decide) (by decide) ⟨rfl, rfl⟩ (by decide) am_Mv_T dX1_init_7 ?_
  obtain ⟨hq3, ehq3, hm⟩ := am_bs hm
  refine r_putr ehq3 fl_X1_9 rfl ⟨rfl, rfl, rfl, fk_X1_9⟩ dX1_init_9 ?_
  refine r_aload_n 0 dX1_init_12 rfl ?_
  refine r_bipush 16 dX1_init_13 (by decide) ?_
  obtain ⟨uq4, euq4, hm⟩ := am_bs hm
  obtain ⟨hq5, ehq5, hm⟩ := am_bs hm
  refine r_newa2 9 16 2 32 euq4 rfl (Option.some.inj ehq5) (by decide) ka_int (by decide) (by decide) (by decide) ⟨rfl, rfl⟩ (by decide) am_Mv_T dX1_init_15 ?_
  obtain ⟨hq6, ehq6, hm⟩ := am_bs hm
  refine r_putr ehq6 fl_X1_15 rfl ⟨rfl, rfl, rfl, fk_X1_15⟩ dX1_init_17 ?_
  refine r_aload_n 0 dX1_init_20 rfl ?_
  refine r_bipush 16 dX1_init_21 (by decide) ?_
  obtain ⟨uq7, euq7, hm⟩ := am_bs hm
  obtain ⟨hq8, ehq8, hm⟩ := am_bs hm
  refine r_newa2 9 16 3 48 euq7 rfl (Option.some.inj ehq8) (by decide) ka_int (by decide) (by decide) (by decide) ⟨rfl, rfl⟩ (by decide) am_Mv_T dX1_init_23 ?_
  obtain ⟨hq9, ehq9, hm⟩ := am_bs hm
  refine r_putr ehq9 fl_X1_18 rfl ⟨rfl, rfl, rfl, fk_X1_18⟩ dX1_init_25 ?_
  refine r_aload_n 0 dX1_init_28 rfl ?_
  refine r_bipush 16 dX1_init_29 (by decide) ?_
  obtain ⟨uq10, euq10, hm⟩ := am_bs hm
  obtain ⟨hq11, ehq11, hm⟩ := am_bs hm
  refine r_newa2 9 16 4 64 euq10 rfl (Option.some.inj ehq11) (by decide) ka_int (by decide) (by decide) (by decide) ⟨rfl, rfl⟩ (by decide) am_Mv_T dX1_init_31 ?_
  obtain ⟨hq12, ehq12, hm⟩ := am_bs hm
  refine r_putr ehq12 fl_X1_21 rfl ⟨rfl, rfl, rfl, fk_X1_21⟩ dX1_init_33 ?_
  cases hm
  exact r_return dX1_init_36 rfl (by decide) HK
def rm_X4_init : Room := { frames := 1, cells := 6, slots := 36, locals := 20 }
def mi_X4_init (f : Nat) (h : am_H) (p : Nat) : Option am_H :=
  Option.bind (am_cls h 4 p) fun _n =>
  Option.bind (am_rk [p, p] h.1.length (h.1.length + 1)) fun uq1 =>
  Option.bind (some (am_nw h (9, 6))) fun hq2 =>
  Option.bind (am_pr hq2 4 p 0 h.1.length) fun hq3 =>
  Option.bind (am_rk [p, p] hq3.1.length (hq3.1.length + 1)) fun uq4 =>
  Option.bind (some (am_nw hq3 (9, 6))) fun hq5 =>
  Option.bind (am_pr hq5 4 p 1 hq3.1.length) fun hq6 =>
  Option.bind (am_rk [p, p] hq6.1.length (hq6.1.length + 1)) fun uq7 =>
  Option.bind (some (am_nw hq6 (9, 6))) fun hq8 =>
  Option.bind (am_pr hq8 4 p 2 hq6.1.length) fun hq9 =>
  Option.bind (am_rk [p, p] hq9.1.length (hq9.1.length + 1)) fun uq10 =>
  Option.bind (some (am_nw hq9 (10, 6))) fun hq11 =>
  Option.bind (am_pr hq11 4 p 3 hq9.1.length) fun hq12 =>
  Option.bind (am_rk [p, p] hq12.1.length (hq12.1.length + 1)) fun uq13 =>
  Option.bind (some (am_nw hq12 (9, 6))) fun hq14 =>
  Option.bind (am_pr hq14 4 p 4 hq12.1.length) fun hq15 =>
  Option.bind (am_rk [p, p] hq15.1.length (hq15.1.length + 1)) fun uq16 =>
  Option.bind (some (am_nw hq15 (9, 6))) fun hq17 =>
  Option.bind (am_pr hq17 4 p 5 hq15.1.length) fun hq18 =>
  some hq18
theorem cs_X4_init {f : Nat} {h : am_H} {p : Nat} {z : am_H} (hm : mi_X4_init f h p = some z) : ∃ n, h.1[p]? = some (4, n) := by
  unfold mi_X4_init at hm
  obtain ⟨n, hn, -⟩ := am_bs hm
  exact ⟨n, am_cls_of hn⟩
set_option maxHeartbeats 4000000 in
set_option maxRecDepth 100000 in
theorem ct_X4_init (l : Launch) {f : Nat} {h : am_H} {p : Nat} {h2 : am_H} (hm : mi_X4_init f h p = some h2) : am_Ct l yX4_init cX4_init 1 (none) rm_X4_init [.ref p] h none h2 := by
  refine am_met2 [(0, .ref p)] (by decide) (Nat.le_of_ble_eq_true rfl) rfl ?_
  generalize hK : (fun (v : Option Value) (h3 : am_H) => v = none ∧ h3 = h2) = K
  have HK : K none h2 := by rw [← hK]; exact ⟨rfl, rfl⟩
  clear hK
  unfold mi_X4_init at hm
  obtain ⟨_n, _hn, hm⟩ := am_bs hm
  refine r_aload_n 0 dX4_init_0 rfl ?_
  refine r_obj ko_X4 ko_i ko_c (by decide) dX4_init_1 ?_
  refine r_aload_n 0 dX4_init_4 rfl ?_
  refine r_bipush 6 dX4_init_5 (by decide) ?_
  obtain ⟨uq1, euq1, hm⟩ := am_bs hm
  obtain ⟨hq2, ehq2, hm⟩ := am_bs hm
  refine r_newa2 9 6 1 6 euq1 rfl (Option.some.inj ehq2) (by decide) ka_int (by decide) (by decide) (by decide) ⟨rfl, rfl⟩ (by decide) am_Mv_T dX4_init_7 ?_
  obtain ⟨hq3, ehq3, hm⟩ := am_bs hm
  refine r_putr ehq3 fl_X4_9 rfl ⟨rfl, rfl, rfl, fk_X4_9⟩ dX4_init_9 ?_
  refine r_aload_n 0 dX4_init_12 rfl ?_
  refine r_bipush 6 dX4_init_13 (by decide) ?_
  obtain ⟨uq4, euq4, hm⟩ := am_bs hm
  obtain ⟨hq5, ehq5, hm⟩ := am_bs hm
  refine r_newa2 9 6 2 12 euq4 rfl (Option.some.inj ehq5) (by decide) ka_int (by decide) (by decide) (by decide) ⟨rfl, rfl⟩ (by decide) am_Mv_T dX4_init_15 ?_
  obtain ⟨hq6, ehq6, hm⟩ := am_bs hm
  refine r_putr ehq6 fl_X4_15 rfl ⟨rfl, rfl, rfl, fk_X4_15⟩ dX4_init_17 ?_
  refine r_aload_n 0 dX4_init_20 rfl ?_
  refine r_bipush 6 dX4_init_21 (by decide) ?_
  obtain ⟨uq7, euq7, hm⟩ := am_bs hm
  obtain ⟨hq8, ehq8, hm⟩ := am_bs hm
  refine r_newa2 9 6 3 18 euq7 rfl (Option.some.inj ehq8) (by decide) ka_int (by decide) (by decide) (by decide) ⟨rfl, rfl⟩ (by decide) am_Mv_T dX4_init_23 ?_
  obtain ⟨hq9, ehq9, hm⟩ := am_bs hm
  refine r_putr ehq9 fl_X4_18 rfl ⟨rfl, rfl, rfl, fk_X4_18⟩ dX4_init_25 ?_
  refine r_aload_n 0 dX4_init_28 rfl ?_
  refine r_bipush 6 dX4_init_29 (by decide) ?_
  obtain ⟨uq10, euq10, hm⟩ := am_bs hm
  obtain ⟨hq11, ehq11, hm⟩ := am_bs hm
  refine r_newa2 10 6 4 24 euq10 rfl (Option.some.inj ehq11) (by decide) ka_boolean (by decide) (by decide) (by decide) ⟨rfl, rfl⟩ (by decide) am_Mv_T dX4_init_31 ?_
  obtain ⟨hq12, ehq12, hm⟩ := am_bs hm
  refine r_putr ehq12 fl_X4_21 rfl ⟨rfl, rfl, rfl, fk_X4_21⟩ dX4_init_33 ?_
  refine r_aload_n 0 dX4_init_36 rfl ?_
  refine r_bipush 6 dX4_init_37 (by decide) ?_
  obtain ⟨uq13, euq13, hm⟩ := am_bs hm
  obtain ⟨hq14, ehq14, hm⟩ := am_bs hm
  refine r_newa2 9 6 5 30 euq13 rfl (Option.some.inj ehq14) (by decide) ka_int (by decide) (by decide) (by decide) ⟨rfl, rfl⟩ (by decide) am_Mv_T dX4_init_39 ?_
  obtain ⟨hq15, ehq15, hm⟩ := am_bs hm
  refine r_putr ehq15 fl_X4_25 rfl ⟨rfl, rfl, rfl, fk_X4_25⟩ dX4_init_41 ?_
  refine r_aload_n 0 dX4_init_44 rfl ?_
  refine r_bipush 6 dX4_init_45 (by decide) ?_
  obtain ⟨uq16, euq16, hm⟩ := am_bs hm
  obtain ⟨hq17, ehq17, hm⟩ := am_bs hm
  refine r_newa2 9 6 6 36 euq16 rfl (Option.some.inj ehq17) (by decide) ka_int (by decide) (by decide) (by decide) ⟨rfl, rfl⟩ (by decide) am_Mv_T dX4_init_47 ?_
  obtain ⟨hq18, ehq18, hm⟩ := am_bs hm
  refine r_putr ehq18 fl_X4_28 rfl ⟨rfl, rfl, rfl, fk_X4_28⟩ dX4_init_49 ?_
  cases hm
  exact r_return dX4_init_52 rfl (by decide) HK
def rm_X6_init : Room := { frames := 3, cells := 117, slots := 1538, locals := 61 }
def mi_X6_init (f : Nat) (h : am_H) (p : Nat) : Option am_H :=
  Option.bind (am_cls h 6 p) fun _n =>
  Option.bind (am_rk [p, p] h.1.length (h.1.length + 1)) fun uq1 =>
  Option.bind (some (am_nw h (3, 8))) fun hq2 =>
  Option.bind (mi_X3_init f hq2 h.1.length) fun hq4 =>
  Option.bind (am_rk [p, h.1.length, p] hq2.1.length hq4.1.length) fun uq5 =>
  Option.bind (am_pr hq4 6 p 0 h.1.length) fun hq6 =>
  Option.bind (am_rk [p, p] hq6.1.length (hq6.1.length + 1)) fun uq7 =>
  Option.bind (some (am_nw hq6 (5, 5))) fun hq8 =>
  Option.bind (mi_X5_init f hq8 hq6.1.length) fun hq10 =>
  Option.bind (am_rk [p, hq6.1.length, p] hq8.1.length hq10.1.length) fun uq11 =>
  Option.bind (am_pr hq10 6 p 1 hq6.1.length) fun hq12 =>
  Option.bind (am_rk [p, p] hq12.1.length (hq12.1.length + 1)) fun uq13 =>
  Option.bind (some (am_nw hq12 (5, 5))) fun hq14 =>
  Option.bind (mi_X5_init f hq14 hq12.1.length) fun hq16 =>
  Option.bind (am_rk [p, hq12.1.length, p] hq14.1.length hq16.1.length) fun uq17 =>
  Option.bind (am_pr hq16 6 p 2 hq12.1.length) fun hq18 =>
  Option.bind (am_rk [p, p] hq18.1.length (hq18.1.length + 1)) fun uq19 =>
  Option.bind (some (am_nw hq18 (0, 2))) fun hq20 =>
  Option.bind (mi_X0_init f hq20 hq18.1.length) fun hq22 =>
  Option.bind (am_rk [p, hq18.1.length, p] hq20.1.length hq22.1.length) fun uq23 =>
  Option.bind (am_pr hq22 6 p 3 hq18.1.length) fun hq24 =>
  Option.bind (am_rk [p, p] hq24.1.length (hq24.1.length + 1)) fun uq25 =>
  Option.bind (some (am_nw hq24 (2, 4))) fun hq26 =>
  Option.bind (mi_X2_init f hq26 hq24.1.length) fun hq28 =>
  Option.bind (am_rk [p, hq24.1.length, p] hq26.1.length hq28.1.length) fun uq29 =>
  Option.bind (am_pr hq28 6 p 4 hq24.1.length) fun hq30 =>
  Option.bind (am_rk [p, p] hq30.1.length (hq30.1.length + 1)) fun uq31 =>
  Option.bind (some (am_nw hq30 (1, 5))) fun hq32 =>
  Option.bind (mi_X1_init f hq32 hq30.1.length) fun hq34 =>
  Option.bind (am_rk [p, hq30.1.length, p] hq32.1.length hq34.1.length) fun uq35 =>
  Option.bind (am_pr hq34 6 p 5 hq30.1.length) fun hq36 =>
  Option.bind (am_rk [p, p] hq36.1.length (hq36.1.length + 1)) fun uq37 =>
  Option.bind (some (am_nw hq36 (4, 7))) fun hq38 =>
  Option.bind (mi_X4_init f hq38 hq36.1.length) fun hq40 =>
  Option.bind (am_rk [p, hq36.1.length, p] hq38.1.length hq40.1.length) fun uq41 =>
  Option.bind (am_pr hq40 6 p 6 hq36.1.length) fun hq42 =>
  Option.bind (am_rk [p, p] hq42.1.length (hq42.1.length + 1)) fun uq43 =>
  Option.bind (some (am_nw hq42 (11, 2))) fun hq44 =>
  Option.bind (am_pr hq44 6 p 7 hq42.1.length) fun hq45 =>
  Option.bind (am_rk [p, p] hq45.1.length (hq45.1.length + 1)) fun uq46 =>
  Option.bind (some (am_nw hq45 (10, 2))) fun hq47 =>
  Option.bind (am_pr hq47 6 p 8 hq45.1.length) fun hq48 =>
  Option.bind (am_gr hq48 6 p 7) fun xq49 =>
  Option.bind (am_rk [p, xq49] hq48.1.length (hq48.1.length + 1)) fun uq50 =>
  Option.bind (some (am_nw hq48 (5, 5))) fun hq51 =>
  Option.bind (mi_X5_init f hq51 hq48.1.length) fun hq53 =>
  Option.bind (am_rk [p, hq48.1.length, xq49] hq51.1.length hq53.1.length) fun uq54 =>
  Option.bind (am_sr hq53 xq49 0 hq48.1.length) fun hq55 =>
  Option.bind (am_gr hq55 6 p 7) fun xq56 =>
  Option.bind (am_rk [p, xq56] hq55.1.length (hq55.1.length + 1)) fun uq57 =>
  Option.bind (some (am_nw hq55 (5, 5))) fun hq58 =>
  Option.bind (mi_X5_init f hq58 hq55.1.length) fun hq60 =>
  Option.bind (am_rk [p, hq55.1.length, xq56] hq58.1.length hq60.1.length) fun uq61 =>
  Option.bind (am_sr hq60 xq56 1 hq55.1.length) fun hq62 =>
  some hq62
theorem cs_X6_init {f : Nat} {h : am_H} {p : Nat} {z : am_H} (hm : mi_X6_init f h p = some z) : ∃ n, h.1[p]? = some (6, n) := by
  unfold mi_X6_init at hm
  obtain ⟨n, hn, -⟩ := am_bs hm
  exact ⟨n, am_cls_of hn⟩
set_option maxHeartbeats 4000000 in
set_option maxRecDepth 100000 in
theorem ct_X6_init (l : Launch) {f : Nat} {h : am_H} {p : Nat} {h2 : am_H} (hm : mi_X6_init f h p = some h2) : am_Ct l yX6_init cX6_init 2 (none) rm_X6_init [.ref p] h none h2 := by
  refine am_met2 [(0, .ref p)] (by decide) (Nat.le_of_ble_eq_true rfl) rfl ?_
  generalize hK : (fun (v : Option Value) (h3 : am_H) => v = none ∧ h3 = h2) = K
  have HK : K none h2 := by rw [← hK]; exact ⟨rfl, rfl⟩
  clear hK
  unfold mi_X6_init at hm
  obtain ⟨_n, _hn, hm⟩ := am_bs hm
  refine r_aload_n 0 dX6_init_0 rfl ?_
  refine r_obj ko_X6 ko_i ko_c (by decide) dX6_init_1 ?_
  refine r_aload_n 0 dX6_init_4 rfl ?_
  obtain ⟨uq1, euq1, hm⟩ := am_bs hm
  obtain ⟨hq2, ehq2, hm⟩ := am_bs hm
  refine r_new2 3 1 8 euq1 rfl (Option.some.inj ehq2) (by decide) kc_X6_7 ki_3 kn_3 ⟨rfl, rfl⟩ (by decide) am_Mv_T dX6_init_5 ?_
  refine r_dup dX6_init_8 rfl ?_
  obtain ⟨hq4, exq3, hm⟩ := am_bs hm
  obtain ⟨uq5, euq5, hm⟩ := am_bs hm
  refine r_cI2 6 128 (ct_X3_init l exq3) euq5 rfl im_X6_9 (by decide) ⟨rfl, rfl⟩ rfl (Nat.le_of_ble_eq_true rfl) dX6_init_9 am_Mv_T ?_
  obtain ⟨hq6, ehq6, hm⟩ := am_bs hm
  refine r_putr ehq6 fl_X6_10 rfl ⟨rfl, rfl, rfl, fk_X6_10⟩ dX6_init_12 ?_
  refine r_aload_n 0 dX6_init_15 rfl ?_
  obtain ⟨uq7, euq7, hm⟩ := am_bs hm
  obtain ⟨hq8, ehq8, hm⟩ := am_bs hm
  refine r_new2 5 7 133 euq7 rfl (Option.some.inj ehq8) (by decide) kc_X6_16 ki_5 kn_5 ⟨rfl, rfl⟩ (by decide) am_Mv_T dX6_init_16 ?_
  refine r_dup dX6_init_19 rfl ?_
  obtain ⟨hq10, exq9, hm⟩ := am_bs hm
  obtain ⟨uq11, euq11, hm⟩ := am_bs hm
  refine r_cI2 11 197 (ct_X5_init l exq9) euq11 rfl im_X6_18 (by decide) ⟨rfl, rfl⟩ rfl (Nat.le_of_ble_eq_true rfl) dX6_init_20 am_Mv_T ?_
  obtain ⟨hq12, ehq12, hm⟩ := am_bs hm
  refine r_putr ehq12 fl_X6_19 rfl ⟨rfl, rfl, rfl, fk_X6_19⟩ dX6_init_23 ?_
  refine r_aload_n 0 dX6_init_26 rfl ?_
  obtain ⟨uq13, euq13, hm⟩ := am_bs hm
  obtain ⟨hq14, ehq14, hm⟩ := am_bs hm
  refine r_new2 5 12 202 euq13 rfl (Option.some.inj ehq14) (by decide) kc_X6_16 ki_5 kn_5 ⟨rfl, rfl⟩ (by decide) am_Mv_T dX6_init_27 ?_
  refine r_dup dX6_init_30 rfl ?_
  obtain ⟨hq16, exq15, hm⟩ := am_bs hm
  obtain ⟨uq17, euq17, hm⟩ := am_bs hm
  refine r_cI2 16 266 (ct_X5_init l exq15) euq17 rfl im_X6_18 (by decide) ⟨rfl, rfl⟩ rfl (Nat.le_of_ble_eq_true rfl) dX6_init_31 am_Mv_T ?_
  obtain ⟨hq18, ehq18, hm⟩ := am_bs hm
  refine r_putr ehq18 fl_X6_23 rfl ⟨rfl, rfl, rfl, fk_X6_23⟩ dX6_init_34 ?_
  refine r_aload_n 0 dX6_init_37 rfl ?_
  obtain ⟨uq19, euq19, hm⟩ := am_bs hm
  obtain ⟨hq20, ehq20, hm⟩ := am_bs hm
  refine r_new2 0 17 268 euq19 rfl (Option.some.inj ehq20) (by decide) kc_X6_26 ki_0 kn_0 ⟨rfl, rfl⟩ (by decide) am_Mv_T dX6_init_38 ?_
  refine r_dup dX6_init_41 rfl ?_
  obtain ⟨hq22, exq21, hm⟩ := am_bs hm
  obtain ⟨uq23, euq23, hm⟩ := am_bs hm
  refine r_cI2 88 1248 (ct_X0_init l exq21) euq23 rfl im_X6_28 (by decide) ⟨rfl, rfl⟩ rfl (Nat.le_of_ble_eq_true rfl) dX6_init_42 am_Mv_T ?_
  obtain ⟨hq24, ehq24, hm⟩ := am_bs hm
  refine r_putr ehq24 fl_X6_29 rfl ⟨rfl, rfl, rfl, fk_X6_29⟩ dX6_init_45 ?_
  refine r_aload_n 0 dX6_init_48 rfl ?_
  obtain ⟨uq25, euq25, hm⟩ := am_bs hm
  obtain ⟨hq26, ehq26, hm⟩ := am_bs hm
  refine r_new2 2 89 1252 euq25 rfl (Option.some.inj ehq26) (by decide) kc_X6_33 ki_2 kn_2 ⟨rfl, rfl⟩ (by decide) am_Mv_T dX6_init_49 ?_
  refine r_dup dX6_init_52 rfl ?_
  obtain ⟨hq28, exq27, hm⟩ := am_bs hm
  obtain ⟨uq29, euq29, hm⟩ := am_bs hm
  refine r_cI2 93 1284 (ct_X2_init l exq27) euq29 rfl im_X6_35 (by decide) ⟨rfl, rfl⟩ rfl (Nat.le_of_ble_eq_true rfl) dX6_init_53 am_Mv_T ?_
  obtain ⟨hq30, ehq30, hm⟩ := am_bs hm
  refine r_putr ehq30 fl_X6_36 rfl ⟨rfl, rfl, rfl, fk_X6_36⟩ dX6_init_56 ?_
  refine r_aload_n 0 dX6_init_59 rfl ?_
  obtain ⟨uq31, euq31, hm⟩ := am_bs hm
  obtain ⟨hq32, ehq32, hm⟩ := am_bs hm
  refine r_new2 1 94 1289 euq31 rfl (Option.some.inj ehq32) (by decide) kc_X6_40 ki_1 kn_1 ⟨rfl, rfl⟩ (by decide) am_Mv_T dX6_init_60 ?_
  refine r_dup dX6_init_63 rfl ?_
  obtain ⟨hq34, exq33, hm⟩ := am_bs hm
  obtain ⟨uq35, euq35, hm⟩ := am_bs hm
  refine r_cI2 98 1353 (ct_X1_init l exq33) euq35 rfl im_X6_42 (by decide) ⟨rfl, rfl⟩ rfl (Nat.le_of_ble_eq_true rfl) dX6_init_64 am_Mv_T ?_
  obtain ⟨hq36, ehq36, hm⟩ := am_bs hm
  refine r_putr ehq36 fl_X6_43 rfl ⟨rfl, rfl, rfl, fk_X6_43⟩ dX6_init_67 ?_
  refine r_aload_n 0 dX6_init_70 rfl ?_
  obtain ⟨uq37, euq37, hm⟩ := am_bs hm
  obtain ⟨hq38, ehq38, hm⟩ := am_bs hm
  refine r_new2 4 99 1360 euq37 rfl (Option.some.inj ehq38) (by decide) kc_X6_47 ki_4 kn_4 ⟨rfl, rfl⟩ (by decide) am_Mv_T dX6_init_71 ?_
  refine r_dup dX6_init_74 rfl ?_
  obtain ⟨hq40, exq39, hm⟩ := am_bs hm
  obtain ⟨uq41, euq41, hm⟩ := am_bs hm
  refine r_cI2 105 1396 (ct_X4_init l exq39) euq41 rfl im_X6_49 (by decide) ⟨rfl, rfl⟩ rfl (Nat.le_of_ble_eq_true rfl) dX6_init_75 am_Mv_T ?_
  obtain ⟨hq42, ehq42, hm⟩ := am_bs hm
  refine r_putr ehq42 fl_X6_50 rfl ⟨rfl, rfl, rfl, fk_X6_50⟩ dX6_init_78 ?_
  refine r_aload_n 0 dX6_init_81 rfl ?_
  refine r_iconst 2 dX6_init_82 (by decide) ?_
  obtain ⟨uq43, euq43, hm⟩ := am_bs hm
  obtain ⟨hq44, ehq44, hm⟩ := am_bs hm
  refine r_anew2 2 106 1398 euq43 rfl (Option.some.inj ehq44) kq_X6_16 (by decide) (by decide) (by decide) ⟨rfl, rfl⟩ (by decide) am_Mv_T dX6_init_83 ?_
  obtain ⟨hq45, ehq45, hm⟩ := am_bs hm
  refine r_putr ehq45 fl_X6_54 rfl ⟨rfl, rfl, rfl, fk_X6_54⟩ dX6_init_86 ?_
  refine r_aload_n 0 dX6_init_89 rfl ?_
  refine r_iconst 2 dX6_init_90 (by decide) ?_
  obtain ⟨uq46, euq46, hm⟩ := am_bs hm
  obtain ⟨hq47, ehq47, hm⟩ := am_bs hm
  refine r_newa2 10 2 107 1400 euq46 rfl (Option.some.inj ehq47) (by decide) ka_boolean (by decide) (by decide) (by decide) ⟨rfl, rfl⟩ (by decide) am_Mv_T dX6_init_91 ?_
  obtain ⟨hq48, ehq48, hm⟩ := am_bs hm
  refine r_putr ehq48 fl_X6_58 rfl ⟨rfl, rfl, rfl, fk_X6_58⟩ dX6_init_93 ?_
  refine r_iconst 0 dX6_init_96 (by decide) ?_
  refine r_istore_n [(1, .int 0), (0, .ref p)] dX6_init_97 (by decide) rfl ?_
  refine r_iload_n 0 dX6_init_98 rfl ?_
  refine r_iconst 2 dX6_init_99 (by decide) ?_
  refine r_icmp_ge 122 dX6_init_100 (by decide) (fun q => absurd q (by decide)) (fun _ => ?_)
  refine r_aload_n 1 dX6_init_103 rfl ?_
  obtain ⟨xq49, exq49, hm⟩ := am_bs hm
  refine r_getr exq49 fl_X6_54 rfl dX6_init_104 ?_
  refine r_iload_n 0 dX6_init_107 rfl ?_
  obtain ⟨uq50, euq50, hm⟩ := am_bs hm
  obtain ⟨hq51, ehq51, hm⟩ := am_bs hm
  refine r_new2 5 108 1405 euq50 rfl (Option.some.inj ehq51) (by decide) kc_X6_16 ki_5 kn_5 ⟨rfl, rfl⟩ (by decide) am_Mv_T dX6_init_108 ?_
  refine r_dup dX6_init_111 rfl ?_
  obtain ⟨hq53, exq52, hm⟩ := am_bs hm
  obtain ⟨uq54, euq54, hm⟩ := am_bs hm
  refine r_cI2 112 1469 (ct_X5_init l exq52) euq54 rfl im_X6_18 (by decide) ⟨rfl, rfl⟩ rfl (Nat.le_of_ble_eq_true rfl) dX6_init_112 am_Mv_T ?_
  obtain ⟨hq55, ehq55, hm⟩ := am_bs hm
  refine r_aast ehq55 dX6_init_115 ?_
  refine r_iinc 0 [(1, .int 1), (0, .ref p)] dX6_init_116 rfl (by decide) (by decide) rfl ?_
  refine r_goto 98 dX6_init_119 (by decide) ?_
  refine r_iload_n 0 dX6_init_98 rfl ?_
  refine r_iconst 2 dX6_init_99 (by decide) ?_
  refine r_icmp_ge 122 dX6_init_100 (by decide) (fun q => absurd q (by decide)) (fun _ => ?_)
  refine r_aload_n 1 dX6_init_103 rfl ?_
  obtain ⟨xq56, exq56, hm⟩ := am_bs hm
  refine r_getr exq56 fl_X6_54 rfl dX6_init_104 ?_
  refine r_iload_n 0 dX6_init_107 rfl ?_
  obtain ⟨uq57, euq57, hm⟩ := am_bs hm
  obtain ⟨hq58, ehq58, hm⟩ := am_bs hm
  refine r_new2 5 113 1474 euq57 rfl (Option.some.inj ehq58) (by decide) kc_X6_16 ki_5 kn_5 ⟨rfl, rfl⟩ (by decide) am_Mv_T dX6_init_108 ?_
  refine r_dup dX6_init_111 rfl ?_
  obtain ⟨hq60, exq59, hm⟩ := am_bs hm
  obtain ⟨uq61, euq61, hm⟩ := am_bs hm
  refine r_cI2 117 1538 (ct_X5_init l exq59) euq61 rfl im_X6_18 (by decide) ⟨rfl, rfl⟩ rfl (Nat.le_of_ble_eq_true rfl) dX6_init_112 am_Mv_T ?_
  obtain ⟨hq62, ehq62, hm⟩ := am_bs hm
  refine r_aast ehq62 dX6_init_115 ?_
  refine r_iinc 0 [(1, .int 2), (0, .ref p)] dX6_init_116 rfl (by decide) (by decide) rfl ?_
  refine r_goto 98 dX6_init_119 (by decide) ?_
  refine r_iload_n 0 dX6_init_98 rfl ?_
  refine r_iconst 2 dX6_init_99 (by decide) ?_
  refine r_icmp_ge 122 dX6_init_100 (by decide) (fun _ => ?_) (fun q => absurd q (by decide))
  cases hm
  exact r_return dX6_init_122 rfl (by decide) HK
def rm_X7_init : Room := { frames := 1, cells := 15, slots := 508, locals := 20 }
def mi_X7_init (f : Nat) (h : am_H) (p : Nat) : Option am_H :=
  Option.bind (am_cls h 7 p) fun _n =>
  Option.bind (am_rk [p, p] h.1.length (h.1.length + 1)) fun uq1 =>
  Option.bind (some (am_nw h (9, 34))) fun hq2 =>
  Option.bind (am_pr hq2 7 p 0 h.1.length) fun hq3 =>
  Option.bind (am_rk [p, p] hq3.1.length (hq3.1.length + 1)) fun uq4 =>
  Option.bind (some (am_nw hq3 (9, 64))) fun hq5 =>
  Option.bind (am_pr hq5 7 p 1 hq3.1.length) fun hq6 =>
  Option.bind (am_rk [p, p] hq6.1.length (hq6.1.length + 1)) fun uq7 =>
  Option.bind (some (am_nw hq6 (9, 64))) fun hq8 =>
  Option.bind (am_pr hq8 7 p 3 hq6.1.length) fun hq9 =>
  Option.bind (am_rk [p, p] hq9.1.length (hq9.1.length + 1)) fun uq10 =>
  Option.bind (some (am_nw hq9 (9, 238))) fun hq11 =>
  Option.bind (am_pr hq11 7 p 6 hq9.1.length) fun hq12 =>
  Option.bind (am_rk [p, p] hq12.1.length (hq12.1.length + 1)) fun uq13 =>
  Option.bind (some (am_nw hq12 (9, 8))) fun hq14 =>
  Option.bind (am_pr hq14 7 p 7 hq12.1.length) fun hq15 =>
  Option.bind (am_rk [p, p] hq15.1.length (hq15.1.length + 1)) fun uq16 =>
  Option.bind (some (am_nw hq15 (9, 8))) fun hq17 =>
  Option.bind (am_pr hq17 7 p 8 hq15.1.length) fun hq18 =>
  Option.bind (am_rk [p, p] hq18.1.length (hq18.1.length + 1)) fun uq19 =>
  Option.bind (some (am_nw hq18 (9, 8))) fun hq20 =>
  Option.bind (am_pr hq20 7 p 9 hq18.1.length) fun hq21 =>
  Option.bind (am_rk [p, p] hq21.1.length (hq21.1.length + 1)) fun uq22 =>
  Option.bind (some (am_nw hq21 (9, 8))) fun hq23 =>
  Option.bind (am_pr hq23 7 p 10 hq21.1.length) fun hq24 =>
  Option.bind (am_rk [p, p] hq24.1.length (hq24.1.length + 1)) fun uq25 =>
  Option.bind (some (am_nw hq24 (9, 6))) fun hq26 =>
  Option.bind (am_pr hq26 7 p 12 hq24.1.length) fun hq27 =>
  Option.bind (am_rk [p, p] hq27.1.length (hq27.1.length + 1)) fun uq28 =>
  Option.bind (some (am_nw hq27 (9, 6))) fun hq29 =>
  Option.bind (am_pr hq29 7 p 13 hq27.1.length) fun hq30 =>
  Option.bind (am_rk [p, p] hq30.1.length (hq30.1.length + 1)) fun uq31 =>
  Option.bind (some (am_nw hq30 (9, 6))) fun hq32 =>
  Option.bind (am_pr hq32 7 p 14 hq30.1.length) fun hq33 =>
  Option.bind (am_rk [p, p] hq33.1.length (hq33.1.length + 1)) fun uq34 =>
  Option.bind (some (am_nw hq33 (9, 6))) fun hq35 =>
  Option.bind (am_pr hq35 7 p 15 hq33.1.length) fun hq36 =>
  Option.bind (am_rk [p, p] hq36.1.length (hq36.1.length + 1)) fun uq37 =>
  Option.bind (some (am_nw hq36 (9, 16))) fun hq38 =>
  Option.bind (am_pr hq38 7 p 16 hq36.1.length) fun hq39 =>
  Option.bind (am_rk [p, p] hq39.1.length (hq39.1.length + 1)) fun uq40 =>
  Option.bind (some (am_nw hq39 (10, 2))) fun hq41 =>
  Option.bind (am_pr hq41 7 p 18 hq39.1.length) fun hq42 =>
  Option.bind (am_rk [p, p] hq42.1.length (hq42.1.length + 1)) fun uq43 =>
  Option.bind (some (am_nw hq42 (9, 34))) fun hq44 =>
  Option.bind (am_pr hq44 7 p 19 hq42.1.length) fun hq45 =>
  some hq45
theorem cs_X7_init {f : Nat} {h : am_H} {p : Nat} {z : am_H} (hm : mi_X7_init f h p = some z) : ∃ n, h.1[p]? = some (7, n) := by
  unfold mi_X7_init at hm
  obtain ⟨n, hn, -⟩ := am_bs hm
  exact ⟨n, am_cls_of hn⟩
set_option maxHeartbeats 4000000 in
set_option maxRecDepth 100000 in
theorem ct_X7_init (l : Launch) {f : Nat} {h : am_H} {p : Nat} {h2 : am_H} (hm : mi_X7_init f h p = some h2) : am_Ct l yX7_init cX7_init 1 (none) rm_X7_init [.ref p] h none h2 := by
  refine am_met2 [(0, .ref p)] (by decide) (Nat.le_of_ble_eq_true rfl) rfl ?_
  generalize hK : (fun (v : Option Value) (h3 : am_H) => v = none ∧ h3 = h2) = K
  have HK : K none h2 := by rw [← hK]; exact ⟨rfl, rfl⟩
  clear hK
  unfold mi_X7_init at hm
  obtain ⟨_n, _hn, hm⟩ := am_bs hm
  refine r_aload_n 0 dX7_init_0 rfl ?_
  refine r_obj ko_X7 ko_i ko_c (by decide) dX7_init_1 ?_
  refine r_aload_n 0 dX7_init_4 rfl ?_
  refine r_bipush 34 dX7_init_5 (by decide) ?_
  obtain ⟨uq1, euq1, hm⟩ := am_bs hm
  obtain ⟨hq2, ehq2, hm⟩ := am_bs hm
  refine r_newa2 9 34 1 34 euq1 rfl (Option.some.inj ehq2) (by decide) ka_int (by decide) (by decide) (by decide) ⟨rfl, rfl⟩ (by decide) am_Mv_T dX7_init_7 ?_
  obtain ⟨hq3, ehq3, hm⟩ := am_bs hm
  refine r_putr ehq3 fl_X7_7 rfl ⟨rfl, rfl, rfl, fk_X7_7⟩ dX7_init_9 ?_
  refine r_aload_n 0 dX7_init_12 rfl ?_
  refine r_bipush 64 dX7_init_13 (by decide) ?_
  obtain ⟨uq4, euq4, hm⟩ := am_bs hm
  obtain ⟨hq5, ehq5, hm⟩ := am_bs hm
  refine r_newa2 9 64 2 98 euq4 rfl (Option.some.inj ehq5) (by decide) ka_int (by decide) (by decide) (by decide) ⟨rfl, rfl⟩ (by decide) am_Mv_T dX7_init_15 ?_
  obtain ⟨hq6, ehq6, hm⟩ := am_bs hm
  refine r_putr ehq6 fl_X7_13 rfl ⟨rfl, rfl, rfl, fk_X7_13⟩ dX7_init_17 ?_
  refine r_aload_n 0 dX7_init_20 rfl ?_
  refine r_bipush 64 dX7_init_21 (by decide) ?_
  obtain ⟨uq7, euq7, hm⟩ := am_bs hm
  obtain ⟨hq8, ehq8, hm⟩ := am_bs hm
  refine r_newa2 9 64 3 162 euq7 rfl (Option.some.inj ehq8) (by decide) ka_int (by decide) (by decide) (by decide) ⟨rfl, rfl⟩ (by decide) am_Mv_T dX7_init_23 ?_
  obtain ⟨hq9, ehq9, hm⟩ := am_bs hm
  refine r_putr ehq9 fl_X7_16 rfl ⟨rfl, rfl, rfl, fk_X7_16⟩ dX7_init_25 ?_
  refine r_aload_n 0 dX7_init_28 rfl ?_
  refine r_sipush 238 dX7_init_29 (by decide) ?_
  obtain ⟨uq10, euq10, hm⟩ := am_bs hm
  obtain ⟨hq11, ehq11, hm⟩ := am_bs hm
  refine r_newa2 9 238 4 400 euq10 rfl (Option.some.inj ehq11) (by decide) ka_int (by decide) (by decide) (by decide) ⟨rfl, rfl⟩ (by decide) am_Mv_T dX7_init_32 ?_
  obtain ⟨hq12, ehq12, hm⟩ := am_bs hm
  refine r_putr ehq12 fl_X7_19 rfl ⟨rfl, rfl, rfl, fk_X7_19⟩ dX7_init_34 ?_
  refine r_aload_n 0 dX7_init_37 rfl ?_
  refine r_bipush 8 dX7_init_38 (by decide) ?_
  obtain ⟨uq13, euq13, hm⟩ := am_bs hm
  obtain ⟨hq14, ehq14, hm⟩ := am_bs hm
  refine r_newa2 9 8 5 408 euq13 rfl (Option.some.inj ehq14) (by decide) ka_int (by decide) (by decide) (by decide) ⟨rfl, rfl⟩ (by decide) am_Mv_T dX7_init_40 ?_
  obtain ⟨hq15, ehq15, hm⟩ := am_bs hm
  refine r_putr ehq15 fl_X7_22 rfl ⟨rfl, rfl, rfl, fk_X7_22⟩ dX7_init_42 ?_
  refine r_aload_n 0 dX7_init_45 rfl ?_
  refine r_bipush 8 dX7_init_46 (by decide) ?_
  obtain ⟨uq16, euq16, hm⟩ := am_bs hm
  obtain ⟨hq17, ehq17, hm⟩ := am_bs hm
  refine r_newa2 9 8 6 416 euq16 rfl (Option.some.inj ehq17) (by decide) ka_int (by decide) (by decide) (by decide) ⟨rfl, rfl⟩ (by decide) am_Mv_T dX7_init_48 ?_
  obtain ⟨hq18, ehq18, hm⟩ := am_bs hm
  refine r_putr ehq18 fl_X7_25 rfl ⟨rfl, rfl, rfl, fk_X7_25⟩ dX7_init_50 ?_
  refine r_aload_n 0 dX7_init_53 rfl ?_
  refine r_bipush 8 dX7_init_54 (by decide) ?_
  obtain ⟨uq19, euq19, hm⟩ := am_bs hm
  obtain ⟨hq20, ehq20, hm⟩ := am_bs hm
  refine r_newa2 9 8 7 424 euq19 rfl (Option.some.inj ehq20) (by decide) ka_int (by decide) (by decide) (by decide) ⟨rfl, rfl⟩ (by decide) am_Mv_T dX7_init_56 ?_
  obtain ⟨hq21, ehq21, hm⟩ := am_bs hm
  refine r_putr ehq21 fl_X7_28 rfl ⟨rfl, rfl, rfl, fk_X7_28⟩ dX7_init_58 ?_
  refine r_aload_n 0 dX7_init_61 rfl ?_
  refine r_bipush 8 dX7_init_62 (by decide) ?_
  obtain ⟨uq22, euq22, hm⟩ := am_bs hm
  obtain ⟨hq23, ehq23, hm⟩ := am_bs hm
  refine r_newa2 9 8 8 432 euq22 rfl (Option.some.inj ehq23) (by decide) ka_int (by decide) (by decide) (by decide) ⟨rfl, rfl⟩ (by decide) am_Mv_T dX7_init_64 ?_
  obtain ⟨hq24, ehq24, hm⟩ := am_bs hm
  refine r_putr ehq24 fl_X7_31 rfl ⟨rfl, rfl, rfl, fk_X7_31⟩ dX7_init_66 ?_
  refine r_aload_n 0 dX7_init_69 rfl ?_
  refine r_bipush 6 dX7_init_70 (by decide) ?_
  obtain ⟨uq25, euq25, hm⟩ := am_bs hm
  obtain ⟨hq26, ehq26, hm⟩ := am_bs hm
  refine r_newa2 9 6 9 438 euq25 rfl (Option.some.inj ehq26) (by decide) ka_int (by decide) (by decide) (by decide) ⟨rfl, rfl⟩ (by decide) am_Mv_T dX7_init_72 ?_
  obtain ⟨hq27, ehq27, hm⟩ := am_bs hm
  refine r_putr ehq27 fl_X7_34 rfl ⟨rfl, rfl, rfl, fk_X7_34⟩ dX7_init_74 ?_
  refine r_aload_n 0 dX7_init_77 rfl ?_
  refine r_bipush 6 dX7_init_78 (by decide) ?_
  obtain ⟨uq28, euq28, hm⟩ := am_bs hm
  obtain ⟨hq29, ehq29, hm⟩ := am_bs hm
  refine r_newa2 9 6 10 444 euq28 rfl (Option.some.inj ehq29) (by decide) ka_int (by decide) (by decide) (by decide) ⟨rfl, rfl⟩ (by decide) am_Mv_T dX7_init_80 ?_
  obtain ⟨hq30, ehq30, hm⟩ := am_bs hm
  refine r_putr ehq30 fl_X7_37 rfl ⟨rfl, rfl, rfl, fk_X7_37⟩ dX7_init_82 ?_
  refine r_aload_n 0 dX7_init_85 rfl ?_
  refine r_bipush 6 dX7_init_86 (by decide) ?_
  obtain ⟨uq31, euq31, hm⟩ := am_bs hm
  obtain ⟨hq32, ehq32, hm⟩ := am_bs hm
  refine r_newa2 9 6 11 450 euq31 rfl (Option.some.inj ehq32) (by decide) ka_int (by decide) (by decide) (by decide) ⟨rfl, rfl⟩ (by decide) am_Mv_T dX7_init_88 ?_
  obtain ⟨hq33, ehq33, hm⟩ := am_bs hm
  refine r_putr ehq33 fl_X7_40 rfl ⟨rfl, rfl, rfl, fk_X7_40⟩ dX7_init_90 ?_
  refine r_aload_n 0 dX7_init_93 rfl ?_
  refine r_bipush 6 dX7_init_94 (by decide) ?_
  obtain ⟨uq34, euq34, hm⟩ := am_bs hm
  obtain ⟨hq35, ehq35, hm⟩ := am_bs hm
  refine r_newa2 9 6 12 456 euq34 rfl (Option.some.inj ehq35) (by decide) ka_int (by decide) (by decide) (by decide) ⟨rfl, rfl⟩ (by decide) am_Mv_T dX7_init_96 ?_
  obtain ⟨hq36, ehq36, hm⟩ := am_bs hm
  refine r_putr ehq36 fl_X7_43 rfl ⟨rfl, rfl, rfl, fk_X7_43⟩ dX7_init_98 ?_
  refine r_aload_n 0 dX7_init_101 rfl ?_
  refine r_bipush 16 dX7_init_102 (by decide) ?_
  obtain ⟨uq37, euq37, hm⟩ := am_bs hm
  obtain ⟨hq38, ehq38, hm⟩ := am_bs hm
  refine r_newa2 9 16 13 472 euq37 rfl (Option.some.inj ehq38) (by decide) ka_int (by decide) (by decide) (by decide) ⟨rfl, rfl⟩ (by decide) am_Mv_T dX7_init_104 ?_
  obtain ⟨hq39, ehq39, hm⟩ := am_bs hm
  refine r_putr ehq39 fl_X7_46 rfl ⟨rfl, rfl, rfl, fk_X7_46⟩ dX7_init_106 ?_
  refine r_aload_n 0 dX7_init_109 rfl ?_
  refine r_iconst 2 dX7_init_110 (by decide) ?_
  obtain ⟨uq40, euq40, hm⟩ := am_bs hm
  obtain ⟨hq41, ehq41, hm⟩ := am_bs hm
  refine r_newa2 10 2 14 474 euq40 rfl (Option.some.inj ehq41) (by decide) ka_boolean (by decide) (by decide) (by decide) ⟨rfl, rfl⟩ (by decide) am_Mv_T dX7_init_111 ?_
  obtain ⟨hq42, ehq42, hm⟩ := am_bs hm
  refine r_putr ehq42 fl_X7_49 rfl ⟨rfl, rfl, rfl, fk_X7_49⟩ dX7_init_113 ?_
  refine r_aload_n 0 dX7_init_116 rfl ?_
  refine r_bipush 34 dX7_init_117 (by decide) ?_
  obtain ⟨uq43, euq43, hm⟩ := am_bs hm
  obtain ⟨hq44, ehq44, hm⟩ := am_bs hm
  refine r_newa2 9 34 15 508 euq43 rfl (Option.some.inj ehq44) (by decide) ka_int (by decide) (by decide) (by decide) ⟨rfl, rfl⟩ (by decide) am_Mv_T dX7_init_119 ?_
  obtain ⟨hq45, ehq45, hm⟩ := am_bs hm
  refine r_putr ehq45 fl_X7_53 rfl ⟨rfl, rfl, rfl, fk_X7_53⟩ dX7_init_121 ?_
  cases hm
  exact r_return dX7_init_124 rfl (by decide) HK
