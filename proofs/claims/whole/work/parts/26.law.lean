def lo_L_law_18 (f : Nat) (L : Nat) (xs : Nat → Int32) (a1 : Nat) (a2 : Nat) : Nat → Int32 → am_H → Option ((am_H) ⊕ (Bool × am_H))
  | 0, _, _ => none
  | n + 1, a3, h =>
  (if ((Int32.ofNat L) - 6) < a3 then
  (some (.inl h))
  else (Option.bind (am_ls L xs a3) fun xq1 =>
  (if (xq1 &&& 31) = 0 then
  (Option.bind (am_ls L xs (a3 + 1)) fun xq2 =>
  Option.bind (mi_X6_write f h a1 xq2) fun (xq3, hq4) =>
  Option.bind (am_ls L xs (a3 + 1)) fun xq6 =>
  Option.bind (mi_X7_write f hq4 a2 xq6) fun (xq7, hq8) =>
  (if xq3 = xq7 then
  (lo_L_law_18 f L xs a1 a2 n (a3 + 6) hq8)
  else (some (.inr (false, hq8)))))
  else (if (xq1 &&& 31) = 1 then
  (Option.bind (mi_X6_wipe f h a1) fun (xq10, hq11) =>
  Option.bind (mi_X7_wipe f hq11 a2) fun (xq13, hq14) =>
  (if xq10 = xq13 then
  (lo_L_law_18 f L xs a1 a2 n (a3 + 6) hq14)
  else (some (.inr (false, hq14)))))
  else (if (xq1 &&& 31) = 2 then
  (Option.bind (mi_X6_fault f h a1) fun (xq16, hq17) =>
  Option.bind (mi_X7_fault f hq17 a2) fun (xq19, hq20) =>
  (if xq16 = xq19 then
  (lo_L_law_18 f L xs a1 a2 n (a3 + 6) hq20)
  else (some (.inr (false, hq20)))))
  else (if (xq1 &&& 31) = 3 then
  (Option.bind (mi_X6_life f h a1) fun (xq22, hq23) =>
  Option.bind (mi_X7_life f hq23 a2) fun (xq25, hq26) =>
  (if xq22 = xq25 then
  (lo_L_law_18 f L xs a1 a2 n (a3 + 6) hq26)
  else (some (.inr (false, hq26)))))
  else (if (xq1 &&& 31) = 4 then
  (Option.bind (am_ls L xs (a3 + 1)) fun xq28 =>
  Option.bind (am_ls L xs (a3 + 2)) fun xq29 =>
  Option.bind (mi_X6_span f h a1 xq28 xq29) fun xq30 =>
  Option.bind (am_ls L xs (a3 + 1)) fun xq31 =>
  Option.bind (am_ls L xs (a3 + 2)) fun xq32 =>
  Option.bind (mi_X7_span f h a2 xq31 xq32) fun xq33 =>
  (if xq30 = xq33 then
  (lo_L_law_18 f L xs a1 a2 n (a3 + 6) h)
  else (some (.inr (false, h)))))
  else (if (xq1 &&& 31) = 5 then
  (Option.bind (am_ls L xs (a3 + 1)) fun xq34 =>
  Option.bind (mi_X6_node f h a1 xq34) fun xq35 =>
  Option.bind (am_ls L xs (a3 + 1)) fun xq36 =>
  Option.bind (mi_X7_node f h a2 xq36) fun xq37 =>
  (if xq35 = xq37 then
  (lo_L_law_18 f L xs a1 a2 n (a3 + 6) h)
  else (some (.inr (false, h)))))
  else (if (xq1 &&& 31) = 6 then
  (Option.bind (am_ls L xs (a3 + 1)) fun xq38 =>
  Option.bind (am_ls L xs (a3 + 2)) fun xq39 =>
  Option.bind (am_ls L xs (a3 + 3)) fun xq40 =>
  Option.bind (am_ls L xs (a3 + 4)) fun xq41 =>
  Option.bind (mi_X6_put f h a1 xq38 xq39 xq40 xq41) fun (xq42, hq43) =>
  Option.bind (am_ls L xs (a3 + 1)) fun xq45 =>
  Option.bind (am_ls L xs (a3 + 2)) fun xq46 =>
  Option.bind (am_ls L xs (a3 + 3)) fun xq47 =>
  Option.bind (am_ls L xs (a3 + 4)) fun xq48 =>
  Option.bind (mi_X7_put f hq43 a2 xq45 xq46 xq47 xq48) fun (xq49, hq50) =>
  (if xq42 = xq49 then
  (lo_L_law_18 f L xs a1 a2 n (a3 + 6) hq50)
  else (some (.inr (false, hq50)))))
  else (if (xq1 &&& 31) = 7 then
  (Option.bind (am_ls L xs (a3 + 1)) fun xq52 =>
  Option.bind (mi_X6_cut f h a1 xq52) fun (xq53, hq54) =>
  Option.bind (am_ls L xs (a3 + 1)) fun xq56 =>
  Option.bind (mi_X7_cut f hq54 a2 xq56) fun (xq57, hq58) =>
  (if xq53 = xq57 then
  (lo_L_law_18 f L xs a1 a2 n (a3 + 6) hq58)
  else (some (.inr (false, hq58)))))
  else (if (xq1 &&& 31) = 8 then
  (Option.bind (am_ls L xs (a3 + 1)) fun xq60 =>
  Option.bind (am_ls L xs (a3 + 2)) fun xq61 =>
  Option.bind (mi_X6_end f h a1 xq60 xq61) fun (xq62, hq63) =>
  Option.bind (am_ls L xs (a3 + 1)) fun xq65 =>
  Option.bind (am_ls L xs (a3 + 2)) fun xq66 =>
  Option.bind (mi_X7_end f hq63 a2 xq65 xq66) fun (xq67, hq68) =>
  (if xq62 = xq67 then
  (lo_L_law_18 f L xs a1 a2 n (a3 + 6) hq68)
  else (some (.inr (false, hq68)))))
  else (if (xq1 &&& 31) = 9 then
  (Option.bind (mi_X6_undo f h a1) fun (xq70, hq71) =>
  Option.bind (mi_X7_undo f hq71 a2) fun (xq73, hq74) =>
  (if xq70 = xq73 then
  (lo_L_law_18 f L xs a1 a2 n (a3 + 6) hq74)
  else (some (.inr (false, hq74)))))
  else (if (xq1 &&& 31) = 10 then
  (Option.bind (am_ls L xs (a3 + 1)) fun xq76 =>
  Option.bind (am_ls L xs (a3 + 2)) fun xq77 =>
  Option.bind (mi_X6_at f h a1 xq76 xq77) fun (xq78, hq79) =>
  Option.bind (am_ls L xs (a3 + 1)) fun xq81 =>
  Option.bind (am_ls L xs (a3 + 2)) fun xq82 =>
  Option.bind (mi_X7_at f hq79 a2 xq81 xq82) fun (xq83, hq84) =>
  (if xq78 = xq83 then
  (lo_L_law_18 f L xs a1 a2 n (a3 + 6) hq84)
  else (some (.inr (false, hq84)))))
  else (if (xq1 &&& 31) = 11 then
  (Option.bind (am_ls L xs (a3 + 1)) fun xq86 =>
  Option.bind (am_ls L xs (a3 + 2)) fun xq87 =>
  Option.bind (am_ls L xs (a3 + 3)) fun xq88 =>
  Option.bind (mi_X6_knot f h a1 xq86 xq87 xq88) fun (xq89, hq90) =>
  Option.bind (am_ls L xs (a3 + 1)) fun xq92 =>
  Option.bind (am_ls L xs (a3 + 2)) fun xq93 =>
  Option.bind (am_ls L xs (a3 + 3)) fun xq94 =>
  Option.bind (mi_X7_knot f hq90 a2 xq92 xq93 xq94) fun (xq95, hq96) =>
  (if xq89 = xq95 then
  (lo_L_law_18 f L xs a1 a2 n (a3 + 6) hq96)
  else (some (.inr (false, hq96)))))
  else (if (xq1 &&& 31) = 12 then
  (Option.bind (am_ls L xs (a3 + 1)) fun xq98 =>
  Option.bind (am_ls L xs (a3 + 2)) fun xq99 =>
  Option.bind (am_ls L xs (a3 + 3)) fun xq100 =>
  Option.bind (mi_X6_joined f h a1 xq98 xq99 xq100) fun (xq101, hq102) =>
  Option.bind (am_ls L xs (a3 + 1)) fun xq104 =>
  Option.bind (am_ls L xs (a3 + 2)) fun xq105 =>
  Option.bind (am_ls L xs (a3 + 3)) fun xq106 =>
  Option.bind (mi_X7_joined f hq102 a2 xq104 xq105 xq106) fun (xq107, hq108) =>
  (if xq101 = xq107 then
  (lo_L_law_18 f L xs a1 a2 n (a3 + 6) hq108)
  else (some (.inr (false, hq108)))))
  else (if (xq1 &&& 31) = 13 then
  (Option.bind (am_ls L xs (a3 + 1)) fun xq110 =>
  Option.bind (am_ls L xs (a3 + 2)) fun xq111 =>
  Option.bind (am_ls L xs (a3 + 3)) fun xq112 =>
  Option.bind (mi_X6_side f h a1 xq110 xq111 xq112) fun (xq113, hq114) =>
  Option.bind (am_ls L xs (a3 + 1)) fun xq116 =>
  Option.bind (am_ls L xs (a3 + 2)) fun xq117 =>
  Option.bind (am_ls L xs (a3 + 3)) fun xq118 =>
  Option.bind (mi_X7_side f hq114 a2 xq116 xq117 xq118) fun (xq119, hq120) =>
  (if xq113 = xq119 then
  (lo_L_law_18 f L xs a1 a2 n (a3 + 6) hq120)
  else (some (.inr (false, hq120)))))
  else (if (xq1 &&& 31) = 14 then
  (Option.bind (am_ls L xs (a3 + 1)) fun xq122 =>
  Option.bind (mi_X6_work f h a1 xq122) fun (xq123, hq124) =>
  Option.bind (am_ls L xs (a3 + 1)) fun xq126 =>
  Option.bind (mi_X7_work f hq124 a2 xq126) fun (xq127, hq128) =>
  (if xq123 = xq127 then
  (lo_L_law_18 f L xs a1 a2 n (a3 + 6) hq128)
  else (some (.inr (false, hq128)))))
  else (if (xq1 &&& 31) = 15 then
  (Option.bind (am_ls L xs (a3 + 1)) fun xq130 =>
  Option.bind (am_ls L xs (a3 + 2)) fun xq131 =>
  Option.bind (mi_X6_when f h a1 xq130 xq131) fun (xq132, hq133) =>
  Option.bind (am_ls L xs (a3 + 1)) fun xq135 =>
  Option.bind (am_ls L xs (a3 + 2)) fun xq136 =>
  Option.bind (mi_X7_when f hq133 a2 xq135 xq136) fun (xq137, hq138) =>
  (if xq132 = xq137 then
  (lo_L_law_18 f L xs a1 a2 n (a3 + 6) hq138)
  else (some (.inr (false, hq138)))))
  else (if (xq1 &&& 31) = 16 then
  (Option.bind (am_ls L xs (a3 + 1)) fun xq140 =>
  Option.bind (mi_X6_bridges f h a1 xq140) fun (xq141, hq142) =>
  Option.bind (am_ls L xs (a3 + 1)) fun xq144 =>
  Option.bind (mi_X7_bridges f hq142 a2 xq144) fun (xq145, hq146) =>
  (if xq141 = xq145 then
  (lo_L_law_18 f L xs a1 a2 n (a3 + 6) hq146)
  else (some (.inr (false, hq146)))))
  else (if (xq1 &&& 31) = 17 then
  (Option.bind (am_ls L xs (a3 + 1)) fun xq148 =>
  Option.bind (am_ls L xs (a3 + 2)) fun xq149 =>
  Option.bind (am_ls L xs (a3 + 3)) fun xq150 =>
  Option.bind (am_ls L xs (a3 + 4)) fun xq151 =>
  Option.bind (mi_X6_least f h a1 xq148 xq149 xq150 xq151) fun (xq152, hq153) =>
  Option.bind (am_ls L xs (a3 + 1)) fun xq155 =>
  Option.bind (am_ls L xs (a3 + 2)) fun xq156 =>
  Option.bind (am_ls L xs (a3 + 3)) fun xq157 =>
  Option.bind (am_ls L xs (a3 + 4)) fun xq158 =>
  Option.bind (mi_X7_least f hq153 a2 xq155 xq156 xq157 xq158) fun (xq159, hq160) =>
  (if xq152 = xq159 then
  (lo_L_law_18 f L xs a1 a2 n (a3 + 6) hq160)
  else (some (.inr (false, hq160)))))
  else (if (xq1 &&& 31) = 18 then
  (Option.bind (am_ls L xs (a3 + 1)) fun xq162 =>
  Option.bind (am_ls L xs (a3 + 2)) fun xq163 =>
  Option.bind (am_ls L xs (a3 + 3)) fun xq164 =>
  Option.bind (mi_X6_judge f h a1 xq162 ((((xq163 : Int32).toInt64) <<< ((32 : Int32).toInt64 &&& 63)) ||| (((xq164 : Int32).toInt64) &&& 4294967295))) fun (xq165, hq166) =>
  Option.bind (am_ls L xs (a3 + 1)) fun xq168 =>
  Option.bind (am_ls L xs (a3 + 2)) fun xq169 =>
  Option.bind (am_ls L xs (a3 + 3)) fun xq170 =>
  Option.bind (mi_X7_judge f hq166 a2 xq168 ((((xq169 : Int32).toInt64) <<< ((32 : Int32).toInt64 &&& 63)) ||| (((xq170 : Int32).toInt64) &&& 4294967295))) fun (xq171, hq172) =>
  (if xq165 = xq171 then
  (lo_L_law_18 f L xs a1 a2 n (a3 + 6) hq172)
  else (some (.inr (false, hq172)))))
  else (if (xq1 &&& 31) = 19 then
  (Option.bind (am_ls L xs (a3 + 1)) fun xq174 =>
  Option.bind (am_ls L xs (a3 + 2)) fun xq175 =>
  Option.bind (am_ls L xs (a3 + 3)) fun xq176 =>
  Option.bind (am_ls L xs (a3 + 4)) fun xq177 =>
  Option.bind (mi_X6_see f h a1 xq174 xq175 xq176 xq177) fun (xq178, hq179) =>
  Option.bind (am_ls L xs (a3 + 1)) fun xq181 =>
  Option.bind (am_ls L xs (a3 + 2)) fun xq182 =>
  Option.bind (am_ls L xs (a3 + 3)) fun xq183 =>
  Option.bind (am_ls L xs (a3 + 4)) fun xq184 =>
  Option.bind (mi_X7_see f hq179 a2 xq181 xq182 xq183 xq184) fun (xq185, hq186) =>
  (if xq178 = xq185 then
  (lo_L_law_18 f L xs a1 a2 n (a3 + 6) hq186)
  else (some (.inr (false, hq186)))))
  else (if (xq1 &&& 31) = 20 then
  (Option.bind (mi_X6_unsee f h a1) fun (xq188, hq189) =>
  Option.bind (mi_X7_unsee f hq189 a2) fun (xq191, hq192) =>
  (if xq188 = xq191 then
  (lo_L_law_18 f L xs a1 a2 n (a3 + 6) hq192)
  else (some (.inr (false, hq192)))))
  else (if (xq1 &&& 31) = 21 then
  (Option.bind (am_ls L xs (a3 + 1)) fun xq194 =>
  Option.bind (mi_X6_missing f h a1 xq194) fun (xq195, hq196) =>
  Option.bind (am_ls L xs (a3 + 1)) fun xq198 =>
  Option.bind (mi_X7_missing f hq196 a2 xq198) fun (xq199, hq200) =>
  (if xq195 = xq199 then
  (lo_L_law_18 f L xs a1 a2 n (a3 + 6) hq200)
  else (some (.inr (false, hq200)))))
  else (if (xq1 &&& 31) = 22 then
  (Option.bind (am_ls L xs (a3 + 1)) fun xq202 =>
  Option.bind (am_ls L xs (a3 + 2)) fun xq203 =>
  Option.bind (am_ls L xs (a3 + 3)) fun xq204 =>
  Option.bind ((if xq204 = 0 then
  (some false)
  else (some true))) fun jq205 =>
  Option.bind (mi_X6_share f h a1 xq202 xq203 jq205) fun (xq206, hq207) =>
  Option.bind (am_ls L xs (a3 + 1)) fun xq209 =>
  Option.bind (am_ls L xs (a3 + 2)) fun xq210 =>
  Option.bind (am_ls L xs (a3 + 3)) fun xq211 =>
  Option.bind ((if xq211 = 0 then
  (some false)
  else (some true))) fun jq212 =>
  Option.bind (mi_X7_share f hq207 a2 xq209 xq210 jq212) fun (xq213, hq214) =>
  (if xq206 = xq213 then
  (lo_L_law_18 f L xs a1 a2 n (a3 + 6) hq214)
  else (some (.inr (false, hq214)))))
  else (if (xq1 &&& 31) = 23 then
  (Option.bind (am_ls L xs (a3 + 1)) fun xq216 =>
  Option.bind (am_ls L xs (a3 + 2)) fun xq217 =>
  Option.bind (am_ls L xs (a3 + 3)) fun xq218 =>
  Option.bind (am_ls L xs (a3 + 4)) fun xq219 =>
  Option.bind (am_ls L xs (a3 + 5)) fun xq220 =>
  Option.bind ((if xq220 = 0 then
  (some false)
  else (some true))) fun jq221 =>
  Option.bind (mi_X6_fails f h a1 xq216 xq217 xq218 xq219 jq221) fun (xq222, hq223) =>
  Option.bind (am_ls L xs (a3 + 1)) fun xq225 =>
  Option.bind (am_ls L xs (a3 + 2)) fun xq226 =>
  Option.bind (am_ls L xs (a3 + 3)) fun xq227 =>
  Option.bind (am_ls L xs (a3 + 4)) fun xq228 =>
  Option.bind (am_ls L xs (a3 + 5)) fun xq229 =>
  Option.bind ((if xq229 = 0 then
  (some false)
  else (some true))) fun jq230 =>
  Option.bind (mi_X7_fails f hq223 a2 xq225 xq226 xq227 xq228 jq230) fun (xq231, hq232) =>
  (if xq222 = xq231 then
  (lo_L_law_18 f L xs a1 a2 n (a3 + 6) hq232)
  else (some (.inr (false, hq232)))))
  else (if (xq1 &&& 31) = 24 then
  (Option.bind (am_ls L xs (a3 + 1)) fun xq234 =>
  Option.bind (am_ls L xs (a3 + 2)) fun xq235 =>
  Option.bind (mi_X6_seed f h a1 ((((xq234 : Int32).toInt64) <<< ((32 : Int32).toInt64 &&& 63)) ||| (((xq235 : Int32).toInt64) &&& 4294967295))) fun (xq236, hq237) =>
  Option.bind (am_ls L xs (a3 + 1)) fun xq239 =>
  Option.bind (am_ls L xs (a3 + 2)) fun xq240 =>
  Option.bind (mi_X7_seed f hq237 a2 ((((xq239 : Int32).toInt64) <<< ((32 : Int32).toInt64 &&& 63)) ||| (((xq240 : Int32).toInt64) &&& 4294967295))) fun (xq241, hq242) =>
  (if (lg_cmp xq236 xq241) = 0 then
  (lo_L_law_18 f L xs a1 a2 n (a3 + 6) hq242)
  else (some (.inr (false, hq242)))))
  else (if (xq1 &&& 31) = 25 then
  (Option.bind (am_ls L xs (a3 + 1)) fun xq244 =>
  Option.bind (mi_X6_drawn f h a1 xq244) fun (xq245, hq246) =>
  Option.bind (am_ls L xs (a3 + 1)) fun xq248 =>
  Option.bind (mi_X7_drawn f hq246 a2 xq248) fun (xq249, hq250) =>
  (if xq245 = xq249 then
  (lo_L_law_18 f L xs a1 a2 n (a3 + 6) hq250)
  else (some (.inr (false, hq250)))))
  else (if (xq1 &&& 31) = 26 then
  (Option.bind (am_ls L xs (a3 + 1)) fun xq252 =>
  Option.bind (mi_X6_keep f h a1 xq252) fun (xq253, hq254) =>
  Option.bind (am_ls L xs (a3 + 1)) fun xq256 =>
  Option.bind (mi_X7_keep f hq254 a2 xq256) fun (xq257, hq258) =>
  (if xq253 = xq257 then
  (lo_L_law_18 f L xs a1 a2 n (a3 + 6) hq258)
  else (some (.inr (false, hq258)))))
  else (if (xq1 &&& 31) = 27 then
  (Option.bind (am_ls L xs (a3 + 1)) fun xq260 =>
  Option.bind (mi_X6_again f h a1 xq260) fun (xq261, hq262) =>
  Option.bind (am_ls L xs (a3 + 1)) fun xq264 =>
  Option.bind (mi_X7_again f hq262 a2 xq264) fun (xq265, hq266) =>
  (if xq261 = xq265 then
  (lo_L_law_18 f L xs a1 a2 n (a3 + 6) hq266)
  else (some (.inr (false, hq266)))))
  else (if (xq1 &&& 31) = 28 then
  (Option.bind (am_ls L xs (a3 + 1)) fun xq268 =>
  Option.bind (mi_X6_count f h a1 xq268) fun xq269 =>
  Option.bind (am_ls L xs (a3 + 1)) fun xq270 =>
  Option.bind (mi_X7_count f h a2 xq270) fun xq271 =>
  (if xq269 = xq271 then
  (lo_L_law_18 f L xs a1 a2 n (a3 + 6) h)
  else (some (.inr (false, h)))))
  else (lo_L_law_18 f L xs a1 a2 n (a3 + 6) h))))))))))))))))))))))))))))))))
set_option maxHeartbeats 4000000 in
set_option maxRecDepth 100000 in
theorem ll_L_law_18 (l : Launch) (b : Nat) (f : Nat) (L : Nat) (xs : Nat → Int32) (a1 : Nat) (a2 : Nat) (K : Option Value → am_H → Prop) : ∀ (n : Nat) (a3 : Int32) (h : am_H) (w : ((am_H) ⊕ (Bool × am_H))), lo_L_law_18 f L xs a1 a2 n a3 h = some w →
    (∀ (z : am_H), w = .inl z → am_R l yL_law cL_law 4 (some .boolean) room_1 (am_XL b L xs) 134 2076 1140 [] [] z K) → (∀ (z : Bool × am_H), w = .inr z → K (some (.int (am_b z.1))) z.2) →
    am_R l yL_law cL_law 4 (some .boolean) room_1 (am_XL b L xs) 134 2076 18 [(0, .ref am_sc), (1, .ref a1), (2, .ref a2), (3, .int a3)] [] h K := by
  intro n
  induction n with
  | zero =>
    intro a3 h w hm kE kR
    cases hm
  | succ n ih =>
    intro a3 h w hm kE kR
    rw [lo_L_law_18.eq_2] at hm
    refine r_iload_n 3 dL_law_18 rfl ?_
    refine r_aload_n 0 dL_law_19 rfl ?_
    refine r_slen dL_law_20 ?_
    refine r_bipush 6 dL_law_21 (by decide) ?_
    refine r_isub dL_law_23 ?_
    refine r_icmp_gt 1140 dL_law_24 (by decide) (fun q => ?_) (fun q => ?_)
    · rw [if_pos q] at hm
      cases hm
      exact r_lv [] _ rfl (kE _ rfl)
    · rw [if_neg q] at hm
      refine r_aload_n 0 dL_law_27 rfl ?_
      refine r_iload_n 3 dL_law_28 rfl ?_
      obtain ⟨xq1, exq1, hm⟩ := am_bs hm
      refine r_sld exq1 dL_law_29 ?_
      refine r_bipush 31 dL_law_30 (by decide) ?_
      refine r_iand dL_law_32 ?_
      by_cases q0 : (xq1 &&& 31) = 0
      · rw [if_pos q0] at hm
        refine r_tsw 164 dL_law_33 (Or.inl ⟨by rw [q0]; decide, by rw [q0]; decide⟩) ?_
        refine r_aload_n 1 dL_law_164 rfl ?_
        refine r_aload_n 0 dL_law_165 rfl ?_
        refine r_iload_n 3 dL_law_166 rfl ?_
        refine r_iconst 1 dL_law_167 (by decide) ?_
        refine r_iadd dL_law_168 ?_
        obtain ⟨xq2, exq2, hm⟩ := am_bs hm
        refine r_sld exq2 dL_law_169 ?_
        obtain ⟨⟨xq3, hq4⟩, exq3, hm⟩ := am_bs hm
        try dsimp only at hm
        refine r_cV1 [.int xq2] (ct_X6_write l exq3) vm_L_13 (cs_X6_write exq3) (by decide) ⟨rfl, rfl⟩ rfl (Nat.le_of_ble_eq_true rfl) dL_law_170 ?_
        refine r_aload_n 2 dL_law_173 rfl ?_
        refine r_aload_n 0 dL_law_174 rfl ?_
        refine r_iload_n 3 dL_law_175 rfl ?_
        refine r_iconst 1 dL_law_176 (by decide) ?_
        refine r_iadd dL_law_177 ?_
        obtain ⟨xq6, exq6, hm⟩ := am_bs hm
        refine r_sld exq6 dL_law_178 ?_
        obtain ⟨⟨xq7, hq8⟩, exq7, hm⟩ := am_bs hm
        try dsimp only at hm
        refine r_cV1 [.int xq6] (ct_X7_write l exq7) vm_L_17 (cs_X7_write exq7) (by decide) ⟨rfl, rfl⟩ rfl (Nat.le_of_ble_eq_true rfl) dL_law_179 ?_
        refine r_icmp_eq 1134 dL_law_182 (by decide) (fun q => ?_) (fun q => ?_)
        · rw [if_pos q] at hm
          refine r_inc 6 3 [(3, .int (a3 + 6)), (0, .ref am_sc), (1, .ref a1), (2, .ref a2)] dL_law_1134 (by decide) rfl (by decide) rfl ?_
          refine r_goto 18 dL_law_1137 (by decide) ?_
          exact r_lv [1, 2, 3, 0] _ rfl (ih (a3 + 6) hq8 _ hm kE kR)
        · rw [if_neg q] at hm
          refine r_iconst 0 dL_law_185 (by decide) ?_
          cases hm
          exact r_zreturn false dL_law_186 rfl (by decide) (kR _ rfl)
      rw [if_neg q0] at hm
      by_cases q1 : (xq1 &&& 31) = 1
      · rw [if_pos q1] at hm
        refine r_tsw 187 dL_law_33 (Or.inl ⟨by rw [q1]; decide, by rw [q1]; decide⟩) ?_
        refine r_aload_n 1 dL_law_187 rfl ?_
        obtain ⟨⟨xq10, hq11⟩, exq10, hm⟩ := am_bs hm
        try dsimp only at hm
        refine r_cV1 [] (ct_X6_wipe l exq10) vm_L_18 (cs_X6_wipe exq10) (by decide) ⟨rfl, rfl⟩ rfl (Nat.le_of_ble_eq_true rfl) dL_law_188 ?_
        refine r_aload_n 2 dL_law_191 rfl ?_
        obtain ⟨⟨xq13, hq14⟩, exq13, hm⟩ := am_bs hm
        try dsimp only at hm
        refine r_cV1 [] (ct_X7_wipe l exq13) vm_L_22 (cs_X7_wipe exq13) (by decide) ⟨rfl, rfl⟩ rfl (Nat.le_of_ble_eq_true rfl) dL_law_192 ?_
        refine r_icmp_eq 1134 dL_law_195 (by decide) (fun q => ?_) (fun q => ?_)
        · rw [if_pos q] at hm
          refine r_inc 6 3 [(3, .int (a3 + 6)), (0, .ref am_sc), (1, .ref a1), (2, .ref a2)] dL_law_1134 (by decide) rfl (by decide) rfl ?_
          refine r_goto 18 dL_law_1137 (by decide) ?_
          exact r_lv [1, 2, 3, 0] _ rfl (ih (a3 + 6) hq14 _ hm kE kR)
        · rw [if_neg q] at hm
          refine r_iconst 0 dL_law_198 (by decide) ?_
          cases hm
          exact r_zreturn false dL_law_199 rfl (by decide) (kR _ rfl)
      rw [if_neg q1] at hm
      by_cases q2 : (xq1 &&& 31) = 2
      · rw [if_pos q2] at hm
        refine r_tsw 200 dL_law_33 (Or.inl ⟨by rw [q2]; decide, by rw [q2]; decide⟩) ?_
        refine r_aload_n 1 dL_law_200 rfl ?_
        obtain ⟨⟨xq16, hq17⟩, exq16, hm⟩ := am_bs hm
        try dsimp only at hm
        refine r_cV1 [] (ct_X6_fault l exq16) vm_L_23 (cs_X6_fault exq16) (by decide) ⟨rfl, rfl⟩ rfl (Nat.le_of_ble_eq_true rfl) dL_law_201 ?_
        refine r_aload_n 2 dL_law_204 rfl ?_
        obtain ⟨⟨xq19, hq20⟩, exq19, hm⟩ := am_bs hm
        try dsimp only at hm
        refine r_cV1 [] (ct_X7_fault l exq19) vm_L_26 (cs_X7_fault exq19) (by decide) ⟨rfl, rfl⟩ rfl (Nat.le_of_ble_eq_true rfl) dL_law_205 ?_
        refine r_icmp_eq 1134 dL_law_208 (by decide) (fun q => ?_) (fun q => ?_)
        · rw [if_pos q] at hm
          refine r_inc 6 3 [(3, .int (a3 + 6)), (0, .ref am_sc), (1, .ref a1), (2, .ref a2)] dL_law_1134 (by decide) rfl (by decide) rfl ?_
          refine r_goto 18 dL_law_1137 (by decide) ?_
          exact r_lv [1, 2, 3, 0] _ rfl (ih (a3 + 6) hq20 _ hm kE kR)
        · rw [if_neg q] at hm
          refine r_iconst 0 dL_law_211 (by decide) ?_
          cases hm
          exact r_zreturn false dL_law_212 rfl (by decide) (kR _ rfl)
      rw [if_neg q2] at hm
      by_cases q3 : (xq1 &&& 31) = 3
      · rw [if_pos q3] at hm
        refine r_tsw 213 dL_law_33 (Or.inl ⟨by rw [q3]; decide, by rw [q3]; decide⟩) ?_
        refine r_aload_n 1 dL_law_213 rfl ?_
        obtain ⟨⟨xq22, hq23⟩, exq22, hm⟩ := am_bs hm
        try dsimp only at hm
        refine r_cV1 [] (ct_X6_life l exq22) vm_L_27 (cs_X6_life exq22) (by decide) ⟨rfl, rfl⟩ rfl (Nat.le_of_ble_eq_true rfl) dL_law_214 ?_
        refine r_aload_n 2 dL_law_217 rfl ?_
        obtain ⟨⟨xq25, hq26⟩, exq25, hm⟩ := am_bs hm
        try dsimp only at hm
        refine r_cV1 [] (ct_X7_life l exq25) vm_L_30 (cs_X7_life exq25) (by decide) ⟨rfl, rfl⟩ rfl (Nat.le_of_ble_eq_true rfl) dL_law_218 ?_
        refine r_icmp_eq 1134 dL_law_221 (by decide) (fun q => ?_) (fun q => ?_)
        · rw [if_pos q] at hm
          refine r_inc 6 3 [(3, .int (a3 + 6)), (0, .ref am_sc), (1, .ref a1), (2, .ref a2)] dL_law_1134 (by decide) rfl (by decide) rfl ?_
          refine r_goto 18 dL_law_1137 (by decide) ?_
          exact r_lv [1, 2, 3, 0] _ rfl (ih (a3 + 6) hq26 _ hm kE kR)
        · rw [if_neg q] at hm
          refine r_iconst 0 dL_law_224 (by decide) ?_
          cases hm
          exact r_zreturn false dL_law_225 rfl (by decide) (kR _ rfl)
      rw [if_neg q3] at hm
      by_cases q4 : (xq1 &&& 31) = 4
      · rw [if_pos q4] at hm
        refine r_tsw 226 dL_law_33 (Or.inl ⟨by rw [q4]; decide, by rw [q4]; decide⟩) ?_
        refine r_aload_n 1 dL_law_226 rfl ?_
        refine r_aload_n 0 dL_law_227 rfl ?_
        refine r_iload_n 3 dL_law_228 rfl ?_
        refine r_iconst 1 dL_law_229 (by decide) ?_
        refine r_iadd dL_law_230 ?_
        obtain ⟨xq28, exq28, hm⟩ := am_bs hm
        refine r_sld exq28 dL_law_231 ?_
        refine r_aload_n 0 dL_law_232 rfl ?_
        refine r_iload_n 3 dL_law_233 rfl ?_
        refine r_iconst 2 dL_law_234 (by decide) ?_
        refine r_iadd dL_law_235 ?_
        obtain ⟨xq29, exq29, hm⟩ := am_bs hm
        refine r_sld exq29 dL_law_236 ?_
        obtain ⟨xq30, exq30, hm⟩ := am_bs hm
        refine r_cV1 [.int xq28, .int xq29] (ct_X6_span l exq30) vm_L_31 (cs_X6_span exq30) (by decide) ⟨rfl, rfl⟩ rfl (Nat.le_of_ble_eq_true rfl) dL_law_237 ?_
        refine r_aload_n 2 dL_law_240 rfl ?_
        refine r_aload_n 0 dL_law_241 rfl ?_
        refine r_iload_n 3 dL_law_242 rfl ?_
        refine r_iconst 1 dL_law_243 (by decide) ?_
        refine r_iadd dL_law_244 ?_
        obtain ⟨xq31, exq31, hm⟩ := am_bs hm
        refine r_sld exq31 dL_law_245 ?_
        refine r_aload_n 0 dL_law_246 rfl ?_
        refine r_iload_n 3 dL_law_247 rfl ?_
        refine r_iconst 2 dL_law_248 (by decide) ?_
        refine r_iadd dL_law_249 ?_
        obtain ⟨xq32, exq32, hm⟩ := am_bs hm
        refine r_sld exq32 dL_law_250 ?_
        obtain ⟨xq33, exq33, hm⟩ := am_bs hm
        refine r_cV1 [.int xq31, .int xq32] (ct_X7_span l exq33) vm_L_35 (cs_X7_span exq33) (by decide) ⟨rfl, rfl⟩ rfl (Nat.le_of_ble_eq_true rfl) dL_law_251 ?_
        refine r_icmp_eq 1134 dL_law_254 (by decide) (fun q => ?_) (fun q => ?_)
        · rw [if_pos q] at hm
          refine r_inc 6 3 [(3, .int (a3 + 6)), (0, .ref am_sc), (1, .ref a1), (2, .ref a2)] dL_law_1134 (by decide) rfl (by decide) rfl ?_
          refine r_goto 18 dL_law_1137 (by decide) ?_
          exact r_lv [1, 2, 3, 0] _ rfl (ih (a3 + 6) h _ hm kE kR)
        · rw [if_neg q] at hm
          refine r_iconst 0 dL_law_257 (by decide) ?_
          cases hm
          exact r_zreturn false dL_law_258 rfl (by decide) (kR _ rfl)
      rw [if_neg q4] at hm
      by_cases q5 : (xq1 &&& 31) = 5
      · rw [if_pos q5] at hm
        refine r_tsw 259 dL_law_33 (Or.inl ⟨by rw [q5]; decide, by rw [q5]; decide⟩) ?_
        refine r_aload_n 1 dL_law_259 rfl ?_
        refine r_aload_n 0 dL_law_260 rfl ?_
        refine r_iload_n 3 dL_law_261 rfl ?_
        refine r_iconst 1 dL_law_262 (by decide) ?_
        refine r_iadd dL_law_263 ?_
        obtain ⟨xq34, exq34, hm⟩ := am_bs hm
        refine r_sld exq34 dL_law_264 ?_
        obtain ⟨xq35, exq35, hm⟩ := am_bs hm
        refine r_cV1 [.int xq34] (ct_X6_node l exq35) vm_L_36 (cs_X6_node exq35) (by decide) ⟨rfl, rfl⟩ rfl (Nat.le_of_ble_eq_true rfl) dL_law_265 ?_
        refine r_aload_n 2 dL_law_268 rfl ?_
        refine r_aload_n 0 dL_law_269 rfl ?_
        refine r_iload_n 3 dL_law_270 rfl ?_
        refine r_iconst 1 dL_law_271 (by decide) ?_
        refine r_iadd dL_law_272 ?_
        obtain ⟨xq36, exq36, hm⟩ := am_bs hm
        refine r_sld exq36 dL_law_273 ?_
        obtain ⟨xq37, exq37, hm⟩ := am_bs hm
        refine r_cV1 [.int xq36] (ct_X7_node l exq37) vm_L_39 (cs_X7_node exq37) (by decide) ⟨rfl, rfl⟩ rfl (Nat.le_of_ble_eq_true rfl) dL_law_274 ?_
        refine r_icmp_eq 1134 dL_law_277 (by decide) (fun q => ?_) (fun q => ?_)
        · rw [if_pos q] at hm
          refine r_inc 6 3 [(3, .int (a3 + 6)), (0, .ref am_sc), (1, .ref a1), (2, .ref a2)] dL_law_1134 (by decide) rfl (by decide) rfl ?_
          refine r_goto 18 dL_law_1137 (by decide) ?_
          exact r_lv [1, 2, 3, 0] _ rfl (ih (a3 + 6) h _ hm kE kR)
        · rw [if_neg q] at hm
          refine r_iconst 0 dL_law_280 (by decide) ?_
          cases hm
          exact r_zreturn false dL_law_281 rfl (by decide) (kR _ rfl)
      rw [if_neg q5] at hm
      by_cases q6 : (xq1 &&& 31) = 6
      · rw [if_pos q6] at hm
        refine r_tsw 282 dL_law_33 (Or.inl ⟨by rw [q6]; decide, by rw [q6]; decide⟩) ?_
        refine r_aload_n 1 dL_law_282 rfl ?_
        refine r_aload_n 0 dL_law_283 rfl ?_
        refine r_iload_n 3 dL_law_284 rfl ?_
        refine r_iconst 1 dL_law_285 (by decide) ?_
        refine r_iadd dL_law_286 ?_
        obtain ⟨xq38, exq38, hm⟩ := am_bs hm
        refine r_sld exq38 dL_law_287 ?_
        refine r_aload_n 0 dL_law_288 rfl ?_
        refine r_iload_n 3 dL_law_289 rfl ?_
        refine r_iconst 2 dL_law_290 (by decide) ?_
        refine r_iadd dL_law_291 ?_
        obtain ⟨xq39, exq39, hm⟩ := am_bs hm
        refine r_sld exq39 dL_law_292 ?_
        refine r_aload_n 0 dL_law_293 rfl ?_
        refine r_iload_n 3 dL_law_294 rfl ?_
        refine r_iconst 3 dL_law_295 (by decide) ?_
        refine r_iadd dL_law_296 ?_
        obtain ⟨xq40, exq40, hm⟩ := am_bs hm
        refine r_sld exq40 dL_law_297 ?_
        refine r_aload_n 0 dL_law_298 rfl ?_
        refine r_iload_n 3 dL_law_299 rfl ?_
        refine r_iconst 4 dL_law_300 (by decide) ?_
        refine r_iadd dL_law_301 ?_
        obtain ⟨xq41, exq41, hm⟩ := am_bs hm
        refine r_sld exq41 dL_law_302 ?_
        obtain ⟨⟨xq42, hq43⟩, exq42, hm⟩ := am_bs hm
        try dsimp only at hm
        refine r_cV1 [.int xq38, .int xq39, .int xq40, .int xq41] (ct_X6_put l exq42) vm_L_40 (cs_X6_put exq42) (by decide) ⟨rfl, rfl⟩ rfl (Nat.le_of_ble_eq_true rfl) dL_law_303 ?_
        refine r_aload_n 2 dL_law_306 rfl ?_
        refine r_aload_n 0 dL_law_307 rfl ?_
        refine r_iload_n 3 dL_law_308 rfl ?_
        refine r_iconst 1 dL_law_309 (by decide) ?_
        refine r_iadd dL_law_310 ?_
        obtain ⟨xq45, exq45, hm⟩ := am_bs hm
        refine r_sld exq45 dL_law_311 ?_
        refine r_aload_n 0 dL_law_312 rfl ?_
        refine r_iload_n 3 dL_law_313 rfl ?_
        refine r_iconst 2 dL_law_314 (by decide) ?_
        refine r_iadd dL_law_315 ?_
        obtain ⟨xq46, exq46, hm⟩ := am_bs hm
        refine r_sld exq46 dL_law_316 ?_
        refine r_aload_n 0 dL_law_317 rfl ?_
        refine r_iload_n 3 dL_law_318 rfl ?_
        refine r_iconst 3 dL_law_319 (by decide) ?_
        refine r_iadd dL_law_320 ?_
        obtain ⟨xq47, exq47, hm⟩ := am_bs hm
        refine r_sld exq47 dL_law_321 ?_
        refine r_aload_n 0 dL_law_322 rfl ?_
        refine r_iload_n 3 dL_law_323 rfl ?_
        refine r_iconst 4 dL_law_324 (by decide) ?_
        refine r_iadd dL_law_325 ?_
        obtain ⟨xq48, exq48, hm⟩ := am_bs hm
        refine r_sld exq48 dL_law_326 ?_
        obtain ⟨⟨xq49, hq50⟩, exq49, hm⟩ := am_bs hm
        try dsimp only at hm
        refine r_cV1 [.int xq45, .int xq46, .int xq47, .int xq48] (ct_X7_put l exq49) vm_L_44 (cs_X7_put exq49) (by decide) ⟨rfl, rfl⟩ rfl (Nat.le_of_ble_eq_true rfl) dL_law_327 ?_
        refine r_icmp_eq 1134 dL_law_330 (by decide) (fun q => ?_) (fun q => ?_)
        · rw [if_pos q] at hm
          refine r_inc 6 3 [(3, .int (a3 + 6)), (0, .ref am_sc), (1, .ref a1), (2, .ref a2)] dL_law_1134 (by decide) rfl (by decide) rfl ?_
          refine r_goto 18 dL_law_1137 (by decide) ?_
          exact r_lv [1, 2, 3, 0] _ rfl (ih (a3 + 6) hq50 _ hm kE kR)
        · rw [if_neg q] at hm
          refine r_iconst 0 dL_law_333 (by decide) ?_
          cases hm
          exact r_zreturn false dL_law_334 rfl (by decide) (kR _ rfl)
      rw [if_neg q6] at hm
      by_cases q7 : (xq1 &&& 31) = 7
      · rw [if_pos q7] at hm
        refine r_tsw 335 dL_law_33 (Or.inl ⟨by rw [q7]; decide, by rw [q7]; decide⟩) ?_
        refine r_aload_n 1 dL_law_335 rfl ?_
        refine r_aload_n 0 dL_law_336 rfl ?_
        refine r_iload_n 3 dL_law_337 rfl ?_
        refine r_iconst 1 dL_law_338 (by decide) ?_
        refine r_iadd dL_law_339 ?_
        obtain ⟨xq52, exq52, hm⟩ := am_bs hm
        refine r_sld exq52 dL_law_340 ?_
        obtain ⟨⟨xq53, hq54⟩, exq53, hm⟩ := am_bs hm
        try dsimp only at hm
        refine r_cV1 [.int xq52] (ct_X6_cut l exq53) vm_L_45 (cs_X6_cut exq53) (by decide) ⟨rfl, rfl⟩ rfl (Nat.le_of_ble_eq_true rfl) dL_law_341 ?_
        refine r_aload_n 2 dL_law_344 rfl ?_
        refine r_aload_n 0 dL_law_345 rfl ?_
        refine r_iload_n 3 dL_law_346 rfl ?_
        refine r_iconst 1 dL_law_347 (by decide) ?_
        refine r_iadd dL_law_348 ?_
        obtain ⟨xq56, exq56, hm⟩ := am_bs hm
        refine r_sld exq56 dL_law_349 ?_
        obtain ⟨⟨xq57, hq58⟩, exq57, hm⟩ := am_bs hm
        try dsimp only at hm
        refine r_cV1 [.int xq56] (ct_X7_cut l exq57) vm_L_48 (cs_X7_cut exq57) (by decide) ⟨rfl, rfl⟩ rfl (Nat.le_of_ble_eq_true rfl) dL_law_350 ?_
        refine r_icmp_eq 1134 dL_law_353 (by decide) (fun q => ?_) (fun q => ?_)
        · rw [if_pos q] at hm
          refine r_inc 6 3 [(3, .int (a3 + 6)), (0, .ref am_sc), (1, .ref a1), (2, .ref a2)] dL_law_1134 (by decide) rfl (by decide) rfl ?_
          refine r_goto 18 dL_law_1137 (by decide) ?_
          exact r_lv [1, 2, 3, 0] _ rfl (ih (a3 + 6) hq58 _ hm kE kR)
        · rw [if_neg q] at hm
          refine r_iconst 0 dL_law_356 (by decide) ?_
          cases hm
          exact r_zreturn false dL_law_357 rfl (by decide) (kR _ rfl)
      rw [if_neg q7] at hm
      by_cases q8 : (xq1 &&& 31) = 8
      · rw [if_pos q8] at hm
        refine r_tsw 358 dL_law_33 (Or.inl ⟨by rw [q8]; decide, by rw [q8]; decide⟩) ?_
        refine r_aload_n 1 dL_law_358 rfl ?_
        refine r_aload_n 0 dL_law_359 rfl ?_
        refine r_iload_n 3 dL_law_360 rfl ?_
        refine r_iconst 1 dL_law_361 (by decide) ?_
        refine r_iadd dL_law_362 ?_
        obtain ⟨xq60, exq60, hm⟩ := am_bs hm
        refine r_sld exq60 dL_law_363 ?_
        refine r_aload_n 0 dL_law_364 rfl ?_
        refine r_iload_n 3 dL_law_365 rfl ?_
        refine r_iconst 2 dL_law_366 (by decide) ?_
        refine r_iadd dL_law_367 ?_
        obtain ⟨xq61, exq61, hm⟩ := am_bs hm
        refine r_sld exq61 dL_law_368 ?_
        obtain ⟨⟨xq62, hq63⟩, exq62, hm⟩ := am_bs hm
        try dsimp only at hm
        refine r_cV1 [.int xq60, .int xq61] (ct_X6_end l exq62) vm_L_49 (cs_X6_end exq62) (by decide) ⟨rfl, rfl⟩ rfl (Nat.le_of_ble_eq_true rfl) dL_law_369 ?_
        refine r_aload_n 2 dL_law_372 rfl ?_
        refine r_aload_n 0 dL_law_373 rfl ?_
        refine r_iload_n 3 dL_law_374 rfl ?_
        refine r_iconst 1 dL_law_375 (by decide) ?_
        refine r_iadd dL_law_376 ?_
        obtain ⟨xq65, exq65, hm⟩ := am_bs hm
        refine r_sld exq65 dL_law_377 ?_
        refine r_aload_n 0 dL_law_378 rfl ?_
        refine r_iload_n 3 dL_law_379 rfl ?_
        refine r_iconst 2 dL_law_380 (by decide) ?_
        refine r_iadd dL_law_381 ?_
        obtain ⟨xq66, exq66, hm⟩ := am_bs hm
        refine r_sld exq66 dL_law_382 ?_
        obtain ⟨⟨xq67, hq68⟩, exq67, hm⟩ := am_bs hm
        try dsimp only at hm
        refine r_cV1 [.int xq65, .int xq66] (ct_X7_end l exq67) vm_L_52 (cs_X7_end exq67) (by decide) ⟨rfl, rfl⟩ rfl (Nat.le_of_ble_eq_true rfl) dL_law_383 ?_
        refine r_icmp_eq 1134 dL_law_386 (by decide) (fun q => ?_) (fun q => ?_)
        · rw [if_pos q] at hm
          refine r_inc 6 3 [(3, .int (a3 + 6)), (0, .ref am_sc), (1, .ref a1), (2, .ref a2)] dL_law_1134 (by decide) rfl (by decide) rfl ?_
          refine r_goto 18 dL_law_1137 (by decide) ?_
          exact r_lv [1, 2, 3, 0] _ rfl (ih (a3 + 6) hq68 _ hm kE kR)
        · rw [if_neg q] at hm
          refine r_iconst 0 dL_law_389 (by decide) ?_
          cases hm
          exact r_zreturn false dL_law_390 rfl (by decide) (kR _ rfl)
      rw [if_neg q8] at hm
      by_cases q9 : (xq1 &&& 31) = 9
      · rw [if_pos q9] at hm
        refine r_tsw 391 dL_law_33 (Or.inl ⟨by rw [q9]; decide, by rw [q9]; decide⟩) ?_
        refine r_aload_n 1 dL_law_391 rfl ?_
        obtain ⟨⟨xq70, hq71⟩, exq70, hm⟩ := am_bs hm
        try dsimp only at hm
        refine r_cV1 [] (ct_X6_undo l exq70) vm_L_53 (cs_X6_undo exq70) (by decide) ⟨rfl, rfl⟩ rfl (Nat.le_of_ble_eq_true rfl) dL_law_392 ?_
        refine r_aload_n 2 dL_law_395 rfl ?_
        obtain ⟨⟨xq73, hq74⟩, exq73, hm⟩ := am_bs hm
        try dsimp only at hm
        refine r_cV1 [] (ct_X7_undo l exq73) vm_L_56 (cs_X7_undo exq73) (by decide) ⟨rfl, rfl⟩ rfl (Nat.le_of_ble_eq_true rfl) dL_law_396 ?_
        refine r_icmp_eq 1134 dL_law_399 (by decide) (fun q => ?_) (fun q => ?_)
        · rw [if_pos q] at hm
          refine r_inc 6 3 [(3, .int (a3 + 6)), (0, .ref am_sc), (1, .ref a1), (2, .ref a2)] dL_law_1134 (by decide) rfl (by decide) rfl ?_
          refine r_goto 18 dL_law_1137 (by decide) ?_
          exact r_lv [1, 2, 3, 0] _ rfl (ih (a3 + 6) hq74 _ hm kE kR)
        · rw [if_neg q] at hm
          refine r_iconst 0 dL_law_402 (by decide) ?_
          cases hm
          exact r_zreturn false dL_law_403 rfl (by decide) (kR _ rfl)
      rw [if_neg q9] at hm
      by_cases q10 : (xq1 &&& 31) = 10
      · rw [if_pos q10] at hm
        refine r_tsw 404 dL_law_33 (Or.inl ⟨by rw [q10]; decide, by rw [q10]; decide⟩) ?_
        refine r_aload_n 1 dL_law_404 rfl ?_
        refine r_aload_n 0 dL_law_405 rfl ?_
        refine r_iload_n 3 dL_law_406 rfl ?_
        refine r_iconst 1 dL_law_407 (by decide) ?_
        refine r_iadd dL_law_408 ?_
        obtain ⟨xq76, exq76, hm⟩ := am_bs hm
        refine r_sld exq76 dL_law_409 ?_
        refine r_aload_n 0 dL_law_410 rfl ?_
        refine r_iload_n 3 dL_law_411 rfl ?_
        refine r_iconst 2 dL_law_412 (by decide) ?_
        refine r_iadd dL_law_413 ?_
        obtain ⟨xq77, exq77, hm⟩ := am_bs hm
        refine r_sld exq77 dL_law_414 ?_
        obtain ⟨⟨xq78, hq79⟩, exq78, hm⟩ := am_bs hm
        try dsimp only at hm
        refine r_cV1 [.int xq76, .int xq77] (ct_X6_at l exq78) vm_L_57 (cs_X6_at exq78) (by decide) ⟨rfl, rfl⟩ rfl (Nat.le_of_ble_eq_true rfl) dL_law_415 ?_
        refine r_aload_n 2 dL_law_418 rfl ?_
        refine r_aload_n 0 dL_law_419 rfl ?_
        refine r_iload_n 3 dL_law_420 rfl ?_
        refine r_iconst 1 dL_law_421 (by decide) ?_
        refine r_iadd dL_law_422 ?_
        obtain ⟨xq81, exq81, hm⟩ := am_bs hm
        refine r_sld exq81 dL_law_423 ?_
        refine r_aload_n 0 dL_law_424 rfl ?_
        refine r_iload_n 3 dL_law_425 rfl ?_
        refine r_iconst 2 dL_law_426 (by decide) ?_
        refine r_iadd dL_law_427 ?_
        obtain ⟨xq82, exq82, hm⟩ := am_bs hm
        refine r_sld exq82 dL_law_428 ?_
        obtain ⟨⟨xq83, hq84⟩, exq83, hm⟩ := am_bs hm
        try dsimp only at hm
        refine r_cV1 [.int xq81, .int xq82] (ct_X7_at l exq83) vm_L_60 (cs_X7_at exq83) (by decide) ⟨rfl, rfl⟩ rfl (Nat.le_of_ble_eq_true rfl) dL_law_429 ?_
        refine r_icmp_eq 1134 dL_law_432 (by decide) (fun q => ?_) (fun q => ?_)
        · rw [if_pos q] at hm
          refine r_inc 6 3 [(3, .int (a3 + 6)), (0, .ref am_sc), (1, .ref a1), (2, .ref a2)] dL_law_1134 (by decide) rfl (by decide) rfl ?_
          refine r_goto 18 dL_law_1137 (by decide) ?_
          exact r_lv [1, 2, 3, 0] _ rfl (ih (a3 + 6) hq84 _ hm kE kR)
        · rw [if_neg q] at hm
          refine r_iconst 0 dL_law_435 (by decide) ?_
          cases hm
          exact r_zreturn false dL_law_436 rfl (by decide) (kR _ rfl)
      rw [if_neg q10] at hm
      by_cases q11 : (xq1 &&& 31) = 11
      · rw [if_pos q11] at hm
        refine r_tsw 437 dL_law_33 (Or.inl ⟨by rw [q11]; decide, by rw [q11]; decide⟩) ?_
        refine r_aload_n 1 dL_law_437 rfl ?_
        refine r_aload_n 0 dL_law_438 rfl ?_
        refine r_iload_n 3 dL_law_439 rfl ?_
        refine r_iconst 1 dL_law_440 (by decide) ?_
        refine r_iadd dL_law_441 ?_
        obtain ⟨xq86, exq86, hm⟩ := am_bs hm
        refine r_sld exq86 dL_law_442 ?_
        refine r_aload_n 0 dL_law_443 rfl ?_
        refine r_iload_n 3 dL_law_444 rfl ?_
        refine r_iconst 2 dL_law_445 (by decide) ?_
        refine r_iadd dL_law_446 ?_
        obtain ⟨xq87, exq87, hm⟩ := am_bs hm
        refine r_sld exq87 dL_law_447 ?_
        refine r_aload_n 0 dL_law_448 rfl ?_
        refine r_iload_n 3 dL_law_449 rfl ?_
        refine r_iconst 3 dL_law_450 (by decide) ?_
        refine r_iadd dL_law_451 ?_
        obtain ⟨xq88, exq88, hm⟩ := am_bs hm
        refine r_sld exq88 dL_law_452 ?_
        obtain ⟨⟨xq89, hq90⟩, exq89, hm⟩ := am_bs hm
        try dsimp only at hm
        refine r_cV1 [.int xq86, .int xq87, .int xq88] (ct_X6_knot l exq89) vm_L_61 (cs_X6_knot exq89) (by decide) ⟨rfl, rfl⟩ rfl (Nat.le_of_ble_eq_true rfl) dL_law_453 ?_
        refine r_aload_n 2 dL_law_456 rfl ?_
        refine r_aload_n 0 dL_law_457 rfl ?_
        refine r_iload_n 3 dL_law_458 rfl ?_
        refine r_iconst 1 dL_law_459 (by decide) ?_
        refine r_iadd dL_law_460 ?_
        obtain ⟨xq92, exq92, hm⟩ := am_bs hm
        refine r_sld exq92 dL_law_461 ?_
        refine r_aload_n 0 dL_law_462 rfl ?_
        refine r_iload_n 3 dL_law_463 rfl ?_
        refine r_iconst 2 dL_law_464 (by decide) ?_
        refine r_iadd dL_law_465 ?_
        obtain ⟨xq93, exq93, hm⟩ := am_bs hm
        refine r_sld exq93 dL_law_466 ?_
        refine r_aload_n 0 dL_law_467 rfl ?_
        refine r_iload_n 3 dL_law_468 rfl ?_
        refine r_iconst 3 dL_law_469 (by decide) ?_
        refine r_iadd dL_law_470 ?_
        obtain ⟨xq94, exq94, hm⟩ := am_bs hm
        refine r_sld exq94 dL_law_471 ?_
        obtain ⟨⟨xq95, hq96⟩, exq95, hm⟩ := am_bs hm
        try dsimp only at hm
        refine r_cV1 [.int xq92, .int xq93, .int xq94] (ct_X7_knot l exq95) vm_L_65 (cs_X7_knot exq95) (by decide) ⟨rfl, rfl⟩ rfl (Nat.le_of_ble_eq_true rfl) dL_law_472 ?_
        refine r_icmp_eq 1134 dL_law_475 (by decide) (fun q => ?_) (fun q => ?_)
        · rw [if_pos q] at hm
          refine r_inc 6 3 [(3, .int (a3 + 6)), (0, .ref am_sc), (1, .ref a1), (2, .ref a2)] dL_law_1134 (by decide) rfl (by decide) rfl ?_
          refine r_goto 18 dL_law_1137 (by decide) ?_
          exact r_lv [1, 2, 3, 0] _ rfl (ih (a3 + 6) hq96 _ hm kE kR)
        · rw [if_neg q] at hm
          refine r_iconst 0 dL_law_478 (by decide) ?_
          cases hm
          exact r_zreturn false dL_law_479 rfl (by decide) (kR _ rfl)
      rw [if_neg q11] at hm
      by_cases q12 : (xq1 &&& 31) = 12
      · rw [if_pos q12] at hm
        refine r_tsw 480 dL_law_33 (Or.inl ⟨by rw [q12]; decide, by rw [q12]; decide⟩) ?_
        refine r_aload_n 1 dL_law_480 rfl ?_
        refine r_aload_n 0 dL_law_481 rfl ?_
        refine r_iload_n 3 dL_law_482 rfl ?_
        refine r_iconst 1 dL_law_483 (by decide) ?_
        refine r_iadd dL_law_484 ?_
        obtain ⟨xq98, exq98, hm⟩ := am_bs hm
        refine r_sld exq98 dL_law_485 ?_
        refine r_aload_n 0 dL_law_486 rfl ?_
        refine r_iload_n 3 dL_law_487 rfl ?_
        refine r_iconst 2 dL_law_488 (by decide) ?_
        refine r_iadd dL_law_489 ?_
        obtain ⟨xq99, exq99, hm⟩ := am_bs hm
        refine r_sld exq99 dL_law_490 ?_
        refine r_aload_n 0 dL_law_491 rfl ?_
        refine r_iload_n 3 dL_law_492 rfl ?_
        refine r_iconst 3 dL_law_493 (by decide) ?_
        refine r_iadd dL_law_494 ?_
        obtain ⟨xq100, exq100, hm⟩ := am_bs hm
        refine r_sld exq100 dL_law_495 ?_
        obtain ⟨⟨xq101, hq102⟩, exq101, hm⟩ := am_bs hm
        try dsimp only at hm
        refine r_cV1 [.int xq98, .int xq99, .int xq100] (ct_X6_joined l exq101) vm_L_66 (cs_X6_joined exq101) (by decide) ⟨rfl, rfl⟩ rfl (Nat.le_of_ble_eq_true rfl) dL_law_496 ?_
        refine r_aload_n 2 dL_law_499 rfl ?_
        refine r_aload_n 0 dL_law_500 rfl ?_
        refine r_iload_n 3 dL_law_501 rfl ?_
        refine r_iconst 1 dL_law_502 (by decide) ?_
        refine r_iadd dL_law_503 ?_
        obtain ⟨xq104, exq104, hm⟩ := am_bs hm
        refine r_sld exq104 dL_law_504 ?_
        refine r_aload_n 0 dL_law_505 rfl ?_
        refine r_iload_n 3 dL_law_506 rfl ?_
        refine r_iconst 2 dL_law_507 (by decide) ?_
        refine r_iadd dL_law_508 ?_
        obtain ⟨xq105, exq105, hm⟩ := am_bs hm
        refine r_sld exq105 dL_law_509 ?_
        refine r_aload_n 0 dL_law_510 rfl ?_
        refine r_iload_n 3 dL_law_511 rfl ?_
        refine r_iconst 3 dL_law_512 (by decide) ?_
        refine r_iadd dL_law_513 ?_
        obtain ⟨xq106, exq106, hm⟩ := am_bs hm
        refine r_sld exq106 dL_law_514 ?_
        obtain ⟨⟨xq107, hq108⟩, exq107, hm⟩ := am_bs hm
        try dsimp only at hm
        refine r_cV1 [.int xq104, .int xq105, .int xq106] (ct_X7_joined l exq107) vm_L_69 (cs_X7_joined exq107) (by decide) ⟨rfl, rfl⟩ rfl (Nat.le_of_ble_eq_true rfl) dL_law_515 ?_
        refine r_icmp_eq 1134 dL_law_518 (by decide) (fun q => ?_) (fun q => ?_)
        · rw [if_pos q] at hm
          refine r_inc 6 3 [(3, .int (a3 + 6)), (0, .ref am_sc), (1, .ref a1), (2, .ref a2)] dL_law_1134 (by decide) rfl (by decide) rfl ?_
          refine r_goto 18 dL_law_1137 (by decide) ?_
          exact r_lv [1, 2, 3, 0] _ rfl (ih (a3 + 6) hq108 _ hm kE kR)
        · rw [if_neg q] at hm
          refine r_iconst 0 dL_law_521 (by decide) ?_
          cases hm
          exact r_zreturn false dL_law_522 rfl (by decide) (kR _ rfl)
      rw [if_neg q12] at hm
      by_cases q13 : (xq1 &&& 31) = 13
      · rw [if_pos q13] at hm
        refine r_tsw 523 dL_law_33 (Or.inl ⟨by rw [q13]; decide, by rw [q13]; decide⟩) ?_
        refine r_aload_n 1 dL_law_523 rfl ?_
        refine r_aload_n 0 dL_law_524 rfl ?_
        refine r_iload_n 3 dL_law_525 rfl ?_
        refine r_iconst 1 dL_law_526 (by decide) ?_
        refine r_iadd dL_law_527 ?_
        obtain ⟨xq110, exq110, hm⟩ := am_bs hm
        refine r_sld exq110 dL_law_528 ?_
        refine r_aload_n 0 dL_law_529 rfl ?_
        refine r_iload_n 3 dL_law_530 rfl ?_
        refine r_iconst 2 dL_law_531 (by decide) ?_
        refine r_iadd dL_law_532 ?_
        obtain ⟨xq111, exq111, hm⟩ := am_bs hm
        refine r_sld exq111 dL_law_533 ?_
        refine r_aload_n 0 dL_law_534 rfl ?_
        refine r_iload_n 3 dL_law_535 rfl ?_
        refine r_iconst 3 dL_law_536 (by decide) ?_
        refine r_iadd dL_law_537 ?_
        obtain ⟨xq112, exq112, hm⟩ := am_bs hm
        refine r_sld exq112 dL_law_538 ?_
        obtain ⟨⟨xq113, hq114⟩, exq113, hm⟩ := am_bs hm
        try dsimp only at hm
        refine r_cV1 [.int xq110, .int xq111, .int xq112] (ct_X6_side l exq113) vm_L_70 (cs_X6_side exq113) (by decide) ⟨rfl, rfl⟩ rfl (Nat.le_of_ble_eq_true rfl) dL_law_539 ?_
        refine r_aload_n 2 dL_law_542 rfl ?_
        refine r_aload_n 0 dL_law_543 rfl ?_
        refine r_iload_n 3 dL_law_544 rfl ?_
        refine r_iconst 1 dL_law_545 (by decide) ?_
        refine r_iadd dL_law_546 ?_
        obtain ⟨xq116, exq116, hm⟩ := am_bs hm
        refine r_sld exq116 dL_law_547 ?_
        refine r_aload_n 0 dL_law_548 rfl ?_
        refine r_iload_n 3 dL_law_549 rfl ?_
        refine r_iconst 2 dL_law_550 (by decide) ?_
        refine r_iadd dL_law_551 ?_
        obtain ⟨xq117, exq117, hm⟩ := am_bs hm
        refine r_sld exq117 dL_law_552 ?_
        refine r_aload_n 0 dL_law_553 rfl ?_
        refine r_iload_n 3 dL_law_554 rfl ?_
        refine r_iconst 3 dL_law_555 (by decide) ?_
        refine r_iadd dL_law_556 ?_
        obtain ⟨xq118, exq118, hm⟩ := am_bs hm
        refine r_sld exq118 dL_law_557 ?_
        obtain ⟨⟨xq119, hq120⟩, exq119, hm⟩ := am_bs hm
        try dsimp only at hm
        refine r_cV1 [.int xq116, .int xq117, .int xq118] (ct_X7_side l exq119) vm_L_73 (cs_X7_side exq119) (by decide) ⟨rfl, rfl⟩ rfl (Nat.le_of_ble_eq_true rfl) dL_law_558 ?_
        refine r_icmp_eq 1134 dL_law_561 (by decide) (fun q => ?_) (fun q => ?_)
        · rw [if_pos q] at hm
          refine r_inc 6 3 [(3, .int (a3 + 6)), (0, .ref am_sc), (1, .ref a1), (2, .ref a2)] dL_law_1134 (by decide) rfl (by decide) rfl ?_
          refine r_goto 18 dL_law_1137 (by decide) ?_
          exact r_lv [1, 2, 3, 0] _ rfl (ih (a3 + 6) hq120 _ hm kE kR)
        · rw [if_neg q] at hm
          refine r_iconst 0 dL_law_564 (by decide) ?_
          cases hm
          exact r_zreturn false dL_law_565 rfl (by decide) (kR _ rfl)
      rw [if_neg q13] at hm
      by_cases q14 : (xq1 &&& 31) = 14
      · rw [if_pos q14] at hm
        refine r_tsw 566 dL_law_33 (Or.inl ⟨by rw [q14]; decide, by rw [q14]; decide⟩) ?_
        refine r_aload_n 1 dL_law_566 rfl ?_
        refine r_aload_n 0 dL_law_567 rfl ?_
        refine r_iload_n 3 dL_law_568 rfl ?_
        refine r_iconst 1 dL_law_569 (by decide) ?_
        refine r_iadd dL_law_570 ?_
        obtain ⟨xq122, exq122, hm⟩ := am_bs hm
        refine r_sld exq122 dL_law_571 ?_
        obtain ⟨⟨xq123, hq124⟩, exq123, hm⟩ := am_bs hm
        try dsimp only at hm
        refine r_cV1 [.int xq122] (ct_X6_work l exq123) vm_L_74 (cs_X6_work exq123) (by decide) ⟨rfl, rfl⟩ rfl (Nat.le_of_ble_eq_true rfl) dL_law_572 ?_
        refine r_aload_n 2 dL_law_575 rfl ?_
        refine r_aload_n 0 dL_law_576 rfl ?_
        refine r_iload_n 3 dL_law_577 rfl ?_
        refine r_iconst 1 dL_law_578 (by decide) ?_
        refine r_iadd dL_law_579 ?_
        obtain ⟨xq126, exq126, hm⟩ := am_bs hm
        refine r_sld exq126 dL_law_580 ?_
        obtain ⟨⟨xq127, hq128⟩, exq127, hm⟩ := am_bs hm
        try dsimp only at hm
        refine r_cV1 [.int xq126] (ct_X7_work l exq127) vm_L_77 (cs_X7_work exq127) (by decide) ⟨rfl, rfl⟩ rfl (Nat.le_of_ble_eq_true rfl) dL_law_581 ?_
        refine r_icmp_eq 1134 dL_law_584 (by decide) (fun q => ?_) (fun q => ?_)
        · rw [if_pos q] at hm
          refine r_inc 6 3 [(3, .int (a3 + 6)), (0, .ref am_sc), (1, .ref a1), (2, .ref a2)] dL_law_1134 (by decide) rfl (by decide) rfl ?_
          refine r_goto 18 dL_law_1137 (by decide) ?_
          exact r_lv [1, 2, 3, 0] _ rfl (ih (a3 + 6) hq128 _ hm kE kR)
        · rw [if_neg q] at hm
          refine r_iconst 0 dL_law_587 (by decide) ?_
          cases hm
          exact r_zreturn false dL_law_588 rfl (by decide) (kR _ rfl)
      rw [if_neg q14] at hm
      by_cases q15 : (xq1 &&& 31) = 15
      · rw [if_pos q15] at hm
        refine r_tsw 589 dL_law_33 (Or.inl ⟨by rw [q15]; decide, by rw [q15]; decide⟩) ?_
        refine r_aload_n 1 dL_law_589 rfl ?_
        refine r_aload_n 0 dL_law_590 rfl ?_
        refine r_iload_n 3 dL_law_591 rfl ?_
        refine r_iconst 1 dL_law_592 (by decide) ?_
        refine r_iadd dL_law_593 ?_
        obtain ⟨xq130, exq130, hm⟩ := am_bs hm
        refine r_sld exq130 dL_law_594 ?_
        refine r_aload_n 0 dL_law_595 rfl ?_
        refine r_iload_n 3 dL_law_596 rfl ?_
        refine r_iconst 2 dL_law_597 (by decide) ?_
        refine r_iadd dL_law_598 ?_
        obtain ⟨xq131, exq131, hm⟩ := am_bs hm
        refine r_sld exq131 dL_law_599 ?_
        obtain ⟨⟨xq132, hq133⟩, exq132, hm⟩ := am_bs hm
        try dsimp only at hm
        refine r_cV1 [.int xq130, .int xq131] (ct_X6_when l exq132) vm_L_78 (cs_X6_when exq132) (by decide) ⟨rfl, rfl⟩ rfl (Nat.le_of_ble_eq_true rfl) dL_law_600 ?_
        refine r_aload_n 2 dL_law_603 rfl ?_
        refine r_aload_n 0 dL_law_604 rfl ?_
        refine r_iload_n 3 dL_law_605 rfl ?_
        refine r_iconst 1 dL_law_606 (by decide) ?_
        refine r_iadd dL_law_607 ?_
        obtain ⟨xq135, exq135, hm⟩ := am_bs hm
        refine r_sld exq135 dL_law_608 ?_
        refine r_aload_n 0 dL_law_609 rfl ?_
        refine r_iload_n 3 dL_law_610 rfl ?_
        refine r_iconst 2 dL_law_611 (by decide) ?_
        refine r_iadd dL_law_612 ?_
        obtain ⟨xq136, exq136, hm⟩ := am_bs hm
        refine r_sld exq136 dL_law_613 ?_
        obtain ⟨⟨xq137, hq138⟩, exq137, hm⟩ := am_bs hm
        try dsimp only at hm
        refine r_cV1 [.int xq135, .int xq136] (ct_X7_when l exq137) vm_L_81 (cs_X7_when exq137) (by decide) ⟨rfl, rfl⟩ rfl (Nat.le_of_ble_eq_true rfl) dL_law_614 ?_
        refine r_icmp_eq 1134 dL_law_617 (by decide) (fun q => ?_) (fun q => ?_)
        · rw [if_pos q] at hm
          refine r_inc 6 3 [(3, .int (a3 + 6)), (0, .ref am_sc), (1, .ref a1), (2, .ref a2)] dL_law_1134 (by decide) rfl (by decide) rfl ?_
          refine r_goto 18 dL_law_1137 (by decide) ?_
          exact r_lv [1, 2, 3, 0] _ rfl (ih (a3 + 6) hq138 _ hm kE kR)
        · rw [if_neg q] at hm
          refine r_iconst 0 dL_law_620 (by decide) ?_
          cases hm
          exact r_zreturn false dL_law_621 rfl (by decide) (kR _ rfl)
      rw [if_neg q15] at hm
      by_cases q16 : (xq1 &&& 31) = 16
      · rw [if_pos q16] at hm
        refine r_tsw 622 dL_law_33 (Or.inl ⟨by rw [q16]; decide, by rw [q16]; decide⟩) ?_
        refine r_aload_n 1 dL_law_622 rfl ?_
        refine r_aload_n 0 dL_law_623 rfl ?_
        refine r_iload_n 3 dL_law_624 rfl ?_
        refine r_iconst 1 dL_law_625 (by decide) ?_
        refine r_iadd dL_law_626 ?_
        obtain ⟨xq140, exq140, hm⟩ := am_bs hm
        refine r_sld exq140 dL_law_627 ?_
        obtain ⟨⟨xq141, hq142⟩, exq141, hm⟩ := am_bs hm
        try dsimp only at hm
        refine r_cV1 [.int xq140] (ct_X6_bridges l exq141) vm_L_82 (cs_X6_bridges exq141) (by decide) ⟨rfl, rfl⟩ rfl (Nat.le_of_ble_eq_true rfl) dL_law_628 ?_
        refine r_aload_n 2 dL_law_631 rfl ?_
        refine r_aload_n 0 dL_law_632 rfl ?_
        refine r_iload_n 3 dL_law_633 rfl ?_
        refine r_iconst 1 dL_law_634 (by decide) ?_
        refine r_iadd dL_law_635 ?_
        obtain ⟨xq144, exq144, hm⟩ := am_bs hm
        refine r_sld exq144 dL_law_636 ?_
        obtain ⟨⟨xq145, hq146⟩, exq145, hm⟩ := am_bs hm
        try dsimp only at hm
        refine r_cV1 [.int xq144] (ct_X7_bridges l exq145) vm_L_85 (cs_X7_bridges exq145) (by decide) ⟨rfl, rfl⟩ rfl (Nat.le_of_ble_eq_true rfl) dL_law_637 ?_
        refine r_icmp_eq 1134 dL_law_640 (by decide) (fun q => ?_) (fun q => ?_)
        · rw [if_pos q] at hm
          refine r_inc 6 3 [(3, .int (a3 + 6)), (0, .ref am_sc), (1, .ref a1), (2, .ref a2)] dL_law_1134 (by decide) rfl (by decide) rfl ?_
          refine r_goto 18 dL_law_1137 (by decide) ?_
          exact r_lv [1, 2, 3, 0] _ rfl (ih (a3 + 6) hq146 _ hm kE kR)
        · rw [if_neg q] at hm
          refine r_iconst 0 dL_law_643 (by decide) ?_
          cases hm
          exact r_zreturn false dL_law_644 rfl (by decide) (kR _ rfl)
      rw [if_neg q16] at hm
      by_cases q17 : (xq1 &&& 31) = 17
      · rw [if_pos q17] at hm
        refine r_tsw 645 dL_law_33 (Or.inl ⟨by rw [q17]; decide, by rw [q17]; decide⟩) ?_
        refine r_aload_n 1 dL_law_645 rfl ?_
        refine r_aload_n 0 dL_law_646 rfl ?_
        refine r_iload_n 3 dL_law_647 rfl ?_
        refine r_iconst 1 dL_law_648 (by decide) ?_
        refine r_iadd dL_law_649 ?_
        obtain ⟨xq148, exq148, hm⟩ := am_bs hm
        refine r_sld exq148 dL_law_650 ?_
        refine r_aload_n 0 dL_law_651 rfl ?_
        refine r_iload_n 3 dL_law_652 rfl ?_
        refine r_iconst 2 dL_law_653 (by decide) ?_
        refine r_iadd dL_law_654 ?_
        obtain ⟨xq149, exq149, hm⟩ := am_bs hm
        refine r_sld exq149 dL_law_655 ?_
        refine r_aload_n 0 dL_law_656 rfl ?_
        refine r_iload_n 3 dL_law_657 rfl ?_
        refine r_iconst 3 dL_law_658 (by decide) ?_
        refine r_iadd dL_law_659 ?_
        obtain ⟨xq150, exq150, hm⟩ := am_bs hm
        refine r_sld exq150 dL_law_660 ?_
        refine r_aload_n 0 dL_law_661 rfl ?_
        refine r_iload_n 3 dL_law_662 rfl ?_
        refine r_iconst 4 dL_law_663 (by decide) ?_
        refine r_iadd dL_law_664 ?_
        obtain ⟨xq151, exq151, hm⟩ := am_bs hm
        refine r_sld exq151 dL_law_665 ?_
        obtain ⟨⟨xq152, hq153⟩, exq152, hm⟩ := am_bs hm
        try dsimp only at hm
        refine r_cV1 [.int xq148, .int xq149, .int xq150, .int xq151] (ct_X6_least l exq152) vm_L_86 (cs_X6_least exq152) (by decide) ⟨rfl, rfl⟩ rfl (Nat.le_of_ble_eq_true rfl) dL_law_666 ?_
        refine r_aload_n 2 dL_law_669 rfl ?_
        refine r_aload_n 0 dL_law_670 rfl ?_
        refine r_iload_n 3 dL_law_671 rfl ?_
        refine r_iconst 1 dL_law_672 (by decide) ?_
        refine r_iadd dL_law_673 ?_
        obtain ⟨xq155, exq155, hm⟩ := am_bs hm
        refine r_sld exq155 dL_law_674 ?_
        refine r_aload_n 0 dL_law_675 rfl ?_
        refine r_iload_n 3 dL_law_676 rfl ?_
        refine r_iconst 2 dL_law_677 (by decide) ?_
        refine r_iadd dL_law_678 ?_
        obtain ⟨xq156, exq156, hm⟩ := am_bs hm
        refine r_sld exq156 dL_law_679 ?_
        refine r_aload_n 0 dL_law_680 rfl ?_
        refine r_iload_n 3 dL_law_681 rfl ?_
        refine r_iconst 3 dL_law_682 (by decide) ?_
        refine r_iadd dL_law_683 ?_
        obtain ⟨xq157, exq157, hm⟩ := am_bs hm
        refine r_sld exq157 dL_law_684 ?_
        refine r_aload_n 0 dL_law_685 rfl ?_
        refine r_iload_n 3 dL_law_686 rfl ?_
        refine r_iconst 4 dL_law_687 (by decide) ?_
        refine r_iadd dL_law_688 ?_
        obtain ⟨xq158, exq158, hm⟩ := am_bs hm
        refine r_sld exq158 dL_law_689 ?_
        obtain ⟨⟨xq159, hq160⟩, exq159, hm⟩ := am_bs hm
        try dsimp only at hm
        refine r_cV1 [.int xq155, .int xq156, .int xq157, .int xq158] (ct_X7_least l exq159) vm_L_89 (cs_X7_least exq159) (by decide) ⟨rfl, rfl⟩ rfl (Nat.le_of_ble_eq_true rfl) dL_law_690 ?_
        refine r_icmp_eq 1134 dL_law_693 (by decide) (fun q => ?_) (fun q => ?_)
        · rw [if_pos q] at hm
          refine r_inc 6 3 [(3, .int (a3 + 6)), (0, .ref am_sc), (1, .ref a1), (2, .ref a2)] dL_law_1134 (by decide) rfl (by decide) rfl ?_
          refine r_goto 18 dL_law_1137 (by decide) ?_
          exact r_lv [1, 2, 3, 0] _ rfl (ih (a3 + 6) hq160 _ hm kE kR)
        · rw [if_neg q] at hm
          refine r_iconst 0 dL_law_696 (by decide) ?_
          cases hm
          exact r_zreturn false dL_law_697 rfl (by decide) (kR _ rfl)
      rw [if_neg q17] at hm
      by_cases q18 : (xq1 &&& 31) = 18
      · rw [if_pos q18] at hm
        refine r_tsw 698 dL_law_33 (Or.inl ⟨by rw [q18]; decide, by rw [q18]; decide⟩) ?_
        refine r_aload_n 1 dL_law_698 rfl ?_
        refine r_aload_n 0 dL_law_699 rfl ?_
        refine r_iload_n 3 dL_law_700 rfl ?_
        refine r_iconst 1 dL_law_701 (by decide) ?_
        refine r_iadd dL_law_702 ?_
        obtain ⟨xq162, exq162, hm⟩ := am_bs hm
        refine r_sld exq162 dL_law_703 ?_
        refine r_aload_n 0 dL_law_704 rfl ?_
        refine r_iload_n 3 dL_law_705 rfl ?_
        refine r_iconst 2 dL_law_706 (by decide) ?_
        refine r_iadd dL_law_707 ?_
        obtain ⟨xq163, exq163, hm⟩ := am_bs hm
        refine r_sld exq163 dL_law_708 ?_
        refine r_i2l dL_law_709 ?_
        refine r_bipush 32 dL_law_710 (by decide) ?_
        refine r_lshl dL_law_712 ?_
        refine r_aload_n 0 dL_law_713 rfl ?_
        refine r_iload_n 3 dL_law_714 rfl ?_
        refine r_iconst 3 dL_law_715 (by decide) ?_
        refine r_iadd dL_law_716 ?_
        obtain ⟨xq164, exq164, hm⟩ := am_bs hm
        refine r_sld exq164 dL_law_717 ?_
        refine r_i2l dL_law_718 ?_
        refine r_ldc2 (v := 4294967295) kw_L_90 dL_law_719 ?_
        refine r_land dL_law_722 ?_
        refine r_lor dL_law_723 ?_
        obtain ⟨⟨xq165, hq166⟩, exq165, hm⟩ := am_bs hm
        try dsimp only at hm
        refine r_cV1 [.int xq162, .long ((((xq163 : Int32).toInt64) <<< ((32 : Int32).toInt64 &&& 63)) ||| (((xq164 : Int32).toInt64) &&& 4294967295))] (ct_X6_judge l exq165) vm_L_92 (cs_X6_judge exq165) (by decide) ⟨rfl, rfl⟩ rfl (Nat.le_of_ble_eq_true rfl) dL_law_724 ?_
        refine r_aload_n 2 dL_law_727 rfl ?_
        refine r_aload_n 0 dL_law_728 rfl ?_
        refine r_iload_n 3 dL_law_729 rfl ?_
        refine r_iconst 1 dL_law_730 (by decide) ?_
        refine r_iadd dL_law_731 ?_
        obtain ⟨xq168, exq168, hm⟩ := am_bs hm
        refine r_sld exq168 dL_law_732 ?_
        refine r_aload_n 0 dL_law_733 rfl ?_
        refine r_iload_n 3 dL_law_734 rfl ?_
        refine r_iconst 2 dL_law_735 (by decide) ?_
        refine r_iadd dL_law_736 ?_
        obtain ⟨xq169, exq169, hm⟩ := am_bs hm
        refine r_sld exq169 dL_law_737 ?_
        refine r_i2l dL_law_738 ?_
        refine r_bipush 32 dL_law_739 (by decide) ?_
        refine r_lshl dL_law_741 ?_
        refine r_aload_n 0 dL_law_742 rfl ?_
        refine r_iload_n 3 dL_law_743 rfl ?_
        refine r_iconst 3 dL_law_744 (by decide) ?_
        refine r_iadd dL_law_745 ?_
        obtain ⟨xq170, exq170, hm⟩ := am_bs hm
        refine r_sld exq170 dL_law_746 ?_
        refine r_i2l dL_law_747 ?_
        refine r_ldc2 (v := 4294967295) kw_L_90 dL_law_748 ?_
        refine r_land dL_law_751 ?_
        refine r_lor dL_law_752 ?_
        obtain ⟨⟨xq171, hq172⟩, exq171, hm⟩ := am_bs hm
        try dsimp only at hm
        refine r_cV1 [.int xq168, .long ((((xq169 : Int32).toInt64) <<< ((32 : Int32).toInt64 &&& 63)) ||| (((xq170 : Int32).toInt64) &&& 4294967295))] (ct_X7_judge l exq171) vm_L_96 (cs_X7_judge exq171) (by decide) ⟨rfl, rfl⟩ rfl (Nat.le_of_ble_eq_true rfl) dL_law_753 ?_
        refine r_icmp_eq 1134 dL_law_756 (by decide) (fun q => ?_) (fun q => ?_)
        · rw [if_pos q] at hm
          refine r_inc 6 3 [(3, .int (a3 + 6)), (0, .ref am_sc), (1, .ref a1), (2, .ref a2)] dL_law_1134 (by decide) rfl (by decide) rfl ?_
          refine r_goto 18 dL_law_1137 (by decide) ?_
          exact r_lv [1, 2, 3, 0] _ rfl (ih (a3 + 6) hq172 _ hm kE kR)
        · rw [if_neg q] at hm
          refine r_iconst 0 dL_law_759 (by decide) ?_
          cases hm
          exact r_zreturn false dL_law_760 rfl (by decide) (kR _ rfl)
      rw [if_neg q18] at hm
      by_cases q19 : (xq1 &&& 31) = 19
      · rw [if_pos q19] at hm
        refine r_tsw 761 dL_law_33 (Or.inl ⟨by rw [q19]; decide, by rw [q19]; decide⟩) ?_
        refine r_aload_n 1 dL_law_761 rfl ?_
        refine r_aload_n 0 dL_law_762 rfl ?_
        refine r_iload_n 3 dL_law_763 rfl ?_
        refine r_iconst 1 dL_law_764 (by decide) ?_
        refine r_iadd dL_law_765 ?_
        obtain ⟨xq174, exq174, hm⟩ := am_bs hm
        refine r_sld exq174 dL_law_766 ?_
        refine r_aload_n 0 dL_law_767 rfl ?_
        refine r_iload_n 3 dL_law_768 rfl ?_
        refine r_iconst 2 dL_law_769 (by decide) ?_
        refine r_iadd dL_law_770 ?_
        obtain ⟨xq175, exq175, hm⟩ := am_bs hm
        refine r_sld exq175 dL_law_771 ?_
        refine r_aload_n 0 dL_law_772 rfl ?_
        refine r_iload_n 3 dL_law_773 rfl ?_
        refine r_iconst 3 dL_law_774 (by decide) ?_
        refine r_iadd dL_law_775 ?_
        obtain ⟨xq176, exq176, hm⟩ := am_bs hm
        refine r_sld exq176 dL_law_776 ?_
        refine r_aload_n 0 dL_law_777 rfl ?_
        refine r_iload_n 3 dL_law_778 rfl ?_
        refine r_iconst 4 dL_law_779 (by decide) ?_
        refine r_iadd dL_law_780 ?_
        obtain ⟨xq177, exq177, hm⟩ := am_bs hm
        refine r_sld exq177 dL_law_781 ?_
        obtain ⟨⟨xq178, hq179⟩, exq178, hm⟩ := am_bs hm
        try dsimp only at hm
        refine r_cV1 [.int xq174, .int xq175, .int xq176, .int xq177] (ct_X6_see l exq178) vm_L_97 (cs_X6_see exq178) (by decide) ⟨rfl, rfl⟩ rfl (Nat.le_of_ble_eq_true rfl) dL_law_782 ?_
        refine r_aload_n 2 dL_law_785 rfl ?_
        refine r_aload_n 0 dL_law_786 rfl ?_
        refine r_iload_n 3 dL_law_787 rfl ?_
        refine r_iconst 1 dL_law_788 (by decide) ?_
        refine r_iadd dL_law_789 ?_
        obtain ⟨xq181, exq181, hm⟩ := am_bs hm
        refine r_sld exq181 dL_law_790 ?_
        refine r_aload_n 0 dL_law_791 rfl ?_
        refine r_iload_n 3 dL_law_792 rfl ?_
        refine r_iconst 2 dL_law_793 (by decide) ?_
        refine r_iadd dL_law_794 ?_
        obtain ⟨xq182, exq182, hm⟩ := am_bs hm
        refine r_sld exq182 dL_law_795 ?_
        refine r_aload_n 0 dL_law_796 rfl ?_
        refine r_iload_n 3 dL_law_797 rfl ?_
        refine r_iconst 3 dL_law_798 (by decide) ?_
        refine r_iadd dL_law_799 ?_
        obtain ⟨xq183, exq183, hm⟩ := am_bs hm
        refine r_sld exq183 dL_law_800 ?_
        refine r_aload_n 0 dL_law_801 rfl ?_
        refine r_iload_n 3 dL_law_802 rfl ?_
        refine r_iconst 4 dL_law_803 (by decide) ?_
        refine r_iadd dL_law_804 ?_
        obtain ⟨xq184, exq184, hm⟩ := am_bs hm
        refine r_sld exq184 dL_law_805 ?_
        obtain ⟨⟨xq185, hq186⟩, exq185, hm⟩ := am_bs hm
        try dsimp only at hm
        refine r_cV1 [.int xq181, .int xq182, .int xq183, .int xq184] (ct_X7_see l exq185) vm_L_100 (cs_X7_see exq185) (by decide) ⟨rfl, rfl⟩ rfl (Nat.le_of_ble_eq_true rfl) dL_law_806 ?_
        refine r_icmp_eq 1134 dL_law_809 (by decide) (fun q => ?_) (fun q => ?_)
        · rw [if_pos q] at hm
          refine r_inc 6 3 [(3, .int (a3 + 6)), (0, .ref am_sc), (1, .ref a1), (2, .ref a2)] dL_law_1134 (by decide) rfl (by decide) rfl ?_
          refine r_goto 18 dL_law_1137 (by decide) ?_
          exact r_lv [1, 2, 3, 0] _ rfl (ih (a3 + 6) hq186 _ hm kE kR)
        · rw [if_neg q] at hm
          refine r_iconst 0 dL_law_812 (by decide) ?_
          cases hm
          exact r_zreturn false dL_law_813 rfl (by decide) (kR _ rfl)
      rw [if_neg q19] at hm
      by_cases q20 : (xq1 &&& 31) = 20
      · rw [if_pos q20] at hm
        refine r_tsw 814 dL_law_33 (Or.inl ⟨by rw [q20]; decide, by rw [q20]; decide⟩) ?_
        refine r_aload_n 1 dL_law_814 rfl ?_
        obtain ⟨⟨xq188, hq189⟩, exq188, hm⟩ := am_bs hm
        try dsimp only at hm
        refine r_cV1 [] (ct_X6_unsee l exq188) vm_L_101 (cs_X6_unsee exq188) (by decide) ⟨rfl, rfl⟩ rfl (Nat.le_of_ble_eq_true rfl) dL_law_815 ?_
        refine r_aload_n 2 dL_law_818 rfl ?_
        obtain ⟨⟨xq191, hq192⟩, exq191, hm⟩ := am_bs hm
        try dsimp only at hm
        refine r_cV1 [] (ct_X7_unsee l exq191) vm_L_104 (cs_X7_unsee exq191) (by decide) ⟨rfl, rfl⟩ rfl (Nat.le_of_ble_eq_true rfl) dL_law_819 ?_
        refine r_icmp_eq 1134 dL_law_822 (by decide) (fun q => ?_) (fun q => ?_)
        · rw [if_pos q] at hm
          refine r_inc 6 3 [(3, .int (a3 + 6)), (0, .ref am_sc), (1, .ref a1), (2, .ref a2)] dL_law_1134 (by decide) rfl (by decide) rfl ?_
          refine r_goto 18 dL_law_1137 (by decide) ?_
          exact r_lv [1, 2, 3, 0] _ rfl (ih (a3 + 6) hq192 _ hm kE kR)
        · rw [if_neg q] at hm
          refine r_iconst 0 dL_law_825 (by decide) ?_
          cases hm
          exact r_zreturn false dL_law_826 rfl (by decide) (kR _ rfl)
      rw [if_neg q20] at hm
      by_cases q21 : (xq1 &&& 31) = 21
      · rw [if_pos q21] at hm
        refine r_tsw 827 dL_law_33 (Or.inl ⟨by rw [q21]; decide, by rw [q21]; decide⟩) ?_
        refine r_aload_n 1 dL_law_827 rfl ?_
        refine r_aload_n 0 dL_law_828 rfl ?_
        refine r_iload_n 3 dL_law_829 rfl ?_
        refine r_iconst 1 dL_law_830 (by decide) ?_
        refine r_iadd dL_law_831 ?_
        obtain ⟨xq194, exq194, hm⟩ := am_bs hm
        refine r_sld exq194 dL_law_832 ?_
        obtain ⟨⟨xq195, hq196⟩, exq195, hm⟩ := am_bs hm
        try dsimp only at hm
        refine r_cV1 [.int xq194] (ct_X6_missing l exq195) vm_L_105 (cs_X6_missing exq195) (by decide) ⟨rfl, rfl⟩ rfl (Nat.le_of_ble_eq_true rfl) dL_law_833 ?_
        refine r_aload_n 2 dL_law_836 rfl ?_
        refine r_aload_n 0 dL_law_837 rfl ?_
        refine r_iload_n 3 dL_law_838 rfl ?_
        refine r_iconst 1 dL_law_839 (by decide) ?_
        refine r_iadd dL_law_840 ?_
        obtain ⟨xq198, exq198, hm⟩ := am_bs hm
        refine r_sld exq198 dL_law_841 ?_
        obtain ⟨⟨xq199, hq200⟩, exq199, hm⟩ := am_bs hm
        try dsimp only at hm
        refine r_cV1 [.int xq198] (ct_X7_missing l exq199) vm_L_108 (cs_X7_missing exq199) (by decide) ⟨rfl, rfl⟩ rfl (Nat.le_of_ble_eq_true rfl) dL_law_842 ?_
        refine r_icmp_eq 1134 dL_law_845 (by decide) (fun q => ?_) (fun q => ?_)
        · rw [if_pos q] at hm
          refine r_inc 6 3 [(3, .int (a3 + 6)), (0, .ref am_sc), (1, .ref a1), (2, .ref a2)] dL_law_1134 (by decide) rfl (by decide) rfl ?_
          refine r_goto 18 dL_law_1137 (by decide) ?_
          exact r_lv [1, 2, 3, 0] _ rfl (ih (a3 + 6) hq200 _ hm kE kR)
        · rw [if_neg q] at hm
          refine r_iconst 0 dL_law_848 (by decide) ?_
          cases hm
          exact r_zreturn false dL_law_849 rfl (by decide) (kR _ rfl)
      rw [if_neg q21] at hm
      by_cases q22 : (xq1 &&& 31) = 22
      · rw [if_pos q22] at hm
        refine r_tsw 850 dL_law_33 (Or.inl ⟨by rw [q22]; decide, by rw [q22]; decide⟩) ?_
        refine r_aload_n 1 dL_law_850 rfl ?_
        refine r_aload_n 0 dL_law_851 rfl ?_
        refine r_iload_n 3 dL_law_852 rfl ?_
        refine r_iconst 1 dL_law_853 (by decide) ?_
        refine r_iadd dL_law_854 ?_
        obtain ⟨xq202, exq202, hm⟩ := am_bs hm
        refine r_sld exq202 dL_law_855 ?_
        refine r_aload_n 0 dL_law_856 rfl ?_
        refine r_iload_n 3 dL_law_857 rfl ?_
        refine r_iconst 2 dL_law_858 (by decide) ?_
        refine r_iadd dL_law_859 ?_
        obtain ⟨xq203, exq203, hm⟩ := am_bs hm
        refine r_sld exq203 dL_law_860 ?_
        refine r_aload_n 0 dL_law_861 rfl ?_
        refine r_iload_n 3 dL_law_862 rfl ?_
        refine r_iconst 3 dL_law_863 (by decide) ?_
        refine r_iadd dL_law_864 ?_
        obtain ⟨xq204, exq204, hm⟩ := am_bs hm
        refine r_sld exq204 dL_law_865 ?_
        obtain ⟨jq205, hw, hm⟩ := am_bs hm
        try dsimp only at hm
        have HJ : am_R l yL_law cL_law 4 (some .boolean) room_1 (am_XL b L xs) 134 2076 874 [(0, .ref am_sc), (1, .ref a1), (2, .ref a2), (3, .int a3)] [.int (am_b jq205), .int xq203, .int xq202, .ref a1] h K := by
          obtain ⟨⟨xq206, hq207⟩, exq206, hm⟩ := am_bs hm
          try dsimp only at hm
          refine r_cV1 [.int xq202, .int xq203, .int (am_b jq205)] (ct_X6_share l exq206) vm_L_109 (cs_X6_share exq206) (by decide) ⟨rfl, rfl⟩ rfl (Nat.le_of_ble_eq_true rfl) dL_law_874 ?_
          refine r_aload_n 2 dL_law_877 rfl ?_
          refine r_aload_n 0 dL_law_878 rfl ?_
          refine r_iload_n 3 dL_law_879 rfl ?_
          refine r_iconst 1 dL_law_880 (by decide) ?_
          refine r_iadd dL_law_881 ?_
          obtain ⟨xq209, exq209, hm⟩ := am_bs hm
          refine r_sld exq209 dL_law_882 ?_
          refine r_aload_n 0 dL_law_883 rfl ?_
          refine r_iload_n 3 dL_law_884 rfl ?_
          refine r_iconst 2 dL_law_885 (by decide) ?_
          refine r_iadd dL_law_886 ?_
          obtain ⟨xq210, exq210, hm⟩ := am_bs hm
          refine r_sld exq210 dL_law_887 ?_
          refine r_aload_n 0 dL_law_888 rfl ?_
          refine r_iload_n 3 dL_law_889 rfl ?_
          refine r_iconst 3 dL_law_890 (by decide) ?_
          refine r_iadd dL_law_891 ?_
          obtain ⟨xq211, exq211, hm⟩ := am_bs hm
          refine r_sld exq211 dL_law_892 ?_
          obtain ⟨jq212, hw, hm⟩ := am_bs hm
          try dsimp only at hm
          have HJ : am_R l yL_law cL_law 4 (some .boolean) room_1 (am_XL b L xs) 134 2076 901 [(0, .ref am_sc), (1, .ref a1), (2, .ref a2), (3, .int a3)] [.int (am_b jq212), .int xq210, .int xq209, .ref a2, .int xq206] hq207 K := by
            obtain ⟨⟨xq213, hq214⟩, exq213, hm⟩ := am_bs hm
            try dsimp only at hm
            refine r_cV1 [.int xq209, .int xq210, .int (am_b jq212)] (ct_X7_share l exq213) vm_L_113 (cs_X7_share exq213) (by decide) ⟨rfl, rfl⟩ rfl (Nat.le_of_ble_eq_true rfl) dL_law_901 ?_
            refine r_icmp_eq 1134 dL_law_904 (by decide) (fun q => ?_) (fun q => ?_)
            · rw [if_pos q] at hm
              refine r_inc 6 3 [(3, .int (a3 + 6)), (0, .ref am_sc), (1, .ref a1), (2, .ref a2)] dL_law_1134 (by decide) rfl (by decide) rfl ?_
              refine r_goto 18 dL_law_1137 (by decide) ?_
              exact r_lv [1, 2, 3, 0] _ rfl (ih (a3 + 6) hq214 _ hm kE kR)
            · rw [if_neg q] at hm
              refine r_iconst 0 dL_law_907 (by decide) ?_
              cases hm
              exact r_zreturn false dL_law_908 rfl (by decide) (kR _ rfl)
          clear hm
          have hm := hw
          clear hw
          refine r_if_eq 900 dL_law_893 (by decide) (fun q => ?_) (fun q => ?_)
          · rw [if_pos q] at hm
            refine r_iconst 0 dL_law_900 (by decide) ?_
            cases hm
            exact r_lv [0, 1, 2, 3] _ rfl HJ
          · rw [if_neg q] at hm
            refine r_iconst 1 dL_law_896 (by decide) ?_
            refine r_goto 901 dL_law_897 (by decide) ?_
            cases hm
            exact r_lv [0, 1, 2, 3] _ rfl HJ
        clear hm
        have hm := hw
        clear hw
        refine r_if_eq 873 dL_law_866 (by decide) (fun q => ?_) (fun q => ?_)
        · rw [if_pos q] at hm
          refine r_iconst 0 dL_law_873 (by decide) ?_
          cases hm
          exact r_lv [0, 1, 2, 3] _ rfl HJ
        · rw [if_neg q] at hm
          refine r_iconst 1 dL_law_869 (by decide) ?_
          refine r_goto 874 dL_law_870 (by decide) ?_
          cases hm
          exact r_lv [0, 1, 2, 3] _ rfl HJ
      rw [if_neg q22] at hm
      by_cases q23 : (xq1 &&& 31) = 23
      · rw [if_pos q23] at hm
        refine r_tsw 909 dL_law_33 (Or.inl ⟨by rw [q23]; decide, by rw [q23]; decide⟩) ?_
        refine r_aload_n 1 dL_law_909 rfl ?_
        refine r_aload_n 0 dL_law_910 rfl ?_
        refine r_iload_n 3 dL_law_911 rfl ?_
        refine r_iconst 1 dL_law_912 (by decide) ?_
        refine r_iadd dL_law_913 ?_
        obtain ⟨xq216, exq216, hm⟩ := am_bs hm
        refine r_sld exq216 dL_law_914 ?_
        refine r_aload_n 0 dL_law_915 rfl ?_
        refine r_iload_n 3 dL_law_916 rfl ?_
        refine r_iconst 2 dL_law_917 (by decide) ?_
        refine r_iadd dL_law_918 ?_
        obtain ⟨xq217, exq217, hm⟩ := am_bs hm
        refine r_sld exq217 dL_law_919 ?_
        refine r_aload_n 0 dL_law_920 rfl ?_
        refine r_iload_n 3 dL_law_921 rfl ?_
        refine r_iconst 3 dL_law_922 (by decide) ?_
        refine r_iadd dL_law_923 ?_
        obtain ⟨xq218, exq218, hm⟩ := am_bs hm
        refine r_sld exq218 dL_law_924 ?_
        refine r_aload_n 0 dL_law_925 rfl ?_
        refine r_iload_n 3 dL_law_926 rfl ?_
        refine r_iconst 4 dL_law_927 (by decide) ?_
        refine r_iadd dL_law_928 ?_
        obtain ⟨xq219, exq219, hm⟩ := am_bs hm
        refine r_sld exq219 dL_law_929 ?_
        refine r_aload_n 0 dL_law_930 rfl ?_
        refine r_iload_n 3 dL_law_931 rfl ?_
        refine r_iconst 5 dL_law_932 (by decide) ?_
        refine r_iadd dL_law_933 ?_
        obtain ⟨xq220, exq220, hm⟩ := am_bs hm
        refine r_sld exq220 dL_law_934 ?_
        obtain ⟨jq221, hw, hm⟩ := am_bs hm
        try dsimp only at hm
        have HJ : am_R l yL_law cL_law 4 (some .boolean) room_1 (am_XL b L xs) 134 2076 943 [(0, .ref am_sc), (1, .ref a1), (2, .ref a2), (3, .int a3)] [.int (am_b jq221), .int xq219, .int xq218, .int xq217, .int xq216, .ref a1] h K := by
          obtain ⟨⟨xq222, hq223⟩, exq222, hm⟩ := am_bs hm
          try dsimp only at hm
          refine r_cV1 [.int xq216, .int xq217, .int xq218, .int xq219, .int (am_b jq221)] (ct_X6_fails l exq222) vm_L_114 (cs_X6_fails exq222) (by decide) ⟨rfl, rfl⟩ rfl (Nat.le_of_ble_eq_true rfl) dL_law_943 ?_
          refine r_aload_n 2 dL_law_946 rfl ?_
          refine r_aload_n 0 dL_law_947 rfl ?_
          refine r_iload_n 3 dL_law_948 rfl ?_
          refine r_iconst 1 dL_law_949 (by decide) ?_
          refine r_iadd dL_law_950 ?_
          obtain ⟨xq225, exq225, hm⟩ := am_bs hm
          refine r_sld exq225 dL_law_951 ?_
          refine r_aload_n 0 dL_law_952 rfl ?_
          refine r_iload_n 3 dL_law_953 rfl ?_
          refine r_iconst 2 dL_law_954 (by decide) ?_
          refine r_iadd dL_law_955 ?_
          obtain ⟨xq226, exq226, hm⟩ := am_bs hm
          refine r_sld exq226 dL_law_956 ?_
          refine r_aload_n 0 dL_law_957 rfl ?_
          refine r_iload_n 3 dL_law_958 rfl ?_
          refine r_iconst 3 dL_law_959 (by decide) ?_
          refine r_iadd dL_law_960 ?_
          obtain ⟨xq227, exq227, hm⟩ := am_bs hm
          refine r_sld exq227 dL_law_961 ?_
          refine r_aload_n 0 dL_law_962 rfl ?_
          refine r_iload_n 3 dL_law_963 rfl ?_
          refine r_iconst 4 dL_law_964 (by decide) ?_
          refine r_iadd dL_law_965 ?_
          obtain ⟨xq228, exq228, hm⟩ := am_bs hm
          refine r_sld exq228 dL_law_966 ?_
          refine r_aload_n 0 dL_law_967 rfl ?_
          refine r_iload_n 3 dL_law_968 rfl ?_
          refine r_iconst 5 dL_law_969 (by decide) ?_
          refine r_iadd dL_law_970 ?_
          obtain ⟨xq229, exq229, hm⟩ := am_bs hm
          refine r_sld exq229 dL_law_971 ?_
          obtain ⟨jq230, hw, hm⟩ := am_bs hm
          try dsimp only at hm
          have HJ : am_R l yL_law cL_law 4 (some .boolean) room_1 (am_XL b L xs) 134 2076 980 [(0, .ref am_sc), (1, .ref a1), (2, .ref a2), (3, .int a3)] [.int (am_b jq230), .int xq228, .int xq227, .int xq226, .int xq225, .ref a2, .int xq222] hq223 K := by
            obtain ⟨⟨xq231, hq232⟩, exq231, hm⟩ := am_bs hm
            try dsimp only at hm
            refine r_cV1 [.int xq225, .int xq226, .int xq227, .int xq228, .int (am_b jq230)] (ct_X7_fails l exq231) vm_L_118 (cs_X7_fails exq231) (by decide) ⟨rfl, rfl⟩ rfl (Nat.le_of_ble_eq_true rfl) dL_law_980 ?_
            refine r_icmp_eq 1134 dL_law_983 (by decide) (fun q => ?_) (fun q => ?_)
            · rw [if_pos q] at hm
              refine r_inc 6 3 [(3, .int (a3 + 6)), (0, .ref am_sc), (1, .ref a1), (2, .ref a2)] dL_law_1134 (by decide) rfl (by decide) rfl ?_
              refine r_goto 18 dL_law_1137 (by decide) ?_
              exact r_lv [1, 2, 3, 0] _ rfl (ih (a3 + 6) hq232 _ hm kE kR)
            · rw [if_neg q] at hm
              refine r_iconst 0 dL_law_986 (by decide) ?_
              cases hm
              exact r_zreturn false dL_law_987 rfl (by decide) (kR _ rfl)
          clear hm
          have hm := hw
          clear hw
          refine r_if_eq 979 dL_law_972 (by decide) (fun q => ?_) (fun q => ?_)
          · rw [if_pos q] at hm
            refine r_iconst 0 dL_law_979 (by decide) ?_
            cases hm
            exact r_lv [0, 1, 2, 3] _ rfl HJ
          · rw [if_neg q] at hm
            refine r_iconst 1 dL_law_975 (by decide) ?_
            refine r_goto 980 dL_law_976 (by decide) ?_
            cases hm
            exact r_lv [0, 1, 2, 3] _ rfl HJ
        clear hm
        have hm := hw
        clear hw
        refine r_if_eq 942 dL_law_935 (by decide) (fun q => ?_) (fun q => ?_)
        · rw [if_pos q] at hm
          refine r_iconst 0 dL_law_942 (by decide) ?_
          cases hm
          exact r_lv [0, 1, 2, 3] _ rfl HJ
        · rw [if_neg q] at hm
          refine r_iconst 1 dL_law_938 (by decide) ?_
          refine r_goto 943 dL_law_939 (by decide) ?_
          cases hm
          exact r_lv [0, 1, 2, 3] _ rfl HJ
      rw [if_neg q23] at hm
      by_cases q24 : (xq1 &&& 31) = 24
      · rw [if_pos q24] at hm
        refine r_tsw 988 dL_law_33 (Or.inl ⟨by rw [q24]; decide, by rw [q24]; decide⟩) ?_
        refine r_aload_n 1 dL_law_988 rfl ?_
        refine r_aload_n 0 dL_law_989 rfl ?_
        refine r_iload_n 3 dL_law_990 rfl ?_
        refine r_iconst 1 dL_law_991 (by decide) ?_
        refine r_iadd dL_law_992 ?_
        obtain ⟨xq234, exq234, hm⟩ := am_bs hm
        refine r_sld exq234 dL_law_993 ?_
        refine r_i2l dL_law_994 ?_
        refine r_bipush 32 dL_law_995 (by decide) ?_
        refine r_lshl dL_law_997 ?_
        refine r_aload_n 0 dL_law_998 rfl ?_
        refine r_iload_n 3 dL_law_999 rfl ?_
        refine r_iconst 2 dL_law_1000 (by decide) ?_
        refine r_iadd dL_law_1001 ?_
        obtain ⟨xq235, exq235, hm⟩ := am_bs hm
        refine r_sld exq235 dL_law_1002 ?_
        refine r_i2l dL_law_1003 ?_
        refine r_ldc2 (v := 4294967295) kw_L_90 dL_law_1004 ?_
        refine r_land dL_law_1007 ?_
        refine r_lor dL_law_1008 ?_
        obtain ⟨⟨xq236, hq237⟩, exq236, hm⟩ := am_bs hm
        try dsimp only at hm
        refine r_cV1 [.long ((((xq234 : Int32).toInt64) <<< ((32 : Int32).toInt64 &&& 63)) ||| (((xq235 : Int32).toInt64) &&& 4294967295))] (ct_X6_seed l exq236) vm_L_119 (cs_X6_seed exq236) (by decide) ⟨rfl, rfl⟩ rfl (Nat.le_of_ble_eq_true rfl) dL_law_1009 ?_
        refine r_aload_n 2 dL_law_1012 rfl ?_
        refine r_aload_n 0 dL_law_1013 rfl ?_
        refine r_iload_n 3 dL_law_1014 rfl ?_
        refine r_iconst 1 dL_law_1015 (by decide) ?_
        refine r_iadd dL_law_1016 ?_
        obtain ⟨xq239, exq239, hm⟩ := am_bs hm
        refine r_sld exq239 dL_law_1017 ?_
        refine r_i2l dL_law_1018 ?_
        refine r_bipush 32 dL_law_1019 (by decide) ?_
        refine r_lshl dL_law_1021 ?_
        refine r_aload_n 0 dL_law_1022 rfl ?_
        refine r_iload_n 3 dL_law_1023 rfl ?_
        refine r_iconst 2 dL_law_1024 (by decide) ?_
        refine r_iadd dL_law_1025 ?_
        obtain ⟨xq240, exq240, hm⟩ := am_bs hm
        refine r_sld exq240 dL_law_1026 ?_
        refine r_i2l dL_law_1027 ?_
        refine r_ldc2 (v := 4294967295) kw_L_90 dL_law_1028 ?_
        refine r_land dL_law_1031 ?_
        refine r_lor dL_law_1032 ?_
        obtain ⟨⟨xq241, hq242⟩, exq241, hm⟩ := am_bs hm
        try dsimp only at hm
        refine r_cV1 [.long ((((xq239 : Int32).toInt64) <<< ((32 : Int32).toInt64 &&& 63)) ||| (((xq240 : Int32).toInt64) &&& 4294967295))] (ct_X7_seed l exq241) vm_L_123 (cs_X7_seed exq241) (by decide) ⟨rfl, rfl⟩ rfl (Nat.le_of_ble_eq_true rfl) dL_law_1033 ?_
        refine r_lcmp dL_law_1036 ?_
        refine r_if_eq 1134 dL_law_1037 (by decide) (fun q => ?_) (fun q => ?_)
        · rw [if_pos q] at hm
          refine r_inc 6 3 [(3, .int (a3 + 6)), (0, .ref am_sc), (1, .ref a1), (2, .ref a2)] dL_law_1134 (by decide) rfl (by decide) rfl ?_
          refine r_goto 18 dL_law_1137 (by decide) ?_
          exact r_lv [1, 2, 3, 0] _ rfl (ih (a3 + 6) hq242 _ hm kE kR)
        · rw [if_neg q] at hm
          refine r_iconst 0 dL_law_1040 (by decide) ?_
          cases hm
          exact r_zreturn false dL_law_1041 rfl (by decide) (kR _ rfl)
      rw [if_neg q24] at hm
      by_cases q25 : (xq1 &&& 31) = 25
      · rw [if_pos q25] at hm
        refine r_tsw 1042 dL_law_33 (Or.inl ⟨by rw [q25]; decide, by rw [q25]; decide⟩) ?_
        refine r_aload_n 1 dL_law_1042 rfl ?_
        refine r_aload_n 0 dL_law_1043 rfl ?_
        refine r_iload_n 3 dL_law_1044 rfl ?_
        refine r_iconst 1 dL_law_1045 (by decide) ?_
        refine r_iadd dL_law_1046 ?_
        obtain ⟨xq244, exq244, hm⟩ := am_bs hm
        refine r_sld exq244 dL_law_1047 ?_
        obtain ⟨⟨xq245, hq246⟩, exq245, hm⟩ := am_bs hm
        try dsimp only at hm
        refine r_cV1 [.int xq244] (ct_X6_drawn l exq245) vm_L_124 (cs_X6_drawn exq245) (by decide) ⟨rfl, rfl⟩ rfl (Nat.le_of_ble_eq_true rfl) dL_law_1048 ?_
        refine r_aload_n 2 dL_law_1051 rfl ?_
        refine r_aload_n 0 dL_law_1052 rfl ?_
        refine r_iload_n 3 dL_law_1053 rfl ?_
        refine r_iconst 1 dL_law_1054 (by decide) ?_
        refine r_iadd dL_law_1055 ?_
        obtain ⟨xq248, exq248, hm⟩ := am_bs hm
        refine r_sld exq248 dL_law_1056 ?_
        obtain ⟨⟨xq249, hq250⟩, exq249, hm⟩ := am_bs hm
        try dsimp only at hm
        refine r_cV1 [.int xq248] (ct_X7_drawn l exq249) vm_L_127 (cs_X7_drawn exq249) (by decide) ⟨rfl, rfl⟩ rfl (Nat.le_of_ble_eq_true rfl) dL_law_1057 ?_
        refine r_icmp_eq 1134 dL_law_1060 (by decide) (fun q => ?_) (fun q => ?_)
        · rw [if_pos q] at hm
          refine r_inc 6 3 [(3, .int (a3 + 6)), (0, .ref am_sc), (1, .ref a1), (2, .ref a2)] dL_law_1134 (by decide) rfl (by decide) rfl ?_
          refine r_goto 18 dL_law_1137 (by decide) ?_
          exact r_lv [1, 2, 3, 0] _ rfl (ih (a3 + 6) hq250 _ hm kE kR)
        · rw [if_neg q] at hm
          refine r_iconst 0 dL_law_1063 (by decide) ?_
          cases hm
          exact r_zreturn false dL_law_1064 rfl (by decide) (kR _ rfl)
      rw [if_neg q25] at hm
      by_cases q26 : (xq1 &&& 31) = 26
      · rw [if_pos q26] at hm
        refine r_tsw 1065 dL_law_33 (Or.inl ⟨by rw [q26]; decide, by rw [q26]; decide⟩) ?_
        refine r_aload_n 1 dL_law_1065 rfl ?_
        refine r_aload_n 0 dL_law_1066 rfl ?_
        refine r_iload_n 3 dL_law_1067 rfl ?_
        refine r_iconst 1 dL_law_1068 (by decide) ?_
        refine r_iadd dL_law_1069 ?_
        obtain ⟨xq252, exq252, hm⟩ := am_bs hm
        refine r_sld exq252 dL_law_1070 ?_
        obtain ⟨⟨xq253, hq254⟩, exq253, hm⟩ := am_bs hm
        try dsimp only at hm
        refine r_cV1 [.int xq252] (ct_X6_keep l exq253) vm_L_128 (cs_X6_keep exq253) (by decide) ⟨rfl, rfl⟩ rfl (Nat.le_of_ble_eq_true rfl) dL_law_1071 ?_
        refine r_aload_n 2 dL_law_1074 rfl ?_
        refine r_aload_n 0 dL_law_1075 rfl ?_
        refine r_iload_n 3 dL_law_1076 rfl ?_
        refine r_iconst 1 dL_law_1077 (by decide) ?_
        refine r_iadd dL_law_1078 ?_
        obtain ⟨xq256, exq256, hm⟩ := am_bs hm
        refine r_sld exq256 dL_law_1079 ?_
        obtain ⟨⟨xq257, hq258⟩, exq257, hm⟩ := am_bs hm
        try dsimp only at hm
        refine r_cV1 [.int xq256] (ct_X7_keep l exq257) vm_L_131 (cs_X7_keep exq257) (by decide) ⟨rfl, rfl⟩ rfl (Nat.le_of_ble_eq_true rfl) dL_law_1080 ?_
        refine r_icmp_eq 1134 dL_law_1083 (by decide) (fun q => ?_) (fun q => ?_)
        · rw [if_pos q] at hm
          refine r_inc 6 3 [(3, .int (a3 + 6)), (0, .ref am_sc), (1, .ref a1), (2, .ref a2)] dL_law_1134 (by decide) rfl (by decide) rfl ?_
          refine r_goto 18 dL_law_1137 (by decide) ?_
          exact r_lv [1, 2, 3, 0] _ rfl (ih (a3 + 6) hq258 _ hm kE kR)
        · rw [if_neg q] at hm
          refine r_iconst 0 dL_law_1086 (by decide) ?_
          cases hm
          exact r_zreturn false dL_law_1087 rfl (by decide) (kR _ rfl)
      rw [if_neg q26] at hm
      by_cases q27 : (xq1 &&& 31) = 27
      · rw [if_pos q27] at hm
        refine r_tsw 1088 dL_law_33 (Or.inl ⟨by rw [q27]; decide, by rw [q27]; decide⟩) ?_
        refine r_aload_n 1 dL_law_1088 rfl ?_
        refine r_aload_n 0 dL_law_1089 rfl ?_
        refine r_iload_n 3 dL_law_1090 rfl ?_
        refine r_iconst 1 dL_law_1091 (by decide) ?_
        refine r_iadd dL_law_1092 ?_
        obtain ⟨xq260, exq260, hm⟩ := am_bs hm
        refine r_sld exq260 dL_law_1093 ?_
        obtain ⟨⟨xq261, hq262⟩, exq261, hm⟩ := am_bs hm
        try dsimp only at hm
        refine r_cV1 [.int xq260] (ct_X6_again l exq261) vm_L_132 (cs_X6_again exq261) (by decide) ⟨rfl, rfl⟩ rfl (Nat.le_of_ble_eq_true rfl) dL_law_1094 ?_
        refine r_aload_n 2 dL_law_1097 rfl ?_
        refine r_aload_n 0 dL_law_1098 rfl ?_
        refine r_iload_n 3 dL_law_1099 rfl ?_
        refine r_iconst 1 dL_law_1100 (by decide) ?_
        refine r_iadd dL_law_1101 ?_
        obtain ⟨xq264, exq264, hm⟩ := am_bs hm
        refine r_sld exq264 dL_law_1102 ?_
        obtain ⟨⟨xq265, hq266⟩, exq265, hm⟩ := am_bs hm
        try dsimp only at hm
        refine r_cV1 [.int xq264] (ct_X7_again l exq265) vm_L_135 (cs_X7_again exq265) (by decide) ⟨rfl, rfl⟩ rfl (Nat.le_of_ble_eq_true rfl) dL_law_1103 ?_
        refine r_icmp_eq 1134 dL_law_1106 (by decide) (fun q => ?_) (fun q => ?_)
        · rw [if_pos q] at hm
          refine r_inc 6 3 [(3, .int (a3 + 6)), (0, .ref am_sc), (1, .ref a1), (2, .ref a2)] dL_law_1134 (by decide) rfl (by decide) rfl ?_
          refine r_goto 18 dL_law_1137 (by decide) ?_
          exact r_lv [1, 2, 3, 0] _ rfl (ih (a3 + 6) hq266 _ hm kE kR)
        · rw [if_neg q] at hm
          refine r_iconst 0 dL_law_1109 (by decide) ?_
          cases hm
          exact r_zreturn false dL_law_1110 rfl (by decide) (kR _ rfl)
      rw [if_neg q27] at hm
      by_cases q28 : (xq1 &&& 31) = 28
      · rw [if_pos q28] at hm
        refine r_tsw 1111 dL_law_33 (Or.inl ⟨by rw [q28]; decide, by rw [q28]; decide⟩) ?_
        refine r_aload_n 1 dL_law_1111 rfl ?_
        refine r_aload_n 0 dL_law_1112 rfl ?_
        refine r_iload_n 3 dL_law_1113 rfl ?_
        refine r_iconst 1 dL_law_1114 (by decide) ?_
        refine r_iadd dL_law_1115 ?_
        obtain ⟨xq268, exq268, hm⟩ := am_bs hm
        refine r_sld exq268 dL_law_1116 ?_
        obtain ⟨xq269, exq269, hm⟩ := am_bs hm
        refine r_cV1 [.int xq268] (ct_X6_count l exq269) vm_L_136 (cs_X6_count exq269) (by decide) ⟨rfl, rfl⟩ rfl (Nat.le_of_ble_eq_true rfl) dL_law_1117 ?_
        refine r_aload_n 2 dL_law_1120 rfl ?_
        refine r_aload_n 0 dL_law_1121 rfl ?_
        refine r_iload_n 3 dL_law_1122 rfl ?_
        refine r_iconst 1 dL_law_1123 (by decide) ?_
        refine r_iadd dL_law_1124 ?_
        obtain ⟨xq270, exq270, hm⟩ := am_bs hm
        refine r_sld exq270 dL_law_1125 ?_
        obtain ⟨xq271, exq271, hm⟩ := am_bs hm
        refine r_cV1 [.int xq270] (ct_X7_count l exq271) vm_L_139 (cs_X7_count exq271) (by decide) ⟨rfl, rfl⟩ rfl (Nat.le_of_ble_eq_true rfl) dL_law_1126 ?_
        refine r_icmp_eq 1134 dL_law_1129 (by decide) (fun q => ?_) (fun q => ?_)
        · rw [if_pos q] at hm
          refine r_inc 6 3 [(3, .int (a3 + 6)), (0, .ref am_sc), (1, .ref a1), (2, .ref a2)] dL_law_1134 (by decide) rfl (by decide) rfl ?_
          refine r_goto 18 dL_law_1137 (by decide) ?_
          exact r_lv [1, 2, 3, 0] _ rfl (ih (a3 + 6) h _ hm kE kR)
        · rw [if_neg q] at hm
          refine r_iconst 0 dL_law_1132 (by decide) ?_
          cases hm
          exact r_zreturn false dL_law_1133 rfl (by decide) (kR _ rfl)
      rw [if_neg q28] at hm
      refine r_tsw 1134 dL_law_33 (Or.inr ⟨by have e0 := lv_neT q0 (show (0 : Int32).toInt = 0 from by decide); have e1 := lv_neT q1 (show (1 : Int32).toInt = 1 from by decide); have e2 := lv_neT q2 (show (2 : Int32).toInt = 2 from by decide); have e3 := lv_neT q3 (show (3 : Int32).toInt = 3 from by decide); have e4 := lv_neT q4 (show (4 : Int32).toInt = 4 from by decide); have e5 := lv_neT q5 (show (5 : Int32).toInt = 5 from by decide); have e6 := lv_neT q6 (show (6 : Int32).toInt = 6 from by decide); have e7 := lv_neT q7 (show (7 : Int32).toInt = 7 from by decide); have e8 := lv_neT q8 (show (8 : Int32).toInt = 8 from by decide); have e9 := lv_neT q9 (show (9 : Int32).toInt = 9 from by decide); have e10 := lv_neT q10 (show (10 : Int32).toInt = 10 from by decide); have e11 := lv_neT q11 (show (11 : Int32).toInt = 11 from by decide); have e12 := lv_neT q12 (show (12 : Int32).toInt = 12 from by decide); have e13 := lv_neT q13 (show (13 : Int32).toInt = 13 from by decide); have e14 := lv_neT q14 (show (14 : Int32).toInt = 14 from by decide); have e15 := lv_neT q15 (show (15 : Int32).toInt = 15 from by decide); have e16 := lv_neT q16 (show (16 : Int32).toInt = 16 from by decide); have e17 := lv_neT q17 (show (17 : Int32).toInt = 17 from by decide); have e18 := lv_neT q18 (show (18 : Int32).toInt = 18 from by decide); have e19 := lv_neT q19 (show (19 : Int32).toInt = 19 from by decide); have e20 := lv_neT q20 (show (20 : Int32).toInt = 20 from by decide); have e21 := lv_neT q21 (show (21 : Int32).toInt = 21 from by decide); have e22 := lv_neT q22 (show (22 : Int32).toInt = 22 from by decide); have e23 := lv_neT q23 (show (23 : Int32).toInt = 23 from by decide); have e24 := lv_neT q24 (show (24 : Int32).toInt = 24 from by decide); have e25 := lv_neT q25 (show (25 : Int32).toInt = 25 from by decide); have e26 := lv_neT q26 (show (26 : Int32).toInt = 26 from by decide); have e27 := lv_neT q27 (show (27 : Int32).toInt = 27 from by decide); have e28 := lv_neT q28 (show (28 : Int32).toInt = 28 from by decide); omega, by decide⟩) ?_
      refine r_inc 6 3 [(3, .int (a3 + 6)), (0, .ref am_sc), (1, .ref a1), (2, .ref a2)] dL_law_1134 (by decide) rfl (by decide) rfl ?_
      refine r_goto 18 dL_law_1137 (by decide) ?_
      exact r_lv [1, 2, 3, 0] _ rfl (ih (a3 + 6) h _ hm kE kR)
def mi_L_law (f : Nat) (L : Nat) (xs : Nat → Int32) (h : am_H) : Option (Bool × am_H) :=
  Option.bind (am_rk [am_sc] h.1.length (h.1.length + 1)) fun uq1 =>
  Option.bind (some (am_nw h (6, 10))) fun hq2 =>
  Option.bind (mi_X6_init f hq2 h.1.length) fun hq4 =>
  Option.bind (am_rk [am_sc, h.1.length] hq2.1.length hq4.1.length) fun uq5 =>
  Option.bind (am_rk [h.1.length, am_sc] hq4.1.length (hq4.1.length + 1)) fun uq6 =>
  Option.bind (some (am_nw hq4 (7, 20))) fun hq7 =>
  Option.bind (mi_X7_init f hq7 hq4.1.length) fun hq9 =>
  Option.bind (am_rk [h.1.length, am_sc, hq4.1.length] hq7.1.length hq9.1.length) fun uq10 =>
  Option.bind (lo_L_law_18 f L xs h.1.length hq4.1.length f 0 hq9) fun wq12 => match wq12 with
  | .inl hq11 => (some (true, hq11))
  | .inr (rq13, hq14) => (some (rq13, hq14))
set_option maxHeartbeats 4000000 in
set_option maxRecDepth 100000 in
theorem ct_L_law (l : Launch) {f b L : Nat} {xs : Nat → Int32} {h h2 : am_H} {r : Bool} (hm : mi_L_law f L xs h = some (r, h2)) : am_R l yL_law cL_law 4 (some .boolean) room_1 (am_XL b L xs) 0 0 0 [(0, .ref am_sc)] [] h (fun v h3 => v = some (.int (am_b r)) ∧ h3 = h2) := by
  generalize hK : (fun (v : Option Value) (h3 : am_H) => v = some (.int (am_b r)) ∧ h3 = h2) = K
  have HK : K (some (.int (am_b r))) h2 := by rw [← hK]; exact ⟨rfl, rfl⟩
  clear hK
  unfold mi_L_law at hm
  obtain ⟨uq1, euq1, hm⟩ := am_bs hm
  obtain ⟨hq2, ehq2, hm⟩ := am_bs hm
  refine r_new2 6 1 10 euq1 rfl (Option.some.inj ehq2) (by decide) kc_L_7 ki_6 kn_6 ⟨rfl, rfl⟩ (by decide) (am_Mv_L (am_rk_of euq1 am_sc (by simp))) dL_law_0 ?_
  refine r_dup dL_law_3 rfl ?_
  obtain ⟨hq4, exq3, hm⟩ := am_bs hm
  obtain ⟨uq5, euq5, hm⟩ := am_bs hm
  refine r_cI2 118 1548 (ct_X6_init l exq3) euq5 rfl im_L_9 (by decide) ⟨rfl, rfl⟩ rfl (Nat.le_of_ble_eq_true rfl) dL_law_4 (am_Mv_L (am_rk_of euq5 am_sc (by simp))) ?_
  refine r_astore_n [(1, .ref h.1.length), (0, .ref am_sc)] dL_law_7 (by decide) rfl ?_
  obtain ⟨uq6, euq6, hm⟩ := am_bs hm
  obtain ⟨hq7, ehq7, hm⟩ := am_bs hm
  refine r_new2 7 119 1568 euq6 rfl (Option.some.inj ehq7) (by decide) kc_L_10 ki_7 kn_7 ⟨rfl, rfl⟩ (by decide) (am_Mv_L (am_rk_of euq6 am_sc (by simp))) dL_law_8 ?_
  refine r_dup dL_law_11 rfl ?_
  obtain ⟨hq9, exq8, hm⟩ := am_bs hm
  obtain ⟨uq10, euq10, hm⟩ := am_bs hm
  refine r_cI2 134 2076 (ct_X7_init l exq8) euq10 rfl im_L_12 (by decide) ⟨rfl, rfl⟩ rfl (Nat.le_of_ble_eq_true rfl) dL_law_12 (am_Mv_L (am_rk_of euq10 am_sc (by simp))) ?_
  refine r_astore_n [(2, .ref hq4.1.length), (1, .ref h.1.length), (0, .ref am_sc)] dL_law_15 (by decide) rfl ?_
  refine r_iconst 0 dL_law_16 (by decide) ?_
  refine r_istore_n [(3, .int 0), (2, .ref hq4.1.length), (1, .ref h.1.length), (0, .ref am_sc)] dL_law_17 (by decide) rfl ?_
  obtain ⟨wq12, ew, hm⟩ := am_bs hm
  refine r_lv [3, 2, 1, 0] _ rfl (ll_L_law_18 l b f L xs h.1.length hq4.1.length _ f 0 hq9 _ ew (fun z q => ?_) (fun z q => ?_))
  · obtain ⟨hq11, rfl⟩ : ∃ x, x = z := ⟨_, rfl⟩
    subst q
    dsimp only at hm
    refine r_iconst 1 dL_law_1140 (by decide) ?_
    cases hm
    exact r_zreturn true dL_law_1141 rfl (by decide) HK
  · subst q
    obtain ⟨rq13, hq14⟩ := z
    dsimp only at hm
    cases hm
    exact HK
