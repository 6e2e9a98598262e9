def am_Pc (D : va_G) (tc : Nat → ClassId) (ad : Nat → Nat) (h : am_H) (av : List Value) (sz : Nat) : Array Value → State → Prop := va_Pc (av.map (am_cv ad)) (fun U => U.heap.size = sz ∧ va_P D vwCl (am_w tc ad h) U.heap ∧ am_G D tc U ∧ va_D (fun _ => True) (am_w tc ad h))
def am_Q (D : va_G) (tc : Nat → ClassId) (ad : Nat → Nat) (h : am_H) (rm : Room) (sz : Nat) (r : Option Value) (h' : am_H) : Array Value → State → Outcome → State → Prop := fun _ st oc t =>
  (am_ok h' ∧ h.1.length ≤ h'.1.length ∧ ∃ ad' : Nat → Nat, (∀ k, k < h.1.length ∨ h'.1.length ≤ k → ad' k = ad k) ∧ (rm.cells = 0 → ad' = ad) ∧ oc = .returned (r.map (am_cv ad')) ∧ va_P D vwCl (am_w tc ad' h') t.heap ∧ va_D (va_A (am_w tc ad h) sz) (am_w tc ad' h')) ∧ va_F (va_A (am_w tc ad h) sz) st t
/-- a method's contract: from heap h with these arguments it answers r and leaves h' -/
def am_Ct (l : Launch) (y : MethodName) (cc : ByteArray) (nL : Nat) (ret : Option FieldType) (rm : Room) (av : List Value) (h : am_H) (r : Option Value) (h' : am_H) : Prop :=
  am_ok h → ∀ (D : va_G) (tc : Nat → ClassId) (ad : Nat → Nat) (sz : Nat), Met l y (Cond.code y cc nL ret :: am_T) rm (am_Pc D tc ad h av sz) (am_Q D tc ad h rm sz r h') rm.cells rm.slots (va_A (am_w tc ad h) sz)
theorem am_args (ad : Nat → Nat) : ∀ (av : List Value) (i : Nat), lv_args i (av.map (am_cv ad)) = am_lm ad (lv_args i av)
  | [], _ => rfl
  | v :: vs, i => by
    simp only [List.map_cons, lv_args, am_cat, am_args ad vs]
    rfl
theorem am_sl (ad : Nat → Nat) (av : List Value) : (lg_sl (av.map (am_cv ad))).length = (lg_sl av).length := by
  induction av with
  | nil => rfl
  | cons v t ih =>
    simp only [lg_sl, List.map_cons, List.flatMap_cons, List.length_append] at ih ⊢
    rw [ih, am_cat]
    split <;> simp
theorem am_met {l : Launch} {y : MethodName} {cc : ByteArray} {nL : Nat} {ret : Option FieldType} {rm : Room} {av : List Value} {h : am_H} {r : Option Value} {h' : am_H} (hy : plainName y.cls = true) (hlen : (lg_sl av).length ≤ nL)
    (hR : am_R l y cc nL ret rm (fun _ _ _ => True) 0 0 0 (lv_args 0 av) [] h (fun v h2 => v = r ∧ h2 = h')) : am_Ct l y cc nL ret rm av h r h' := by
  intro ok D tc ad sz
  refine Met.ofW (cc := cc) (maxL := nL) (ret := ret) hy rfl ?_
  intro p e s m args below meth c s₁ B hml hv
  obtain ⟨rfl, hsz, hP, hG, hD0⟩ := hv
  have hts := atoms_spec (ws := Cond.code y cc nL ret :: am_T) B.pre
  subst hsz
  have hD := hD0.self (sz := s.heap.size)
  have C : am_C y cc nL ret p s m (av.map (am_cv ad)).toArray meth c D tc (va_A (am_w tc ad h) s.heap.size) := ⟨B.exec, B.bytes, hml, findClass_of_methodNamed B.named, fun w hw => hts w (List.mem_cons_of_mem _ hw), B.returns, B.notSynchronized, (name_of_methodNamed B.named B.method).1, fun q hq => Or.inr hq, hG⟩
  have hl := lv_entry (av.map (am_cv ad)) (n := nL) (by rw [am_sl]; exact hlen)
  rw [am_args] at hl
  rw [lg_entry_eq]
  refine hR p e s m _ below meth c D tc ad _ s.heap [] _ _ h.1.length ad C ⟨ok, hl, hP, hD, va_S.rf, trivial, Nat.le_refl _, fun _ _ => rfl, fun _ => rfl⟩ ?_
  intro v h2 ad2 H locs pc ls hK ok2 hn he hc hP2 hD2 hS2 hrt
  obtain ⟨rfl, rfl⟩ := hK
  have hq : ∀ t : State, t.heap = H → am_Q D tc ad h rm s.heap.size v h2 (av.map (am_cv ad)).toArray s (.returned (v.map (am_cv ad2))) t := fun t ht => ⟨⟨ok2, hn, ad2, he, hc, rfl, by rw [ht]; exact hP2, hD2⟩, hS2.F ht⟩
  cases v with
  | none => exact W.vret C.1 C.2.1 (C.2.2.2.2.2.1.trans hrt.2) (fun t ht _ => hq t ht) hS2.2.2 hrt.1 C.2.2.2.2.2.2.1
  | some v =>
    cases v with
    | int x =>
      obtain ⟨hd, ty, hr, hnr⟩ := hrt
      exact W.zret C.1 C.2.1 (C.2.2.2.2.2.1.trans hr) hnr (fun t ht _ => hq t ht) hS2.2.2 hd C.2.2.2.2.2.2.1
    | long x => exact W.lret C.1 C.2.1 (C.2.2.2.2.2.1.trans hrt.2) (fun t ht _ => hq t ht) hS2.2.2 hrt.1 C.2.2.2.2.2.2.1
    | _ => exact hrt.elim
def am_rl (n n' : Nat) (v : Value) : Bool := match v with
  | .ref k => decide (k < n) || decide (n' ≤ k)
  | _ => true
theorem am_rl_eq {n n' : Nat} {v : Value} {ad ad' : Nat → Nat} (h : am_rl n n' v = true) (he : ∀ k, k < n ∨ n' ≤ k → ad' k = ad k) : am_cv ad' v = am_cv ad v := by
  cases v with
  | ref k =>
    simp only [am_rl, Bool.or_eq_true, decide_eq_true_eq] at h
    simp only [am_cv, he k h]
  | _ => rfl
theorem am_rl_st {n n' : Nat} {st : List Value} {ad ad' : Nat → Nat} (h : st.all (am_rl n n') = true) (he : ∀ k, k < n ∨ n' ≤ k → ad' k = ad k) : st.map (am_cv ad') = st.map (am_cv ad) := by
  apply List.map_congr_left
  intro v hv
  exact am_rl_eq (List.all_eq_true.mp h v hv) he
theorem am_rl_lv {n n' : Nat} {lv : List (Nat × Value)} {ad ad' : Nat → Nat} (h : lv.all (fun q => am_rl n n' q.2) = true) (he : ∀ k, k < n ∨ n' ≤ k → ad' k = ad k) : am_lm ad' lv = am_lm ad lv := by
  apply List.map_congr_left
  intro q hq
  rw [am_rl_eq (List.all_eq_true.mp h q hq) he]
/-- what the extra words must bear when cells come -/
def am_Mv (Ex : am_EX) (n n' : Nat) : Prop := ∀ (ad ad' : Nat → Nat) (s : State) (A : Nat → Prop), (∀ k, k < n ∨ n' ≤ k → ad' k = ad k) → Ex ad s A → Ex ad' s A
theorem am_Mv_T {n n' : Nat} : am_Mv (fun _ _ _ => True) n n' := fun _ _ _ _ _ _ => trivial
/-- no cell comes, or all that is at hand lies below -/
def am_Al (Ex : am_EX) (rm rm' : Room) (n n' : Nat) (lv : List (Nat × Value)) (st : List Value) : Prop := rm'.cells = 0 ∨ (rm.cells ≠ 0 ∧ lv.all (fun q => am_rl n n' q.2) = true ∧ st.all (am_rl n n') = true ∧ am_Mv Ex n n')
def am_MF (y : MethodName) (cc : ByteArray) (nL : Nat) (ret : Option FieldType) (n : Nat) : Prop := Cond.code y cc nL ret ∈ am_T ∧ Cond.initialized y.cls ∈ am_T ∧ (y.cls ≠ "java/lang/invoke/MethodHandle" ∧ y.cls ≠ "java/lang/invoke/VarHandle" ∧ (parseMethodDescriptor y.desc).map (fun d => d.parameters.length) = some n)
def am_ML (own : String) (idx : Nat) (y : MethodName) : Prop := Cond.methodLink own idx y ∈ am_T ∨ ∃ host, Cond.methodLinkNest own idx y host ∈ lw_tbl
theorem am_gd {y : MethodName} {cc : ByteArray} {nL : Nat} {ret : Option FieldType} (hc : Cond.code y cc nL ret ∈ am_T) : GoodIn am_T (Cond.code y cc nL ret :: am_T) := by
  intro w hw
  rcases List.mem_cons.mp hw with rfl | hw
  · exact ⟨hc, good_of_word (List.mem_filter.mp hc).2⟩
  · exact ⟨hw, good_of_word (List.mem_filter.mp hw).2⟩
theorem am_blind {D : va_G} {tc : Nat → ClassId} {ad : Nat → Nat} {h : am_H} {av : List Value} {sz : Nat} : FrameBlind (am_Pc D tc ad h av sz) := by
  intro a U g mk q
  obtain ⟨q0, q1, qP, qG, qD⟩ := q
  exact ⟨q0, q1, qP, qG.blind rfl, qD⟩
theorem am_sum (ad : Nat → Nat) (st : List Value) : ((st.map (am_cv ad)).map fun v => v.category).sum = (st.map fun v => v.category).sum := by
  rw [List.map_map]
  congr 2
  funext v
  exact am_cat ad v
section AMC
variable {l : Launch} {y : MethodName} {cc : ByteArray} {nL : Nat} {ret : Option FieldType} {rm : Room} {Ex : am_EX} {cells slots pc : Nat} {lv : List (Nat × Value)} {st : List Value} {h : am_H} {K : Option Value → am_H → Prop}
theorem am_back {rm' : Room} {h' : am_H} {r : Option Value} {st0 : List Value} {pp : Program} {e : Env} {s : State} {m : MethodId} {args : Array Value} {below : List Frame} {meth : Method} {c : Code} {D : va_G} {tc : Nat → ClassId} {ad : Nat → Nat} {A : Nat → Prop} {H : Heap} {locs : List Loc} {ls : Array Slot} {Q : State → Prop} {n0 : Nat} {ad0 : Nat → Nat} {a : Array Value}
    (run : va_Run pp l e rm s m args below meth c H locs cells slots rm'.cells rm'.slots (F0 m pc ls st0) (st.map (am_cv ad)) (am_Q D tc ad h rm' H.size r h' a) (va_A (am_w tc ad h) H.size))
    (C : am_C y cc nL ret pp s m args meth c D tc A) (Y : am_D nL rm Ex lv h D tc ad A s H locs ls n0 ad0) (Z : am_K l cc ret rm pp e s m args below meth c D tc A Q n0 ad0 K)
    (hA : am_Al Ex rm rm' h.1.length h'.1.length lv st) (kk : am_R l y cc nL ret rm Ex (cells + rm'.cells) (slots + rm'.slots) (pc + 3) lv (r.toList ++ st) h' K) : W pp l e rm s m args below meth c H locs cells slots Q (F0 m pc ls st0) := by
  intro T hT X
  obtain ⟨v, st₀, t, T', L, h0, X', hL, e1, e2, ⟨⟨ok', hln, ad', ha1, ha2, hv, hP', hD'⟩, hz, hk⟩, stp⟩ := run T hT X
  cases hv
  rw [h0] at hz hk
  have hf : ∀ q, va_A (am_w tc ad h) H.size q → A q := by
    intro q hq
    rcases hq with ⟨k, x, hx⟩ | hq
    · exact Y.2.2.2.1.2 k _ hx
    · exact C.2.2.2.2.2.2.2.2.1 q (Nat.le_trans Y.2.2.2.2.1.1 hq)
  have hS' : va_S A s.heap T'.heap (locs ++ L) := ⟨Nat.le_trans Y.2.2.2.2.1.1 (by rw [e1]; exact hz), fun q h1 h2 => by rw [e1, hk q (Nat.lt_of_lt_of_le h1 Y.2.2.2.2.1.1) (fun z => h2 (hf q z))]; exact Y.2.2.2.2.1.2.1 q h1 h2, fun q hq => by
      rcases List.mem_append.mp hq with h | h
      · exact Y.2.2.2.2.1.2.2 q h
      · exact hf _ (hL q h)⟩
  have key : am_lm ad' lv = am_lm ad lv ∧ st.map (am_cv ad') = st.map (am_cv ad) ∧ Ex ad' s A ∧ (rm.cells = 0 → ad' = ad0) := by
    rcases hA with hA | ⟨a1, a2, a3, a4⟩
    · have := ha2 hA
      subst this
      exact ⟨rfl, rfl, Y.2.2.2.2.2.1, Y.2.2.2.2.2.2.2.2⟩
    · exact ⟨am_rl_lv a2 ha1, am_rl_st a3 ha1, a4 ad ad' s A ha1 Y.2.2.2.2.2.1, fun z => absurd z a1⟩
  obtain ⟨k1, k2, k3, k4⟩ := key
  have kW := kk pp e s m args below meth c D tc ad' A T'.heap (locs ++ L) ls Q n0 ad0 C ⟨ok', by rw [k1]; exact Y.2.1, by rw [e1]; exact hP', hD'.weaken (fun _ q _ hq => hf q.1 hq), hS', k3, Nat.le_trans Y.2.2.2.2.2.2.1 hln, fun k hk2 => by
      rw [ha1 k (hk2.imp (fun q => Nat.lt_of_lt_of_le q Y.2.2.2.2.2.2.1) id)]
      exact Y.2.2.2.2.2.2.2.1 k (hk2.imp id (fun q => Nat.le_trans hln q)), k4⟩ Z
  rw [List.map_append, k2, show r.toList.map (am_cv ad') = (r.map (am_cv ad')).toList by cases r <;> rfl] at kW
  obtain ⟨t2, b1, b2⟩ := kW T' rfl X'
  exact ⟨t2, stp t2 b1, b2⟩
theorem r_callV {y' : MethodName} {cc' : ByteArray} {nL' : Nat} {ret' : Option FieldType} {rm' : Room} {h' : am_H} {r : Option Value} {st0 : List Value} {p0 idx ci n : Nat} (As : List Value) (ct : am_Ct l y' cc' nL' ret' rm' (.ref p0 :: As) h r h') (M : am_MF y' cc' nL' ret' As.length) (ML : am_ML y.cls idx y') (hi : Cond.instanceMethod y' ∈ am_T) (hse : Cond.selects y'.cls y' y' ∈ am_T)
    (hci : ci < 8 ∧ am_cn ci = y'.cls) (hp0 : h.1[p0]? = some (ci, n)) (hr : (rm'.frames + 1 ≤ rm.frames ∧ 8 + (nL' + 11) + rm'.locals ≤ rm.locals) ∧ cells + rm'.cells ≤ rm.cells ∧ slots + rm'.slots ≤ rm.slots) (hst : st0 = As.reverse ++ .ref p0 :: st) (hcat : (st.map fun v => v.category).sum ≤ 8) (d : decode cc pc = .ok (.invokevirtual idx, 3)) (hA : am_Al Ex rm rm' h.1.length h'.1.length lv st)
    (kk : am_R l y cc nL ret rm Ex (cells + rm'.cells) (slots + rm'.slots) (pc + 3) lv (r.toList ++ st) h' K) : am_R l y cc nL ret rm Ex cells slots pc lv st0 h K := by
  intro pp e s m args below meth c D tc ad A H locs ls Q n0 ad0 C Y Z
  have hw := am_w_at (tc := tc) (ad := ad) hp0
  rw [am_ce_o (q := (ci, n)) hci.1] at hw
  have hrec := va_recv C.2.2.2.2.2.2.2.2.2.1 Y.2.2.1 (am_cl ci hci.1) hw
  dsimp only at hrec
  rw [hci.2] at hrec
  have hp : PreV s H y'.cls (ad p0) (am_Pc D tc ad h (.ref p0 :: As) H.size) (As.map (am_cv ad)) := ⟨am_blind, hrec, fun U hU hW => ⟨rfl, by rw [hU], by rw [hU]; exact Y.2.2.1, C.2.2.2.2.2.2.2.2.2.warm hW, Y.2.2.2.1.weaken (fun _ _ _ _ => trivial)⟩⟩
  have hs2 : (F0 m pc ls (st0.map (am_cv ad))).stack = (As.map (am_cv ad)).reverse ++ .ref (ad p0) :: st.map (am_cv ad) := by
    rw [hst]; simp [am_cv]
  rcases ML with hl | ⟨host, hl⟩
  · exact am_back (va_runV (n := As.length) (As := As.map (am_cv ad)) (rest := st.map (am_cv ad)) ⟨C.1, C.2.1, C.2.2.1, C.2.2.2.1, C.2.2.2.2.1⟩ (ct Y.1 D tc ad H.size) ⟨callB_of As.length C.2.2.2.2.1 (am_gd M.1) rfl rfl rfl (C.2.2.2.2.1 _ M.2.1) (C.2.2.2.2.1 _ hl) M.2.2 hr.1, C.2.2.2.2.1 _ hi, C.2.2.2.2.1 _ hse⟩ hp rfl (by simp) Y.2.1.1 hs2 (lv_room (by rw [am_sum]; exact hcat)) d hr.2) C Y Z hA kk
  · exact am_back (va_runVN (n := As.length) (As := As.map (am_cv ad)) (rest := st.map (am_cv ad)) ⟨C.1, C.2.1, C.2.2.1, C.2.2.2.1, C.2.2.2.2.1⟩ (ct Y.1 D tc ad H.size) ⟨va_cnB As.length C.2.2.2.2.1 (am_gd M.1) rfl rfl rfl (C.2.2.2.2.2.2.2.2.2.2.1 _ hl rfl) (C.2.2.2.2.1 _ M.2.1) M.2.2 hr.1, C.2.2.2.2.1 _ hi, C.2.2.2.2.1 _ hse⟩ hp rfl (by simp) Y.2.1.1 hs2 (lv_room (by rw [am_sum]; exact hcat)) d hr.2) C Y Z hA kk
theorem r_callS {y' : MethodName} {cc' : ByteArray} {nL' : Nat} {ret' : Option FieldType} {rm' : Room} {h' : am_H} {r : Option Value} {st0 : List Value} {idx : Nat} (As : List Value) (ct : am_Ct l y' cc' nL' ret' rm' As h r h') (M : am_MF y' cc' nL' ret' As.length) (ML : am_ML y.cls idx y') (hi : Cond.static y' ∈ am_T)
    (hr : (rm'.frames + 1 ≤ rm.frames ∧ 8 + (nL' + 11) + rm'.locals ≤ rm.locals) ∧ cells + rm'.cells ≤ rm.cells ∧ slots + rm'.slots ≤ rm.slots) (hst : st0 = As.reverse ++ st) (hcat : (st.map fun v => v.category).sum ≤ 8) (d : decode cc pc = .ok (.invokestatic idx, 3)) (hA : am_Al Ex rm rm' h.1.length h'.1.length lv st)
    (kk : am_R l y cc nL ret rm Ex (cells + rm'.cells) (slots + rm'.slots) (pc + 3) lv (r.toList ++ st) h' K) : am_R l y cc nL ret rm Ex cells slots pc lv st0 h K := by
  intro pp e s m args below meth c D tc ad A H locs ls Q n0 ad0 C Y Z
  have hp : PreS s H (am_Pc D tc ad h As H.size) (As.map (am_cv ad)) := ⟨am_blind, fun U hU hW => ⟨rfl, by rw [hU], by rw [hU]; exact Y.2.2.1, C.2.2.2.2.2.2.2.2.2.warm hW, Y.2.2.2.1.weaken (fun _ _ _ _ => trivial)⟩⟩
  have hs2 : (F0 m pc ls (st0.map (am_cv ad))).stack = (As.map (am_cv ad)).reverse ++ st.map (am_cv ad) := by
    rw [hst]; simp
  rcases ML with hl | ⟨host, hl⟩
  · exact am_back (va_runS (n := As.length) (As := As.map (am_cv ad)) (rest := st.map (am_cv ad)) ⟨C.1, C.2.1, C.2.2.1, C.2.2.2.1, C.2.2.2.2.1⟩ (ct Y.1 D tc ad H.size) ⟨callB_of As.length C.2.2.2.2.1 (am_gd M.1) rfl rfl rfl (C.2.2.2.2.1 _ M.2.1) (C.2.2.2.2.1 _ hl) M.2.2 hr.1, C.2.2.2.2.1 _ hi⟩ hp rfl (by simp) Y.2.1.1 hs2 (lv_room (by rw [am_sum]; exact hcat)) d hr.2) C Y Z hA kk
  · exact am_back (va_runSN (n := As.length) (As := As.map (am_cv ad)) (rest := st.map (am_cv ad)) ⟨C.1, C.2.1, C.2.2.1, C.2.2.2.1, C.2.2.2.2.1⟩ (ct Y.1 D tc ad H.size) ⟨va_cnB As.length C.2.2.2.2.1 (am_gd M.1) rfl rfl rfl (C.2.2.2.2.2.2.2.2.2.2.1 _ hl rfl) (C.2.2.2.2.1 _ M.2.1) M.2.2 hr.1, C.2.2.2.2.1 _ hi, trivial⟩ hp rfl (by simp) Y.2.1.1 hs2 (lv_room (by rw [am_sum]; exact hcat)) d hr.2) C Y Z hA kk
theorem r_callI {y' : MethodName} {cc' : ByteArray} {nL' : Nat} {rm' : Room} {h' : am_H} {st0 : List Value} {p0 idx : Nat} (As : List Value) (ct : am_Ct l y' cc' nL' none rm' (.ref p0 :: As) h none h') (M : am_MF y' cc' nL' none As.length) (ML : am_ML y.cls idx y') (hi : Cond.instanceMethod y' ∈ am_T) (hn : y'.name = "<init>")
    (hr : (rm'.frames + 1 ≤ rm.frames ∧ 8 + (nL' + 11) + rm'.locals ≤ rm.locals) ∧ cells + rm'.cells ≤ rm.cells ∧ slots + rm'.slots ≤ rm.slots) (hst : st0 = As.reverse ++ .ref p0 :: st) (hcat : (st.map fun v => v.category).sum ≤ 8) (d : decode cc pc = .ok (.invokespecial idx, 3)) (hA : am_Al Ex rm rm' h.1.length h'.1.length lv st)
    (kk : am_R l y cc nL ret rm Ex (cells + rm'.cells) (slots + rm'.slots) (pc + 3) lv st h' K) : am_R l y cc nL ret rm Ex cells slots pc lv st0 h K := by
  intro pp e s m args below meth c D tc ad A H locs ls Q n0 ad0 C Y Z
  have hp : PreS s H (am_Pc D tc ad h (.ref p0 :: As) H.size) (.ref (ad p0) :: As.map (am_cv ad)) := ⟨am_blind, fun U hU hW => ⟨rfl, by rw [hU], by rw [hU]; exact Y.2.2.1, C.2.2.2.2.2.2.2.2.2.warm hW, Y.2.2.2.1.weaken (fun _ _ _ _ => trivial)⟩⟩
  have hs2 : (F0 m pc ls (st0.map (am_cv ad))).stack = (As.map (am_cv ad)).reverse ++ .ref (ad p0) :: st.map (am_cv ad) := by
    rw [hst]; simp [am_cv]
  rcases ML with hl | ⟨host, hl⟩
  · exact am_back (r := none) (va_runI (n := As.length) (As := As.map (am_cv ad)) (rest := st.map (am_cv ad)) ⟨C.1, C.2.1, C.2.2.1, C.2.2.2.1, C.2.2.2.2.1⟩ (ct Y.1 D tc ad H.size) ⟨callB_of As.length C.2.2.2.2.1 (am_gd M.1) rfl rfl rfl (C.2.2.2.2.1 _ M.2.1) (C.2.2.2.2.1 _ hl) M.2.2 hr.1, hn, C.2.2.2.2.1 _ hi⟩ hp rfl (by simp) Y.2.1.1 hs2 (lv_room (by rw [am_sum]; exact hcat)) d hr.2) C Y Z hA kk
  · exact am_back (r := none) (va_runIN (n := As.length) (As := As.map (am_cv ad)) (rest := st.map (am_cv ad)) ⟨C.1, C.2.1, C.2.2.1, C.2.2.2.1, C.2.2.2.2.1⟩ (ct Y.1 D tc ad H.size) ⟨va_cnB As.length C.2.2.2.2.1 (am_gd M.1) rfl rfl rfl (C.2.2.2.2.2.2.2.2.2.2.1 _ hl rfl) (C.2.2.2.2.1 _ M.2.1) M.2.2 hr.1, hn, C.2.2.2.2.1 _ hi⟩ hp rfl (by simp) Y.2.1.1 hs2 (lv_room (by rw [am_sum]; exact hcat)) d hr.2) C Y Z hA kk
theorem r_obj {p0 idx : Nat} (hl : Cond.methodLink y.cls idx Lib.objectInit ∈ am_T) (hi : Cond.instanceMethod Lib.objectInit ∈ am_T) (hc : Cond.code Lib.objectInit ⟨#[0xb1]⟩ 1 none ∈ am_T) (hr : 1 ≤ rm.frames ∧ (st.map fun v => v.category).sum + 12 ≤ rm.locals) (d : decode cc pc = .ok (.invokespecial idx, 3)) (kk : am_R l y cc nL ret rm Ex cells slots (pc + 3) lv st h K) : am_R l y cc nL ret rm Ex cells slots pc lv (.ref p0 :: st) h K := by
  intro pp e s m args below meth c D tc ad A H locs ls Q n0 ad0 C Y Z
  have hm : 2 * (F0 m pc ls ((Value.ref p0 :: st).map (am_cv ad))).monitorRoom + ((st.map (am_cv ad)).map fun v => v.category).sum + 12 ≤ rm.locals := by
    rw [am_sum]
    have : (F0 m pc ls ((Value.ref p0 :: st).map (am_cv ad))).monitorRoom = 0 := rfl
    omega
  exact W.objInit C.1 C.2.1 C.2.2.2.1 (C.2.2.2.2.1 _ hl) (C.2.2.2.2.1 _ hi) (C.2.2.2.2.1 _ hc) rfl (Y.2.1.1.trans C.2.2.1.symm) rfl d hr.1 hm (kk pp e s m args below meth c D tc ad A H locs ls Q n0 ad0 C Y Z)
end AMC
