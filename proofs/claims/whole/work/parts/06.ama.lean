def am_ext (ad : Nat → Nat) (n a : Nat) : Nat → Nat := fun k => if k = n then a else ad k
theorem am_ext_eq {ad : Nat → Nat} {n a : Nat} : ∀ k, k < n ∨ n + 1 ≤ k → am_ext ad n a k = ad k := by
  intro k hk
  unfold am_ext
  rw [if_neg (by omega)]
theorem am_ext_at {ad : Nat → Nat} {n a : Nat} : am_ext ad n a n = a := by simp [am_ext]
theorem am_map_ext {h : am_H} (ok : am_ok h) (ad : Nat → Nat) (a k j : Nat) : (h.2.2.2 k j).map (am_ext ad h.1.length a) = (h.2.2.2 k j).map ad := by
  cases hq : h.2.2.2 k j with
  | none => rfl
  | some q =>
    have := (ok k j).2 q hq
    simp [am_ext_eq q (Or.inl this)]
theorem am_ce_ext {tc : Nat → ClassId} {ad : Nat → Nat} {h : am_H} {k a : Nat} {r z : Nat × Nat} (ok : am_ok h) : am_ce tc (am_ext ad h.1.length a) (am_nw h z) k r = am_ce tc ad h k r := by
  have hf : ∀ t j, am_fv (am_ext ad h.1.length a) (am_nw h z) k t j = am_fv ad h k t j := by
    intro t j
    have e := am_map_ext ok ad a k j
    cases t <;> first | rfl | (show va_rf ((h.2.2.2 k j).map (am_ext ad h.1.length a)) = va_rf ((h.2.2.2 k j).map ad); rw [e])
  have hq : (fun j => ((am_nw h z).2.2.2 k j).map (am_ext ad h.1.length a)) = fun j => (h.2.2.2 k j).map ad := by
    funext j
    exact am_map_ext ok ad a k j
  unfold am_ce
  simp only [hf, hq]
  rfl
theorem am_w_nw {tc : Nat → ClassId} {ad : Nat → Nat} {h : am_H} {a : Nat} {z : Nat × Nat} (ok : am_ok h) : am_w tc (am_ext ad h.1.length a) (am_nw h z) = am_w tc ad h ++ [(a, am_ce tc ad h h.1.length z)] := by
  apply List.ext_getElem?
  intro k
  by_cases hk : k < h.1.length
  · rw [List.getElem?_append_left (by rw [am_w_len]; exact hk)]
    have hz : h.1[k]? = some h.1[k] := List.getElem?_eq_getElem hk
    rw [am_w_at hz, am_w_at (h := am_nw h z) (q := h.1[k]) (by show (h.1 ++ [z])[k]? = _; rw [List.getElem?_append_left hk]; exact hz), am_ce_ext ok, am_ext_eq k (Or.inl hk)]
  · by_cases he : k = h.1.length
    · subst he
      rw [am_w_at (h := am_nw h z) (q := z) (by show (h.1 ++ [z])[h.1.length]? = _; simp), am_ce_ext ok, am_ext_at]
      rw [List.getElem?_append_right (by rw [am_w_len]; exact Nat.le_refl _), am_w_len]
      simp
    · rw [List.getElem?_eq_none (by rw [am_w_len]; show (h.1 ++ [z]).length ≤ k; simp; omega), List.getElem?_eq_none (by simp [am_w_len]; omega)]
theorem am_ok_nw {h : am_H} {z : Nat × Nat} (ok : am_ok h) : am_ok (am_nw h z) := by
  intro k j
  have hl : (am_nw h z).1.length = h.1.length + 1 := by show (h.1 ++ [z]).length = _; simp
  refine ⟨fun hk => (ok k j).1 (by omega), fun q hq => ?_⟩
  have := (ok k j).2 q hq
  omega
theorem am_nw_len {h : am_H} {z : Nat × Nat} : (am_nw h z).1.length = h.1.length + 1 := by show (h.1 ++ [z]).length = _; simp
def am_dt (t : FieldType) : Bool := match t with
  | .int => true
  | .long => true
  | .object _ => true
  | .array _ => true
  | _ => false
theorem am_dts : ∀ c, c < 8 → ∀ j, j < am_nf c → am_dt (am_ty c j) = true := am_c8 (by decide +kernel) (by decide +kernel) (by decide +kernel) (by decide +kernel) (by decide +kernel) (by decide +kernel) (by decide +kernel) (by decide +kernel)
theorem am_dv {ad : Nat → Nat} {h : am_H} {t : FieldType} {j : Nat} (ok : am_ok h) (ht : am_dt t = true) : defaultValue t = am_fv ad h h.1.length t j := by
  obtain ⟨h1, h2, h3⟩ := (ok h.1.length j).1 (Nat.le_refl _)
  cases t <;> first | (simp [am_dt] at ht; done) | (simp [am_fv, h1, h2, h3, defaultValue, va_rf])
section AMA
variable {l : Launch} {y : MethodName} {cc : ByteArray} {nL : Nat} {ret : Option FieldType} {rm : Room} {Ex : am_EX} {cells slots pc : Nat} {lv : List (Nat × Value)} {st : List Value} {h : am_H} {K : Option Value → am_H → Prop}
theorem am_grow {z : Nat × Nat} {a N pc2 : Nat} {pp : Program} {e : Env} {s : State} {m : MethodId} {args : Array Value} {below : List Frame} {meth : Method} {c : Code} {D : va_G} {tc : Nat → ClassId} {ad : Nat → Nat} {A : Nat → Prop} {H H1 : Heap} {locs : List Loc} {ls : Array Slot} {Q : State → Prop} {n0 : Nat} {ad0 : Nat → Nat}
    (C : am_C y cc nL ret pp s m args meth c D tc A) (Y : am_D nL rm Ex lv h D tc ad A s H locs ls n0 ad0) (Z : am_K l cc ret rm pp e s m args below meth c D tc A Q n0 ad0 K)
    (hlv : lv.all (fun q => am_rl h.1.length (h.1.length + 1) q.2) = true) (hst : st.all (am_rl h.1.length (h.1.length + 1)) = true) (hE : am_Mv Ex h.1.length (h.1.length + 1)) (hc : rm.cells ≠ 0)
    (hP : va_P D vwCl (am_w tc ad h ++ [(a, am_ce tc ad h h.1.length z)]) H1) (hD : va_D A (am_w tc ad h ++ [(a, am_ce tc ad h h.1.length z)])) (hS : va_S A s.heap H1 locs)
    (kk : am_R l y cc nL ret rm Ex (cells + 1) (slots + N) pc2 lv (.ref h.1.length :: st) (am_nw h z) K) : W pp l e rm s m args below meth c H1 locs (cells + 1) (slots + N) Q (F0 m pc2 ls (.ref a :: st.map (am_cv ad))) := by
  have he := am_ext_eq (ad := ad) (n := h.1.length) (a := a)
  rw [← am_w_nw Y.1] at hP hD
  have kW := kk pp e s m args below meth c D tc (am_ext ad h.1.length a) A H1 locs ls Q n0 ad0 C ⟨am_ok_nw Y.1, by rw [am_rl_lv hlv he]; exact Y.2.1, hP, hD, hS, hE _ _ _ _ he Y.2.2.2.2.2.1, by rw [am_nw_len]; exact Nat.le_succ_of_le Y.2.2.2.2.2.2.1, fun k hk => by
    rw [am_nw_len] at hk
    rw [he k (hk.imp (fun q => Nat.lt_of_lt_of_le q Y.2.2.2.2.2.2.1) id)]
    exact Y.2.2.2.2.2.2.2.1 k (hk.imp id (fun q => by omega)), fun q => absurd q hc⟩ Z
  rw [List.map_cons, am_rl_st hst he] at kW
  have e1 : am_cv (am_ext ad h.1.length a) (.ref h.1.length) = .ref a := by simp [am_cv, am_ext_at]
  rw [e1] at kW
  exact kW
theorem r_new {idx : Nat} (ci : Nat) (h8 : ci < 8) (hcl : Cond.classLink y.cls idx (am_cn ci) ∈ am_T) (hi : Cond.instantiable (am_cn ci) (am_nf ci) ∈ am_T) (hn : Cond.initialized (am_cn ci) ∈ am_T) (hr : cells + 1 ≤ rm.cells ∧ slots + am_nf ci ≤ rm.slots)
    (hlv : lv.all (fun q => am_rl h.1.length (h.1.length + 1) q.2) = true) (hst : st.all (am_rl h.1.length (h.1.length + 1)) = true) (hE : am_Mv Ex h.1.length (h.1.length + 1)) (d : decode cc pc = .ok (.new idx, 3))
    (kk : am_R l y cc nL ret rm Ex (cells + 1) (slots + am_nf ci) (pc + 3) lv (.ref h.1.length :: st) (am_nw h (ci, am_nf ci)) K) : am_R l y cc nL ret rm Ex cells slots pc lv st h K := by
  intro pp e s m args below meth c D tc ad A H locs ls Q n0 ad0 C Y Z
  refine va_new (ci := ci) (fs := (List.range (am_nf ci)).map (fun j => am_fv ad h h.1.length (am_ty ci j) j)) C.1 C.2.1 C.2.2.2.2.1 (am_uin ci h8) (am_ty ci) (am_tyk ci h8) C.2.2.2.1 (C.2.2.2.2.1 _ hcl) (C.2.2.2.2.1 _ hi) (C.2.2.2.2.1 _ hn) C.2.2.2.2.2.2.2.2.2.1 Y.2.2.1 Y.2.2.2.1 Y.2.2.2.2.1 C.2.2.2.2.2.2.2.2.1 (am_cl ci h8) (fun j hj => ?_) hr.1 hr.2 d (fun q H1 q1 q2 q3 => ?_)
  · rw [vp_V, List.getD_eq_getElem?_getD, am_fs_at hj]
    exact am_dv Y.1 (am_dts ci h8 j hj)
  · rw [← am_ce_o (tc := tc) (q := (ci, am_nf ci)) h8] at q1 q2
    exact am_grow C Y Z hlv hst hE (by omega) q1 q2 q3 kk
theorem r_newa {atype : ArrayType} {n : Int32} {len : Nat} (kd : Nat) (hk : (kd = 8 ∧ atype = .char) ∨ (kd = 9 ∧ atype = .int) ∨ (kd = 10 ∧ atype = .boolean)) (hw : Cond.arrayClass (newarray.typeOf atype) ∈ am_T) (hn : ¬ n < 0) (hN : n.toNatClampNeg = len) (hlen : len ≤ 10000) (hr : cells + 1 ≤ rm.cells ∧ slots + len ≤ rm.slots)
    (hlv : lv.all (fun q => am_rl h.1.length (h.1.length + 1) q.2) = true) (hst : st.all (am_rl h.1.length (h.1.length + 1)) = true) (hE : am_Mv Ex h.1.length (h.1.length + 1)) (d : decode cc pc = .ok (.newarray atype, 2))
    (kk : am_R l y cc nL ret rm Ex (cells + 1) (slots + len) (pc + 2) lv (.ref h.1.length :: st) (am_nw h (kd, len)) K) : am_R l y cc nL ret rm Ex cells slots pc lv (.int n :: st) h K := by
  intro pp e s m args below meth c D tc ad A H locs ls Q n0 ad0 C Y Z
  have hK := C.2.2.2.2.2.2.2.2.2.1
  have hz : h.2.1 h.1.length = fun _ => 0 := by
    funext j
    exact ((Y.1 h.1.length j).1 (Nat.le_refl _)).1
  have key : ∀ (ty : FieldType) (t0 : Nat), newarray.typeOf atype = ty → (am_tys tc)[t0]? = some (tc kd, ty) → va_RA s (tc kd) ty = (s.vm.findClass ("[" ++ ty.toString) = some (tc kd)) → (∀ cA, va_RA s cA ty = (s.vm.findClass ("[" ++ ty.toString) = some cA)) → defaultValue ty = .int 0 → len * componentBytes ty ≤ 536870912 → 8 ≤ kd → kd ≠ 11 → W pp l e rm s m args below meth c H locs cells slots Q (F0 m pc ls ((Value.int n :: st).map (am_cv ad))) := by
    intro ty t0 hty ht0 _ hRA hdv hby k8 k11
    refine va_newa (a0 := (len, .inl (fun _ => 0))) C.1 C.2.1 (C.2.2.2.2.1 _ hw) hty hK Y.2.2.1 Y.2.2.2.1 Y.2.2.2.2.1 C.2.2.2.2.2.2.2.2.1 (fun cA => by rw [vp_cell_i, hdv]) hn hN hby hr.1 hr.2 d (fun q cA H1 qK q1 q2 q3 => ?_)
    have e1 := (qK.2 4 (cA, ty) (by simp [am_tys])).2
    rw [hRA] at e1
    have e2 := (hK.2 t0 _ ht0).2
    rw [hRA] at e2
    have e3 : cA = tc kd := Option.some.inj (e1.symm.trans e2)
    subst e3
    rw [← hz, ← am_ce_i (tc := tc) (ad := ad) (h := h) (k := h.1.length) (n := len) k8 k11] at q1 q2
    exact am_grow C Y Z hlv hst hE (by omega) q1 q2 q3 kk
  rcases hk with ⟨rfl, rfl⟩ | ⟨rfl, rfl⟩ | ⟨rfl, rfl⟩
  · exact key .char 0 rfl rfl rfl (fun _ => rfl) rfl (by simp [componentBytes]; omega) (by decide) (by decide)
  · exact key .int 1 rfl rfl rfl (fun _ => rfl) rfl (by simp [componentBytes]; omega) (by decide) (by decide)
  · exact key .boolean 2 rfl rfl rfl (fun _ => rfl) rfl (by simp [componentBytes]; omega) (by decide) (by decide)
theorem r_anew {idx : Nat} {n : Int32} {len : Nat} (hcl : Cond.classLink y.cls idx "TimeLinks$Spans" ∈ am_T) (hn : ¬ n < 0) (hN : n.toNatClampNeg = len) (hlen : len ≤ 10000) (hr : cells + 1 ≤ rm.cells ∧ slots + len ≤ rm.slots)
    (hlv : lv.all (fun q => am_rl h.1.length (h.1.length + 1) q.2) = true) (hst : st.all (am_rl h.1.length (h.1.length + 1)) = true) (hE : am_Mv Ex h.1.length (h.1.length + 1)) (d : decode cc pc = .ok (.anewarray idx, 3))
    (kk : am_R l y cc nL ret rm Ex (cells + 1) (slots + len) (pc + 3) lv (.ref h.1.length :: st) (am_nw h (11, len)) K) : am_R l y cc nL ret rm Ex cells slots pc lv (.int n :: st) h K := by
  intro pp e s m args below meth c D tc ad A H locs ls Q n0 ad0 C Y Z
  have hK := C.2.2.2.2.2.2.2.2.2.1
  have hz : (fun j => (h.2.2.2 h.1.length j).map ad) = fun _ => none := by
    funext j
    rw [((Y.1 h.1.length j).1 (Nat.le_refl _)).2.2]
    rfl
  refine va_newq C.1 C.2.1 C.2.2.2.1 (C.2.2.2.2.1 _ hcl) C.2.2.2.2.2.2.2.2.2.2.2 hK Y.2.2.1 Y.2.2.2.1 Y.2.2.2.2.1 C.2.2.2.2.2.2.2.2.1 hn hN (by omega) hr.1 hr.2 d (fun q cA H1 qK q1 q2 q3 => ?_)
  obtain ⟨_, _, _, _, _, e1⟩ := (qK.2 4 (cA, .object "TimeLinks$Spans") (by simp [am_tys])).2
  obtain ⟨_, _, _, _, _, e2⟩ := (hK.2 3 (tc 11, .object "TimeLinks$Spans") rfl).2
  have e3 : cA = tc 11 := Option.some.inj (e1.symm.trans e2)
  subst e3
  rw [← hz, ← am_ce_q (tc := tc) (ad := ad) (h := h) (k := h.1.length) (n := len)] at q1 q2
  exact am_grow C Y Z hlv hst hE (by omega) q1 q2 q3 kk
end AMA
