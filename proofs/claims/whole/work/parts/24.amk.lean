/-- the places that values name -/
def am_rfs : List Value → List Nat
  | [] => []
  | .ref k :: t => k :: am_rfs t
  | _ :: t => am_rfs t
def am_rk (ps : List Nat) (n n' : Nat) : Option Unit := if ps.all (fun k => decide (k < n) || decide (n' ≤ k)) = true then some () else none
theorem am_rk_of {ps : List Nat} {n n' : Nat} {u : Unit} (h : am_rk ps n n' = some u) : ∀ k ∈ ps, k < n ∨ n' ≤ k := by
  unfold am_rk at h
  split at h
  · rename_i hp
    intro k hk
    have := List.all_eq_true.mp hp k hk
    simpa using this
  · cases h
theorem am_rfs_st {n n' : Nat} : ∀ (st : List Value), (∀ k ∈ am_rfs st, k < n ∨ n' ≤ k) → st.all (am_rl n n') = true
  | [], _ => rfl
  | v :: t, h => by
    rw [List.all_cons, Bool.and_eq_true]
    cases v with
    | ref k =>
      refine ⟨?_, am_rfs_st t (fun q hq => h q (List.mem_cons_of_mem _ hq))⟩
      have := h k List.mem_cons_self
      simpa [am_rl] using this
    | _ => exact ⟨rfl, am_rfs_st t h⟩
theorem am_rfs_app : ∀ (a b : List Value), am_rfs (a ++ b) = am_rfs a ++ am_rfs b
  | [], _ => rfl
  | v :: t, b => by
    cases v <;> simp [am_rfs, am_rfs_app t b]
theorem am_rk_lv {ps : List Nat} {n n' : Nat} {u : Unit} {lv : List (Nat × Value)} {st : List Value} (e : am_rk ps n n' = some u) (hr : am_rfs (lv.map Prod.snd ++ st) = ps) : lv.all (fun q => am_rl n n' q.2) = true ∧ st.all (am_rl n n') = true := by
  have h := am_rk_of e
  rw [← hr, am_rfs_app] at h
  refine ⟨?_, am_rfs_st st (fun k hk => h k (List.mem_append_right _ hk))⟩
  have := am_rfs_st (lv.map Prod.snd) (fun k hk => h k (List.mem_append_left _ hk))
  rw [List.all_map] at this
  exact this
def am_sc : Nat := 999999
def am_XL (b L : Nat) (xs : Nat → Int32) : am_EX := fun ad s A => ad am_sc = b ∧ va_X b L xs s s.heap ∧ b < s.heap.size ∧ ¬ A b
theorem am_Mv_L {b L : Nat} {xs : Nat → Int32} {n n' : Nat} (h : am_sc < n ∨ n' ≤ am_sc) : am_Mv (am_XL b L xs) n n' := fun ad ad' s A he hx => ⟨(he am_sc h).trans hx.1, hx.2⟩
def am_ls (L : Nat) (xs : Nat → Int32) (i : Int32) : Option Int32 := if 0 ≤ i.toInt ∧ i.toInt < L then some (xs i.toNatClampNeg) else none
section AMK
variable {l : Launch} {y : MethodName} {cc : ByteArray} {nL : Nat} {ret : Option FieldType} {rm : Room} {Ex : am_EX} {cells slots pc : Nat} {lv : List (Nat × Value)} {st : List Value} {h : am_H} {K : Option Value → am_H → Prop}
theorem r_sld {b L : Nat} {xs : Nat → Int32} {i x : Int32} (hv : am_ls L xs i = some x) (d : decode cc pc = .ok (.iaload, 1)) (k : am_R l y cc nL ret rm (am_XL b L xs) cells slots (pc + 1) lv (.int x :: st) h K) : am_R l y cc nL ret rm (am_XL b L xs) cells slots pc lv (.int i :: .ref am_sc :: st) h K := by
  intro p e s m args below meth c D tc ad A H locs ls Q n0 ad0 C Y Z
  unfold am_ls at hv
  split at hv
  · rename_i hi
    cases hv
    obtain ⟨e1, hX, hb, hA⟩ := Y.2.2.2.2.2.1
    have kk := va_sld (rest := st.map (am_cv ad)) C.1 C.2.1 hX hb hA Y.2.2.2.2.1 (vp_in_iff.mpr hi) d (k p e s m args below meth c D tc ad A H locs ls Q n0 ad0 C Y Z)
    rw [← e1] at kk
    exact kk
  · cases hv
theorem r_slen {b L : Nat} {xs : Nat → Int32} (d : decode cc pc = .ok (.arraylength, 1)) (k : am_R l y cc nL ret rm (am_XL b L xs) cells slots (pc + 1) lv (.int (Int32.ofNat L) :: st) h K) : am_R l y cc nL ret rm (am_XL b L xs) cells slots pc lv (.ref am_sc :: st) h K := by
  intro p e s m args below meth c D tc ad A H locs ls Q n0 ad0 C Y Z
  obtain ⟨e1, hX, hb, hA⟩ := Y.2.2.2.2.2.1
  have kk := va_slen (rest := st.map (am_cv ad)) C.1 C.2.1 hX hb hA Y.2.2.2.2.1 d (k p e s m args below meth c D tc ad A H locs ls Q n0 ad0 C Y Z)
  rw [← e1] at kk
  exact kk
theorem r_new2 {idx : Nat} {ps : List Nat} {u : Unit} {h2 : am_H} (ci c2 s2 : Nat) (e : am_rk ps h.1.length (h.1.length + 1) = some u) (hr : am_rfs (lv.map Prod.snd ++ st) = ps) (e2 : am_nw h (ci, am_nf ci) = h2) (h8 : ci < 8) (hcl : Cond.classLink y.cls idx (am_cn ci) ∈ am_T) (hi : Cond.instantiable (am_cn ci) (am_nf ci) ∈ am_T) (hn : Cond.initialized (am_cn ci) ∈ am_T) (hcs : cells + 1 = c2 ∧ slots + am_nf ci = s2) (hrm : c2 ≤ rm.cells ∧ s2 ≤ rm.slots) (hE : am_Mv Ex h.1.length (h.1.length + 1)) (d : decode cc pc = .ok (.new idx, 3))
    (kk : am_R l y cc nL ret rm Ex c2 s2 (pc + 3) lv (.ref h.1.length :: st) h2 K) : am_R l y cc nL ret rm Ex cells slots pc lv st h K := by
  obtain ⟨rfl, rfl⟩ := hcs
  subst e2
  obtain ⟨q1, q2⟩ := am_rk_lv e hr
  exact r_new ci h8 hcl hi hn hrm q1 q2 hE d kk
theorem r_newa2 {atype : ArrayType} {n : Int32} {ps : List Nat} {u : Unit} {h2 : am_H} (kd len c2 s2 : Nat) (e : am_rk ps h.1.length (h.1.length + 1) = some u) (hr : am_rfs (lv.map Prod.snd ++ st) = ps) (e2 : am_nw h (kd, len) = h2) (hk : (kd = 8 ∧ atype = .char) ∨ (kd = 9 ∧ atype = .int) ∨ (kd = 10 ∧ atype = .boolean)) (hw : Cond.arrayClass (newarray.typeOf atype) ∈ am_T) (hn : ¬ n < 0) (hN : n.toNatClampNeg = len) (hlen : len ≤ 10000) (hcs : cells + 1 = c2 ∧ slots + len = s2) (hrm : c2 ≤ rm.cells ∧ s2 ≤ rm.slots) (hE : am_Mv Ex h.1.length (h.1.length + 1)) (d : decode cc pc = .ok (.newarray atype, 2))
    (kk : am_R l y cc nL ret rm Ex c2 s2 (pc + 2) lv (.ref h.1.length :: st) h2 K) : am_R l y cc nL ret rm Ex cells slots pc lv (.int n :: st) h K := by
  obtain ⟨rfl, rfl⟩ := hcs
  subst e2
  obtain ⟨q1, q2⟩ := am_rk_lv e hr
  exact r_newa kd hk hw hn hN hlen hrm q1 q2 hE d kk
theorem r_anew2 {idx : Nat} {n : Int32} {ps : List Nat} {u : Unit} {h2 : am_H} (len c2 s2 : Nat) (e : am_rk ps h.1.length (h.1.length + 1) = some u) (hr : am_rfs (lv.map Prod.snd ++ st) = ps) (e2 : am_nw h (11, len) = h2) (hcl : Cond.classLink y.cls idx "TimeLinks$Spans" ∈ am_T) (hn : ¬ n < 0) (hN : n.toNatClampNeg = len) (hlen : len ≤ 10000) (hcs : cells + 1 = c2 ∧ slots + len = s2) (hrm : c2 ≤ rm.cells ∧ s2 ≤ rm.slots) (hE : am_Mv Ex h.1.length (h.1.length + 1)) (d : decode cc pc = .ok (.anewarray idx, 3))
    (kk : am_R l y cc nL ret rm Ex c2 s2 (pc + 3) lv (.ref h.1.length :: st) h2 K) : am_R l y cc nL ret rm Ex cells slots pc lv (.int n :: st) h K := by
  obtain ⟨rfl, rfl⟩ := hcs
  subst e2
  obtain ⟨q1, q2⟩ := am_rk_lv e hr
  exact r_anew hcl hn hN hlen hrm q1 q2 hE d kk
theorem r_cI2 {y' : MethodName} {cc' : ByteArray} {nL' : Nat} {rm' : Room} {h2 : am_H} {st0 : List Value} {p0 idx : Nat} {ps : List Nat} {u : Unit} (c2 s2 : Nat) (ct : am_Ct l y' cc' nL' none rm' [.ref p0] h none h2) (e : am_rk ps h.1.length h2.1.length = some u) (hr : am_rfs (lv.map Prod.snd ++ st) = ps) (M : am_IM y.cls idx y' cc' nL' 0)
    (hrm : ((rm'.frames + 1 ≤ rm.frames ∧ 8 + (nL' + 11) + rm'.locals ≤ rm.locals) ∧ c2 ≤ rm.cells ∧ s2 ≤ rm.slots) ∧ rm.cells ≠ 0) (hcs : cells + rm'.cells = c2 ∧ slots + rm'.slots = s2) (hst : st0 = .ref p0 :: st) (hcat : (st.map fun v => v.category).sum ≤ 8) (d : decode cc pc = .ok (.invokespecial idx, 3)) (hE : am_Mv Ex h.1.length h2.1.length)
    (kk : am_R l y cc nL ret rm Ex c2 s2 (pc + 3) lv st h2 K) : am_R l y cc nL ret rm Ex cells slots pc lv st0 h K := by
  obtain ⟨q1, q2⟩ := am_rk_lv e hr
  exact r_cI c2 s2 [] ct M hrm.1 hcs hst hcat d (Or.inr ⟨hrm.2, q1, q2, hE⟩) kk
end AMK
