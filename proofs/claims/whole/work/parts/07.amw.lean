theorem am_t (i : Nat) {w : Cond} (h : tables_1[i]? = some w) (g : goodWord w = true) : w ∈ am_T := List.mem_filter.mpr ⟨List.mem_append_right _ (List.mem_of_getElem? h), g⟩
theorem am_s (i : Nat) {w : Cond} (h : (k2_sels lw_privs)[i]? = some w) (g : goodWord w = true) : w ∈ am_T := List.mem_filter.mpr ⟨List.mem_append_left _ (List.mem_of_getElem? h), g⟩
theorem am_n (i : Nat) {w : Cond} (h : tables_1[i]? = some w) : w ∈ lw_tbl := List.mem_append_right _ (List.mem_of_getElem? h)
theorem am_bs {α β : Type} {a : Option α} {f : α → Option β} {b : β} (h : Option.bind a f = some b) : ∃ w, a = some w ∧ f w = some b := by
  cases a with
  | none => cases h
  | some x => exact ⟨x, rfl, h⟩
def am_nz (z : Int32) : Option Unit := if z = 0 then none else some ()
def am_nzl (z : Int64) : Option Unit := if z = 0 then none else some ()
theorem am_nz_of {z : Int32} {u : Unit} (h : am_nz z = some u) : ¬ z = 0 := by
  intro q
  simp [am_nz, q] at h
theorem am_nzl_of {z : Int64} {u : Unit} (h : am_nzl z = some u) : ¬ z = 0 := by
  intro q
  simp [am_nzl, q] at h
def am_cls (h : am_H) (c p : Nat) : Option Nat := match h.1[p]? with
  | some q => if q.1 = c then some q.2 else none
  | none => none
theorem am_cls_of {h : am_H} {c p n : Nat} (hv : am_cls h c p = some n) : h.1[p]? = some (c, n) := by
  unfold am_cls at hv
  split at hv
  · rename_i q hq
    split at hv
    · rename_i hc
      rw [hq, ← hc, ← Option.some.inj hv]
    · cases hv
  · cases hv
theorem am_b0 {b : Bool} (h : am_b b = 0) : b = false := by
  cases b with
  | false => rfl
  | true => exact absurd h (by decide)
theorem am_b1 {b : Bool} (h : ¬ am_b b = 0) : b = true := by
  cases b with
  | false => exact absurd rfl h
  | true => rfl
def am_VM (own : String) (idx : Nat) (y : MethodName) (cc : ByteArray) (nL : Nat) (ret : Option FieldType) (n ci : Nat) : Prop := am_MF y cc nL ret n ∧ am_ML own idx y ∧ Cond.instanceMethod y ∈ am_T ∧ Cond.selects y.cls y y ∈ am_T ∧ ci < 8 ∧ am_cn ci = y.cls
def am_SM (own : String) (idx : Nat) (y : MethodName) (cc : ByteArray) (nL : Nat) (ret : Option FieldType) (n : Nat) : Prop := am_MF y cc nL ret n ∧ am_ML own idx y ∧ Cond.static y ∈ am_T
def am_IM (own : String) (idx : Nat) (y : MethodName) (cc : ByteArray) (nL : Nat) (n : Nat) : Prop := am_MF y cc nL none n ∧ am_ML own idx y ∧ Cond.instanceMethod y ∈ am_T ∧ y.name = "<init>"
theorem am_met2 {l : Launch} {y : MethodName} {cc : ByteArray} {nL : Nat} {ret : Option FieldType} {rm : Room} {av : List Value} {h : am_H} {r : Option Value} {h' : am_H} (lv : List (Nat × Value)) (hy : plainName y.cls = true) (hlen : (lg_sl av).length ≤ nL) (hlv : lv_args 0 av = lv)
    (hR : am_R l y cc nL ret rm (fun _ _ _ => True) 0 0 0 lv [] h (fun v h2 => v = r ∧ h2 = h')) : am_Ct l y cc nL ret rm av h r h' := am_met hy hlen (hlv ▸ hR)
section AMW
variable {l : Launch} {y : MethodName} {cc : ByteArray} {nL : Nat} {ret : Option FieldType} {rm : Room} {Ex : am_EX} {cells slots pc : Nat} {lv : List (Nat × Value)} {st : List Value} {h : am_H} {K : Option Value → am_H → Prop}
theorem r_inc {i : Nat} {n : Int} {x : Int32} (c : Int32) (j : Nat) (lv2 : List (Nat × Value)) (d : decode cc pc = .ok (.iinc i n, 3)) (hc : Int32.ofInt n = c) (hj : lv[j]? = some (i, .int x)) (hn : i < nL) (hl : am_st i (.int (x + c)) lv = lv2) (k : am_R l y cc nL ret rm Ex cells slots (pc + 3) lv2 st h K) : am_R l y cc nL ret rm Ex cells slots pc lv st h K := r_iinc j lv2 d hj (by rw [hc]) hn hl k
theorem r_cV1 {y' : MethodName} {cc' : ByteArray} {nL' : Nat} {ret' : Option FieldType} {rm' : Room} {h' : am_H} {v : Value} {st0 : List Value} {p0 idx ci : Nat} (As : List Value) (ct : am_Ct l y' cc' nL' ret' rm' (.ref p0 :: As) h (some v) h') (M : am_VM y.cls idx y' cc' nL' ret' As.length ci) (hp : ∃ n, h.1[p0]? = some (ci, n))
    (hr : (rm'.frames + 1 ≤ rm.frames ∧ 8 + (nL' + 11) + rm'.locals ≤ rm.locals) ∧ cells ≤ rm.cells ∧ slots ≤ rm.slots) (hz : rm'.cells = 0 ∧ rm'.slots = 0) (hst : st0 = As.reverse ++ .ref p0 :: st) (hcat : (st.map fun v => v.category).sum ≤ 8) (d : decode cc pc = .ok (.invokevirtual idx, 3)) (kk : am_R l y cc nL ret rm Ex cells slots (pc + 3) lv (v :: st) h' K) : am_R l y cc nL ret rm Ex cells slots pc lv st0 h K := by
  obtain ⟨n, hp⟩ := hp
  exact r_callV As ct M.1 M.2.1 M.2.2.1 M.2.2.2.1 M.2.2.2.2 hp (by rw [hz.1, hz.2]; exact hr) hst hcat d (Or.inl hz.1) (by rw [hz.1, hz.2]; exact kk)
theorem r_cV0 {y' : MethodName} {cc' : ByteArray} {nL' : Nat} {ret' : Option FieldType} {rm' : Room} {h' : am_H} {st0 : List Value} {p0 idx ci : Nat} (As : List Value) (ct : am_Ct l y' cc' nL' ret' rm' (.ref p0 :: As) h none h') (M : am_VM y.cls idx y' cc' nL' ret' As.length ci) (hp : ∃ n, h.1[p0]? = some (ci, n))
    (hr : (rm'.frames + 1 ≤ rm.frames ∧ 8 + (nL' + 11) + rm'.locals ≤ rm.locals) ∧ cells ≤ rm.cells ∧ slots ≤ rm.slots) (hz : rm'.cells = 0 ∧ rm'.slots = 0) (hst : st0 = As.reverse ++ .ref p0 :: st) (hcat : (st.map fun v => v.category).sum ≤ 8) (d : decode cc pc = .ok (.invokevirtual idx, 3)) (kk : am_R l y cc nL ret rm Ex cells slots (pc + 3) lv st h' K) : am_R l y cc nL ret rm Ex cells slots pc lv st0 h K := by
  obtain ⟨n, hp⟩ := hp
  exact r_callV As ct M.1 M.2.1 M.2.2.1 M.2.2.2.1 M.2.2.2.2 hp (by rw [hz.1, hz.2]; exact hr) hst hcat d (Or.inl hz.1) (by rw [hz.1, hz.2]; exact kk)
theorem r_cS1 {y' : MethodName} {cc' : ByteArray} {nL' : Nat} {ret' : Option FieldType} {rm' : Room} {h' : am_H} {v : Value} {st0 : List Value} {idx : Nat} (As : List Value) (ct : am_Ct l y' cc' nL' ret' rm' As h (some v) h') (M : am_SM y.cls idx y' cc' nL' ret' As.length)
    (hr : (rm'.frames + 1 ≤ rm.frames ∧ 8 + (nL' + 11) + rm'.locals ≤ rm.locals) ∧ cells ≤ rm.cells ∧ slots ≤ rm.slots) (hz : rm'.cells = 0 ∧ rm'.slots = 0) (hst : st0 = As.reverse ++ st) (hcat : (st.map fun v => v.category).sum ≤ 8) (d : decode cc pc = .ok (.invokestatic idx, 3)) (kk : am_R l y cc nL ret rm Ex cells slots (pc + 3) lv (v :: st) h' K) : am_R l y cc nL ret rm Ex cells slots pc lv st0 h K :=
  r_callS As ct M.1 M.2.1 M.2.2 (by rw [hz.1, hz.2]; exact hr) hst hcat d (Or.inl hz.1) (by rw [hz.1, hz.2]; exact kk)
theorem r_cI {y' : MethodName} {cc' : ByteArray} {nL' : Nat} {rm' : Room} {h' : am_H} {st0 : List Value} {p0 idx : Nat} (c2 s2 : Nat) (As : List Value) (ct : am_Ct l y' cc' nL' none rm' (.ref p0 :: As) h none h') (M : am_IM y.cls idx y' cc' nL' As.length)
    (hr : (rm'.frames + 1 ≤ rm.frames ∧ 8 + (nL' + 11) + rm'.locals ≤ rm.locals) ∧ c2 ≤ rm.cells ∧ s2 ≤ rm.slots) (hcs : cells + rm'.cells = c2 ∧ slots + rm'.slots = s2) (hst : st0 = As.reverse ++ .ref p0 :: st) (hcat : (st.map fun v => v.category).sum ≤ 8) (d : decode cc pc = .ok (.invokespecial idx, 3)) (hA : am_Al Ex rm rm' h.1.length h'.1.length lv st)
    (kk : am_R l y cc nL ret rm Ex c2 s2 (pc + 3) lv st h' K) : am_R l y cc nL ret rm Ex cells slots pc lv st0 h K := by
  obtain ⟨rfl, rfl⟩ := hcs
  exact r_callI As ct M.1 M.2.1 M.2.2.1 M.2.2.2 hr hst hcat d hA kk
end AMW
