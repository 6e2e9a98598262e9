/-- heap of places: shapes (class number below 8, else kind of row, with its length), ints, longs, references -/
abbrev am_H : Type := List (Nat × Nat) × (Nat → Nat → Int32) × (Nat → Nat → Int64) × (Nat → Nat → Option Nat)
def am_T : List Cond := lw_tbl.filter goodWord
def am_cv (ad : Nat → Nat) (v : Value) : Value := match v with
  | .ref k => .ref (ad k)
  | v => v
def am_b : Bool → Int32
  | true => 1
  | false => 0
def am_nf (c : Nat) : Nat := match c with
  | 0 => 2
  | 1 => 5
  | 2 => 4
  | 3 => 8
  | 4 => 7
  | 5 => 5
  | 6 => 10
  | _ => 20
def am_cn (c : Nat) : String := match c with
  | 0 => RX0
  | 1 => RX1
  | 2 => RX2
  | 3 => RX3
  | 4 => RX4
  | 5 => RX5
  | 6 => RX6
  | _ => RX7
def am_ct (c : Nat) : u_T := match c with
  | 0 => TX0
  | 1 => TX1
  | 2 => TX2
  | 3 => TX3
  | 4 => TX4
  | 5 => TX5
  | 6 => TX6
  | _ => TX7
def am_ty (c : Nat) : Nat → FieldType := match c with
  | 0 => tyX0
  | 1 => tyX1
  | 2 => tyX2
  | 3 => tyX3
  | 4 => tyX4
  | 5 => tyX5
  | 6 => tyX6
  | _ => tyX7
theorem am_c8 {P : Nat → Prop} (h0 : P 0) (h1 : P 1) (h2 : P 2) (h3 : P 3) (h4 : P 4) (h5 : P 5) (h6 : P 6) (h7 : P 7) : ∀ c, c < 8 → P c := by
  intro c hc
  match c, hc with
  | 0, _ => exact h0
  | 1, _ => exact h1
  | 2, _ => exact h2
  | 3, _ => exact h3
  | 4, _ => exact h4
  | 5, _ => exact h5
  | 6, _ => exact h6
  | 7, _ => exact h7

theorem am_cl : ∀ c, c < 8 → vwCl[c]? = some (am_cn c, am_ct c, am_nf c) := am_c8 rfl rfl rfl rfl rfl rfl rfl rfl
theorem am_ui0 : ∀ w ∈ u_ws RX0 TX0 2, w ∈ lw_tbl := by decide +kernel
theorem am_ug0 : ∀ w ∈ u_ws RX0 TX0 2, goodWord w = true := by decide +kernel
theorem am_ui1 : ∀ w ∈ u_ws RX1 TX1 5, w ∈ lw_tbl := by decide +kernel
theorem am_ug1 : ∀ w ∈ u_ws RX1 TX1 5, goodWord w = true := by decide +kernel
theorem am_ui2 : ∀ w ∈ u_ws RX2 TX2 4, w ∈ lw_tbl := by decide +kernel
theorem am_ug2 : ∀ w ∈ u_ws RX2 TX2 4, goodWord w = true := by decide +kernel
theorem am_ui3 : ∀ w ∈ u_ws RX3 TX3 8, w ∈ lw_tbl := by decide +kernel
theorem am_ug3 : ∀ w ∈ u_ws RX3 TX3 8, goodWord w = true := by decide +kernel
theorem am_ui4 : ∀ w ∈ u_ws RX4 TX4 7, w ∈ lw_tbl := by decide +kernel
theorem am_ug4 : ∀ w ∈ u_ws RX4 TX4 7, goodWord w = true := by decide +kernel
theorem am_ui5 : ∀ w ∈ u_ws RX5 TX5 5, w ∈ lw_tbl := by decide +kernel
theorem am_ug5 : ∀ w ∈ u_ws RX5 TX5 5, goodWord w = true := by decide +kernel
theorem am_ui6 : ∀ w ∈ u_ws RX6 TX6 10, w ∈ lw_tbl := by decide +kernel
theorem am_ug6 : ∀ w ∈ u_ws RX6 TX6 10, goodWord w = true := by decide +kernel
theorem am_ui7 : ∀ w ∈ u_ws RX7 TX7 20, w ∈ lw_tbl := by decide +kernel
theorem am_ug7 : ∀ w ∈ u_ws RX7 TX7 20, goodWord w = true := by decide +kernel
theorem am_uin : ∀ c, c < 8 → ∀ w ∈ u_ws (am_cn c) (am_ct c) (am_nf c), w ∈ am_T := am_c8 (fun w h => List.mem_filter.mpr ⟨am_ui0 w h, am_ug0 w h⟩) (fun w h => List.mem_filter.mpr ⟨am_ui1 w h, am_ug1 w h⟩) (fun w h => List.mem_filter.mpr ⟨am_ui2 w h, am_ug2 w h⟩) (fun w h => List.mem_filter.mpr ⟨am_ui3 w h, am_ug3 w h⟩) (fun w h => List.mem_filter.mpr ⟨am_ui4 w h, am_ug4 w h⟩) (fun w h => List.mem_filter.mpr ⟨am_ui5 w h, am_ug5 w h⟩) (fun w h => List.mem_filter.mpr ⟨am_ui6 w h, am_ug6 w h⟩) (fun w h => List.mem_filter.mpr ⟨am_ui7 w h, am_ug7 w h⟩)
theorem am_tyk : ∀ c, c < 8 → ∀ k, k < am_nf c → parseFieldDescriptor (am_ct c k).2.2.1 = some (am_ty c k) := am_c8 tyX0_ok tyX1_ok tyX2_ok tyX3_ok tyX4_ok tyX5_ok tyX6_ok tyX7_ok
theorem am_nmk : ∀ c, c < 8 → ∀ a, a < am_nf c → ∀ b, b < am_nf c → a ≠ b → (am_ct c a).2.1 ≠ (am_ct c b).2.1 := am_c8 nmX0 nmX1 nmX2 nmX3 nmX4 nmX5 nmX6 nmX7
def am_fv (ad : Nat → Nat) (h : am_H) (k : Nat) (t : FieldType) (j : Nat) : Value := match t with
  | .int => .int (h.2.1 k j)
  | .long => .long (h.2.2.1 k j)
  | _ => va_rf ((h.2.2.2 k j).map ad)
def am_ce (tc : Nat → ClassId) (ad : Nat → Nat) (h : am_H) (k : Nat) (q : Nat × Nat) : va_E :=
  if q.1 < 8 then .inr (q.1, (List.range (am_nf q.1)).map (fun j => am_fv ad h k (am_ty q.1 j) j))
  else if q.1 = 11 then .inl (tc 11, q.2, .inr (.inr (.inr (.inr (fun j => (h.2.2.2 k j).map ad)))))
  else .inl (tc q.1, q.2, .inl (h.2.1 k))
def am_w (tc : Nat → ClassId) (ad : Nat → Nat) (h : am_H) : va_W := h.1.mapIdx (fun k q => (ad k, am_ce tc ad h k q))
theorem am_w_at {tc : Nat → ClassId} {ad : Nat → Nat} {h : am_H} {k : Nat} {q : Nat × Nat} (hk : h.1[k]? = some q) : (am_w tc ad h)[k]? = some (ad k, am_ce tc ad h k q) := by
  simp [am_w, List.getElem?_mapIdx, hk]
theorem am_w_len {tc : Nat → ClassId} {ad : Nat → Nat} {h : am_H} : (am_w tc ad h).length = h.1.length := by simp [am_w]
theorem am_w_set {tc : Nat → ClassId} {ad : Nat → Nat} {h h' : am_H} {p : Nat} {q : Nat × Nat} (hs : h'.1 = h.1) (hq : h.1[p]? = some q) (hne : ∀ k, k ≠ p → ∀ r, am_ce tc ad h' k r = am_ce tc ad h k r) :
    (am_w tc ad h).set p (ad p, am_ce tc ad h' p q) = am_w tc ad h' := by
  apply List.ext_getElem?
  intro k
  by_cases hk : k = p
  · subst hk
    have hl : k < (am_w tc ad h).length := by rw [am_w_len]; exact (List.getElem?_eq_some_iff.mp hq).1
    rw [List.getElem?_set_self hl]
    exact (am_w_at (h := h') (by rw [hs]; exact hq)).symm
  · rw [List.getElem?_set_ne (Ne.symm hk)]
    simp only [am_w, List.getElem?_mapIdx, hs]
    cases h.1[k]? with
    | none => rfl
    | some r => simp [hne k hk r]
def am_u {α : Type} (f : Nat → Nat → α) (p i : Nat) (x : α) : Nat → Nat → α := fun q j => if q = p ∧ j = i then x else f q j
theorem am_u_ne {α : Type} {f : Nat → Nat → α} {p i k : Nat} {x : α} (h : k ≠ p) : am_u f p i x k = f k := by funext j; simp [am_u, h]
theorem am_u_eq {α : Type} {f : Nat → Nat → α} {p i : Nat} {x : α} : am_u f p i x p = fun j => if j = i then x else f p j := by funext j; simp [am_u]
def am_I (h : am_H) (p i : Nat) (x : Int32) : am_H := (h.1, am_u h.2.1 p i x, h.2.2.1, h.2.2.2)
def am_L (h : am_H) (p i : Nat) (x : Int64) : am_H := (h.1, h.2.1, am_u h.2.2.1 p i x, h.2.2.2)
def am_F (h : am_H) (p i : Nat) (x : Option Nat) : am_H := (h.1, h.2.1, h.2.2.1, am_u h.2.2.2 p i x)
def am_ok (h : am_H) : Prop := ∀ k j, (h.1.length ≤ k → h.2.1 k j = 0 ∧ h.2.2.1 k j = 0 ∧ h.2.2.2 k j = none) ∧ ∀ q, h.2.2.2 k j = some q → q < h.1.length
theorem am_ok_I {h : am_H} {p i : Nat} {x : Int32} (H : am_ok h) (hp : p < h.1.length) : am_ok (am_I h p i x) := by
  intro k j
  refine ⟨fun hk => ⟨?_, ((H k j).1 hk).2⟩, (H k j).2⟩
  have hk' : h.1.length ≤ k := hk
  show am_u h.2.1 p i x k j = 0
  rw [am_u_ne (by omega)]
  exact ((H k j).1 hk).1
theorem am_ok_L {h : am_H} {p i : Nat} {x : Int64} (H : am_ok h) (hp : p < h.1.length) : am_ok (am_L h p i x) := by
  intro k j
  refine ⟨fun hk => ⟨((H k j).1 hk).1, ?_, ((H k j).1 hk).2.2⟩, (H k j).2⟩
  have hk' : h.1.length ≤ k := hk
  show am_u h.2.2.1 p i x k j = 0
  rw [am_u_ne (by omega)]
  exact ((H k j).1 hk).2.1
theorem am_ok_F {h : am_H} {p i q : Nat} (H : am_ok h) (hp : p < h.1.length) (hq : q < h.1.length) : am_ok (am_F h p i (some q)) := by
  intro k j
  refine ⟨fun hk => ⟨((H k j).1 hk).1, ((H k j).1 hk).2.1, ?_⟩, fun r hr => ?_⟩
  · have hk' : h.1.length ≤ k := hk
    show am_u h.2.2.2 p i (some q) k j = none
    rw [am_u_ne (by omega)]
    exact ((H k j).1 hk).2.2
  · have hr' : am_u h.2.2.2 p i (some q) k j = some r := hr
    show r < h.1.length
    unfold am_u at hr'
    split at hr'
    · cases hr'; exact hq
    · exact (H k j).2 r hr'
-- reads and writes that may fail
def am_gi (h : am_H) (c p k : Nat) : Option Int32 := match h.1[p]? with
  | some q => if q.1 = c then some (h.2.1 p k) else none
  | none => none
def am_gl (h : am_H) (c p k : Nat) : Option Int64 := match h.1[p]? with
  | some q => if q.1 = c then some (h.2.2.1 p k) else none
  | none => none
def am_gr (h : am_H) (c p k : Nat) : Option Nat := match h.1[p]? with
  | some q => if q.1 = c then h.2.2.2 p k else none
  | none => none
def am_pi (h : am_H) (c p k : Nat) (x : Int32) : Option am_H := match h.1[p]? with
  | some q => if q.1 = c then some (am_I h p k x) else none
  | none => none
def am_pl (h : am_H) (c p k : Nat) (x : Int64) : Option am_H := match h.1[p]? with
  | some q => if q.1 = c then some (am_L h p k x) else none
  | none => none
def am_pr (h : am_H) (c p k : Nat) (x : Nat) : Option am_H := match h.1[p]? with
  | some q => if q.1 = c ∧ x < h.1.length then some (am_F h p k (some x)) else none
  | none => none
def am_li (h : am_H) (c p : Nat) (i : Int32) : Option Int32 := match h.1[p]? with
  | some q => if q.1 = c ∧ 0 ≤ i.toInt ∧ i.toInt < q.2 then some (h.2.1 p i.toNatClampNeg) else none
  | none => none
def am_lr (h : am_H) (p : Nat) (i : Int32) : Option Nat := match h.1[p]? with
  | some q => if q.1 = 11 ∧ 0 ≤ i.toInt ∧ i.toInt < q.2 then h.2.2.2 p i.toNatClampNeg else none
  | none => none
def am_si (h : am_H) (c p : Nat) (i x : Int32) : Option am_H := match h.1[p]? with
  | some q => if q.1 = c ∧ 0 ≤ i.toInt ∧ i.toInt < q.2 then some (am_I h p i.toNatClampNeg x) else none
  | none => none
def am_sr (h : am_H) (p : Nat) (i : Int32) (x : Nat) : Option am_H := match h.1[p]?, h.1[x]? with
  | some q, some z => if (q.1 = 11 ∧ z.1 = 5) ∧ 0 ≤ i.toInt ∧ i.toInt < q.2 then some (am_F h p i.toNatClampNeg (some x)) else none
  | _, _ => none
def am_nw (h : am_H) (q : Nat × Nat) : am_H := (h.1 ++ [q], h.2.1, h.2.2.1, h.2.2.2)
-- what the tables say, at a state
def am_ne : Cond → Bool
  | .fieldLinkNest .. => true
  | .methodLinkNest .. => true
  | _ => false
def am_tys (tc : Nat → ClassId) : List (ClassId × FieldType) := [(tc 8, .char), (tc 9, .int), (tc 10, .boolean), (tc 11, .object "TimeLinks$Spans")]
def am_G (D : va_G) (tc : Nat → ClassId) (s : State) : Prop := va_K D vwCl (am_tys tc) s ∧ (∀ w ∈ lw_tbl, am_ne w = true → va_Nw w s) ∧ va_AO "TimeLinks$Spans" s
theorem am_G.warm {D : va_G} {tc : Nat → ClassId} {s U : State} (h : am_G D tc s) (hW : s.WarmedH U.vm) : am_G D tc U := by
  refine ⟨va_K.moved hW.alike h.1, fun w hw hn => ?_, h.2.2.moved hW.alike⟩
  have h1 := h.2.1 w hw hn
  cases w <;> first | exact h1.warmF hW | exact h1.warmM hW | (simp [am_ne] at hn)
theorem am_G.blind {D : va_G} {tc : Nat → ClassId} {s U : State} (h : am_G D tc s) (hv : s.vm = U.vm) : am_G D tc U := by
  refine ⟨va_K.moved (hv ▸ Vm.Alike.refl s.vm) h.1, fun w hw hn => ?_, h.2.2.moved (hv ▸ Vm.Alike.refl s.vm)⟩
  have h1 := h.2.1 w hw hn
  cases w <;> first | exact h1.same rfl hv | (simp [am_ne] at hn)
/-- what stays through a method's run -/
def am_C (y : MethodName) (cc : ByteArray) (nL : Nat) (ret : Option FieldType) (p : Program) (s : State) (m : MethodId) (args : Array Value) (meth : Method) (c : Code) (D : va_G) (tc : Nat → ClassId) (A : Nat → Prop) : Prop :=
  p.tables.exec = Jvm.exec ∧ c.code = cc ∧ c.maxLocals = nL ∧ s.vm.findClass y.cls = some m.cls ∧ (∀ w ∈ am_T, w.before args s = true) ∧ meth.sig.returnType = ret ∧ meth.locks = false ∧ meth.name = y.name ∧ (∀ q, s.heap.size ≤ q → A q) ∧ am_G D tc s
abbrev am_EX : Type := (Nat → Nat) → State → (Nat → Prop) → Prop
def am_lm (ad : Nat → Nat) (lv : List (Nat × Value)) : List (Nat × Value) := lv.map (fun q => (q.1, am_cv ad q.2))
def am_D (nL : Nat) (rm : Room) (Ex : am_EX) (lv : List (Nat × Value)) (h : am_H) (D : va_G) (tc : Nat → ClassId) (ad : Nat → Nat) (A : Nat → Prop) (s : State) (H : Heap) (locs : List Loc) (ls : Array Slot) (n0 : Nat) (ad0 : Nat → Nat) : Prop :=
  am_ok h ∧ lv_has ls nL (am_lm ad lv) ∧ va_P D vwCl (am_w tc ad h) H ∧ va_D A (am_w tc ad h) ∧ va_S A s.heap H locs ∧ Ex ad s A ∧ n0 ≤ h.1.length ∧ (∀ k, k < n0 ∨ h.1.length ≤ k → ad k = ad0 k) ∧ (rm.cells = 0 → ad = ad0)
def am_rt (cc : ByteArray) (ret : Option FieldType) (pc : Nat) (v : Option Value) : Prop := match v with
  | none => decode cc pc = .ok (.return_, 1) ∧ ret = none
  | some (.int x) => decode cc pc = .ok (.ireturn, 1) ∧ ∃ ty, ret = some ty ∧ narrow ty (.int x) = .int x
  | some (.long _) => decode cc pc = .ok (.lreturn, 1) ∧ ret = some .long
  | _ => False
def am_K (l : Launch) (cc : ByteArray) (ret : Option FieldType) (rm : Room) (p : Program) (e : Env) (s : State) (m : MethodId) (args : Array Value) (below : List Frame) (meth : Method) (c : Code) (D : va_G) (tc : Nat → ClassId) (A : Nat → Prop) (Q : State → Prop) (n0 : Nat) (ad0 : Nat → Nat) (K : Option Value → am_H → Prop) : Prop :=
  ∀ (v : Option Value) (h : am_H) (ad : Nat → Nat) (H : Heap) (locs : List Loc) (pc : Nat) (ls : Array Slot), K v h → am_ok h → n0 ≤ h.1.length → (∀ k, k < n0 ∨ h.1.length ≤ k → ad k = ad0 k) → (rm.cells = 0 → ad = ad0) → va_P D vwCl (am_w tc ad h) H → va_D A (am_w tc ad h) → va_S A s.heap H locs → am_rt cc ret pc v →
    W p l e rm s m args below meth c H locs rm.cells rm.slots Q (F0 m pc ls (v.toList.map (am_cv ad)))
/-- the judgement: from here the method comes to its end, with K of answer and heap -/
def am_R (l : Launch) (y : MethodName) (cc : ByteArray) (nL : Nat) (ret : Option FieldType) (rm : Room) (Ex : am_EX) (cells slots pc : Nat) (lv : List (Nat × Value)) (st : List Value) (h : am_H) (K : Option Value → am_H → Prop) : Prop :=
  ∀ (p : Program) (e : Env) (s : State) (m : MethodId) (args : Array Value) (below : List Frame) (meth : Method) (c : Code) (D : va_G) (tc : Nat → ClassId) (ad : Nat → Nat) (A : Nat → Prop) (H : Heap) (locs : List Loc) (ls : Array Slot) (Q : State → Prop) (n0 : Nat) (ad0 : Nat → Nat),
    am_C y cc nL ret p s m args meth c D tc A → am_D nL rm Ex lv h D tc ad A s H locs ls n0 ad0 → am_K l cc ret rm p e s m args below meth c D tc A Q n0 ad0 K →
    W p l e rm s m args below meth c H locs cells slots Q (F0 m pc ls (st.map (am_cv ad)))

section AMR
variable {l : Launch} {y : MethodName} {cc : ByteArray} {nL : Nat} {ret : Option FieldType} {rm : Room} {Ex : am_EX} {cells slots pc : Nat} {lv : List (Nat × Value)} {st : List Value} {h : am_H} {K : Option Value → am_H → Prop}
theorem r_iconst {n : Int} (v : Int32) (d : decode cc pc = .ok (.iconst n, 1)) (hv : Int32.ofInt n = v) (k : am_R l y cc nL ret rm Ex cells slots (pc + 1) lv (.int v :: st) h K) : am_R l y cc nL ret rm Ex cells slots pc lv st h K := fun p e s m args below meth c D tc ad A H locs ls Q n0 ad0 C Y Z => lv_iconst C.1 C.2.1 d hv (k p e s m args below meth c D tc ad A H locs ls Q n0 ad0 C Y Z)
theorem r_bipush {n : Int} (v : Int32) (d : decode cc pc = .ok (.bipush n, 2)) (hv : (Int8.ofInt n).toInt32 = v) (k : am_R l y cc nL ret rm Ex cells slots (pc + 2) lv (.int v :: st) h K) : am_R l y cc nL ret rm Ex cells slots pc lv st h K := fun p e s m args below meth c D tc ad A H locs ls Q n0 ad0 C Y Z => lv_bipush C.1 C.2.1 d hv (k p e s m args below meth c D tc ad A H locs ls Q n0 ad0 C Y Z)
theorem r_sipush {n : Int} (v : Int32) (d : decode cc pc = .ok (.sipush n, 3)) (hv : (Int16.ofInt n).toInt32 = v) (k : am_R l y cc nL ret rm Ex cells slots (pc + 3) lv (.int v :: st) h K) : am_R l y cc nL ret rm Ex cells slots pc lv st h K := fun p e s m args below meth c D tc ad A H locs ls Q n0 ad0 C Y Z => lv_sipush C.1 C.2.1 d hv (k p e s m args below meth c D tc ad A H locs ls Q n0 ad0 C Y Z)
theorem r_lconst {n : Fin 2} (v : Int64) (d : decode cc pc = .ok (.lconst n, 1)) (hv : Int64.ofNat (n : Nat) = v) (k : am_R l y cc nL ret rm Ex cells slots (pc + 1) lv (.long v :: st) h K) : am_R l y cc nL ret rm Ex cells slots pc lv st h K := fun p e s m args below meth c D tc ad A H locs ls Q n0 ad0 C Y Z => lv_lconst C.1 C.2.1 d hv (k p e s m args below meth c D tc ad A H locs ls Q n0 ad0 C Y Z)
theorem r_ldc {i : Nat} {v : Int32} (hw : Cond.constant y.cls i v ∈ am_T) (d : decode cc pc = .ok (.ldc i, 2)) (k : am_R l y cc nL ret rm Ex cells slots (pc + 2) lv (.int v :: st) h K) : am_R l y cc nL ret rm Ex cells slots pc lv st h K := fun p e s m args below meth c D tc ad A H locs ls Q n0 ad0 C Y Z => lv_ldc C.1 C.2.1 C.2.2.2.1 (C.2.2.2.2.1 _ hw) d (k p e s m args below meth c D tc ad A H locs ls Q n0 ad0 C Y Z)
theorem r_ldcw {i : Nat} {v : Int32} (hw : Cond.constant y.cls i v ∈ am_T) (d : decode cc pc = .ok (.ldc_w i, 3)) (k : am_R l y cc nL ret rm Ex cells slots (pc + 3) lv (.int v :: st) h K) : am_R l y cc nL ret rm Ex cells slots pc lv st h K := fun p e s m args below meth c D tc ad A H locs ls Q n0 ad0 C Y Z => lv_ldcw C.1 C.2.1 C.2.2.2.1 (C.2.2.2.2.1 _ hw) d (k p e s m args below meth c D tc ad A H locs ls Q n0 ad0 C Y Z)
theorem r_ldc2 {i : Nat} {v : Int64} (hw : Cond.constantLong y.cls i v ∈ am_T) (d : decode cc pc = .ok (.ldc2_w i, 3)) (k : am_R l y cc nL ret rm Ex cells slots (pc + 3) lv (.long v :: st) h K) : am_R l y cc nL ret rm Ex cells slots pc lv st h K := fun p e s m args below meth c D tc ad A H locs ls Q n0 ad0 C Y Z => lv_ldc2 C.1 C.2.1 C.2.2.2.1 (C.2.2.2.2.1 _ hw) d (k p e s m args below meth c D tc ad A H locs ls Q n0 ad0 C Y Z)
theorem r_iadd {x z : Int32} (d : decode cc pc = .ok (.iadd, 1)) (k : am_R l y cc nL ret rm Ex cells slots (pc + 1) lv (.int (x + z) :: st) h K) : am_R l y cc nL ret rm Ex cells slots pc lv (.int z :: .int x :: st) h K := fun p e s m args below meth c D tc ad A H locs ls Q n0 ad0 C Y Z => lv_iadd C.1 C.2.1 d (k p e s m args below meth c D tc ad A H locs ls Q n0 ad0 C Y Z)
theorem r_isub {x z : Int32} (d : decode cc pc = .ok (.isub, 1)) (k : am_R l y cc nL ret rm Ex cells slots (pc + 1) lv (.int (x - z) :: st) h K) : am_R l y cc nL ret rm Ex cells slots pc lv (.int z :: .int x :: st) h K := fun p e s m args below meth c D tc ad A H locs ls Q n0 ad0 C Y Z => lv_isub C.1 C.2.1 d (k p e s m args below meth c D tc ad A H locs ls Q n0 ad0 C Y Z)
theorem r_imul {x z : Int32} (d : decode cc pc = .ok (.imul, 1)) (k : am_R l y cc nL ret rm Ex cells slots (pc + 1) lv (.int (x * z) :: st) h K) : am_R l y cc nL ret rm Ex cells slots pc lv (.int z :: .int x :: st) h K := fun p e s m args below meth c D tc ad A H locs ls Q n0 ad0 C Y Z => lv_imul C.1 C.2.1 d (k p e s m args below meth c D tc ad A H locs ls Q n0 ad0 C Y Z)
theorem r_iand {x z : Int32} (d : decode cc pc = .ok (.iand, 1)) (k : am_R l y cc nL ret rm Ex cells slots (pc + 1) lv (.int (x &&& z) :: st) h K) : am_R l y cc nL ret rm Ex cells slots pc lv (.int z :: .int x :: st) h K := fun p e s m args below meth c D tc ad A H locs ls Q n0 ad0 C Y Z => lv_iand C.1 C.2.1 d (k p e s m args below meth c D tc ad A H locs ls Q n0 ad0 C Y Z)
theorem r_ior {x z : Int32} (d : decode cc pc = .ok (.ior, 1)) (k : am_R l y cc nL ret rm Ex cells slots (pc + 1) lv (.int (x ||| z) :: st) h K) : am_R l y cc nL ret rm Ex cells slots pc lv (.int z :: .int x :: st) h K := fun p e s m args below meth c D tc ad A H locs ls Q n0 ad0 C Y Z => lv_ior C.1 C.2.1 d (k p e s m args below meth c D tc ad A H locs ls Q n0 ad0 C Y Z)
theorem r_ixor {x z : Int32} (d : decode cc pc = .ok (.ixor, 1)) (k : am_R l y cc nL ret rm Ex cells slots (pc + 1) lv (.int (x ^^^ z) :: st) h K) : am_R l y cc nL ret rm Ex cells slots pc lv (.int z :: .int x :: st) h K := fun p e s m args below meth c D tc ad A H locs ls Q n0 ad0 C Y Z => lv_ixor C.1 C.2.1 d (k p e s m args below meth c D tc ad A H locs ls Q n0 ad0 C Y Z)
theorem r_ishl {x z : Int32} (d : decode cc pc = .ok (.ishl, 1)) (k : am_R l y cc nL ret rm Ex cells slots (pc + 1) lv (.int (x <<< (z &&& 31)) :: st) h K) : am_R l y cc nL ret rm Ex cells slots pc lv (.int z :: .int x :: st) h K := fun p e s m args below meth c D tc ad A H locs ls Q n0 ad0 C Y Z => lv_ishl C.1 C.2.1 d (k p e s m args below meth c D tc ad A H locs ls Q n0 ad0 C Y Z)
theorem r_ishr {x z : Int32} (d : decode cc pc = .ok (.ishr, 1)) (k : am_R l y cc nL ret rm Ex cells slots (pc + 1) lv (.int (x >>> (z &&& 31)) :: st) h K) : am_R l y cc nL ret rm Ex cells slots pc lv (.int z :: .int x :: st) h K := fun p e s m args below meth c D tc ad A H locs ls Q n0 ad0 C Y Z => lv_ishr C.1 C.2.1 d (k p e s m args below meth c D tc ad A H locs ls Q n0 ad0 C Y Z)
theorem r_idiv {x z : Int32} (d : decode cc pc = .ok (.idiv, 1)) (hne : ¬ z = 0) (k : am_R l y cc nL ret rm Ex cells slots (pc + 1) lv (.int (x / z) :: st) h K) : am_R l y cc nL ret rm Ex cells slots pc lv (.int z :: .int x :: st) h K := fun p e s m args below meth c D tc ad A H locs ls Q n0 ad0 C Y Z => lv_idiv C.1 C.2.1 d hne (k p e s m args below meth c D tc ad A H locs ls Q n0 ad0 C Y Z)
theorem r_irem {x z : Int32} (d : decode cc pc = .ok (.irem, 1)) (hne : ¬ z = 0) (k : am_R l y cc nL ret rm Ex cells slots (pc + 1) lv (.int (x - x / z * z) :: st) h K) : am_R l y cc nL ret rm Ex cells slots pc lv (.int z :: .int x :: st) h K := fun p e s m args below meth c D tc ad A H locs ls Q n0 ad0 C Y Z => lv_irem C.1 C.2.1 d hne (k p e s m args below meth c D tc ad A H locs ls Q n0 ad0 C Y Z)
theorem r_ineg {x : Int32} (d : decode cc pc = .ok (.ineg, 1)) (k : am_R l y cc nL ret rm Ex cells slots (pc + 1) lv (.int (-x) :: st) h K) : am_R l y cc nL ret rm Ex cells slots pc lv (.int x :: st) h K := fun p e s m args below meth c D tc ad A H locs ls Q n0 ad0 C Y Z => lv_ineg C.1 C.2.1 d (k p e s m args below meth c D tc ad A H locs ls Q n0 ad0 C Y Z)
theorem r_iushr {x z : Int32} (d : decode cc pc = .ok (.iushr, 1)) (k : am_R l y cc nL ret rm Ex cells slots (pc + 1) lv (.int ((x.toUInt32 >>> (z.toUInt32 &&& Int32.toUInt32 31)).toInt32) :: st) h K) : am_R l y cc nL ret rm Ex cells slots pc lv (.int z :: .int x :: st) h K := fun p e s m args below meth c D tc ad A H locs ls Q n0 ad0 C Y Z => lv_iushr C.1 C.2.1 d rfl (k p e s m args below meth c D tc ad A H locs ls Q n0 ad0 C Y Z)
theorem r_ladd {x z : Int64} (d : decode cc pc = .ok (.ladd, 1)) (k : am_R l y cc nL ret rm Ex cells slots (pc + 1) lv (.long (x + z) :: st) h K) : am_R l y cc nL ret rm Ex cells slots pc lv (.long z :: .long x :: st) h K := fun p e s m args below meth c D tc ad A H locs ls Q n0 ad0 C Y Z => lv_ladd C.1 C.2.1 d (k p e s m args below meth c D tc ad A H locs ls Q n0 ad0 C Y Z)
theorem r_lsub {x z : Int64} (d : decode cc pc = .ok (.lsub, 1)) (k : am_R l y cc nL ret rm Ex cells slots (pc + 1) lv (.long (x - z) :: st) h K) : am_R l y cc nL ret rm Ex cells slots pc lv (.long z :: .long x :: st) h K := fun p e s m args below meth c D tc ad A H locs ls Q n0 ad0 C Y Z => lv_lsub C.1 C.2.1 d (k p e s m args below meth c D tc ad A H locs ls Q n0 ad0 C Y Z)
theorem r_lmul {x z : Int64} (d : decode cc pc = .ok (.lmul, 1)) (k : am_R l y cc nL ret rm Ex cells slots (pc + 1) lv (.long (x * z) :: st) h K) : am_R l y cc nL ret rm Ex cells slots pc lv (.long z :: .long x :: st) h K := fun p e s m args below meth c D tc ad A H locs ls Q n0 ad0 C Y Z => lv_lmul C.1 C.2.1 d (k p e s m args below meth c D tc ad A H locs ls Q n0 ad0 C Y Z)
theorem r_land {x z : Int64} (d : decode cc pc = .ok (.land, 1)) (k : am_R l y cc nL ret rm Ex cells slots (pc + 1) lv (.long (x &&& z) :: st) h K) : am_R l y cc nL ret rm Ex cells slots pc lv (.long z :: .long x :: st) h K := fun p e s m args below meth c D tc ad A H locs ls Q n0 ad0 C Y Z => lv_land C.1 C.2.1 d (k p e s m args below meth c D tc ad A H locs ls Q n0 ad0 C Y Z)
theorem r_lor {x z : Int64} (d : decode cc pc = .ok (.lor, 1)) (k : am_R l y cc nL ret rm Ex cells slots (pc + 1) lv (.long (x ||| z) :: st) h K) : am_R l y cc nL ret rm Ex cells slots pc lv (.long z :: .long x :: st) h K := fun p e s m args below meth c D tc ad A H locs ls Q n0 ad0 C Y Z => lv_lor C.1 C.2.1 d (k p e s m args below meth c D tc ad A H locs ls Q n0 ad0 C Y Z)
theorem r_ldiv {x z : Int64} (d : decode cc pc = .ok (.ldiv, 1)) (hne : ¬ z = 0) (k : am_R l y cc nL ret rm Ex cells slots (pc + 1) lv (.long (x / z) :: st) h K) : am_R l y cc nL ret rm Ex cells slots pc lv (.long z :: .long x :: st) h K := fun p e s m args below meth c D tc ad A H locs ls Q n0 ad0 C Y Z => lv_ldiv C.1 C.2.1 d hne (k p e s m args below meth c D tc ad A H locs ls Q n0 ad0 C Y Z)
theorem r_lrem {x z : Int64} (d : decode cc pc = .ok (.lrem, 1)) (hne : ¬ z = 0) (k : am_R l y cc nL ret rm Ex cells slots (pc + 1) lv (.long (x - x / z * z) :: st) h K) : am_R l y cc nL ret rm Ex cells slots pc lv (.long z :: .long x :: st) h K := fun p e s m args below meth c D tc ad A H locs ls Q n0 ad0 C Y Z => lv_lrem C.1 C.2.1 d hne (k p e s m args below meth c D tc ad A H locs ls Q n0 ad0 C Y Z)
theorem r_lshl {x : Int64} {z : Int32} (d : decode cc pc = .ok (.lshl, 1)) (k : am_R l y cc nL ret rm Ex cells slots (pc + 1) lv (.long (x <<< (z.toInt64 &&& 63)) :: st) h K) : am_R l y cc nL ret rm Ex cells slots pc lv (.int z :: .long x :: st) h K := fun p e s m args below meth c D tc ad A H locs ls Q n0 ad0 C Y Z => lv_lshl C.1 C.2.1 d rfl (k p e s m args below meth c D tc ad A H locs ls Q n0 ad0 C Y Z)
theorem r_lushr {x : Int64} {z : Int32} (d : decode cc pc = .ok (.lushr, 1)) (k : am_R l y cc nL ret rm Ex cells slots (pc + 1) lv (.long ((x.toUInt64 >>> (z.toInt64.toUInt64 &&& Int64.toUInt64 63)).toInt64) :: st) h K) : am_R l y cc nL ret rm Ex cells slots pc lv (.int z :: .long x :: st) h K := fun p e s m args below meth c D tc ad A H locs ls Q n0 ad0 C Y Z => lv_lushr C.1 C.2.1 d rfl (k p e s m args below meth c D tc ad A H locs ls Q n0 ad0 C Y Z)
theorem r_i2l {x : Int32} (d : decode cc pc = .ok (.i2l, 1)) (k : am_R l y cc nL ret rm Ex cells slots (pc + 1) lv (.long x.toInt64 :: st) h K) : am_R l y cc nL ret rm Ex cells slots pc lv (.int x :: st) h K := fun p e s m args below meth c D tc ad A H locs ls Q n0 ad0 C Y Z => lv_i2l C.1 C.2.1 d rfl (k p e s m args below meth c D tc ad A H locs ls Q n0 ad0 C Y Z)
theorem r_l2i {x : Int64} (d : decode cc pc = .ok (.l2i, 1)) (k : am_R l y cc nL ret rm Ex cells slots (pc + 1) lv (.int x.toInt32 :: st) h K) : am_R l y cc nL ret rm Ex cells slots pc lv (.long x :: st) h K := fun p e s m args below meth c D tc ad A H locs ls Q n0 ad0 C Y Z => lv_l2i C.1 C.2.1 d rfl (k p e s m args below meth c D tc ad A H locs ls Q n0 ad0 C Y Z)
theorem r_i2c {x : Int32} (d : decode cc pc = .ok (.i2c, 1)) (k : am_R l y cc nL ret rm Ex cells slots (pc + 1) lv (.int (x.toUInt32 % 65536).toInt32 :: st) h K) : am_R l y cc nL ret rm Ex cells slots pc lv (.int x :: st) h K := fun p e s m args below meth c D tc ad A H locs ls Q n0 ad0 C Y Z => lv_i2c C.1 C.2.1 d rfl (k p e s m args below meth c D tc ad A H locs ls Q n0 ad0 C Y Z)
theorem r_lcmp {x z : Int64} (d : decode cc pc = .ok (.lcmp, 1)) (k : am_R l y cc nL ret rm Ex cells slots (pc + 1) lv (.int (lg_cmp x z) :: st) h K) : am_R l y cc nL ret rm Ex cells slots pc lv (.long z :: .long x :: st) h K := fun p e s m args below meth c D tc ad A H locs ls Q n0 ad0 C Y Z => W.lcmp C.1 C.2.1 d (k p e s m args below meth c D tc ad A H locs ls Q n0 ad0 C Y Z)
theorem am_cat (ad : Nat → Nat) (v : Value) : (am_cv ad v).category = v.category := by cases v <;> rfl
theorem r_dup {v : Value} (d : decode cc pc = .ok (.dup, 1)) (hc : v.category = 1) (k : am_R l y cc nL ret rm Ex cells slots (pc + 1) lv (v :: v :: st) h K) : am_R l y cc nL ret rm Ex cells slots pc lv (v :: st) h K := fun p e s m args below meth c D tc ad A H locs ls Q n0 ad0 C Y Z => lv_dup C.1 C.2.1 d ((am_cat ad v).trans hc) (k p e s m args below meth c D tc ad A H locs ls Q n0 ad0 C Y Z)
theorem r_pop {v : Value} (d : decode cc pc = .ok (.pop, 1)) (hc : v.category = 1) (k : am_R l y cc nL ret rm Ex cells slots (pc + 1) lv st h K) : am_R l y cc nL ret rm Ex cells slots pc lv (v :: st) h K := fun p e s m args below meth c D tc ad A H locs ls Q n0 ad0 C Y Z => lv_pop C.1 C.2.1 d ((am_cat ad v).trans hc) (k p e s m args below meth c D tc ad A H locs ls Q n0 ad0 C Y Z)
theorem r_dup2 {v z : Value} (d : decode cc pc = .ok (.dup2, 1)) (hc : v.category = 1) (hd : z.category = 1) (k : am_R l y cc nL ret rm Ex cells slots (pc + 1) lv (v :: z :: v :: z :: st) h K) : am_R l y cc nL ret rm Ex cells slots pc lv (v :: z :: st) h K := fun p e s m args below meth c D tc ad A H locs ls Q n0 ad0 C Y Z => lv_dup2_11 C.1 C.2.1 d ((am_cat ad v).trans hc) ((am_cat ad z).trans hd) (k p e s m args below meth c D tc ad A H locs ls Q n0 ad0 C Y Z)
theorem r_dup2l {v : Value} (d : decode cc pc = .ok (.dup2, 1)) (hc : v.category = 2) (k : am_R l y cc nL ret rm Ex cells slots (pc + 1) lv (v :: v :: st) h K) : am_R l y cc nL ret rm Ex cells slots pc lv (v :: st) h K := fun p e s m args below meth c D tc ad A H locs ls Q n0 ad0 C Y Z => lv_dup2_2 C.1 C.2.1 d ((am_cat ad v).trans hc) (k p e s m args below meth c D tc ad A H locs ls Q n0 ad0 C Y Z)
theorem r_if_eq {x : Int32} {off : Int} (t : Nat) (d : decode cc pc = .ok (.ifCond .eq off, 3)) (ht : (pc : Int) + off = (t : Int)) (k1 : x = 0 → am_R l y cc nL ret rm Ex cells slots t lv st h K) (k2 : ¬ x = 0 → am_R l y cc nL ret rm Ex cells slots (pc + 3) lv st h K) : am_R l y cc nL ret rm Ex cells slots pc lv (.int x :: st) h K := fun p e s m args below meth c D tc ad A H locs ls Q n0 ad0 C Y Z => lv_if_eq C.1 C.2.1 d ht (fun q => k1 q p e s m args below meth c D tc ad A H locs ls Q n0 ad0 C Y Z) (fun q => k2 q p e s m args below meth c D tc ad A H locs ls Q n0 ad0 C Y Z)
theorem r_if_ne {x : Int32} {off : Int} (t : Nat) (d : decode cc pc = .ok (.ifCond .ne off, 3)) (ht : (pc : Int) + off = (t : Int)) (k1 : ¬ x = 0 → am_R l y cc nL ret rm Ex cells slots t lv st h K) (k2 : x = 0 → am_R l y cc nL ret rm Ex cells slots (pc + 3) lv st h K) : am_R l y cc nL ret rm Ex cells slots pc lv (.int x :: st) h K := fun p e s m args below meth c D tc ad A H locs ls Q n0 ad0 C Y Z => lv_if_ne C.1 C.2.1 d ht (fun q => k1 q p e s m args below meth c D tc ad A H locs ls Q n0 ad0 C Y Z) (fun q => k2 q p e s m args below meth c D tc ad A H locs ls Q n0 ad0 C Y Z)
theorem r_if_lt {x : Int32} {off : Int} (t : Nat) (d : decode cc pc = .ok (.ifCond .lt off, 3)) (ht : (pc : Int) + off = (t : Int)) (k1 : x < 0 → am_R l y cc nL ret rm Ex cells slots t lv st h K) (k2 : ¬ x < 0 → am_R l y cc nL ret rm Ex cells slots (pc + 3) lv st h K) : am_R l y cc nL ret rm Ex cells slots pc lv (.int x :: st) h K := fun p e s m args below meth c D tc ad A H locs ls Q n0 ad0 C Y Z => lv_if_lt C.1 C.2.1 d ht (fun q => k1 q p e s m args below meth c D tc ad A H locs ls Q n0 ad0 C Y Z) (fun q => k2 q p e s m args below meth c D tc ad A H locs ls Q n0 ad0 C Y Z)
theorem r_if_ge {x : Int32} {off : Int} (t : Nat) (d : decode cc pc = .ok (.ifCond .ge off, 3)) (ht : (pc : Int) + off = (t : Int)) (k1 : 0 ≤ x → am_R l y cc nL ret rm Ex cells slots t lv st h K) (k2 : ¬ 0 ≤ x → am_R l y cc nL ret rm Ex cells slots (pc + 3) lv st h K) : am_R l y cc nL ret rm Ex cells slots pc lv (.int x :: st) h K := fun p e s m args below meth c D tc ad A H locs ls Q n0 ad0 C Y Z => lv_if_ge C.1 C.2.1 d ht (fun q => k1 q p e s m args below meth c D tc ad A H locs ls Q n0 ad0 C Y Z) (fun q => k2 q p e s m args below meth c D tc ad A H locs ls Q n0 ad0 C Y Z)
theorem r_if_gt {x : Int32} {off : Int} (t : Nat) (d : decode cc pc = .ok (.ifCond .gt off, 3)) (ht : (pc : Int) + off = (t : Int)) (k1 : 0 < x → am_R l y cc nL ret rm Ex cells slots t lv st h K) (k2 : ¬ 0 < x → am_R l y cc nL ret rm Ex cells slots (pc + 3) lv st h K) : am_R l y cc nL ret rm Ex cells slots pc lv (.int x :: st) h K := fun p e s m args below meth c D tc ad A H locs ls Q n0 ad0 C Y Z => lv_if_gt C.1 C.2.1 d ht (fun q => k1 q p e s m args below meth c D tc ad A H locs ls Q n0 ad0 C Y Z) (fun q => k2 q p e s m args below meth c D tc ad A H locs ls Q n0 ad0 C Y Z)
theorem r_if_le {x : Int32} {off : Int} (t : Nat) (d : decode cc pc = .ok (.ifCond .le off, 3)) (ht : (pc : Int) + off = (t : Int)) (k1 : x ≤ 0 → am_R l y cc nL ret rm Ex cells slots t lv st h K) (k2 : ¬ x ≤ 0 → am_R l y cc nL ret rm Ex cells slots (pc + 3) lv st h K) : am_R l y cc nL ret rm Ex cells slots pc lv (.int x :: st) h K := fun p e s m args below meth c D tc ad A H locs ls Q n0 ad0 C Y Z => lv_if_le C.1 C.2.1 d ht (fun q => k1 q p e s m args below meth c D tc ad A H locs ls Q n0 ad0 C Y Z) (fun q => k2 q p e s m args below meth c D tc ad A H locs ls Q n0 ad0 C Y Z)
theorem r_icmp_eq {x z : Int32} {off : Int} (t : Nat) (d : decode cc pc = .ok (.if_icmp .eq off, 3)) (ht : (pc : Int) + off = (t : Int)) (k1 : x = z → am_R l y cc nL ret rm Ex cells slots t lv st h K) (k2 : ¬ x = z → am_R l y cc nL ret rm Ex cells slots (pc + 3) lv st h K) : am_R l y cc nL ret rm Ex cells slots pc lv (.int z :: .int x :: st) h K := fun p e s m args below meth c D tc ad A H locs ls Q n0 ad0 C Y Z => lv_icmp_eq C.1 C.2.1 d ht (fun q => k1 q p e s m args below meth c D tc ad A H locs ls Q n0 ad0 C Y Z) (fun q => k2 q p e s m args below meth c D tc ad A H locs ls Q n0 ad0 C Y Z)
theorem r_icmp_ne {x z : Int32} {off : Int} (t : Nat) (d : decode cc pc = .ok (.if_icmp .ne off, 3)) (ht : (pc : Int) + off = (t : Int)) (k1 : ¬ x = z → am_R l y cc nL ret rm Ex cells slots t lv st h K) (k2 : x = z → am_R l y cc nL ret rm Ex cells slots (pc + 3) lv st h K) : am_R l y cc nL ret rm Ex cells slots pc lv (.int z :: .int x :: st) h K := fun p e s m args below meth c D tc ad A H locs ls Q n0 ad0 C Y Z => lv_icmp_ne C.1 C.2.1 d ht (fun q => k1 q p e s m args below meth c D tc ad A H locs ls Q n0 ad0 C Y Z) (fun q => k2 q p e s m args below meth c D tc ad A H locs ls Q n0 ad0 C Y Z)
theorem r_icmp_lt {x z : Int32} {off : Int} (t : Nat) (d : decode cc pc = .ok (.if_icmp .lt off, 3)) (ht : (pc : Int) + off = (t : Int)) (k1 : x < z → am_R l y cc nL ret rm Ex cells slots t lv st h K) (k2 : ¬ x < z → am_R l y cc nL ret rm Ex cells slots (pc + 3) lv st h K) : am_R l y cc nL ret rm Ex cells slots pc lv (.int z :: .int x :: st) h K := fun p e s m args below meth c D tc ad A H locs ls Q n0 ad0 C Y Z => lv_icmp_lt C.1 C.2.1 d ht (fun q => k1 q p e s m args below meth c D tc ad A H locs ls Q n0 ad0 C Y Z) (fun q => k2 q p e s m args below meth c D tc ad A H locs ls Q n0 ad0 C Y Z)
theorem r_icmp_ge {x z : Int32} {off : Int} (t : Nat) (d : decode cc pc = .ok (.if_icmp .ge off, 3)) (ht : (pc : Int) + off = (t : Int)) (k1 : z ≤ x → am_R l y cc nL ret rm Ex cells slots t lv st h K) (k2 : ¬ z ≤ x → am_R l y cc nL ret rm Ex cells slots (pc + 3) lv st h K) : am_R l y cc nL ret rm Ex cells slots pc lv (.int z :: .int x :: st) h K := fun p e s m args below meth c D tc ad A H locs ls Q n0 ad0 C Y Z => lv_icmp_ge C.1 C.2.1 d ht (fun q => k1 q p e s m args below meth c D tc ad A H locs ls Q n0 ad0 C Y Z) (fun q => k2 q p e s m args below meth c D tc ad A H locs ls Q n0 ad0 C Y Z)
theorem r_icmp_gt {x z : Int32} {off : Int} (t : Nat) (d : decode cc pc = .ok (.if_icmp .gt off, 3)) (ht : (pc : Int) + off = (t : Int)) (k1 : z < x → am_R l y cc nL ret rm Ex cells slots t lv st h K) (k2 : ¬ z < x → am_R l y cc nL ret rm Ex cells slots (pc + 3) lv st h K) : am_R l y cc nL ret rm Ex cells slots pc lv (.int z :: .int x :: st) h K := fun p e s m args below meth c D tc ad A H locs ls Q n0 ad0 C Y Z => lv_icmp_gt C.1 C.2.1 d ht (fun q => k1 q p e s m args below meth c D tc ad A H locs ls Q n0 ad0 C Y Z) (fun q => k2 q p e s m args below meth c D tc ad A H locs ls Q n0 ad0 C Y Z)
theorem r_icmp_le {x z : Int32} {off : Int} (t : Nat) (d : decode cc pc = .ok (.if_icmp .le off, 3)) (ht : (pc : Int) + off = (t : Int)) (k1 : x ≤ z → am_R l y cc nL ret rm Ex cells slots t lv st h K) (k2 : ¬ x ≤ z → am_R l y cc nL ret rm Ex cells slots (pc + 3) lv st h K) : am_R l y cc nL ret rm Ex cells slots pc lv (.int z :: .int x :: st) h K := fun p e s m args below meth c D tc ad A H locs ls Q n0 ad0 C Y Z => lv_icmp_le C.1 C.2.1 d ht (fun q => k1 q p e s m args below meth c D tc ad A H locs ls Q n0 ad0 C Y Z) (fun q => k2 q p e s m args below meth c D tc ad A H locs ls Q n0 ad0 C Y Z)
theorem r_goto {off : Int} (t : Nat) (d : decode cc pc = .ok (.goto off, 3)) (ht : (pc : Int) + off = (t : Int)) (k : am_R l y cc nL ret rm Ex cells slots t lv st h K) : am_R l y cc nL ret rm Ex cells slots pc lv st h K := fun p e s m args below meth c D tc ad A H locs ls Q n0 ad0 C Y Z => lv_goto C.1 C.2.1 d ht (k p e s m args below meth c D tc ad A H locs ls Q n0 ad0 C Y Z)
theorem r_tsw {dflt lo hi : Int} {offs : Array Int} {len : Nat} {x : Int32} (t : Nat) (d : decode cc pc = .ok (.tableswitch dflt lo hi offs, len)) (hx : (¬ (x.toInt < lo ∨ hi < x.toInt) ∧ (offs[(x.toInt - lo).toNat]?).map (fun off => (pc : Int) + off) = some (t : Int)) ∨ ((x.toInt < lo ∨ hi < x.toInt) ∧ (pc : Int) + dflt = (t : Int))) (k : am_R l y cc nL ret rm Ex cells slots t lv st h K) : am_R l y cc nL ret rm Ex cells slots pc lv (.int x :: st) h K := fun p e s m args below meth c D tc ad A H locs ls Q n0 ad0 C Y Z => by
  rcases hx with ⟨h1, h2⟩ | ⟨h1, h2⟩
  · cases ho : offs[(x.toInt - lo).toNat]? with
    | none => rw [ho] at h2; cases h2
    | some off =>
      rw [ho] at h2
      exact lv_tableIn C.1 C.2.1 d (fun q => h1 (Or.inl q)) (fun q => h1 (Or.inr q)) ho (Option.some.inj h2) (k p e s m args below meth c D tc ad A H locs ls Q n0 ad0 C Y Z)
  · exact lv_tableOut C.1 C.2.1 d h1 h2 (k p e s m args below meth c D tc ad A H locs ls Q n0 ad0 C Y Z)
theorem r_lsw {dflt : Int} {ps : Array (Int × Int)} {len : Nat} {x : Int32} (t : Nat) (d : decode cc pc = .ok (.lookupswitch dflt ps, len)) (hp : (ps.toList.zip (ps.toList.drop 1)).all (fun (a, next) => a.1 < next.1) = true) (ho : (pc : Int) + Op.lookupswitch.offset ps.toList dflt x.toInt = (t : Int)) (k : am_R l y cc nL ret rm Ex cells slots t lv st h K) : am_R l y cc nL ret rm Ex cells slots pc lv (.int x :: st) h K := fun p e s m args below meth c D tc ad A H locs ls Q n0 ad0 C Y Z => lv_lookup C.1 C.2.1 d hp rfl ho (k p e s m args below meth c D tc ad A H locs ls Q n0 ad0 C Y Z)
theorem am_lat {ad : Nat → Nat} {ls : Array Slot} {i j : Nat} {v : Value} (H : lv_has ls nL (am_lm ad lv)) (hk : lv[j]? = some (i, v)) : ls[i]? = some (.val (am_cv ad v)) := lv_at H j (by simp [am_lm, hk])
def am_st (i : Nat) (v : Value) (lv : List (Nat × Value)) : List (Nat × Value) := (i, v) :: lv.filter (fun q => !(q.1 == i) && !(q.1 + 1 == i && q.2.category == 2))
def am_st2 (i : Nat) (v : Value) (lv : List (Nat × Value)) : List (Nat × Value) := (i, v) :: lv.filter (fun q => !(q.1 == i) && (!(q.1 == i + 1) && !(q.1 + 1 == i && q.2.category == 2)))
theorem am_st_lm {ad : Nat → Nat} {i : Nat} {v : Value} : (i, am_cv ad v) :: (am_lm ad lv).filter (fun q => !(q.1 == i) && !(q.1 + 1 == i && q.2.category == 2)) = am_lm ad (am_st i v lv) := by
  simp only [am_lm, am_st, List.map_cons, List.filter_map]
  congr 3
  funext q
  simp [Function.comp, am_cat]
theorem am_st2_lm {ad : Nat → Nat} {i : Nat} {v : Value} : (i, am_cv ad v) :: (am_lm ad lv).filter (fun q => !(q.1 == i) && (!(q.1 == i + 1) && !(q.1 + 1 == i && q.2.category == 2))) = am_lm ad (am_st2 i v lv) := by
  simp only [am_lm, am_st2, List.map_cons, List.filter_map]
  congr 3
  funext q
  simp [Function.comp, am_cat]
theorem r_iload_n {i : Fin 4} {x : Int32} (j : Nat) (d : decode cc pc = .ok (.iload_n i, 1)) (hj : lv[j]? = some (i.val, .int x)) (k : am_R l y cc nL ret rm Ex cells slots (pc + 1) lv (.int x :: st) h K) : am_R l y cc nL ret rm Ex cells slots pc lv st h K := fun p e s m args below meth c D tc ad A H locs ls Q n0 ad0 C Y Z => lv_iload_n C.1 C.2.1 d rfl (am_lat Y.2.1 hj) (k p e s m args below meth c D tc ad A H locs ls Q n0 ad0 C Y Z)
theorem r_iload {i : Nat} {x : Int32} (j : Nat) (d : decode cc pc = .ok (.iload i, 2)) (hj : lv[j]? = some (i, .int x)) (k : am_R l y cc nL ret rm Ex cells slots (pc + 2) lv (.int x :: st) h K) : am_R l y cc nL ret rm Ex cells slots pc lv st h K := fun p e s m args below meth c D tc ad A H locs ls Q n0 ad0 C Y Z => lv_iload C.1 C.2.1 d (am_lat Y.2.1 hj) (k p e s m args below meth c D tc ad A H locs ls Q n0 ad0 C Y Z)
theorem r_istore_n {i : Fin 4} {x : Int32} (lv2 : List (Nat × Value)) (d : decode cc pc = .ok (.istore_n i, 1)) (hn : i.val < nL) (hl : am_st i.val (.int x) lv = lv2) (k : am_R l y cc nL ret rm Ex cells slots (pc + 1) lv2 st h K) : am_R l y cc nL ret rm Ex cells slots pc lv (.int x :: st) h K := fun p e s m args below meth c D tc ad A H locs ls Q n0 ad0 C Y Z => lv_istore_n C.1 C.2.1 d rfl Y.2.1 hn (am_st_lm (v := .int x)) (fun ls hh => k p e s m args below meth c D tc ad A H locs ls Q n0 ad0 C ⟨Y.1, hl ▸ hh, Y.2.2⟩ Z)
theorem r_istore {i : Nat} {x : Int32} (lv2 : List (Nat × Value)) (d : decode cc pc = .ok (.istore i, 2)) (hn : i < nL) (hl : am_st i (.int x) lv = lv2) (k : am_R l y cc nL ret rm Ex cells slots (pc + 2) lv2 st h K) : am_R l y cc nL ret rm Ex cells slots pc lv (.int x :: st) h K := fun p e s m args below meth c D tc ad A H locs ls Q n0 ad0 C Y Z => lv_istore C.1 C.2.1 d Y.2.1 hn (am_st_lm (v := .int x)) (fun ls hh => k p e s m args below meth c D tc ad A H locs ls Q n0 ad0 C ⟨Y.1, hl ▸ hh, Y.2.2⟩ Z)
theorem r_lload_n {i : Fin 4} {x : Int64} (j : Nat) (d : decode cc pc = .ok (.lload_n i, 1)) (hj : lv[j]? = some (i.val, .long x)) (k : am_R l y cc nL ret rm Ex cells slots (pc + 1) lv (.long x :: st) h K) : am_R l y cc nL ret rm Ex cells slots pc lv st h K := fun p e s m args below meth c D tc ad A H locs ls Q n0 ad0 C Y Z => lv_lload_n C.1 C.2.1 d rfl (am_lat Y.2.1 hj) (k p e s m args below meth c D tc ad A H locs ls Q n0 ad0 C Y Z)
theorem r_lload {i : Nat} {x : Int64} (j : Nat) (d : decode cc pc = .ok (.lload i, 2)) (hj : lv[j]? = some (i, .long x)) (k : am_R l y cc nL ret rm Ex cells slots (pc + 2) lv (.long x :: st) h K) : am_R l y cc nL ret rm Ex cells slots pc lv st h K := fun p e s m args below meth c D tc ad A H locs ls Q n0 ad0 C Y Z => lv_lload C.1 C.2.1 d (am_lat Y.2.1 hj) (k p e s m args below meth c D tc ad A H locs ls Q n0 ad0 C Y Z)
theorem r_lstore_n {i : Fin 4} {x : Int64} (lv2 : List (Nat × Value)) (d : decode cc pc = .ok (.lstore_n i, 1)) (hn : i.val + 1 < nL) (hl : am_st2 i.val (.long x) lv = lv2) (k : am_R l y cc nL ret rm Ex cells slots (pc + 1) lv2 st h K) : am_R l y cc nL ret rm Ex cells slots pc lv (.long x :: st) h K := fun p e s m args below meth c D tc ad A H locs ls Q n0 ad0 C Y Z => lv_lstore_n C.1 C.2.1 d rfl Y.2.1 hn (am_st2_lm (v := .long x)) (fun ls hh => k p e s m args below meth c D tc ad A H locs ls Q n0 ad0 C ⟨Y.1, hl ▸ hh, Y.2.2⟩ Z)
theorem r_lstore {i : Nat} {x : Int64} (lv2 : List (Nat × Value)) (d : decode cc pc = .ok (.lstore i, 2)) (hn : i + 1 < nL) (hl : am_st2 i (.long x) lv = lv2) (k : am_R l y cc nL ret rm Ex cells slots (pc + 2) lv2 st h K) : am_R l y cc nL ret rm Ex cells slots pc lv (.long x :: st) h K := fun p e s m args below meth c D tc ad A H locs ls Q n0 ad0 C Y Z => lv_lstore C.1 C.2.1 d Y.2.1 hn (am_st2_lm (v := .long x)) (fun ls hh => k p e s m args below meth c D tc ad A H locs ls Q n0 ad0 C ⟨Y.1, hl ▸ hh, Y.2.2⟩ Z)
theorem r_aload_n {i : Fin 4} {x : Nat} (j : Nat) (d : decode cc pc = .ok (.aload_n i, 1)) (hj : lv[j]? = some (i.val, .ref x)) (k : am_R l y cc nL ret rm Ex cells slots (pc + 1) lv (.ref x :: st) h K) : am_R l y cc nL ret rm Ex cells slots pc lv st h K := fun p e s m args below meth c D tc ad A H locs ls Q n0 ad0 C Y Z => lv_aload_n C.1 C.2.1 d rfl (am_lat Y.2.1 hj) (k p e s m args below meth c D tc ad A H locs ls Q n0 ad0 C Y Z)
theorem r_aload {i : Nat} {x : Nat} (j : Nat) (d : decode cc pc = .ok (.aload i, 2)) (hj : lv[j]? = some (i, .ref x)) (k : am_R l y cc nL ret rm Ex cells slots (pc + 2) lv (.ref x :: st) h K) : am_R l y cc nL ret rm Ex cells slots pc lv st h K := fun p e s m args below meth c D tc ad A H locs ls Q n0 ad0 C Y Z => lv_aload C.1 C.2.1 d (am_lat Y.2.1 hj) (k p e s m args below meth c D tc ad A H locs ls Q n0 ad0 C Y Z)
theorem r_astore_n {i : Fin 4} {x : Nat} (lv2 : List (Nat × Value)) (d : decode cc pc = .ok (.astore_n i, 1)) (hn : i.val < nL) (hl : am_st i.val (.ref x) lv = lv2) (k : am_R l y cc nL ret rm Ex cells slots (pc + 1) lv2 st h K) : am_R l y cc nL ret rm Ex cells slots pc lv (.ref x :: st) h K := fun p e s m args below meth c D tc ad A H locs ls Q n0 ad0 C Y Z => lv_astore_n C.1 C.2.1 d rfl Y.2.1 hn (am_st_lm (v := .ref x)) (fun ls hh => k p e s m args below meth c D tc ad A H locs ls Q n0 ad0 C ⟨Y.1, hl ▸ hh, Y.2.2⟩ Z)
theorem r_astore {i : Nat} {x : Nat} (lv2 : List (Nat × Value)) (d : decode cc pc = .ok (.astore i, 2)) (hn : i < nL) (hl : am_st i (.ref x) lv = lv2) (k : am_R l y cc nL ret rm Ex cells slots (pc + 2) lv2 st h K) : am_R l y cc nL ret rm Ex cells slots pc lv (.ref x :: st) h K := fun p e s m args below meth c D tc ad A H locs ls Q n0 ad0 C Y Z => lv_astore C.1 C.2.1 d Y.2.1 hn (am_st_lm (v := .ref x)) (fun ls hh => k p e s m args below meth c D tc ad A H locs ls Q n0 ad0 C ⟨Y.1, hl ▸ hh, Y.2.2⟩ Z)
theorem r_iinc {i : Nat} {n : Int} {x v : Int32} (j : Nat) (lv2 : List (Nat × Value)) (d : decode cc pc = .ok (.iinc i n, 3)) (hj : lv[j]? = some (i, .int x)) (hv : x + Int32.ofInt n = v) (hn : i < nL) (hl : am_st i (.int v) lv = lv2) (k : am_R l y cc nL ret rm Ex cells slots (pc + 3) lv2 st h K) : am_R l y cc nL ret rm Ex cells slots pc lv st h K := fun p e s m args below meth c D tc ad A H locs ls Q n0 ad0 C Y Z => lv_iinc C.1 C.2.1 d Y.2.1 (k := j) (by simp [am_lm, hj]; rfl) hv hn (am_st_lm (v := .int v)) (fun ls hh => k p e s m args below meth c D tc ad A H locs ls Q n0 ad0 C ⟨Y.1, hl ▸ hh, Y.2.2⟩ Z)
theorem am_pick {ad : Nat → Nat} (ks : List Nat) : lv_pick (am_lm ad lv) ks = am_lm ad (lv_pick lv ks) := by
  induction ks with
  | nil => rfl
  | cons a t ih =>
    unfold lv_pick at ih ⊢
    simp only [List.filterMap_cons, am_lm, List.getElem?_map]
    cases lv[a]? with
    | none => simpa [am_lm] using ih
    | some q => simpa [am_lm] using ih
theorem r_lv (ks : List Nat) (lv2 : List (Nat × Value)) (hl : lv_pick lv ks = lv2) (k : am_R l y cc nL ret rm Ex cells slots pc lv2 st h K) : am_R l y cc nL ret rm Ex cells slots pc lv st h K := fun p e s m args below meth c D tc ad A H locs ls Q n0 ad0 C Y Z => k p e s m args below meth c D tc ad A H locs ls Q n0 ad0 C ⟨Y.1, lv_sub Y.2.1 ks (by rw [am_pick, hl]), Y.2.2⟩ Z
theorem r_wide {c2 s2 : Nat} (h1 : cells ≤ c2) (h2 : slots ≤ s2) (k : am_R l y cc nL ret rm Ex c2 s2 pc lv st h K) : am_R l y cc nL ret rm Ex cells slots pc lv st h K := fun p e s m args below meth c D tc ad A H locs ls Q n0 ad0 C Y Z => W.widen h1 h2 (k p e s m args below meth c D tc ad A H locs ls Q n0 ad0 C Y Z)
theorem r_post {K2 : Option Value → am_H → Prop} (hK : ∀ v h2, K v h2 → K2 v h2) (k : am_R l y cc nL ret rm Ex cells slots pc lv st h K) : am_R l y cc nL ret rm Ex cells slots pc lv st h K2 := fun p e s m args below meth c D tc ad A H locs ls Q n0 ad0 C Y Z => k p e s m args below meth c D tc ad A H locs ls Q n0 ad0 C Y (fun v h2 ad H locs pc ls q => Z v h2 ad H locs pc ls (hK v h2 q))
theorem r_ireturn {x : Int32} (d : decode cc pc = .ok (.ireturn, 1)) (hr : ret = some .int) (hc : cells ≤ rm.cells ∧ slots ≤ rm.slots) (hK : K (some (.int x)) h) : am_R l y cc nL ret rm Ex cells slots pc lv [.int x] h K := fun p e s m args below meth c D tc ad A H locs ls Q n0 ad0 C Y Z =>
  W.widen hc.1 hc.2 (Z (some (.int x)) h ad H locs pc ls hK Y.1 Y.2.2.2.2.2.2.1 Y.2.2.2.2.2.2.2.1 Y.2.2.2.2.2.2.2.2 Y.2.2.1 Y.2.2.2.1 Y.2.2.2.2.1 ⟨d, _, hr, rfl⟩)
theorem r_zreturn (b : Bool) (d : decode cc pc = .ok (.ireturn, 1)) (hr : ret = some .boolean) (hc : cells ≤ rm.cells ∧ slots ≤ rm.slots) (hK : K (some (.int (am_b b))) h) : am_R l y cc nL ret rm Ex cells slots pc lv [.int (am_b b)] h K := fun p e s m args below meth c D tc ad A H locs ls Q n0 ad0 C Y Z =>
  W.widen hc.1 hc.2 (Z (some (.int (am_b b))) h ad H locs pc ls hK Y.1 Y.2.2.2.2.2.2.1 Y.2.2.2.2.2.2.2.1 Y.2.2.2.2.2.2.2.2 Y.2.2.1 Y.2.2.2.1 Y.2.2.2.2.1 ⟨d, _, hr, by cases b <;> rfl⟩)
theorem r_lreturn {x : Int64} (d : decode cc pc = .ok (.lreturn, 1)) (hr : ret = some .long) (hc : cells ≤ rm.cells ∧ slots ≤ rm.slots) (hK : K (some (.long x)) h) : am_R l y cc nL ret rm Ex cells slots pc lv [.long x] h K := fun p e s m args below meth c D tc ad A H locs ls Q n0 ad0 C Y Z =>
  W.widen hc.1 hc.2 (Z (some (.long x)) h ad H locs pc ls hK Y.1 Y.2.2.2.2.2.2.1 Y.2.2.2.2.2.2.2.1 Y.2.2.2.2.2.2.2.2 Y.2.2.1 Y.2.2.2.1 Y.2.2.2.2.1 ⟨d, hr⟩)
theorem r_return (d : decode cc pc = .ok (.return_, 1)) (hr : ret = none) (hc : cells ≤ rm.cells ∧ slots ≤ rm.slots) (hK : K none h) : am_R l y cc nL ret rm Ex cells slots pc lv [] h K := fun p e s m args below meth c D tc ad A H locs ls Q n0 ad0 C Y Z =>
  W.widen hc.1 hc.2 (Z none h ad H locs pc ls hK Y.1 Y.2.2.2.2.2.2.1 Y.2.2.2.2.2.2.2.1 Y.2.2.2.2.2.2.2.2 Y.2.2.1 Y.2.2.2.1 Y.2.2.2.2.1 ⟨d, hr⟩)
end AMR
