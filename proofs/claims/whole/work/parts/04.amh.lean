/-- a field's link: of the own class, or of a nest mate -/
def am_FL (own : String) (idx ci k : Nat) : Prop := ci < 8 ∧ k < am_nf ci ∧ (Cond.fieldLink own idx (am_ct ci k).1 (am_ct ci k).2.1 (am_ct ci k).2.2.1 ∈ am_T ∨ ∃ host, Cond.fieldLinkNest own idx (am_ct ci k).1 (am_ct ci k).2.1 (am_ct ci k).2.2.1 host ∈ lw_tbl)
theorem am_ce_o {tc : Nat → ClassId} {ad : Nat → Nat} {h : am_H} {k : Nat} {q : Nat × Nat} (hq : q.1 < 8) : am_ce tc ad h k q = .inr (q.1, (List.range (am_nf q.1)).map (fun j => am_fv ad h k (am_ty q.1 j) j)) := by simp [am_ce, hq]
theorem am_ce_i {tc : Nat → ClassId} {ad : Nat → Nat} {h : am_H} {k c n : Nat} (hc : 8 ≤ c) (hc2 : c ≠ 11) : am_ce tc ad h k (c, n) = .inl (tc c, n, .inl (h.2.1 k)) := by
  unfold am_ce
  rw [if_neg (by show ¬ c < 8; omega), if_neg (by show ¬ c = 11; exact hc2)]
theorem am_ce_q {tc : Nat → ClassId} {ad : Nat → Nat} {h : am_H} {k n : Nat} : am_ce tc ad h k (11, n) = .inl (tc 11, n, .inr (.inr (.inr (.inr (fun j => (h.2.2.2 k j).map ad))))) := rfl
theorem am_fs_at {ad : Nat → Nat} {h : am_H} {p c k : Nat} (hk : k < am_nf c) : ((List.range (am_nf c)).map (fun j => am_fv ad h p (am_ty c j) j))[k]? = some (am_fv ad h p (am_ty c k) k) := by
  simp [List.getElem?_map, List.getElem?_range hk]
theorem am_fs_set {ad : Nat → Nat} {h h' : am_H} {p c k : Nat} {v : Value} (hv : am_fv ad h' p (am_ty c k) k = v) (ho : ∀ j, j < am_nf c → j ≠ k → am_fv ad h' p (am_ty c j) j = am_fv ad h p (am_ty c j) j) :
    ((List.range (am_nf c)).map (fun j => am_fv ad h p (am_ty c j) j)).set k v = (List.range (am_nf c)).map (fun j => am_fv ad h' p (am_ty c j) j) := by
  apply List.ext_getElem?
  intro j
  by_cases hj : j < am_nf c
  · by_cases he : j = k
    · subst he
      rw [List.getElem?_set_self (by simpa using hj), am_fs_at hj, hv]
    · rw [List.getElem?_set_ne (Ne.symm he), am_fs_at hj, am_fs_at hj, ho j hj he]
  · rw [List.getElem?_eq_none (by simpa using hj), List.getElem?_eq_none (by simpa using hj)]
theorem am_ce_I {tc : Nat → ClassId} {ad : Nat → Nat} {h : am_H} {p i : Nat} {x : Int32} : ∀ k, k ≠ p → ∀ r, am_ce tc ad (am_I h p i x) k r = am_ce tc ad h k r := by
  intro k hk r
  simp only [am_ce, am_I, am_fv, am_u_ne hk]
theorem am_ce_L {tc : Nat → ClassId} {ad : Nat → Nat} {h : am_H} {p i : Nat} {x : Int64} : ∀ k, k ≠ p → ∀ r, am_ce tc ad (am_L h p i x) k r = am_ce tc ad h k r := by
  intro k hk r
  simp only [am_ce, am_L, am_fv, am_u_ne hk]
theorem am_ce_F {tc : Nat → ClassId} {ad : Nat → Nat} {h : am_H} {p i : Nat} {x : Option Nat} : ∀ k, k ≠ p → ∀ r, am_ce tc ad (am_F h p i x) k r = am_ce tc ad h k r := by
  intro k hk r
  simp only [am_ce, am_F, am_fv, am_u_ne hk]
theorem am_gi_of {h : am_H} {c p k : Nat} {x : Int32} (hv : am_gi h c p k = some x) : ∃ n, h.1[p]? = some (c, n) ∧ h.2.1 p k = x := by
  unfold am_gi at hv
  split at hv
  · rename_i q hq
    split at hv
    · rename_i hc
      exact ⟨q.2, by rw [hq, ← hc], Option.some.inj hv⟩
    · cases hv
  · cases hv
theorem am_gl_of {h : am_H} {c p k : Nat} {x : Int64} (hv : am_gl h c p k = some x) : ∃ n, h.1[p]? = some (c, n) ∧ h.2.2.1 p k = x := by
  unfold am_gl at hv
  split at hv
  · rename_i q hq
    split at hv
    · rename_i hc
      exact ⟨q.2, by rw [hq, ← hc], Option.some.inj hv⟩
    · cases hv
  · cases hv
theorem am_gr_of {h : am_H} {c p k x : Nat} (hv : am_gr h c p k = some x) : ∃ n, h.1[p]? = some (c, n) ∧ h.2.2.2 p k = some x := by
  unfold am_gr at hv
  split at hv
  · rename_i q hq
    split at hv
    · rename_i hc
      exact ⟨q.2, by rw [hq, ← hc], hv⟩
    · cases hv
  · cases hv
theorem am_pi_of {h h' : am_H} {c p k : Nat} {x : Int32} (hv : am_pi h c p k x = some h') : ∃ n, h.1[p]? = some (c, n) ∧ h' = am_I h p k x := by
  unfold am_pi at hv
  split at hv
  · rename_i q hq
    split at hv
    · rename_i hc
      exact ⟨q.2, by rw [hq, ← hc], (Option.some.inj hv).symm⟩
    · cases hv
  · cases hv
theorem am_pl_of {h h' : am_H} {c p k : Nat} {x : Int64} (hv : am_pl h c p k x = some h') : ∃ n, h.1[p]? = some (c, n) ∧ h' = am_L h p k x := by
  unfold am_pl at hv
  split at hv
  · rename_i q hq
    split at hv
    · rename_i hc
      exact ⟨q.2, by rw [hq, ← hc], (Option.some.inj hv).symm⟩
    · cases hv
  · cases hv
theorem am_pr_of {h h' : am_H} {c p k x : Nat} (hv : am_pr h c p k x = some h') : ∃ n, h.1[p]? = some (c, n) ∧ x < h.1.length ∧ h' = am_F h p k (some x) := by
  unfold am_pr at hv
  split at hv
  · rename_i q hq
    split at hv
    · rename_i hc
      exact ⟨q.2, by rw [hq, ← hc.1], hc.2, (Option.some.inj hv).symm⟩
    · cases hv
  · cases hv
theorem am_li_of {h : am_H} {c p : Nat} {i x : Int32} (hv : am_li h c p i = some x) : ∃ n, h.1[p]? = some (c, n) ∧ vp_in i n ∧ h.2.1 p i.toNatClampNeg = x := by
  unfold am_li at hv
  split at hv
  · rename_i q hq
    split at hv
    · rename_i hc
      exact ⟨q.2, by rw [hq, ← hc.1], vp_in_iff.mpr hc.2, Option.some.inj hv⟩
    · cases hv
  · cases hv
theorem am_lr_of {h : am_H} {p x : Nat} {i : Int32} (hv : am_lr h p i = some x) : ∃ n, h.1[p]? = some (11, n) ∧ vp_in i n ∧ h.2.2.2 p i.toNatClampNeg = some x := by
  unfold am_lr at hv
  split at hv
  · rename_i q hq
    split at hv
    · rename_i hc
      exact ⟨q.2, by rw [hq, ← hc.1], vp_in_iff.mpr hc.2, hv⟩
    · cases hv
  · cases hv
theorem am_si_of {h h' : am_H} {c p : Nat} {i x : Int32} (hv : am_si h c p i x = some h') : ∃ n, h.1[p]? = some (c, n) ∧ vp_in i n ∧ h' = am_I h p i.toNatClampNeg x := by
  unfold am_si at hv
  split at hv
  · rename_i q hq
    split at hv
    · rename_i hc
      exact ⟨q.2, by rw [hq, ← hc.1], vp_in_iff.mpr hc.2, (Option.some.inj hv).symm⟩
    · cases hv
  · cases hv
theorem am_sr_of {h h' : am_H} {p x : Nat} {i : Int32} (hv : am_sr h p i x = some h') : ∃ n n2, h.1[p]? = some (11, n) ∧ h.1[x]? = some (5, n2) ∧ vp_in i n ∧ h' = am_F h p i.toNatClampNeg (some x) := by
  unfold am_sr at hv
  split at hv
  · rename_i q z hq hz
    split at hv
    · rename_i hc
      exact ⟨q.2, z.2, by rw [hq, ← hc.1.1], by rw [hz, ← hc.1.2], vp_in_iff.mpr hc.2, (Option.some.inj hv).symm⟩
    · cases hv
  · cases hv
theorem am_plt {h : am_H} {p : Nat} {q : Nat × Nat} (hq : h.1[p]? = some q) : p < h.1.length := (List.getElem?_eq_some_iff.mp hq).1
theorem am_st_ok {nL : Nat} {rm : Room} {Ex : am_EX} {lv : List (Nat × Value)} {h h' : am_H} {D : va_G} {tc : Nat → ClassId} {ad : Nat → Nat} {A : Nat → Prop} {s : State} {H H1 : Heap} {locs locs1 : List Loc} {ls : Array Slot} {n0 : Nat} {ad0 : Nat → Nat}
    (Y : am_D nL rm Ex lv h D tc ad A s H locs ls n0 ad0) (hs : h'.1 = h.1) (ok : am_ok h') (hP : va_P D vwCl (am_w tc ad h') H1) (hD : va_D A (am_w tc ad h')) (hS : va_S A s.heap H1 locs1) : am_D nL rm Ex lv h' D tc ad A s H1 locs1 ls n0 ad0 :=
  ⟨ok, Y.2.1, hP, hD, hS, Y.2.2.2.2.2.1, by rw [hs]; exact Y.2.2.2.2.2.2.1, by rw [hs]; exact Y.2.2.2.2.2.2.2.1, Y.2.2.2.2.2.2.2.2⟩
section AMH
variable {l : Launch} {y : MethodName} {cc : ByteArray} {nL : Nat} {ret : Option FieldType} {rm : Room} {Ex : am_EX} {cells slots pc : Nat} {lv : List (Nat × Value)} {st : List Value} {h : am_H} {K : Option Value → am_H → Prop}
theorem am_get {ci p k n idx : Nat} {v : Value} (hs : h.1[p]? = some (ci, n)) (hv : ∀ ad, am_fv ad h p (am_ty ci k) k = am_cv ad v) (F : am_FL y.cls idx ci k) (d : decode cc pc = .ok (.getfield idx, 3)) (kk : am_R l y cc nL ret rm Ex cells slots (pc + 3) lv (v :: st) h K) : am_R l y cc nL ret rm Ex cells slots pc lv (.ref p :: st) h K := by
  intro pp e s m args below meth c D tc ad A H locs ls Q n0 ad0 C Y Z
  obtain ⟨h8, hk, hl⟩ := F
  have hw := am_w_at (tc := tc) (ad := ad) hs
  rw [am_ce_o (q := (ci, n)) h8] at hw
  have hf := (am_fs_at (ad := ad) (h := h) (p := p) (c := ci) hk).trans (congrArg some (hv ad))
  rcases hl with hl | ⟨host, hl⟩
  · exact va_get C.1 C.2.1 C.2.2.2.2.1 (am_uin ci h8) C.2.2.2.1 C.2.2.2.2.2.2.2.2.2.1 Y.2.2.1 p hw (am_cl ci h8) k hk (C.2.2.2.2.1 _ hl) (fun _ q => q) hf d (kk pp e s m args below meth c D tc ad A H locs ls Q n0 ad0 C Y Z)
  · exact va_getN C.1 C.2.1 C.2.2.2.2.1 (am_uin ci h8) C.2.2.2.1 C.2.2.2.2.2.2.2.2.2.1 Y.2.2.1 p hw (am_cl ci h8) k hk (va_Nw.use rfl (C.2.2.2.2.2.2.2.2.2.2.1 _ hl rfl)) (fun _ q => q) hf d (kk pp e s m args below meth c D tc ad A H locs ls Q n0 ad0 C Y Z)
theorem r_geti {ci p k idx : Nat} {x : Int32} (hv : am_gi h ci p k = some x) (F : am_FL y.cls idx ci k) (ht : am_ty ci k = .int) (d : decode cc pc = .ok (.getfield idx, 3)) (kk : am_R l y cc nL ret rm Ex cells slots (pc + 3) lv (.int x :: st) h K) : am_R l y cc nL ret rm Ex cells slots pc lv (.ref p :: st) h K := by
  obtain ⟨n, hs, rfl⟩ := am_gi_of hv
  exact am_get hs (fun ad => by rw [ht]; rfl) F d kk
theorem r_getl {ci p k idx : Nat} {x : Int64} (hv : am_gl h ci p k = some x) (F : am_FL y.cls idx ci k) (ht : am_ty ci k = .long) (d : decode cc pc = .ok (.getfield idx, 3)) (kk : am_R l y cc nL ret rm Ex cells slots (pc + 3) lv (.long x :: st) h K) : am_R l y cc nL ret rm Ex cells slots pc lv (.ref p :: st) h K := by
  obtain ⟨n, hs, rfl⟩ := am_gl_of hv
  exact am_get hs (fun ad => by rw [ht]; rfl) F d kk
def am_isr (t : FieldType) : Bool := match t with
  | .object _ => true
  | .array _ => true
  | _ => false
theorem r_getr {ci p k idx x : Nat} (hv : am_gr h ci p k = some x) (F : am_FL y.cls idx ci k) (ht : am_isr (am_ty ci k) = true) (d : decode cc pc = .ok (.getfield idx, 3)) (kk : am_R l y cc nL ret rm Ex cells slots (pc + 3) lv (.ref x :: st) h K) : am_R l y cc nL ret rm Ex cells slots pc lv (.ref p :: st) h K := by
  obtain ⟨n, hs, hx⟩ := am_gr_of hv
  refine am_get hs (fun ad => ?_) F d kk
  generalize am_ty ci k = t at ht
  cases t <;> first | (simp [am_isr] at ht; done) | (simp [am_fv, hx, va_rf, am_cv])
theorem am_put {h' : am_H} {ci p k n idx : Nat} {v : Value} (hs : h.1[p]? = some (ci, n)) (e1 : h'.1 = h.1) (ok : am_ok h → am_ok h') (hce : ∀ tc ad, ∀ j, j ≠ p → ∀ r, am_ce tc ad h' j r = am_ce tc ad h j r) (hv : ∀ ad, am_fv ad h' p (am_ty ci k) k = am_cv ad v) (ho : ∀ ad j, j ≠ k → am_fv ad h' p (am_ty ci j) j = am_fv ad h p (am_ty ci j) j)
    (hn : ∀ ad, narrow (am_ty ci k) (am_cv ad v) = am_cv ad v) (hf : ∀ ad, fits (am_ty ci k) (am_cv ad v) = true) (F : am_FL y.cls idx ci k) (hfin : (am_ct ci k).2.2.2 = false ∨ ((am_ct ci k).2.2.2 = true ∧ y.name = "<init>" ∧ (am_ct ci k).1 = y.cls ∧ Cond.fieldLink y.cls idx (am_ct ci k).1 (am_ct ci k).2.1 (am_ct ci k).2.2.1 ∈ am_T)) (d : decode cc pc = .ok (.putfield idx, 3)) (kk : am_R l y cc nL ret rm Ex cells slots (pc + 3) lv st h' K) : am_R l y cc nL ret rm Ex cells slots pc lv (v :: .ref p :: st) h K := by
  intro pp e s m args below meth c D tc ad A H locs ls Q n0 ad0 C Y Z
  obtain ⟨h8, hk, hl⟩ := F
  have hw := am_w_at (tc := tc) (ad := ad) hs
  rw [am_ce_o (q := (ci, n)) h8] at hw
  have hset := am_fs_set (ad := ad) (h := h) (h' := h') (p := p) (c := ci) (k := k) (hv ad) (fun j _ hj => ho ad j hj)
  have hws := am_w_set (tc := tc) (ad := ad) e1 hs (hce tc ad)
  rw [am_ce_o (q := (ci, n)) h8] at hws
  have hlen : k < ((List.range (am_nf ci)).map (fun j => am_fv ad h p (am_ty ci j) j)).length := by simpa using hk
  have go : ∀ (H1 : Heap) (locs1 : List Loc), va_P D vwCl ((am_w tc ad h).set p (ad p, .inr (ci, ((List.range (am_nf ci)).map (fun j => am_fv ad h p (am_ty ci j) j)).set k (am_cv ad v)))) H1 → va_D A ((am_w tc ad h).set p (ad p, .inr (ci, ((List.range (am_nf ci)).map (fun j => am_fv ad h p (am_ty ci j) j)).set k (am_cv ad v)))) → va_S A s.heap H1 locs1 → W pp l e rm s m args below meth c H1 locs1 cells slots Q (F0 m (pc + 3) ls (st.map (am_cv ad))) := by
    intro H1 locs1 q1 q2 q3
    rw [hset] at q1 q2
    rw [hws] at q1 q2
    exact kk pp e s m args below meth c D tc ad A H1 locs1 ls Q n0 ad0 C (am_st_ok Y e1 (ok Y.1) q1 q2 q3) Z
  rcases hfin with hfin | ⟨hfin, hin, hdc, hl2⟩
  · rcases hl with hl | ⟨host, hl⟩
    · exact va_put C.1 C.2.1 C.2.2.2.2.1 (am_uin ci h8) (am_ty ci) (am_tyk ci h8) (am_nmk ci h8) C.2.2.2.1 C.2.2.2.2.2.2.2.2.2.1 Y.2.2.1 Y.2.2.2.1 Y.2.2.2.2.1 p hw (am_cl ci h8) k hk (C.2.2.2.2.1 _ hl) (fun _ q => q) hfin (am_tyk ci h8 k hk) (hn ad) (hf ad) hlen d go
    · exact va_putN C.1 C.2.1 C.2.2.2.2.1 (am_uin ci h8) (am_ty ci) (am_tyk ci h8) (am_nmk ci h8) C.2.2.2.1 C.2.2.2.2.2.2.2.2.2.1 Y.2.2.1 Y.2.2.2.1 Y.2.2.2.2.1 p hw (am_cl ci h8) k hk (va_Nw.use rfl (C.2.2.2.2.2.2.2.2.2.2.1 _ hl rfl)) (fun _ q => q) hfin (am_tyk ci h8 k hk) (hn ad) (hf ad) hlen d go
  · exact va_putF C.1 C.2.1 C.2.2.2.2.1 (am_uin ci h8) (am_ty ci) (am_tyk ci h8) (am_nmk ci h8) C.2.2.2.1 C.2.2.2.2.2.2.2.2.2.1 Y.2.2.1 Y.2.2.2.1 Y.2.2.2.2.1 p hw (am_cl ci h8) k hk (C.2.2.2.2.1 _ hl2) (fun _ q => q) hfin (C.2.2.2.2.2.2.2.1.trans hin) hdc (am_tyk ci h8 k hk) (hn ad) (hf ad) hlen d go
theorem r_puti {h' : am_H} {ci p k idx : Nat} {x : Int32} (hv : am_pi h ci p k x = some h') (F : am_FL y.cls idx ci k) (ht : am_ty ci k = .int) (hfin : (am_ct ci k).2.2.2 = false) (d : decode cc pc = .ok (.putfield idx, 3)) (kk : am_R l y cc nL ret rm Ex cells slots (pc + 3) lv st h' K) : am_R l y cc nL ret rm Ex cells slots pc lv (.int x :: .ref p :: st) h K := by
  obtain ⟨n, hs, rfl⟩ := am_pi_of hv
  refine am_put (h' := am_I h p k x) hs rfl (fun ok => am_ok_I ok (am_plt hs)) (fun tc ad => am_ce_I) (fun ad => ?_) (fun ad j hj => ?_) (fun ad => by rw [ht]; rfl) (fun ad => by rw [ht]; rfl) F (Or.inl hfin) d kk
  · rw [ht]; show Value.int (am_u h.2.1 p k x p k) = _; rw [am_u_eq]; simp [am_cv]
  · show am_fv ad (am_I h p k x) p _ j = _
    simp only [am_fv, am_I, am_u_eq, hj, if_false]
theorem r_putl {h' : am_H} {ci p k idx : Nat} {x : Int64} (hv : am_pl h ci p k x = some h') (F : am_FL y.cls idx ci k) (ht : am_ty ci k = .long) (hfin : (am_ct ci k).2.2.2 = false) (d : decode cc pc = .ok (.putfield idx, 3)) (kk : am_R l y cc nL ret rm Ex cells slots (pc + 3) lv st h' K) : am_R l y cc nL ret rm Ex cells slots pc lv (.long x :: .ref p :: st) h K := by
  obtain ⟨n, hs, rfl⟩ := am_pl_of hv
  refine am_put (h' := am_L h p k x) hs rfl (fun ok => am_ok_L ok (am_plt hs)) (fun tc ad => am_ce_L) (fun ad => ?_) (fun ad j hj => ?_) (fun ad => by rw [ht]; rfl) (fun ad => by rw [ht]; rfl) F (Or.inl hfin) d kk
  · rw [ht]; show Value.long (am_u h.2.2.1 p k x p k) = _; rw [am_u_eq]; simp [am_cv]
  · show am_fv ad (am_L h p k x) p _ j = _
    simp only [am_fv, am_L, am_u_eq, hj, if_false]
theorem r_putr {h' : am_H} {ci p k idx x : Nat} (hv : am_pr h ci p k x = some h') (F : am_FL y.cls idx ci k) (ht : am_isr (am_ty ci k) = true) (hfin : (am_ct ci k).2.2.2 = true ∧ y.name = "<init>" ∧ (am_ct ci k).1 = y.cls ∧ Cond.fieldLink y.cls idx (am_ct ci k).1 (am_ct ci k).2.1 (am_ct ci k).2.2.1 ∈ am_T) (d : decode cc pc = .ok (.putfield idx, 3)) (kk : am_R l y cc nL ret rm Ex cells slots (pc + 3) lv st h' K) : am_R l y cc nL ret rm Ex cells slots pc lv (.ref x :: .ref p :: st) h K := by
  obtain ⟨n, hs, hx, rfl⟩ := am_pr_of hv
  refine am_put (h' := am_F h p k (some x)) hs rfl (fun ok => am_ok_F ok (am_plt hs) hx) (fun tc ad => am_ce_F) (fun ad => ?_) (fun ad j hj => ?_) (fun ad => ?_) (fun ad => ?_) F (Or.inr hfin) d kk
  · generalize am_ty ci k = t at ht
    cases t <;> first | (simp [am_isr] at ht; done) | (simp [am_fv, am_F, am_u_eq, va_rf, am_cv])
  · show am_fv ad (am_F h p k (some x)) p _ j = _
    simp only [am_fv, am_F, am_u_eq, hj, if_false]
  · generalize am_ty ci k = t at ht
    cases t <;> first | (simp [am_isr] at ht; done) | rfl
  · generalize am_ty ci k = t at ht
    cases t <;> first | (simp [am_isr] at ht; done) | rfl
theorem r_iald {p : Nat} {i x : Int32} (hv : am_li h 9 p i = some x) (d : decode cc pc = .ok (.iaload, 1)) (kk : am_R l y cc nL ret rm Ex cells slots (pc + 1) lv (.int x :: st) h K) : am_R l y cc nL ret rm Ex cells slots pc lv (.int i :: .ref p :: st) h K := by
  intro pp e s m args below meth c D tc ad A H locs ls Q n0 ad0 C Y Z
  obtain ⟨n, hs, hin, rfl⟩ := am_li_of hv
  have hw := am_w_at (tc := tc) (ad := ad) hs
  rw [am_ce_i (by decide) (by decide)] at hw
  exact va_iald C.1 C.2.1 C.2.2.2.2.2.2.2.2.2.1 Y.2.2.1 p 1 hw rfl hin d (kk pp e s m args below meth c D tc ad A H locs ls Q n0 ad0 C Y Z)
theorem r_cald {p : Nat} {i x : Int32} (hv : am_li h 8 p i = some x) (d : decode cc pc = .ok (.caload, 1)) (kk : am_R l y cc nL ret rm Ex cells slots (pc + 1) lv (.int x :: st) h K) : am_R l y cc nL ret rm Ex cells slots pc lv (.int i :: .ref p :: st) h K := by
  intro pp e s m args below meth c D tc ad A H locs ls Q n0 ad0 C Y Z
  obtain ⟨n, hs, hin, rfl⟩ := am_li_of hv
  have hw := am_w_at (tc := tc) (ad := ad) hs
  rw [am_ce_i (by decide) (by decide)] at hw
  exact va_cald C.1 C.2.1 C.2.2.2.2.2.2.2.2.2.1 Y.2.2.1 p 0 hw rfl hin d (kk pp e s m args below meth c D tc ad A H locs ls Q n0 ad0 C Y Z)
theorem r_zald {p : Nat} {i x : Int32} (hv : am_li h 10 p i = some x) (d : decode cc pc = .ok (.baload, 1)) (kk : am_R l y cc nL ret rm Ex cells slots (pc + 1) lv (.int x :: st) h K) : am_R l y cc nL ret rm Ex cells slots pc lv (.int i :: .ref p :: st) h K := by
  intro pp e s m args below meth c D tc ad A H locs ls Q n0 ad0 C Y Z
  obtain ⟨n, hs, hin, rfl⟩ := am_li_of hv
  have hw := am_w_at (tc := tc) (ad := ad) hs
  rw [am_ce_i (by decide) (by decide)] at hw
  exact va_zald C.1 C.2.1 C.2.2.2.2.2.2.2.2.2.1 Y.2.2.1 p 2 hw rfl hin d (kk pp e s m args below meth c D tc ad A H locs ls Q n0 ad0 C Y Z)
theorem r_iast {h' : am_H} {p : Nat} {i x : Int32} (hv : am_si h 9 p i (x) = some h') (d : decode cc pc = .ok (.iastore, 1)) (kk : am_R l y cc nL ret rm Ex cells slots (pc + 1) lv st h' K) : am_R l y cc nL ret rm Ex cells slots pc lv (.int x :: .int i :: .ref p :: st) h K := by
  intro pp e s m args below meth c D tc ad A H locs ls Q n0 ad0 C Y Z
  obtain ⟨n, hs, hin, rfl⟩ := am_si_of hv
  have hw := am_w_at (tc := tc) (ad := ad) hs
  rw [am_ce_i (by decide) (by decide)] at hw
  have hws := am_w_set (tc := tc) (ad := ad) (h := h) (h' := am_I h p i.toNatClampNeg (x)) rfl hs am_ce_I
  rw [am_ce_i (by decide) (by decide)] at hws
  have hu : (am_I h p i.toNatClampNeg (x)).2.1 p = upd (h.2.1 p) i.toNatClampNeg (x) := by
    show am_u h.2.1 p _ _ p = _
    rw [am_u_eq]
    rfl
  rw [hu] at hws
  refine va_iast C.1 C.2.1 C.2.2.2.2.2.2.2.2.2.1 Y.2.2.1 Y.2.2.2.1 Y.2.2.2.2.1 p 1 hw rfl hin d (fun H1 locs1 q1 q2 q3 => ?_)
  rw [hws] at q1 q2
  exact kk pp e s m args below meth c D tc ad A H1 locs1 ls Q n0 ad0 C (am_st_ok Y rfl (am_ok_I Y.1 (am_plt hs)) q1 q2 q3) Z
theorem r_cast {h' : am_H} {p : Nat} {i x : Int32} (hv : am_si h 8 p i (vp_nar .char x) = some h') (d : decode cc pc = .ok (.castore, 1)) (kk : am_R l y cc nL ret rm Ex cells slots (pc + 1) lv st h' K) : am_R l y cc nL ret rm Ex cells slots pc lv (.int x :: .int i :: .ref p :: st) h K := by
  intro pp e s m args below meth c D tc ad A H locs ls Q n0 ad0 C Y Z
  obtain ⟨n, hs, hin, rfl⟩ := am_si_of hv
  have hw := am_w_at (tc := tc) (ad := ad) hs
  rw [am_ce_i (by decide) (by decide)] at hw
  have hws := am_w_set (tc := tc) (ad := ad) (h := h) (h' := am_I h p i.toNatClampNeg (vp_nar .char x)) rfl hs am_ce_I
  rw [am_ce_i (by decide) (by decide)] at hws
  have hu : (am_I h p i.toNatClampNeg (vp_nar .char x)).2.1 p = upd (h.2.1 p) i.toNatClampNeg (vp_nar .char x) := by
    show am_u h.2.1 p _ _ p = _
    rw [am_u_eq]
    rfl
  rw [hu] at hws
  refine va_cast C.1 C.2.1 C.2.2.2.2.2.2.2.2.2.1 Y.2.2.1 Y.2.2.2.1 Y.2.2.2.2.1 p 0 hw rfl hin d (fun H1 locs1 q1 q2 q3 => ?_)
  rw [hws] at q1 q2
  exact kk pp e s m args below meth c D tc ad A H1 locs1 ls Q n0 ad0 C (am_st_ok Y rfl (am_ok_I Y.1 (am_plt hs)) q1 q2 q3) Z
theorem r_zast {h' : am_H} {p : Nat} {i x : Int32} (hv : am_si h 10 p i (vp_nar .boolean x) = some h') (d : decode cc pc = .ok (.bastore, 1)) (kk : am_R l y cc nL ret rm Ex cells slots (pc + 1) lv st h' K) : am_R l y cc nL ret rm Ex cells slots pc lv (.int x :: .int i :: .ref p :: st) h K := by
  intro pp e s m args below meth c D tc ad A H locs ls Q n0 ad0 C Y Z
  obtain ⟨n, hs, hin, rfl⟩ := am_si_of hv
  have hw := am_w_at (tc := tc) (ad := ad) hs
  rw [am_ce_i (by decide) (by decide)] at hw
  have hws := am_w_set (tc := tc) (ad := ad) (h := h) (h' := am_I h p i.toNatClampNeg (vp_nar .boolean x)) rfl hs am_ce_I
  rw [am_ce_i (by decide) (by decide)] at hws
  have hu : (am_I h p i.toNatClampNeg (vp_nar .boolean x)).2.1 p = upd (h.2.1 p) i.toNatClampNeg (vp_nar .boolean x) := by
    show am_u h.2.1 p _ _ p = _
    rw [am_u_eq]
    rfl
  rw [hu] at hws
  refine va_zast C.1 C.2.1 C.2.2.2.2.2.2.2.2.2.1 Y.2.2.1 Y.2.2.2.1 Y.2.2.2.2.1 p 2 hw rfl hin d (fun H1 locs1 q1 q2 q3 => ?_)
  rw [hws] at q1 q2
  exact kk pp e s m args below meth c D tc ad A H1 locs1 ls Q n0 ad0 C (am_st_ok Y rfl (am_ok_I Y.1 (am_plt hs)) q1 q2 q3) Z
theorem r_aald {p x : Nat} {i : Int32} (hv : am_lr h p i = some x) (d : decode cc pc = .ok (.aaload, 1)) (kk : am_R l y cc nL ret rm Ex cells slots (pc + 1) lv (.ref x :: st) h K) : am_R l y cc nL ret rm Ex cells slots pc lv (.int i :: .ref p :: st) h K := by
  intro pp e s m args below meth c D tc ad A H locs ls Q n0 ad0 C Y Z
  obtain ⟨n, hs, hin, hx⟩ := am_lr_of hv
  have hw := am_w_at (tc := tc) (ad := ad) hs
  rw [am_ce_q] at hw
  refine va_aldq C.1 C.2.1 C.2.2.2.2.2.2.2.2.2.1 Y.2.2.1 p 3 hw rfl hin d ?_
  rw [hx]
  exact kk pp e s m args below meth c D tc ad A H locs ls Q n0 ad0 C Y Z
theorem r_aast {h' : am_H} {p x : Nat} {i : Int32} (hv : am_sr h p i x = some h') (d : decode cc pc = .ok (.aastore, 1)) (kk : am_R l y cc nL ret rm Ex cells slots (pc + 1) lv st h' K) : am_R l y cc nL ret rm Ex cells slots pc lv (.ref x :: .int i :: .ref p :: st) h K := by
  intro pp e s m args below meth c D tc ad A H locs ls Q n0 ad0 C Y Z
  obtain ⟨n, n2, hs, hz, hin, rfl⟩ := am_sr_of hv
  have hw := am_w_at (tc := tc) (ad := ad) hs
  rw [am_ce_q] at hw
  have hw2 := am_w_at (tc := tc) (ad := ad) hz
  rw [am_ce_o (q := (5, n2)) (show 5 < 8 by decide)] at hw2
  have hws := am_w_set (tc := tc) (ad := ad) (h := h) (h' := am_F h p i.toNatClampNeg (some x)) rfl hs am_ce_F
  rw [am_ce_q] at hws
  have hu : (fun j => ((am_F h p i.toNatClampNeg (some x)).2.2.2 p j).map ad) = va_up (fun j => (h.2.2.2 p j).map ad) i.toNatClampNeg (some (ad x)) := by
    funext j
    show (am_u h.2.2.2 p _ _ p j).map ad = _
    rw [am_u_eq]
    by_cases hj : j = i.toNatClampNeg <;> simp [va_up, hj]
  rw [hu] at hws
  refine va_astq C.1 C.2.1 C.2.2.2.2.2.2.2.2.2.1 Y.2.2.1 Y.2.2.2.1 Y.2.2.2.2.1 p 3 x 5 (r := (RX5, TX5, 5)) hw rfl hw2 rfl hin d (fun H1 locs1 q1 q2 q3 => ?_)
  rw [hws] at q1 q2
  exact kk pp e s m args below meth c D tc ad A H1 locs1 ls Q n0 ad0 C (am_st_ok Y rfl (am_ok_F Y.1 (am_plt hs) (am_plt hz)) q1 q2 q3) Z
end AMH
