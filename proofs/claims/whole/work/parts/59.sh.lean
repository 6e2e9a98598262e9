/-- the reference's row of the living -/
def tl_Lv (h : am_H) (A : List Nat) : Prop := ∀ i v, A[i]? = some v → h.2.1 131 i = nI v
theorem tl_on_Lv {ps : List Nat} {h h2 : am_H} {A : List Nat} (hp : 131 ∉ ps) (k : tl_on ps h h2) (V : tl_Lv h A) : tl_Lv h2 A := fun i v hi => by rw [k.2.2.2 _ hp]; exact V i v hi
theorem tl_s_131 : ∀ p ∈ [131], tl_scp p = true := by decide
section SH
variable {h : am_H} {l : List Nat} {t : Nat}
theorem t7_flL (hw : tl_wf l) (ht : t < 16) : ∀ n j h, tl_Sh h → tl_Mo h 0 l → tl_Lv h (qL l t j) → j ≤ l.length → l.length - j < n → ∃ h2, lo_X7_findLiving_4 am_f 118 (nI t) n (nI (qL l t j).length) (nI j) h = some (nI (qL l t l.length).length, h2) ∧ tl_Lv h2 (qL l t l.length) ∧ tl_on [131] h h2 := by
  have h16 := hw.1
  intro n
  induction n with
  | zero => intro j h _ _ _ _ q; omega
  | succ n ih =>
    intro j h H M V hj hjn
    have m0 : mi_X7_many am_f h 118 0 = some (nI l.length) := t7_many H (show 0 < 2 by decide) M am_f
    rw [lo_X7_findLiving_4.eq_2, m0, tl_bs]
    simp only [nI_leI (show l.length < 2 ^ 31 by omega) (show j < 2 ^ 31 by omega)]
    by_cases h1 : l.length ≤ j
    · rw [if_pos h1]
      have e : j = l.length := by omega
      rw [e] at V ⊢
      exact ⟨h, rfl, V, tl_on_rf⟩
    · have hg := tl_gd (l := l) (i := j) (by omega)
      have hv := (tl_wf_at hw hg).2.1
      have s0 : mi_X7_spanOf am_f h 118 0 (nI j) = some (nI (l.getD j 0)) := t7_span H (show 0 < 2 by decide) M hg (by omega) am_f
      rw [if_neg h1, s0, tl_bs, t7_V am_f h hv ht, tl_bs, nI_1]
      by_cases c : sV (l.getD j 0) t = true
      · have ml := qL_le l t j
        rw [if_pos c, or_118_16 H, tl_bs, as_131 H (by omega), tl_bs, nI_1, tl_bs]
        dsimp only
        have o1 : tl_on [131] h (am_I h 131 (qL l t j).length (nI j)) := tl_on_I (by decide)
        have V2 : tl_Lv (am_I h 131 (qL l t j).length (nI j)) (qL l t (j + 1)) := fun i v hi => by
          rw [qL_t c] at hi
          rw [tl_I_at]
          rcases tl_appA hi with z | ⟨e, rfl⟩
          · have := tl_lt_of z
            rw [if_neg (by omega)]
            exact V i v z
          · rw [if_pos e]
        have e2 : (qL l t j).length + 1 = (qL l t (j + 1)).length := by rw [qL_t c, List.length_append]; rfl
        rw [e2]
        obtain ⟨h2, a1, a2, a3⟩ := ih (j + 1) _ (tl_on_Sh H o1) (tl_on_Mo (by decide) o1 M) V2 (by omega) (by omega)
        exact ⟨h2, a1, a2, tl_on_tr o1 a3⟩
      · rw [if_neg c, tl_bs]
        dsimp only
        rw [← qL_f c] at V ⊢
        rw [nI_1]
        exact ih (j + 1) h H M V (by omega) (by omega)
theorem t7_fl' (H : tl_Sh h) (M : tl_Mo h 0 l) (hw : tl_wf l) (ht : t < 16) : ∃ h2, mi_X7_findLiving am_f h 118 (nI t) = some (nI (qL l t l.length).length, h2) ∧ tl_Lv h2 (qL l t l.length) ∧ tl_on [131] h h2 := by
  have h16 := hw.1
  obtain ⟨h2, a1, a2, a3⟩ := t7_flL hw ht am_f 0 h H M (fun i v hi => by simp [qL] at hi) (Nat.zero_le _) (by unfold am_f; omega)
  refine ⟨h2, ?_, a2, a3⟩
  unfold mi_X7_findLiving
  rw [oc_118 H, tl_bs]
  exact (congrArg (fun z => Option.bind z fun (q : Int32 × am_H) => some (q.1, q.2)) a1).trans rfl
theorem t7_soL (H : tl_Sh h) (V : tl_Lv h (qL l t l.length)) (hw : tl_wf l) {s : Nat} (hs : s < 65536) : ∀ n j, j ≤ (qL l t l.length).length → (qL l t l.length).length - j < n → lo_X7_spansOf_5 am_f h 118 (nI s) (nI (qL l t l.length).length) n (nI (tl_O (fun i => if s.testBit i = true then 2 ^ ((qL l t l.length).getD i 0) else 0) j)) (nI j) = some (nI (qM l t s l.length)) := by
  have h16 := hw.1
  have hA : (qL l t l.length).length ≤ 16 := Nat.le_trans (qL_le l t _) h16
  intro n
  induction n with
  | zero => intro j _ q; omega
  | succ n ih =>
    intro j hj hjn
    rw [lo_X7_spansOf_5.eq_2]
    simp only [nI_leI (show (qL l t l.length).length < 2 ^ 31 by omega) (show j < 2 ^ 31 by omega)]
    by_cases h1 : (qL l t l.length).length ≤ j
    · rw [if_pos h1, show j = (qL l t l.length).length by omega, qM_O]
    · have hg := tl_gd (l := qL l t l.length) (i := j) (by omega)
      have j16 : j < 16 := by omega
      obtain ⟨a1, -⟩ := qL_at _ _ _ hg
      rw [if_neg h1, t7_has am_f h (show s < 2 ^ 31 by omega) (show j < 32 by omega), tl_bs, or_118_16 H, tl_bs, al_131 H j16, tl_bs, V j _ hg, tl_sh1 _ (by omega), nI_1]
      have key : ((if s.testBit j = true then some (nI (2 ^ ((qL l t l.length).getD j 0))) else some 0) : Option Int32) = some (nI (if s.testBit j = true then 2 ^ ((qL l t l.length).getD j 0) else 0)) := by
        by_cases c : s.testBit j = true
        · rw [if_pos c, if_pos c]
        · rw [if_neg c, if_neg c]; rfl
      rw [key, tl_bs, fa_or]
      exact ih (j + 1) (by omega) (by omega)
theorem t7_so (H : tl_Sh h) (V : tl_Lv h (qL l t l.length)) (hw : tl_wf l) {s : Nat} (hs : s < 65536) : mi_X7_spansOf am_f h 118 (nI s) (nI (qL l t l.length).length) = some (nI (qM l t s l.length)) := by
  have h16 := hw.1
  have hA : (qL l t l.length).length ≤ 16 := Nat.le_trans (qL_le l t _) h16
  unfold mi_X7_spansOf
  rw [oc_118 H, tl_bs]
  have e := t7_soL H V hw hs am_f 0 (Nat.zero_le _) (by unfold am_f; omega)
  rw [show lo_X7_spansOf_5 am_f h 118 (nI s) (nI (qL l t l.length).length) am_f 0 0 = _ from e, tl_bs]
theorem t1_poL (H : tl_Sh h) (G : tl_Al h l (qL l t l.length)) (hw : tl_wf l) {v : Nat} (hv : v < 16) : ∀ n j, j ≤ (qL l t l.length).length → (qL l t l.length).length - j < n → ∃ w, lo_X1_placeOf_2 am_f h 94 (nI v) n (nI j) = some w ∧ ((w = .inl () ∧ ∀ i, j ≤ i → (qL l t l.length)[i]? ≠ some v) ∨ ∃ i, w = .inr (nI i) ∧ (qL l t l.length)[i]? = some v) := by
  have h16 := hw.1
  have hA : (qL l t l.length).length ≤ 16 := Nat.le_trans (qL_le l t _) h16
  intro n
  induction n with
  | zero => intro j _ q; omega
  | succ n ih =>
    intro j hj hjn
    rw [lo_X1_placeOf_2.eq_2, oi_94 H, tl_bs, G.1]
    simp only [nI_leI (show (qL l t l.length).length < 2 ^ 31 by omega) (show j < 2 ^ 31 by omega)]
    by_cases h1 : (qL l t l.length).length ≤ j
    · rw [if_pos h1]
      exact ⟨_, rfl, Or.inl ⟨rfl, fun i hi e => by have := tl_lt_of e; omega⟩⟩
    · have hg := tl_gd (l := qL l t l.length) (i := j) (by omega)
      obtain ⟨g1, -⟩ := G.2 j _ hg
      obtain ⟨a1, -⟩ := qL_at _ _ _ hg
      rw [if_neg h1, or_94_0 H, tl_bs, al_95 H (by omega), tl_bs, g1, nI_1]
      simp only [nI_eq (show (qL l t l.length).getD j 0 < 2 ^ 31 by omega) (show v < 2 ^ 31 by omega)]
      by_cases c : (qL l t l.length).getD j 0 = v
      · rw [if_pos c]
        exact ⟨_, rfl, Or.inr ⟨j, rfl, by rw [← c]; exact hg⟩⟩
      · rw [if_neg c]
        obtain ⟨w, w1, w2⟩ := ih (j + 1) (by omega) (by omega)
        refine ⟨w, w1, ?_⟩
        rcases w2 with ⟨rfl, w3⟩ | w3
        · refine Or.inl ⟨rfl, fun i hi e => ?_⟩
          by_cases z : i = j
          · subst z
            rw [hg] at e
            exact c (Option.some.inj e)
          · exact w3 i (by omega) e
        · exact Or.inr w3
theorem t1_po (H : tl_Sh h) (G : tl_Al h l (qL l t l.length)) (hw : tl_wf l) {v : Nat} (hv : v < l.length) : (sV (l.getD v 0) t = true ∧ mi_X1_placeOf am_f h 94 (nI v) = some (nI (qL l t v).length)) ∨ (¬ sV (l.getD v 0) t = true ∧ mi_X1_placeOf am_f h 94 (nI v) = some (-9)) := by
  have h16 := hw.1
  have hA : (qL l t l.length).length ≤ 16 := Nat.le_trans (qL_le l t _) h16
  obtain ⟨w, w1, w2⟩ := t1_poL H G hw (show v < 16 by omega) am_f 0 (Nat.zero_le _) (by unfold am_f; omega)
  unfold mi_X1_placeOf
  rw [oc_94 H, tl_bs, show lo_X1_placeOf_2 am_f h 94 (nI v) am_f 0 = some w from w1, tl_bs]
  rcases w2 with ⟨rfl, w3⟩ | ⟨i, rfl, w3⟩
  · refine Or.inr ⟨fun c => w3 _ (Nat.zero_le _) (qL_pl _ v hv c), rfl⟩
  · refine Or.inl ⟨(qL_at _ _ _ w3).2, ?_⟩
    rw [qL_pl_of w3]
/-- orders, by those ahead -/
def gS (l : List Nat) (t v s : Nat) : Nat := if sV (l.getD v 0) t = true ∧ (qM l t s l.length).testBit v = false ∧ ¬ uf_rt (qA l (qM l t s l.length) t).1 (sL (l.getD v 0)) = uf_rt (qA l (qM l t s l.length) t).1 (sH (l.getD v 0)) then fct (tl_pc s) * fct ((qL l t l.length).length - 1 - tl_pc s) else 0
theorem gS_pc (hw : tl_wf l) {v s : Nat} (hv : v < l.length) (c : sV (l.getD v 0) t = true) (hs : s < 2 ^ (qL l t l.length).length) (hb : (qM l t s l.length).testBit v = false) : tl_pc s < (qL l t l.length).length := by
  have hA : (qL l t l.length).length ≤ 16 := Nat.le_trans (qL_le l t _) hw.1
  have p := qL_pl _ v hv c
  apply Classical.byContradiction
  intro q
  have e := tl_full hA hs (by omega)
  rw [← qM_pl p, e, tl_all1, decide_eq_true (tl_lt_of p)] at hb
  cases hb
theorem gS_b (hw : tl_wf l) {v s : Nat} (h8 : (qL l t l.length).length ≤ 8) (hv : v < l.length) (hs : s < 2 ^ (qL l t l.length).length) : gS l t v s ≤ 5040 := by
  unfold gS
  split
  · rename_i c
    exact fct_m _ (by omega) _ (gS_pc hw hv c.1 hs c.2.1)
  · exact Nat.zero_le _
theorem t6_orL (H : tl_Sh h) (G : tl_Al h l (qL l t l.length)) (hw : tl_wf l) (h8 : (qL l t l.length).length ≤ 8) {v : Nat} (hv : v < l.length) (c : sV (l.getD v 0) t = true) : ∀ n j, j ≤ 2 ^ (qL l t l.length).length → 2 ^ (qL l t l.length).length - j < n → lo_X6_ordersInWhichItJoins_20 am_f h 0 (nI (qL l t v).length) n (lN (uf_sm (gS l t v) j)) (nI j) = some (lN (uf_sm (gS l t v) (2 ^ (qL l t l.length).length))) := by
  have h16 := hw.1
  have hA : (qL l t l.length).length ≤ 16 := by omega
  have p1 := Nat.two_pow_pos (qL l t l.length).length
  have p2 : 2 ^ (qL l t l.length).length ≤ 256 := tl_p8 h8
  have p := qL_pl _ v hv c
  have pl := tl_lt_of p
  obtain ⟨g1, g2, g3, -⟩ := G.2 _ _ p
  have vv := (tl_wf_at hw (tl_gd hv)).2.1
  intro n
  induction n with
  | zero => intro j _ q; omega
  | succ n ih =>
    intro j hj hjn
    rw [lo_X6_ordersInWhichItJoins_20.eq_2, or_0_5 H, tl_bs, t1_all H G hA, tl_bs]
    simp only [nI_ltI (show 2 ^ (qL l t l.length).length - 1 < 2 ^ 31 by omega) (show j < 2 ^ 31 by omega)]
    by_cases h1 : 2 ^ (qL l t l.length).length - 1 < j
    · rw [if_pos h1, show j = 2 ^ (qL l t l.length).length by omega]
    · have jl : j < 2 ^ (qL l t l.length).length := by omega
      have aj := t1_aj H G hw (s2 := qM l t j l.length) (show j < 65536 by omega) (fun i w hi => qM_pl hi) (sL_lt vv) (sH_lt (l.getD v 0))
      rw [if_neg h1, tl_bit (by omega) (by omega), qM_pl p]
      simp only [tl_bs, or_94_1 H, or_94_2 H, al_96 H (show (qL l t v).length < 16 by omega), al_97 H (show (qL l t v).length < 16 by omega), g2, g3, aj, tj_bc am_f h (show j < 65536 by omega), oi_94 H, G.1, nI_1]
      have key : (Option.bind ((if nI (if (qM l t j l.length).testBit v = true then 1 else 0) = 0 then some true else some false) : Option Bool) fun jq3 => (if jq3 = true then (if decide (uf_rt (qA l (qM l t j l.length) t).1 (sL (l.getD v 0)) = uf_rt (qA l (qM l t j l.length) t).1 (sH (l.getD v 0))) = true then some (lN (uf_sm (gS l t v) j)) else Option.bind (mi_X6_factorial am_f h (nI (tl_pc j))) fun xq14 => Option.bind (mi_X6_factorial am_f h ((nI (qL l t l.length).length - 1) - nI (tl_pc j))) fun xq17 => some (lN (uf_sm (gS l t v) j) + (xq14 * xq17))) else some (lN (uf_sm (gS l t v) j)))) = some (lN (uf_sm (gS l t v) (j + 1))) := by
        show _ = some (lN (uf_sm (gS l t v) j + gS l t v j))
        unfold gS
        by_cases c1 : (qM l t j l.length).testBit v = true
        · rw [if_pos c1, if_neg (show ¬ nI 1 = 0 by decide), tl_bs, if_neg (by decide), if_neg (fun z => by rw [c1] at z; exact absurd z.2.1 (by decide)), Nat.add_zero]
        · rw [if_neg c1, if_pos (show nI 0 = 0 from rfl), tl_bs, if_pos rfl]
          have c0 : (qM l t j l.length).testBit v = false := by simpa using c1
          have pc := gS_pc hw hv c jl c0
          by_cases c2 : uf_rt (qA l (qM l t j l.length) t).1 (sL (l.getD v 0)) = uf_rt (qA l (qM l t j l.length) t).1 (sH (l.getD v 0))
          · rw [if_pos (decide_eq_true c2), if_neg (fun z => z.2.2 c2), Nat.add_zero]
          · rw [if_neg (by rw [decide_eq_true_eq]; exact c2), if_pos ⟨c, c0, c2⟩, il_1, pk_sub (by omega), pk_sub (by omega), t6_fa h (by omega), tl_bs, t6_fa h (by omega), tl_bs, lN_mul, lN_add]
      rw [show ∀ (X : Option Bool) (F : Bool → Option Int64) (K : Int64 → Option Int64), (Option.bind X fun jq3 => Option.bind (F jq3) K) = Option.bind (Option.bind X F) K from fun X F K => by cases X <;> rfl, key, tl_bs]
      exact ih (j + 1) (by omega) (by omega)
theorem t6_or (H : tl_Sh h) (G : tl_Al h l (qL l t l.length)) (hw : tl_wf l) (h8 : (qL l t l.length).length ≤ 8) {v : Nat} (hv : v < l.length) : mi_X6_ordersInWhichItJoins am_f h 0 (nI v) = some (lN (uf_sm (gS l t v) (2 ^ (qL l t l.length).length))) := by
  have h16 := hw.1
  have p2 : 2 ^ (qL l t l.length).length ≤ 256 := tl_p8 h8
  unfold mi_X6_ordersInWhichItJoins
  rcases t1_po H G hw hv with ⟨c, e⟩ | ⟨c, e⟩
  · have pl := tl_lt_of (qL_pl _ v hv c)
    rw [oc_0 H, tl_bs, or_0_5 H, tl_bs, e, tl_bs, if_pos (nI_pos' (by omega))]
    have z := t6_orL H G hw h8 hv c am_f 0 (Nat.zero_le _) (by unfold am_f; omega)
    rw [show lo_X6_ordersInWhichItJoins_20 am_f h 0 (nI (qL l t v).length) am_f 0 0 = _ from z, tl_bs]
  · rw [oc_0 H, tl_bs, or_0_5 H, tl_bs, e, tl_bs, if_neg (by decide)]
    have z : uf_sm (gS l t v) (2 ^ (qL l t l.length).length) ≤ 2 ^ (qL l t l.length).length * 0 := uf_sm_b _ (fun k _ => by
      unfold gS
      rw [if_neg (fun q => c q.1)]
      exact Nat.le_refl _)
    rw [show uf_sm (gS l t v) (2 ^ (qL l t l.length).length) = 0 by omega]
    rfl
theorem tl_or_tb {s v i : Nat} : (s ||| 2 ^ v).testBit i = true ↔ s.testBit i = true ∨ i = v := by
  rw [Nat.testBit_or, Bool.or_eq_true, Nat.testBit_two_pow, decide_eq_true_eq]
  constructor
  · rintro (q | q)
    · exact Or.inl q
    · exact Or.inr q.symm
  · rintro (q | q)
    · exact Or.inl q
    · exact Or.inr q.symm
theorem t7_shL (hw : tl_wf l) (ht : t < 16) (h8 : (qL l t l.length).length ≤ 8) {v : Nat} (hv : v < l.length) (u : Bool) : ∀ n j h, tl_Sh h → tl_Mo h 0 l → tl_Lv h (qL l t l.length) → j ≤ 2 ^ (qL l t l.length).length → 2 ^ (qL l t l.length).length - j < n → ∃ h2, lo_X7_share_40 am_f 118 (nI v) (nI t) u (nI (qL l t l.length).length) n (nI (uf_sm (gS l t v) j)) (nI j) h = some (nI (uf_sm (gS l t v) (2 ^ (qL l t l.length).length)), h2) ∧ tl_on [123, 124] h h2 := by
  have h16 := hw.1
  have hA : (qL l t l.length).length ≤ 16 := by omega
  have p2 : 2 ^ (qL l t l.length).length ≤ 256 := tl_p8 h8
  have vv := (tl_wf_at hw (tl_gd hv)).2.1
  intro n
  induction n with
  | zero => intro j h _ _ _ _ q; omega
  | succ n ih =>
    intro j h H M V hj hjn
    rw [lo_X7_share_40.eq_2, tl_sh1 _ (by omega)]
    simp only [nI_leI (show 2 ^ (qL l t l.length).length < 2 ^ 31 by omega) (show j < 2 ^ 31 by omega)]
    by_cases h1 : 2 ^ (qL l t l.length).length ≤ j
    · rw [if_pos h1, show j = 2 ^ (qL l t l.length).length by omega]
      exact ⟨h, rfl, tl_on_rf⟩
    · have jl : j < 2 ^ (qL l t l.length).length := by omega
      have ml := qM_lt l t j h16
      have s0 : mi_X7_spanOf am_f h 118 0 (nI v) = some (nI (l.getD v 0)) := t7_span H (show 0 < 2 by decide) M (tl_gd hv) (by omega) am_f
      rw [if_neg h1, t7_so H V hw (show j < 65536 by omega), tl_bs, t7_has am_f h (by omega) (by omega), tl_bs, s0, tl_bs, t7_V am_f h vv ht, tl_bs, nI_1]
      have es : uf_sm (gS l t v) (j + 1) = uf_sm (gS l t v) j + gS l t v j := rfl
      by_cases c1 : (qM l t j l.length).testBit v = true
      · have g0 : gS l t v j = 0 := by
          unfold gS
          rw [if_neg (fun z => by rw [c1] at z; exact absurd z.2.1 (by decide))]
        rw [if_pos c1, tl_bs]
        dsimp only
        rw [show uf_sm (gS l t v) j = uf_sm (gS l t v) (j + 1) by rw [es, g0]; rfl]
        exact ih (j + 1) h H M V (by omega) (by omega)
      · rw [if_neg c1]
        have c0 : (qM l t j l.length).testBit v = false := by simpa using c1
        by_cases c : sV (l.getD v 0) t = true
        · have pc := gS_pc hw hv c jl c0
          have ol : qM l t j l.length ||| 2 ^ v < 65536 := Nat.or_lt_two_pow (n := 16) ml (Nat.pow_lt_pow_right (by decide) (by omega))
          obtain ⟨h2, a1, a2, a3⟩ := t7_parts H hw (show 0 < 2 by decide) M ht ml
          have H2 := tl_on_Sh H a3
          have M2 := tl_on_Mo (by decide) a3 M
          obtain ⟨h3, b1, b2, b3⟩ := t7_parts H2 hw (show 0 < 2 by decide) M2 ht ol
          have ad := qA_add hw (s := qM l t j l.length) (s2 := qM l t j l.length ||| 2 ^ v) hv c (fun i _ => tl_or_tb)
          rw [if_pos c, t7_on am_f h (show j < 65536 by omega) (by decide), tl_bs, t7_fa h (by omega), tl_bs, tl_bs, il_1, pk_sub (by omega), pk_sub (by omega), t7_fa h (by omega), tl_bs]
          rw [← il_1, show mi_X7_partsBy am_f h 118 0 (nI t) (nI (qM l t j l.length)) = _ from a1, tl_bs]
          dsimp only
          rw [tl_sh1 v (by omega), fa_or, show mi_X7_partsBy am_f h2 118 0 (nI t) (nI (qM l t j l.length ||| 2 ^ v)) = _ from b1, tl_bs]
          dsimp only
          rw [tl_bs]
          dsimp only
          have eg : nI (uf_sm (gS l t v) j) + nI (fct (tl_pc j)) * nI (fct ((qL l t l.length).length - 1 - tl_pc j)) * (nI (uf_n (qA l (qM l t j l.length) t).1) - nI (uf_n (qA l (qM l t j l.length ||| 2 ^ v) t).1)) = nI (uf_sm (gS l t v) (j + 1)) := by
            rw [pk_sub (by omega), pk_mul, pk_mul, nI_add, es]
            congr 2
            unfold gS
            by_cases c2 : uf_rt (qA l (qM l t j l.length) t).1 (sL (l.getD v 0)) = uf_rt (qA l (qM l t j l.length) t).1 (sH (l.getD v 0))
            · rw [if_pos c2] at ad
              rw [if_neg (fun z => z.2.2 c2), show uf_n (qA l (qM l t j l.length) t).1 - uf_n (qA l (qM l t j l.length ||| 2 ^ v) t).1 = 0 by omega, Nat.mul_zero]
            · rw [if_neg c2] at ad
              rw [if_pos ⟨c, c0, c2⟩, show uf_n (qA l (qM l t j l.length) t).1 - uf_n (qA l (qM l t j l.length ||| 2 ^ v) t).1 = 1 by omega, Nat.mul_one]
          rw [eg]
          obtain ⟨h4, d1, d2⟩ := ih (j + 1) h3 (tl_on_Sh H2 b3) (tl_on_Mo (by decide) b3 M2) (tl_on_Lv (by decide) (tl_on_tr a3 b3) V) (by omega) (by omega)
          exact ⟨h4, d1, tl_on_tr (tl_on_tr a3 b3) d2⟩
        · have g0 : gS l t v j = 0 := by
            unfold gS
            rw [if_neg (fun z => c z.1)]
          rw [if_neg c, tl_bs]
          dsimp only
          rw [show uf_sm (gS l t v) j = uf_sm (gS l t v) (j + 1) by rw [es, g0]; rfl]
          exact ih (j + 1) h H M V (by omega) (by omega)
theorem e_share (I : tl_I h) (a b : Int32) (c : Bool) : tl_st (mi_X6_share am_f h 0 a b c) (fun h1 => mi_X7_share am_f h1 118 a b c) := by
  obtain ⟨H, ⟨l, S⟩, -⟩ := id I
  have h16 := S.1.1
  unfold mi_X6_share mi_X7_share tl_st
  simp only [oc_0 H, tl_bs, t6_tm, t7_tm, or_0_1 H, t5_has H tl_sps7 S.2.1 h16]
  by_cases ha : tl_hs a l.length = true
  · by_cases hb : tl_tm b = true
    · obtain ⟨v, v1, rfl⟩ := tl_hs_of ha h16
      obtain ⟨t, t16, rfl⟩ := tl_tm_of hb
      obtain ⟨h1, x1, x2, x3⟩ := t1_ga tl_sps7 H S.2.1 S.1 t16
      have H1 := tl_on_Sh H x3
      have k1 := tl_on_fr tl_s_al x3
      have S1 := tl_fr_PS k1 S
      have hA : (qL l t l.length).length ≤ 16 := Nat.le_trans (qL_le l t _) h16
      obtain ⟨h2, y1, y2, y3⟩ := t7_fl' H1 S1.2.2 S.1 t16
      have H2 := tl_on_Sh H1 y3
      have k2 := tl_on_fr tl_s_131 y3
      have is1 := t7_isS H1 S1.2.2 h16 (nI v)
      by_cases h8 : (qL l t l.length).length ≤ 8
      · have p2 : 2 ^ (qL l t l.length).length ≤ 256 := tl_p8 h8
        obtain ⟨h3, z1, z2⟩ := t7_shL S.1 t16 h8 v1 c am_f 0 h2 H2 (tl_on_Mo (by decide) y3 S1.2.2) y2 (Nat.zero_le _) (by unfold am_f; omega)
        have fb := fct_b (qL l t l.length).length (by omega)
        have sb : uf_sm (gS l t v) (2 ^ (qL l t l.length).length) ≤ 2 ^ (qL l t l.length).length * 5040 := uf_sm_b _ (fun k hk => gS_b S.1 h8 v1 hk)
        have sl : uf_sm (gS l t v) (2 ^ (qL l t l.length).length) < 2 ^ 31 := by omega
        have g0 : 0 < Nat.gcd (uf_sm (gS l t v) (2 ^ (qL l t l.length).length)) (fct (qL l t l.length).length) := Nat.gcd_pos_of_pos_right _ fb.1
        have gb : Nat.gcd (uf_sm (gS l t v) (2 ^ (qL l t l.length).length)) (fct (qL l t l.length).length) ≤ fct (qL l t l.length).length := Nat.gcd_le_right _ fb.1
        have td := t6_told h1 sl (show fct (qL l t l.length).length < 2 ^ 31 by omega) fb.1 c
        refine ⟨nI ((if c = true then uf_sm (gS l t v) (2 ^ (qL l t l.length).length) else fct (qL l t l.length).length) / Nat.gcd (uf_sm (gS l t v) (2 ^ (qL l t l.length).length)) (fct (qL l t l.length).length)), h1, h3, ?_, ?_, tl_fr_Iv (tl_fr_tr k1 (tl_fr_tr k2 (tl_on_fr tl_s_mu z2))) I⟩
        · simp only [tl_if1 ha, tl_if1 hb, or_0_5 H, tl_bs, x1]
          rw [or_0_5 H1, tl_bs, oi_94 H1, tl_bs, x2.1, if_pos (show nI (qL l t l.length).length ≤ 8 by rw [il_8, nI_leI (by omega) (by decide)]; exact h8), t6_or H1 x2 S.1 h8 v1, tl_bs, tl_bs, oi_94 H1, tl_bs, x2.1, t6_fa h1 (by omega), tl_bs, td, tl_bs]
        · simp only [oc_118 H1, tl_bs, is1, tl_if1 ha, tl_if1 hb, y1]
          rw [if_pos (show nI (qL l t l.length).length ≤ 8 by rw [il_8, nI_leI (by omega) (by decide)]; exact h8), show lo_X7_share_40 am_f 118 (nI v) (nI t) c (nI (qL l t l.length).length) am_f 0 0 h2 = _ from z1, tl_bs]
          dsimp only
          rw [t7_fa h3 (by omega), tl_bs, t7_com h3 sl (by omega), tl_bs]
          have d1 := t7_dvd (a := uf_sm (gS l t v) (2 ^ (qL l t l.length).length)) (b := Nat.gcd (uf_sm (gS l t v) (2 ^ (qL l t l.length).length)) (fct (qL l t l.length).length)) sl (by omega)
          have d2 := t7_dvd (a := fct (qL l t l.length).length) (b := Nat.gcd (uf_sm (gS l t v) (2 ^ (qL l t l.length).length)) (fct (qL l t l.length).length)) (by omega) (by omega)
          rw [if_neg (by omega)] at d1 d2
          rw [d1, tl_bs, d2]
          cases c
          · rfl
          · rfl
      · refine ⟨-4, h1, h2, ?_, ?_, tl_fr_Iv (tl_fr_tr k1 k2) I⟩
        · simp only [tl_if1 ha, tl_if1 hb, or_0_5 H, tl_bs, x1]
          rw [or_0_5 H1, tl_bs, oi_94 H1, tl_bs, x2.1, if_neg (show ¬ nI (qL l t l.length).length ≤ 8 by rw [il_8, nI_leI (by omega) (by decide)]; exact h8)]
        · simp only [oc_118 H1, tl_bs, is1, tl_if1 ha, tl_if1 hb, y1]
          rw [if_neg (show ¬ nI (qL l t l.length).length ≤ 8 by rw [il_8, nI_leI (by omega) (by decide)]; exact h8)]
    · have hb : tl_tm b = false := by simpa using hb
      refine ⟨-1, h, h, ?_, ?_, I⟩
      · simp only [tl_if1 ha, tl_if0 hb]
      · simp only [oc_118 H, tl_bs, t7_isS H S.2.2 h16, tl_if1 ha, tl_if0 hb]
  · have ha : tl_hs a l.length = false := by simpa using ha
    refine ⟨-1, h, h, ?_, ?_, I⟩
    · simp only [tl_if0 ha]
    · simp only [oc_118 H, tl_bs, t7_isS H S.2.2 h16, tl_if0 ha]
end SH
