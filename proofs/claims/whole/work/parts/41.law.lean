/-! ===== the law's loop over the pure functions: every call answers alike, so it never answers 0 ===== -/
def zNx (x3 : Int32) (o : Option ((Int32 × zM × zM) ⊕ ((Int32 × zM × zM) ⊕ Int32))) : Prop := ∃ m1 m2, o = some (.inl (x3 + 7, m1, m2)) ∧ zRel m1 m2
theorem nx_end {n L : Nat} {xs : Nat → Int32} {x3 : Int32} {mc mr : zM} (h : zRel mc mr) : zNx x3 (KL_1149 n L xs x3 mc mr) := ⟨mc, mr, rfl, h⟩
theorem nx_both {n L : Nat} {xs : Nat → Int32} {x3 : Int32} {o1 o2 : Option (Int32 × zM)} (h : zBoth o1 o2) : zNx x3 (zb2 o1 (fun v N => zb2 o2 (fun v' N' => if v = v' then KL_1149 n L xs x3 N N' else some (.inr (.inr (0 : Int32)))))) := by
  obtain ⟨r, m1, m2, e1, e2, h⟩ := h
  subst e1; subst e2
  rw [zb2_some, zb2_some, if_pos rfl]
  exact nx_end h
theorem nx_ex {n L : Nat} {xs : Nat → Int32} {x3 : Int32} {mc mr : zM} {o1 o2 : Option Int32} (hr : zRel mc mr) (h : ∃ r, o1 = some r ∧ o2 = some r) : zNx x3 (o1.bind (fun v => o2.bind (fun v' => if v = v' then KL_1149 n L xs x3 mc mr else some (.inr (.inr (0 : Int32)))))) := by
  obtain ⟨r, e1, e2⟩ := h
  subst e1; subst e2
  rw [zbind_some, zbind_some, if_pos rfl]
  exact nx_end hr
theorem nx_cmp {n L : Nat} {xs : Nat → Int32} {x3 : Int32} {o1 o2 : Option (Int64 × zM)} (h : zBoth o1 o2) : zNx x3 (zb2 o1 (fun v N => zb2 o2 (fun v' N' => if (lg_cmp v v') = 0 then KL_1149 n L xs x3 N N' else some (.inr (.inr (0 : Int32)))))) := by
  obtain ⟨r, m1, m2, e1, e2, h⟩ := h
  subst e1; subst e2
  rw [zb2_some, zb2_some, if_pos ((lg_cmp_eq r r).mpr rfl)]
  exact nx_end h
theorem b_slow5 {Mc Mr : zM} {n : Nat} (hn : 100 ≤ n) (h : zRel Mc Mr) : zBoth (pX5_slow n Mc) (pX6_slow n Mr) := by
  obtain ⟨r, m1, m2, e1, e2, h2⟩ := b_slow hn h
  exact ⟨r, m1, m2, by unfold pX5_slow; rw [e1, zb2_some], e2, h2⟩
theorem b_step {n L : Nat} {xs : Nat → Int32} {x3 : Int32} {mc mr : zM} (hn : 5000 ≤ n) (h : zRel mc mr) (hg : ¬ ((nI L) - 7) < x3)
    (c0 : ∀ (α : Type) (k : Option α), zchk x3 L k = k) (c1 : ∀ (α : Type) (k : Option α), zchk (x3 + 1) L k = k) (c2 : ∀ (α : Type) (k : Option α), zchk (x3 + 2) L k = k) (c3 : ∀ (α : Type) (k : Option α), zchk (x3 + 3) L k = k) (c4 : ∀ (α : Type) (k : Option α), zchk (x3 + 4) L k = k) (c5 : ∀ (α : Type) (k : Option α), zchk (x3 + 5) L k = k) (c6 : ∀ (α : Type) (k : Option α), zchk (x3 + 6) L k = k) :
    zNx x3 (BL n L xs x3 mc mr) := by
  have hn1 : 100 ≤ n := by omega
  unfold BL
  rw [if_neg hg]
  simp only [c0, c1, c2, c3, c4, c5, c6, zlt_e]
  generalize xs x3.toNatClampNeg &&& 31 = d
  generalize hy1 : xs (x3 + 1).toNatClampNeg = y1
  generalize hy2 : xs (x3 + 2).toNatClampNeg = y2
  generalize xs (x3 + 3).toNatClampNeg = y3
  generalize xs (x3 + 4).toNatClampNeg = y4
  generalize xs (x3 + 5).toNatClampNeg = y5
  generalize xs (x3 + 6).toNatClampNeg = y6
  by_cases k : d = 0
  · rw [if_pos k]; exact nx_both (b_node h _ _ _)
  rw [if_neg k]; clear k
  by_cases k : d = 1
  · rw [if_pos k]; exact nx_both (b_feed h _ _)
  rw [if_neg k]; clear k
  by_cases k : d = 2
  · rw [if_pos k]
    by_cases q : y2 = 0
    · rw [if_pos q]; unfold KL_263; simp only [c1, c2, hy1, hy2, if_pos q, KL_285]; exact nx_both (b_output h _ _ (Or.inl rfl))
    · rw [if_neg q]; unfold KL_263; simp only [c1, c2, hy1, hy2, if_neg q, KL_285]; exact nx_both (b_output h _ _ (Or.inr rfl))
  rw [if_neg k]; clear k
  by_cases k : d = 3
  · rw [if_pos k]; exact nx_both (b_price h _ _)
  rw [if_neg k]; clear k
  by_cases k : d = 4
  · rw [if_pos k]; exact nx_ex h (b_about h _ _)
  rw [if_neg k]; clear k
  by_cases k : d = 5
  · rw [if_pos k]
    by_cases q : y2 = 0
    · rw [if_pos q]; unfold KL_378; simp only [c1, c2, hy1, hy2, if_pos q, KL_400]; exact nx_both (b_thrice h _ _ (Or.inl rfl))
    · rw [if_neg q]; unfold KL_378; simp only [c1, c2, hy1, hy2, if_neg q, KL_400]; exact nx_both (b_thrice h _ _ (Or.inr rfl))
  rw [if_neg k]; clear k
  by_cases k : d = 6
  · rw [if_pos k]
    by_cases q : y2 = 0
    · rw [if_pos q]; unfold KL_427; simp only [c1, c2, hy1, hy2, if_pos q, KL_449]; exact nx_both (b_vote h _ _ (Or.inl rfl))
    · rw [if_neg q]; unfold KL_427; simp only [c1, c2, hy1, hy2, if_neg q, KL_449]; exact nx_both (b_vote h _ _ (Or.inr rfl))
  rw [if_neg k]; clear k
  by_cases k : d = 7
  · rw [if_pos k]; exact nx_both (b_ticks h _)
  rw [if_neg k]; clear k
  by_cases k : d = 8
  · rw [if_pos k]; exact nx_both (b_plain hn1 h _ _)
  rw [if_neg k]; clear k
  by_cases k : d = 9
  · rw [if_pos k]; exact nx_both (b_copy hn1 h _ _ _)
  rw [if_neg k]; clear k
  by_cases k : d = 10
  · rw [if_pos k]; exact nx_both (b_flip hn h _ _ _)
  rw [if_neg k]; clear k
  by_cases k : d = 11
  · rw [if_pos k]; exact nx_both (b_flips hn h _ _ _ _ _ _)
  rw [if_neg k]; clear k
  by_cases k : d = 12
  · rw [if_pos k]; exact nx_both (b_many hn h _)
  rw [if_neg k]; clear k
  by_cases k : d = 13
  · rw [if_pos k]; exact nx_both (b_first hn h)
  rw [if_neg k]; clear k
  by_cases k : d = 14
  · rw [if_pos k]; exact nx_both (b_masked hn h _)
  rw [if_neg k]; clear k
  by_cases k : d = 15
  · rw [if_pos k]; exact nx_both (b_pairs hn h _)
  rw [if_neg k]; clear k
  by_cases k : d = 16
  · rw [if_pos k]; exact nx_both (b_leads hn1 h _ _)
  rw [if_neg k]; clear k
  by_cases k : d = 17
  · rw [if_pos k]; exact nx_both (b_breaks hn1 h _)
  rw [if_neg k]; clear k
  by_cases k : d = 18
  · rw [if_pos k]; exact nx_both (b_best hn h)
  rw [if_neg k]; clear k
  by_cases k : d = 19
  · rw [if_pos k]; exact nx_both (b_harden hn h)
  rw [if_neg k]; clear k
  by_cases k : d = 20
  · rw [if_pos k]; exact nx_both (b_voter h _)
  rw [if_neg k]; clear k
  by_cases k : d = 21
  · rw [if_pos k]; exact nx_ex h (b_cost hn1 h)
  rw [if_neg k]; clear k
  by_cases k : d = 22
  · rw [if_pos k]; exact nx_both (b_slow5 hn1 h)
  rw [if_neg k]; clear k
  by_cases k : d = 23
  · rw [if_pos k]; exact nx_both (b_sheet hn1 h _ _ _)
  rw [if_neg k]; clear k
  by_cases k : d = 24
  · rw [if_pos k]; exact nx_both (b_lose h _)
  rw [if_neg k]; clear k
  by_cases k : d = 25
  · rw [if_pos k]; exact nx_both (b_put h _ _ _ _)
  rw [if_neg k]; clear k
  by_cases k : d = 26
  · rw [if_pos k]; exact nx_both (b_get h _ _ _)
  rw [if_neg k]; clear k
  by_cases k : d = 27
  · rw [if_pos k]; exact nx_both (b_move hn1 h _ _ _ _ _)
  rw [if_neg k]; clear k
  by_cases k : d = 28
  · rw [if_pos k]; exact nx_ex h (b_count hn1 h _)
  rw [if_neg k]; clear k
  by_cases k : d = 29
  · rw [if_pos k]; exact nx_cmp (b_digest hn1 h)
  rw [if_neg k]
  exact nx_end h
theorem b_law {n L : Nat} {xs : Nat → Int32} {mc mr : zM} (hn : 5000 ≤ n) (hL : L ≤ 3584) (h : zRel mc mr) : pL n L xs mc mr = some 1 := by
  have key : ∃ r, zwl (fun q : Int32 × zM × zM => BL n L xs q.1 q.2.1 q.2.2) n ((0 : Int32), mc, mr) = some r ∧ ∃ q, r = Sum.inl q := by
    refine zwl_rule (fun i (q : Int32 × zM × zM) => q.1 = nI (7 * i) ∧ zRel q.2.1 q.2.2) (fun r => ∃ q, r = Sum.inl q) 512 ?_ 512 0 n _ rfl (by omega) (Nat.zero_le _) ⟨rfl, h⟩
    intro i q hi ⟨e, hr⟩
    obtain ⟨x3, m1, m2⟩ := q
    simp only at e hr
    subst e
    have tL : ((nI L) - 7).toInt = (L : Int) - 7 := pk_sub_toInt (a := L) (b := 7) (by omega) (by omega)
    by_cases hg : ((nI L) - 7) < nI (7 * i)
    · right
      exact ⟨_, by show BL n L xs (nI (7 * i)) m1 m2 = _; unfold BL; rw [if_pos hg], _, rfl⟩
    · left
      have hi7 : 7 * i + 7 ≤ L := by
        rw [Int32.lt_iff_toInt_lt, tL, nI_toInt (by omega)] at hg
        omega
      have ck : ∀ (j : Nat), j < 7 → ∀ (α : Type) (k : Option α), zchk (nI (7 * i) + nI j) L k = k := fun j hj α k => by
        rw [nI_add]; exact zchk_n (by omega)
      obtain ⟨m3, m4, e3, e4⟩ := b_step (n := n) (L := L) (xs := xs) (x3 := nI (7 * i)) hn hr hg (fun α k => zchk_n (by omega)) (ck 1 (by omega)) (ck 2 (by omega)) (ck 3 (by omega)) (ck 4 (by omega)) (ck 5 (by omega)) (ck 6 (by omega))
      refine ⟨_, e3, by omega, ?_, e4⟩
      show nI (7 * i) + nI 7 = nI (7 * (i + 1))
      rw [nI_add]
      rfl
  obtain ⟨r, e, q, rfl⟩ := key
  unfold pL
  rw [e]
  rfl
