/-! ===== Int32 by its bits: bt x i ===== -/
def bt (x : Int32) (i : Nat) : Bool := x.toBitVec.getLsbD i
theorem b_ext {x y : Int32} (h : ∀ i, i < 32 → bt x i = bt y i) : x = y := Int32.toBitVec_inj.mp (BitVec.eq_of_getLsbD_eq (fun i hi => h i hi))
theorem b_or (x y : Int32) (i : Nat) : bt (x ||| y) i = (bt x i || bt y i) := by unfold bt; rw [Int32.toBitVec_or, BitVec.getLsbD_or]
theorem b_and (x y : Int32) (i : Nat) : bt (x &&& y) i = (bt x i && bt y i) := by unfold bt; rw [Int32.toBitVec_and, BitVec.getLsbD_and]
theorem b_xor (x y : Int32) (i : Nat) : bt (x ^^^ y) i = (bt x i ^^ bt y i) := by unfold bt; rw [Int32.toBitVec_xor, BitVec.getLsbD_xor]
theorem b_big {x : Int32} {i : Nat} (h : 32 ≤ i) : bt x i = false := BitVec.getLsbD_of_ge _ _ h
theorem b_m1 : ∀ i, i < 32 → bt (-1) i = true := by decide +kernel
theorem b_0 (i : Nat) : bt 0 i = false := BitVec.getLsbD_zero
theorem s_l : ∀ n, n < 32 → ((nI n &&& 31).toBitVec.smod 32).toNat = n := by decide +kernel
theorem s_u : ∀ n, n < 32 → (((nI n).toUInt32 &&& Int32.toUInt32 31).toBitVec % 32).toNat = n := by decide +kernel
theorem b_shl (n : Nat) (hn : n < 32) (x : Int32) {i : Nat} (hi : i < 32) : bt (x <<< (nI n &&& 31)) i = (decide (n ≤ i) && bt x (i - n)) := by
  unfold bt
  rw [Int32.toBitVec_shiftLeft]
  show (x.toBitVec <<< ((nI n &&& 31).toBitVec.smod 32).toNat).getLsbD i = _
  rw [s_l n hn, BitVec.getLsbD_shiftLeft]
  rcases Nat.lt_or_ge i n with h | h
  · simp [h, Nat.not_le.mpr h]
  · simp [hi, h, Nat.not_lt.mpr h]
theorem b_ushr (n : Nat) (hn : n < 32) (x : Int32) (i : Nat) : bt ((x.toUInt32 >>> ((nI n).toUInt32 &&& Int32.toUInt32 31)).toInt32) i = bt x (n + i) := by
  show (x.toUInt32 >>> ((nI n).toUInt32 &&& Int32.toUInt32 31)).toBitVec.getLsbD i = x.toUInt32.toBitVec.getLsbD (n + i)
  rw [UInt32.toBitVec_shiftRight]
  show (x.toUInt32.toBitVec >>> (((nI n).toUInt32 &&& Int32.toUInt32 31).toBitVec % 32).toNat).getLsbD i = _
  rw [s_u n hn, BitVec.getLsbD_ushiftRight]
theorem b_sshr (n : Nat) (hn : n < 32) (x : Int32) {i : Nat} (hi : i < 32) : bt (x >>> (nI n &&& 31)) i = if n + i < 32 then bt x (n + i) else bt x 31 := by
  unfold bt
  rw [Int32.toBitVec_shiftRight]
  show (x.toBitVec.sshiftRight ((nI n &&& 31).toBitVec.smod 32).toNat).getLsbD i = _
  rw [s_l n hn, BitVec.getLsbD_sshiftRight, BitVec.msb_eq_getLsbD_last]
  simp [hi]
theorem b_bit (n : Nat) (hn : n < 32) (x : Int32) : ((x >>> (nI n &&& 31)) &&& 1) = if bt x n = true then 1 else 0 := by
  apply b_ext
  intro i hi
  rw [b_and, b_sshr n hn x hi]
  by_cases h0 : i = 0
  · subst h0
    rw [if_pos (by omega), Nat.add_zero]
    by_cases c : bt x n = true
    · rw [if_pos c, c]; rfl
    · rw [if_neg c, Bool.eq_false_iff.mpr c]; rfl
  · have e1 : bt 1 i = false := (by decide +kernel : ∀ i, i < 32 → ¬ i = 0 → bt 1 i = false) i hi h0
    rw [e1, Bool.and_false]
    by_cases c : bt x n = true
    · rw [if_pos c, e1]
    · rw [if_neg c, b_0]
theorem b_one (n : Nat) (hn : n < 32) {i : Nat} (hi : i < 32) : bt ((1 : Int32) <<< (nI n &&& 31)) i = decide (i = n) := by
  rw [b_shl n hn 1 hi]
  by_cases h : i = n
  · subst h
    simp
    decide
  · by_cases h2 : n ≤ i
    · have e1 : bt 1 (i - n) = false := (by decide +kernel : ∀ i, i < 32 → ¬ i = 0 → bt 1 i = false) (i - n) (by omega) (by omega)
      simp [h, e1]
    · simp [h, h2]
theorem b_not (x : Int32) {i : Nat} (hi : i < 32) : bt (x ^^^ (-1)) i = !bt x i := by
  rw [b_xor, b_m1 i hi]
  cases bt x i <;> rfl
theorem b_clr (n : Nat) (hn : n < 32) (x : Int32) {i : Nat} (hi : i < 32) : bt (x &&& (((1 : Int32) <<< (nI n &&& 31)) ^^^ (-1))) i = (bt x i && !decide (i = n)) := by
  rw [b_and, b_not _ hi, b_one n hn hi]
/-! ===== which stores lead to which ===== -/
/-- behind trace() and reach(): the same sets, by stores -/
def zLed (Mc Mr : zM) (N S : Nat) (sn : Nat → Nat) (L : Nat → Int32) : Prop := Mc.1 8 0 = nI S ∧ ∀ s, s < S → Mc.1 26 s = L s ∧ Mr.1 23 s = nI (sn s) ∧ ∃ a, a < N ∧ Mr.1 11 (sn s) = nI a ∧ Mr.1 22 a = L s
theorem keepC_set {M : zM} {v i : Nat} {x : Int32} (h : ¬ v ∈ [0, 1, 2, 3, 4, 5, 10, 11, 12, 13, 14, 15, 16, 17, 18, 20, 21, 30, 31, 32, 33]) : zKeepC M (zsI M v i x) := fun u hu => by
  rw [zsI_1, if_neg]
  intro e
  subst e
  exact h hu
theorem keepR_set {M : zM} {v i : Nat} {x : Int32} (h : ¬ v ∈ [0, 1, 2, 3, 4, 5, 10, 11, 12, 13, 14, 15, 16, 17, 25, 26, 27, 28]) : zKeepR M (zsI M v i x) := fun u hu => by
  rw [zsI_1, if_neg]
  intro e
  subst e
  exact h hu
theorem b_reachLoop {Mc Mr : zM} {n N I S T V : Nat} {sn : Nat → Nat} (hn100 : 100 ≤ n) (hok : zOk Mr N I S T V sn) (hi : zEqI Mc Mr) (hn : zEqN Mc Mr) :
    ∃ (r1 r2 : Int32 × zM), zwl (fun q => B_X1_trace_2 n q.1 q.2) n ((0 : Int32), Mc) = some r1 ∧ zwl (fun q => B_X6_reach_2 n q.1 q.2) n ((0 : Int32), Mr) = some r2 ∧ (zKeepC Mc r1.2 ∧ zKeepR Mr r2.2 ∧ (∀ j, j < N → r1.2.1 25 j = r2.2.1 22 j) ∧ ∀ j, j < N → Mr.1 10 j = 5 → ∀ u, Mr.1 17 j = nI u → u < S → r2.2.1 23 u = nI j) := by
  obtain ⟨⟨⟨b1, b2, b3, b4, b5, b6⟩, q0, q1, q2, q3, q4⟩, hnd, hbits, hst, hsh⟩ := id hok
  have c2 : Mc.1 2 0 = nI N := hi.1.trans q0
  refine zwl_two (fun i s1 s2 => s1.1 = nI i ∧ s2.1 = nI i ∧ zKeepC Mc s1.2 ∧ zKeepR Mr s2.2 ∧ (∀ j, j < i → s1.2.1 25 j = s2.2.1 22 j) ∧ ∀ j, j < i → Mr.1 10 j = 5 → ∀ u, Mr.1 17 j = nI u → u < S → s2.2.1 23 u = nI j) _ N ?_ ?_ N 0 n _ _ (by omega) (by omega) ⟨rfl, rfl, zKeepC.rf _, zKeepR.rf _, fun j hj => by omega, fun j hj => by omega⟩
  · rintro i ⟨x1, M1⟩ ⟨x2, M2⟩ hiN ⟨e1, e2, kc, kr, ih, ih2⟩
    dsimp only at e1 e2 kc kr ih ih2
    subst e1; subst e2
    have k1 : ∀ (α : Type) (q : Option α), zchk (nI i) 24 q = q := fun α q => zchk_n (by omega)
    have k3 : (nI i).toNatClampNeg = i := cl_n
    have d2 : M1.1 2 0 = nI N := by rw [kc 2 (by decide)]; exact c2
    have d0 : M2.1 0 0 = nI N := by rw [kr 0 (by decide)]; exact q0
    have m10 : M1.1 10 = Mr.1 10 := (kc 10 (by decide)).trans hn.1
    have m11 : M1.1 11 = Mr.1 11 := (kc 11 (by decide)).trans hn.2.1
    have m12 : M1.1 12 = Mr.1 12 := (kc 12 (by decide)).trans hn.2.2.1
    have m13 : M1.1 13 = Mr.1 17 := (kc 13 (by decide)).trans hn.2.2.2.1
    have w10 := kr 10 (by decide)
    have w11 := kr 11 (by decide)
    have w12 := kr 12 (by decide)
    have w17 := kr 17 (by decide)
    have ge : ¬ nI N ≤ nI i := nI_ge hiN (by omega)
    -- what both rows hold behind a step that writes the same
    have fin : ∀ (x : Int32) (M2' : zM), M2'.1 22 = upd (M2.1 22) i x → zKeepR Mr M2' → (∀ j, j < i + 1 → Mr.1 10 j = 5 → ∀ u, Mr.1 17 j = nI u → u < S → M2'.1 23 u = nI j) → zKeepC Mc (zsI M1 25 i x) ∧ zKeepR Mr M2' ∧ (∀ j, j < i + 1 → (zsI M1 25 i x).1 25 j = M2'.1 22 j) ∧ ∀ j, j < i + 1 → Mr.1 10 j = 5 → ∀ u, Mr.1 17 j = nI u → u < S → M2'.1 23 u = nI j := fun x M2' e22 kr' h23 => by
      refine ⟨kc.tr (keepC_set (by decide)), kr', fun j hj => ?_, h23⟩
      rw [e22, show (zsI M1 25 i x).1 25 = upd (M1.1 25) i x from rfl, upd_ap, upd_ap]
      by_cases e : j = i
      · rw [if_pos e, if_pos e]
      · rw [if_neg e, if_neg e]; exact ih j (by omega)
    obtain ⟨-, hk⟩ := hnd i hiN
    rcases hk with ⟨h10, h11, h12, u, hu, h17⟩ | ⟨h10, ⟨a, ha, h11⟩, h12, h17⟩ | ⟨h10, ⟨a, ha, h11⟩, ⟨b, hb, h12⟩, h17⟩ | ⟨h10, ⟨a, ha, h11⟩, h12, u, hu, h17⟩
    · have n5 : ¬ (0 : Int32) = 5 := by decide
      refine ⟨_, _, by simp only [B_X1_trace_2, K_X1_trace_101, d2, if_neg ge, k1, k3, m10, h10, if_true, zst_e, zlt_e]; rfl, by simp only [B_X6_reach_2, K_X6_reach_104, K_X6_reach_105, d0, if_neg ge, k1, k3, w10, h10, n5, if_false, if_true, zst_e, zlt_e]; rfl, nI_1 i, nI_1 i, ?_⟩
      refine fin 0 _ rfl (kr.tr (keepR_set (by decide))) (fun j hj h5 v hv hvS => ?_)
      have : j ≠ i := fun e => by rw [e, h10] at h5; exact absurd h5 (by decide)
      exact ih2 j (by omega) h5 v hv hvS
    · have n5 : ¬ (1 : Int32) = 5 := by decide
      have n0 : ¬ (1 : Int32) = 0 := by decide
      have k5 : ∀ (α : Type) (q : Option α), zchk (nI a) 24 q = q := fun α q => zchk_n (by omega)
      have k6 : (nI a).toNatClampNeg = a := cl_n
      refine ⟨_, _, by simp only [B_X1_trace_2, K_X1_trace_101, K_X1_trace_81, d2, if_neg ge, k1, k3, m10, m11, m12, h10, h11, h12, n5, n0, if_false, if_true, zst_e, zlt_e, k5, k6]; rfl, by simp only [B_X6_reach_2, K_X6_reach_103, K_X6_reach_104, K_X6_reach_105, d0, if_neg ge, k1, k3, w10, w11, w12, h10, h11, h12, n5, n0, if_false, if_true, zst_e, zlt_e, k5, k6]; rfl, nI_1 i, nI_1 i, ?_⟩
      dsimp only
      rw [ih a ha]
      refine fin _ _ rfl (kr.tr (keepR_set (by decide))) (fun j hj h5 v hv hvS => ?_)
      have : j ≠ i := fun e => by rw [e, h10] at h5; exact absurd h5 (by decide)
      exact ih2 j (by omega) h5 v hv hvS
    · have n5 : ¬ Mr.1 10 i = 5 := by rcases h10 with e | e | e <;> rw [e] <;> decide
      have n0 : ¬ Mr.1 10 i = 0 := by rcases h10 with e | e | e <;> rw [e] <;> decide
      have n1 : ¬ nI b = -1 := fun e => by
        have := congrArg Int32.toInt e
        rw [i_toInt_nI (by omega)] at this
        simp at this
      have k5 : ∀ (α : Type) (q : Option α), zchk (nI a) 24 q = q := fun α q => zchk_n (by omega)
      have k6 : (nI a).toNatClampNeg = a := cl_n
      have k7 : ∀ (α : Type) (q : Option α), zchk (nI b) 24 q = q := fun α q => zchk_n (by omega)
      have k8 : (nI b).toNatClampNeg = b := cl_n
      refine ⟨_, _, by simp only [B_X1_trace_2, K_X1_trace_101, K_X1_trace_81, d2, if_neg ge, k1, k3, m10, m11, m12, h11, h12, n5, n0, n1, if_false, if_true, zst_e, zlt_e, k5, k6, k7, k8]; rfl, by simp only [B_X6_reach_2, K_X6_reach_103, K_X6_reach_104, K_X6_reach_105, d0, if_neg ge, k1, k3, w10, w11, w12, h11, h12, n5, n0, n1, if_false, if_true, zst_e, zlt_e, k5, k6, k7, k8]; rfl, nI_1 i, nI_1 i, ?_⟩
      dsimp only
      rw [ih a ha, ih b hb]
      refine fin _ _ rfl (kr.tr (keepR_set (by decide))) (fun j hj h5 v hv hvS => ?_)
      have : j ≠ i := fun e => n5 (e ▸ h5)
      exact ih2 j (by omega) h5 v hv hvS
    · have n0 : ¬ (5 : Int32) = 0 := by decide
      have k5 : ∀ (α : Type) (q : Option α), zchk (nI u) 24 q = q := fun α q => zchk_n (by omega)
      have k6 : (nI u).toNatClampNeg = u := cl_n
      have e17 : ∀ x, (zsI M2 22 i x).1 17 i = nI u := fun x => by show M2.1 17 i = _; rw [w17]; exact h17
      refine ⟨_, _, by simp only [B_X1_trace_2, K_X1_trace_101, d2, if_neg ge, k1, k3, m10, m13, h10, h17, n0, if_false, if_true, zst_e, zlt_e]; rfl, by simp only [B_X6_reach_2, K_X6_reach_105, d0, if_neg ge, k1, k3, w10, w17, h10, h17, if_true, zst_e, zlt_e, e17, k5, k6]; rfl, nI_1 i, nI_1 i, ?_⟩
      refine fin _ _ rfl ((kr.tr (keepR_set (by decide))).tr (keepR_set (by decide))) (fun j hj h5 v hv hvS => ?_)
      show upd (M2.1 23) u (nI i) v = nI j
      rw [upd_ap]
      by_cases e : j = i
      · subst e
        have : v = u := (nI_eq (by omega) (by omega)).mp (hv.symm.trans h17)
        rw [if_pos this]
      · have nv : ¬ v = u := fun ev => by
          subst ev
          obtain ⟨s1, hs1, es1, esn1⟩ := hst.2 j (by omega) h5
          obtain ⟨s2, hs2, es2, esn2⟩ := hst.2 i hiN h10
          have a1 : s1 = v := (nI_eq (by omega) (by omega)).mp (es1.symm.trans hv)
          have a2 : s2 = v := (nI_eq (by omega) (by omega)).mp (es2.symm.trans h17)
          exact e (by rw [← esn1, ← esn2, a1, a2])
        rw [if_neg nv]; exact ih2 j (by omega) h5 v hv hvS
  · rintro ⟨x1, M1⟩ ⟨x2, M2⟩ ⟨e1, e2, kc, kr, ih, ih2⟩
    dsimp only at e1 e2 kc kr ih ih2
    subst e1; subst e2
    have d2 : M1.1 2 0 = nI N := by rw [kc 2 (by decide)]; exact c2
    have d0 : M2.1 0 0 = nI N := by rw [kr 0 (by decide)]; exact q0
    have le : nI N ≤ nI N := nI_le (Nat.le_refl _) (by omega)
    exact ⟨_, _, by simp only [B_X1_trace_2, d2, if_pos le]; rfl, by simp only [B_X6_reach_2, d0, if_pos le]; rfl, kc, kr, ih, ih2⟩
