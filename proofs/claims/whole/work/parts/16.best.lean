theorem bt_nI (i : Nat) {j : Nat} (hj : j < 32) : bt (nI i) j = i.testBit j := by
  show (BitVec.ofNat 32 i).getLsbD j = _
  rw [BitVec.getLsbD_ofNat]; simp [hj]
def zbc (x0 : Int32) : Int32 :=
  (fun v1 : Int32 => (fun v2 : Int32 => (fun v3 : Int32 => (fun v4 : Int32 => (fun v5 : Int32 => v5 &&& (63 : Int32)) (v4 + ((Int32.toUInt32 v4 >>> (Int32.toUInt32 (16 : Int32) &&& Int32.toUInt32 31)).toInt32))) (v3 + ((Int32.toUInt32 v3 >>> (Int32.toUInt32 (8 : Int32) &&& Int32.toUInt32 31)).toInt32))) ((v2 + ((Int32.toUInt32 v2 >>> (Int32.toUInt32 (4 : Int32) &&& Int32.toUInt32 31)).toInt32)) &&& (252645135 : Int32))) ((v1 &&& (858993459 : Int32)) + (((Int32.toUInt32 v1 >>> (Int32.toUInt32 (2 : Int32) &&& Int32.toUInt32 31)).toInt32) &&& (858993459 : Int32)))) (x0 - (((Int32.toUInt32 x0 >>> (Int32.toUInt32 (1 : Int32) &&& Int32.toUInt32 31)).toInt32) &&& (1431655765 : Int32)))
theorem c_bitsE (x : Int32) (M : zM) : pJ6_bitCount_0f7a4 x M = some (zbc x) := rfl
def zbcOk (k : Nat) : Bool := zbc (nI k) == nI (zpc (nI k) 24)
set_option maxRecDepth 100000 in
theorem zbc_all : ∀ k, k < 4096 → zbcOk k = true := by decide +kernel
theorem c_bits {k : Nat} (hk : k < 4096) (M : zM) : pJ6_bitCount_0f7a4 (nI k) M = some (nI (zpc (nI k) 24)) := by
  rw [c_bitsE]
  exact congrArg some (eq_of_beq (zbc_all k hk))
theorem r_ones {n : Nat} (hn : 100 ≤ n) (x : Int32) (M : zM) : pX6_ones n x M = some (nI (zpc x 24)) := by
  unfold pX6_ones
  simp only [zlt_e]
  obtain ⟨⟨r1, r2⟩, p1, p2⟩ := zwl_for (b := fun q => B_X6_ones_4 n x q.1 q.2 M) (fun i s => s = (nI (zpc x i), nI i)) (fun r => r.1 = nI (zpc x 24)) 24 n ((0 : Int32), (0 : Int32)) (by omega) rfl
    (fun i s hi hI => by
      subst hI
      have ge : ¬ (24 : Int32) ≤ nI i := nI_ge (a := i) (b := 24) hi (by decide)
      refine ⟨_, by simp only [B_X6_ones_4, if_neg ge, b_bit i (show i < 32 by omega), zlt_e]; rfl, ?_⟩
      refine Prod.ext ?_ (nI_1 i)
      show _ = nI (zpc x i + (if bt x i = true then 1 else 0))
      by_cases c : bt x i = true
      · simp only [if_pos c]; exact nI_1 _
      · simp only [if_neg c]; exact Int32.add_zero _)
    (fun s hI => by
      subst hI
      have le : (24 : Int32) ≤ nI 24 := by decide
      exact ⟨_, by simp only [B_X6_ones_4, if_pos le]; rfl, rfl⟩)
  rw [p1, zb2_some]
  exact congrArg some p2
/-- the prices of a set together -/
def zps (pr : Nat → Nat) (x : Int32) : Nat → Nat
  | 0 => 0
  | s + 1 => zps pr x s + (if bt x s = true then pr s else 0)
theorem zps_le {pr : Nat → Nat} {x : Int32} : ∀ S, (∀ s, s < S → pr s ≤ 1000) → zps pr x S ≤ 1000 * S
  | 0, _ => Nat.le_refl _
  | S + 1, h => by
    have h1 := zps_le (pr := pr) (x := x) S (fun s hs => h s (by omega))
    have h2 := h S (by omega)
    unfold zps
    split <;> omega
theorem zps_mono {pr : Nat → Nat} {x y : Int32} (h : ∀ i, i < 32 → bt x i = true → bt y i = true) : ∀ S, S ≤ 32 → zps pr x S ≤ zps pr y S
  | 0, _ => Nat.le_refl _
  | S + 1, hS => by
    have := zps_mono (pr := pr) h S (by omega)
    unfold zps
    by_cases c : bt x S = true
    · rw [if_pos c, if_pos (h S (by omega) c)]; omega
    · rw [if_neg c]; omega
theorem c_price {n S : Nat} {M : zM} {sn pr : Nat → Nat} (hn : 100 ≤ n) (hS : S ≤ 24) (h8 : M.1 8 0 = nI S) (h : ∀ s, s < S → sn s < 24 ∧ M.1 18 s = nI (sn s) ∧ M.1 14 (sn s) = nI (pr s)) (x : Int32) : pX1_priceOf n x M = some (nI (zps pr x S)) := by
  unfold pX1_priceOf
  simp only [zlt_e]
  obtain ⟨⟨r1, r2⟩, p1, p2⟩ := zwl_for (b := fun q => B_X1_priceOf_5 n x q.1 q.2 M) (fun i s => s = (nI (zps pr x i), nI i)) (fun r => r.1 = nI (zps pr x S)) S n ((0 : Int32), (0 : Int32)) (by omega) rfl
    (fun i s hi hI => by
      subst hI
      obtain ⟨g1, g2, g3⟩ := h i hi
      have k1 : ∀ (α : Type) (q : Option α), zchk (nI i) 24 q = q := fun α q => zchk_n (by omega)
      have k3 : (nI i).toNatClampNeg = i := cl_n
      have k5 : ∀ (α : Type) (q : Option α), zchk (nI (sn i)) 24 q = q := fun α q => zchk_n g1
      have k6 : (nI (sn i)).toNatClampNeg = sn i := cl_n
      have ge : ¬ nI S ≤ nI i := nI_ge hi (by omega)
      have z01 : ¬ (0 : Int32) = 1 := by decide
      by_cases c : bt x i = true
      · refine ⟨_, by simp only [B_X1_priceOf_5, K_X1_priceOf_39, h8, if_neg ge, b_bit i (show i < 32 by omega), if_pos c, if_true, k1, k3, g2, k5, k6, g3, zlt_e]; rfl, ?_⟩
        refine Prod.ext ?_ (nI_1 i)
        show _ = nI (zps pr x i + (if bt x i = true then pr i else 0))
        rw [if_pos c]; exact nI_add _ _
      · refine ⟨_, by simp only [B_X1_priceOf_5, K_X1_priceOf_39, h8, if_neg ge, b_bit i (show i < 32 by omega), if_neg c, z01, if_false, zlt_e]; rfl, ?_⟩
        refine Prod.ext ?_ (nI_1 i)
        show _ = nI (zps pr x i + (if bt x i = true then pr i else 0))
        rw [if_neg c]; rfl)
    (fun s hI => by
      subst hI
      exact ⟨_, by simp only [B_X1_priceOf_5, h8, if_pos (nI_le (Nat.le_refl S) (show S < 2147483648 by omega))]; rfl, rfl⟩)
  rw [p1, zb2_some]
  exact congrArg some p2
theorem r_price {n S : Nat} {M : zM} {sn pr : Nat → Nat} (hn : 100 ≤ n) (hS : S ≤ 24) (h2 : M.1 2 0 = nI S) (h : ∀ s, s < S → sn s < 24 ∧ M.1 23 s = nI (sn s) ∧ M.1 16 (sn s) = nI (pr s)) (x : Int32) : pX6_priceOf n x M = some (nI (zps pr x S)) := by
  unfold pX6_priceOf
  simp only [zlt_e]
  obtain ⟨⟨r1, r2⟩, p1, p2⟩ := zwl_for (b := fun q => B_X6_priceOf_4 n x q.1 q.2 M) (fun i s => s = (nI (zps pr x i), nI i)) (fun r => r.1 = nI (zps pr x S)) S n ((0 : Int32), (0 : Int32)) (by omega) rfl
    (fun i s hi hI => by
      subst hI
      obtain ⟨g1, g2, g3⟩ := h i hi
      have k1 : ∀ (α : Type) (q : Option α), zchk (nI i) 24 q = q := fun α q => zchk_n (by omega)
      have k3 : (nI i).toNatClampNeg = i := cl_n
      have k5 : ∀ (α : Type) (q : Option α), zchk (nI (sn i)) 24 q = q := fun α q => zchk_n g1
      have k6 : (nI (sn i)).toNatClampNeg = sn i := cl_n
      have ge : ¬ nI S ≤ nI i := nI_ge hi (by omega)
      have z01 : ¬ (0 : Int32) = 1 := by decide
      by_cases c : bt x i = true
      · refine ⟨_, by simp only [B_X6_priceOf_4, K_X6_priceOf_37, h2, if_neg ge, b_bit i (show i < 32 by omega), if_pos c, if_true, k1, k3, g2, k5, k6, g3, zlt_e]; rfl, ?_⟩
        refine Prod.ext ?_ (nI_1 i)
        show _ = nI (zps pr x i + (if bt x i = true then pr i else 0))
        rw [if_pos c]; exact nI_add _ _
      · refine ⟨_, by simp only [B_X6_priceOf_4, K_X6_priceOf_37, h2, if_neg ge, b_bit i (show i < 32 by omega), if_neg c, z01, if_false, zlt_e]; rfl, ?_⟩
        refine Prod.ext ?_ (nI_1 i)
        show _ = nI (zps pr x i + (if bt x i = true then pr i else 0))
        rw [if_neg c]; exact Int32.add_zero _)
    (fun s hI => by
      subst hI
      exact ⟨_, by simp only [B_X6_priceOf_4, h2, if_pos (nI_le (Nat.le_refl S) (show S < 2147483648 by omega))]; rfl, rfl⟩)
  rw [p1, zb2_some]
  exact congrArg some p2
theorem pow_S {S : Nat} (hS : S ≤ 12) : 2 ^ S ≤ 4096 ∧ 0 < 2 ^ S := ⟨by have := Nat.pow_le_pow_right (show 0 < 2 by omega) hS; omega, Nat.pow_pos (by omega)⟩
theorem shl_S {S : Nat} (hS : S ≤ 12) : (1 : Int32) <<< (nI S &&& 31) = nI (2 ^ S) := by
  have := pk_shlN (n := 1) (nI S &&& 31) S (s_l S (by omega)) (by have := (pow_S hS).1; omega)
  rw [Nat.one_mul] at this; exact this
theorem full_sub {S : Nat} (hS : S ≤ 12) {i : Nat} (hi : i < 2 ^ S) : ∀ j, j < 32 → bt (nI i) j = true → bt (nI (2 ^ S - 1)) j = true := fun j hj h => by
  rw [bt_nI _ hj] at *
  rw [Nat.testBit_two_pow_sub_one]
  refine decide_eq_true (Nat.lt_of_not_le fun q => ?_)
  rw [Nat.testBit_lt_two_pow (Nat.lt_of_lt_of_le hi (Nat.pow_le_pow_right (by omega) q))] at h
  cases h
theorem full_pc {S : Nat} (hS : S ≤ 12) {i : Nat} (hi : i < 2 ^ S - 1) : zpc (nI i) 24 < zpc (nI (2 ^ S - 1)) 24 := by
  have hp := pow_S hS
  have hsub := full_sub hS (show i < 2 ^ S by omega)
  have : ∃ k, k < 32 ∧ ¬ bt (nI i) k = bt (nI (2 ^ S - 1)) k := Classical.byContradiction fun q => by
    have e : nI i = nI (2 ^ S - 1) := b_ext fun k hk => Classical.byContradiction fun q2 => q ⟨k, hk, q2⟩
    have := (nI_eq (by omega) (by omega)).mp e
    omega
  obtain ⟨k, hk, hne⟩ := this
  have b1 : bt (nI (2 ^ S - 1)) k = true := by
    cases hb : bt (nI (2 ^ S - 1)) k with
    | true => rfl
    | false =>
      cases hb2 : bt (nI i) k with
      | true => have := hsub k hk hb2; rw [hb] at this; exact this
      | false => exact absurd (hb2.trans hb.symm) hne
  have hkS : k < S := by
    rw [bt_nI _ hk, Nat.testBit_two_pow_sub_one] at b1
    exact of_decide_eq_true b1
  exact zpc_lt hsub 24 (by omega) (by omega) b1 (fun q => hne (q.trans b1.symm))
theorem full_bk (L : Nat → Int32) {S : Nat} (hS : S ≤ 12) : zbk L S (nI (2 ^ S - 1)) = 1 := by
  have hp := pow_S hS
  unfold zbk
  have e : (((1 : Int32) <<< (nI S &&& 31)) - 1) &&& (nI (2 ^ S - 1) ^^^ (-1)) = 0 := by
    rw [shl_S hS, show nI (2 ^ S) - 1 = nI (2 ^ S - 1) from by rw [show (1 : Int32) = nI 1 from rfl, pk_sub hp.2]]
    apply b_ext
    intro i hi
    rw [b_and, b_not _ hi, b_0]
    cases bt (nI (2 ^ S - 1)) i <;> rfl
  rw [e, zfx_fix L S 24 (zrd_0 L (by omega)), if_pos rfl]
theorem zbk01 (L : Nat → Int32) (S : Nat) (x : Int32) : zbk L S x = 0 ∨ zbk L S x = 1 := by
  unfold zbk
  split
  · exact Or.inr rfl
  · exact Or.inl rfl
