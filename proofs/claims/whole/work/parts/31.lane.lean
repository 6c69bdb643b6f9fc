/-! ===== Int64 by its bits ===== -/
def ln (x : Int64) (i : Nat) : Bool := x.toBitVec.getLsbD i
theorem ln_ext {x y : Int64} (h : ∀ i, i < 64 → ln x i = ln y i) : x = y := Int64.toBitVec_inj.mp (BitVec.eq_of_getLsbD_eq (fun i hi => h i hi))
theorem ln_or (x y : Int64) (i : Nat) : ln (x ||| y) i = (ln x i || ln y i) := by unfold ln; rw [Int64.toBitVec_or, BitVec.getLsbD_or]
theorem ln_and (x y : Int64) (i : Nat) : ln (x &&& y) i = (ln x i && ln y i) := by unfold ln; rw [Int64.toBitVec_and, BitVec.getLsbD_and]
theorem ln_xor (x y : Int64) (i : Nat) : ln (x ^^^ y) i = (ln x i ^^ ln y i) := by unfold ln; rw [Int64.toBitVec_xor, BitVec.getLsbD_xor]
theorem ln_0 (i : Nat) : ln 0 i = false := BitVec.getLsbD_zero
theorem ln_m1 : ∀ i, i < 64 → ln (-1) i = true := by decide +kernel
theorem s_ll : ∀ n, n < 64 → ((Int32.toInt64 (nI n) &&& 63).toBitVec.smod 64).toNat = n := by decide +kernel
theorem ln_shl (n : Nat) (hn : n < 64) (x : Int64) {i : Nat} (hi : i < 64) : ln (x <<< (Int32.toInt64 (nI n) &&& 63)) i = (decide (n ≤ i) && ln x (i - n)) := by
  unfold ln
  rw [Int64.toBitVec_shiftLeft]
  show (x.toBitVec <<< ((Int32.toInt64 (nI n) &&& 63).toBitVec.smod 64).toNat).getLsbD i = _
  rw [s_ll n hn, BitVec.getLsbD_shiftLeft]
  rcases Nat.lt_or_ge i n with h | h
  · simp [h, Nat.not_le.mpr h]
  · simp [hi, h, Nat.not_lt.mpr h]
theorem ln_1 : ∀ i, i < 64 → ¬ i = 0 → ln 1 i = false := by decide +kernel
theorem ln_one (n : Nat) (hn : n < 64) {i : Nat} (hi : i < 64) : ln ((1 : Int64) <<< (Int32.toInt64 (nI n) &&& 63)) i = decide (i = n) := by
  rw [ln_shl n hn 1 hi]
  by_cases h : i = n
  · subst h
    simp
    decide
  · by_cases h2 : n ≤ i
    · have e1 : ln 1 (i - n) = false := ln_1 (i - n) (by omega) (by omega)
      simp [h, e1]
    · simp [h, h2]
theorem ln_sshr (n : Nat) (hn : n < 64) (x : Int64) {i : Nat} (hi : i < 64) : ln (x >>> (Int32.toInt64 (nI n) &&& 63)) i = if n + i < 64 then ln x (n + i) else ln x 63 := by
  unfold ln
  rw [Int64.toBitVec_shiftRight]
  show (x.toBitVec.sshiftRight ((Int32.toInt64 (nI n) &&& 63).toBitVec.smod 64).toNat).getLsbD i = _
  rw [s_ll n hn, BitVec.getLsbD_sshiftRight, BitVec.msb_eq_getLsbD_last]
  simp [hi]
theorem ln_bit (n : Nat) (hn : n < 64) (x : Int64) : ((x >>> (Int32.toInt64 (nI n) &&& 63)) &&& 1) = if ln x n = true then 1 else 0 := by
  apply ln_ext
  intro i hi
  rw [ln_and, ln_sshr n hn x hi]
  by_cases h0 : i = 0
  · subst h0
    rw [if_pos (by omega), Nat.add_zero]
    by_cases c : ln x n = true
    · rw [if_pos c, c]; rfl
    · rw [if_neg c, Bool.eq_false_iff.mpr c]; rfl
  · have e1 : ln 1 i = false := ln_1 i hi h0
    rw [e1, Bool.and_false]
    by_cases c : ln x n = true
    · rw [if_pos c, e1]
    · rw [if_neg c, ln_0]
theorem ln_wide (b : Bool) {i : Nat} (hi : i < 64) : ln (-(Int32.toInt64 (zb b))) i = b := by
  cases b with
  | false => exact (by decide +kernel : ∀ i, i < 64 → ln (-(Int32.toInt64 (zb false))) i = false) i hi
  | true => exact (by decide +kernel : ∀ i, i < 64 → ln (-(Int32.toInt64 (zb true))) i = true) i hi
theorem ln_not (x : Int64) {i : Nat} (hi : i < 64) : ln (x ^^^ (-1)) i = !ln x i := by
  rw [ln_xor, ln_m1 i hi]
  cases ln x i <;> rfl
theorem c_wide {M : zM} {k t : Nat} (hk : k < 32) (ht : t < 17) : pX3_wide (nI k) (nI t) M = some (-(Int32.toInt64 (zb (bt (M.1 22 t) k)))) := by
  unfold pX3_wide
  rw [zchk_n ht, cl_n (by omega), b_bitz k hk]
/-- the class's gate, lane by lane -/
theorem c_gateL (x : Int32) (a b : Int64) (M : zM) : ∃ w, pX2_gate x a b M = some w ∧ ∀ L, L < 64 → ln w L = gG x (ln a L) (ln b L) := by
  unfold pX2_gate gG
  by_cases h1 : x = 1
  · rw [if_pos h1]
    refine ⟨_, rfl, fun L hL => ?_⟩
    rw [if_pos h1, ln_not _ hL]
  · rw [if_neg h1]
    by_cases h2 : x = 2
    · rw [if_pos h2]
      refine ⟨_, rfl, fun L hL => ?_⟩
      rw [if_neg h1, if_pos h2, ln_and]
    · rw [if_neg h2]
      by_cases h3 : x = 3
      · rw [if_pos h3]
        refine ⟨_, rfl, fun L hL => ?_⟩
        rw [if_neg h1, if_neg h2, if_pos h3, ln_or]
      · rw [if_neg h3]
        refine ⟨_, rfl, fun L hL => ?_⟩
        rw [if_neg h1, if_neg h2, if_neg h3, ln_xor]
/-- a lane's verdict -/
theorem c_verdict {M : zM} {L : Nat} (hL : L < 64) : pX0_verdict (nI L) M = some (vI (ln (M.2 0 0) L) (ln (M.2 1 0) L)) := by
  unfold pX0_verdict K_X0_verdict_18 K_X0_verdict_36
  rw [ln_bit L hL, ln_bit L hL]
  cases ln (M.2 0 0) L <;> cases ln (M.2 1 0) L <;> rfl
