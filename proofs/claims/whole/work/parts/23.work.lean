theorem b_zbshl (b : Bool) {i : Nat} (hi : i < 32) {j : Nat} (hj : j < 32) : bt (zb b <<< (nI i &&& 31)) j = (decide (j = i) && b) := by
  cases b with
  | true => rw [zb_t, b_one i hi hj]; simp
  | false =>
    rw [zb_f, b_shl i hi 0 hj, b_0]; simp
theorem b_bitz (n : Nat) (hn : n < 32) (x : Int32) : ((x >>> (nI n &&& 31)) &&& 1) = zb (bt x n) := b_bit n hn x
theorem c_bit {M : zM} {k t : Nat} (hk : k < 32) (ht : t < 17) : pX3_bit (nI k) (nI t) M = some (zb (bt (M.1 22 t) k)) := by
  unfold pX3_bit
  rw [zchk_n ht, cl_n (by omega), b_bit k hk]; rfl
theorem c_gate (x : Int32) (a b : Bool) (M : zM) : ∃ w, pX2_gate x (Int32.toInt64 (zb a)) (Int32.toInt64 (zb b)) M = some w ∧ (Int64.toInt32 w &&& 1) = zb (gG x a b) := by
  unfold pX2_gate gG
  by_cases h1 : x = 1
  · rw [if_pos h1, if_pos h1]; exact ⟨_, rfl, by cases a <;> rfl⟩
  · rw [if_neg h1, if_neg h1]
    by_cases h2 : x = 2
    · rw [if_pos h2, if_pos h2]; exact ⟨_, rfl, by cases a <;> cases b <;> rfl⟩
    · rw [if_neg h2, if_neg h2]
      by_cases h3 : x = 3
      · rw [if_pos h3, if_pos h3]; exact ⟨_, rfl, by cases a <;> cases b <;> rfl⟩
      · rw [if_neg h3, if_neg h3]; exact ⟨_, rfl, by cases a <;> cases b <;> rfl⟩
theorem c_gateK {M : zM} {i : Nat} (hi : i < 24) (x3 : Int32) (a b : Bool) : K_X3_gateBit_38 (nI i) x3 (zb a) (zb b) M = some (zb (gG (M.1 10 i) a b)) := by
  obtain ⟨g, g1, g2⟩ := c_gate (M.1 10 i) a b M
  unfold K_X3_gateBit_38
  rw [zlt_e, zchk_n hi, cl_n (by omega), g1, zbind_some, g2]
theorem c_gateK0 {M : zM} {i : Nat} (hi : i < 24) (x3 : Int32) (a : Bool) : K_X3_gateBit_38 (nI i) x3 (zb a) 0 M = some (zb (gG (M.1 10 i) a false)) := c_gateK hi x3 a false
/-- the class's rows beside the reference's, where the class's memory has gone on in scratch alone -/
def zTie (Mr M : zM) (N S : Nat) (sn : Nat → Nat) : Prop := M.1 2 0 = nI N ∧ M.1 4 0 = nI S ∧ M.1 10 = Mr.1 10 ∧ M.1 11 = Mr.1 11 ∧ M.1 12 = Mr.1 12 ∧ M.1 13 = Mr.1 17 ∧ M.1 15 = Mr.1 13 ∧ M.1 16 = Mr.1 14 ∧ M.1 17 = Mr.1 15 ∧ (∀ s, s < S → M.1 18 s = nI (sn s)) ∧ M.1 0 0 = Mr.1 3 0
theorem zTie.of {Mc Mr : zM} {N I S T V : Nat} {sn : Nat → Nat} (hok : zOk Mr N I S T V sn) (hi : zEqI Mc Mr) (hn : zEqN Mc Mr) (hsn : zSn Mc S sn) : zTie Mr Mc N S sn := by
  obtain ⟨⟨⟨b1, b2, b3, b4, b5, b6⟩, q0, q1, q2, q3, q4⟩, -⟩ := id hok
  exact ⟨hi.1.trans q0, hi.2.2.1.trans q2, hn.1, hn.2.1, hn.2.2.1, hn.2.2.2.1, hn.2.2.2.2.2.1, hn.2.2.2.2.2.2.1, hn.2.2.2.2.2.2.2, hsn, hi.2.2.2.1⟩
theorem zTie.keep {Mr M M' : zM} {N S : Nat} {sn : Nat → Nat} (h : zTie Mr M N S sn) (k : zKeepC M M') : zTie Mr M' N S sn := by
  unfold zTie at *
  rw [k 0 (by decide), k 2 (by decide), k 4 (by decide), k 10 (by decide), k 11 (by decide), k 12 (by decide), k 13 (by decide), k 15 (by decide), k 16 (by decide), k 17 (by decide), k 18 (by decide)]
  exact h
theorem c_inputsOf {Mc Mr M : zM} {N I S T V : Nat} {sn : Nat → Nat} (hok : zOk Mr N I S T V sn) (hs : zEqS Mc Mr) (kc : zKeepC Mc M) {t : Nat} (ht : t < 60) : ∃ w, pX4_inputsOf (nI t) M = some w ∧ ∀ k u, Mr.1 17 k = nI u → u < 24 → bt w u = gI Mr t k := by
  obtain ⟨e21, hf, hit⟩ := hs 0 (by omega)
  obtain ⟨⟨z, hz, ez⟩, hth⟩ := hok.2.2.2.2 0 (by omega)
  rw [ez] at e21
  unfold pX4_inputsOf K_X4_inputsOf_20
  simp only [z04, cl0, kc 20 (by decide), kc 21 (by decide), e21, cl_n (show t < 2147483648 by omega), show M.1 (30 + 0) = Mc.1 30 from kc 30 (by decide)]
  have gi : ∀ k u, Mr.1 17 k = nI u → u < 24 → gI Mr t k = (!decide (Mr.1 25 0 = 0) && decide (t < z) && bt (Mr.1 28 t) u) := fun k u h17 hu => by
    unfold gI; rw [h17, ez, cl_n (by omega), cl_n (by omega)]
  rcases hf with ⟨f1, f2⟩ | ⟨f1, f2⟩
  · rw [if_pos f2]
    refine ⟨0, rfl, fun k u h17 hu => ?_⟩
    rw [gi k u h17 hu, b_0, f1]; rfl
  · have g : ¬ Mc.1 20 0 = -1 := by
      rcases hth with e | ⟨-, f, hf3, e⟩
      · rw [f1] at e; exact absurd e (by decide)
      · rw [f2, e]; exact nI_ne_m1 (by omega)
    have g0 : ¬ Mr.1 25 0 = 0 := by rw [f1]; decide
    rw [if_neg g]
    by_cases c : t < z
    · rw [if_pos (nI_lt c (by omega)), zchk_n (show t < 60 by omega)]
      refine ⟨_, rfl, fun k u h17 hu => ?_⟩
      have := hit t (by omega)
      rw [show (30 + 0 : Nat) = 30 from rfl, show 60 * 0 + t = t by omega] at this
      rw [gi k u h17 hu, this, decide_eq_true c, decide_eq_false g0]; simp
    · rw [if_neg (nI_nlt (by omega) (by omega))]
      refine ⟨0, rfl, fun k u h17 hu => ?_⟩
      rw [gi k u h17 hu, b_0, decide_eq_false c]; simp
theorem keepC_of {M0 M : zM} (f : ∀ v, ¬ v = 22 → M.1 v = M0.1 v) : zKeepC M0 M := fun v hv => f v (fun e => by subst e; revert hv; decide)
theorem c_work1 {Mc Mr M0 : zM} {n N I S T V : Nat} {sn : Nat → Nat} (hn : 100 ≤ n) (hok : zOk Mr N I S T V sn) (ht0 : zTie Mr M0 N S sn) (x3 : Int32) {t : Nat} (ht : t < 17) {w : Int32} (hw : ∀ k u, Mr.1 17 k = nI u → u < 24 → bt w u = gI Mr t k)
    (h0 : ∀ j, j < 32 → bt (M0.1 22 t) j = decide (j < N ∧ Mr.1 10 j = 5 ∧ ps Mr t j = true)) :
    ∃ r : Int32 × zM, zwl (fun q => B_X3_work_31 n x3 (nI t) w q.1 q.2) n ((0 : Int32), M0) = some r ∧ ((∀ v, ¬ v = 22 → r.2.1 v = M0.1 v) ∧ r.2.2 = M0.2 ∧ (∀ q, ¬ q = t → r.2.1 22 q = M0.1 22 q) ∧ ∀ k, k < N → bt (r.2.1 22 t) k = pl Mr t k) := by
  obtain ⟨⟨⟨b1, b2, b3, b4, b5, b6⟩, q0, q1, q2, q3, q4⟩, hnd, hbits, hst, hsh⟩ := id hok
  refine zwl_for (fun i s => s.1 = nI i ∧ (∀ v, ¬ v = 22 → s.2.1 v = M0.1 v) ∧ s.2.2 = M0.2 ∧ (∀ q, ¬ q = t → s.2.1 22 q = M0.1 22 q) ∧ ∀ j, j < 32 → bt (s.2.1 22 t) j = decide (j < N ∧ (Mr.1 10 j = 5 ∨ j < i) ∧ pl Mr t j = true)) _ N n _ (by omega) ⟨rfl, fun _ _ => rfl, rfl, fun _ _ => rfl, fun j hj => ?_⟩ ?_ ?_
  · show bt (M0.1 22 t) j = _
    rw [h0 j hj]
    refine decide_eq_decide.mpr ⟨fun ⟨a, b, c⟩ => ⟨a, Or.inl b, by rw [pl_st b]; exact c⟩, fun ⟨a, b, c⟩ => ?_⟩
    rcases b with b | b
    · rw [pl_st b] at c; exact ⟨a, b, c⟩
    · omega
  · rintro i ⟨x, M⟩ hiN ⟨e1, f1, f0, f2, f3⟩
    dsimp only at e1 f1 f0 f2 f3
    subst e1
    obtain ⟨d2, d4, m10, m11, m12, m13, m15, m16, m17, m18, m00⟩ := ht0.keep (keepC_of f1)
    have k1 : ∀ (α : Type) (q : Option α), zchk (nI i) 24 q = q := fun α q => zchk_n (by omega)
    have k3 : (nI i).toNatClampNeg = i := cl_n
    have k4 : ∀ (α : Type) (q : Option α), zchk (nI t) 17 q = q := fun α q => zchk_n ht
    have k5 : (nI t).toNatClampNeg = t := cl_n
    have ge : ¬ nI N ≤ nI i := nI_ge hiN (by omega)
    have rd : ∀ k, k < i → bt (M.1 22 t) k = pl Mr t k := fun k hk => by
      rw [f3 k (by omega)]
      cases h : pl Mr t k with
      | true => exact decide_eq_true ⟨by omega, Or.inr hk, rfl⟩
      | false => exact decide_eq_false (fun q => by have := q.2.2; cases this)
    have fin : ∀ b : Bool, b = pl Mr t i → ¬ Mr.1 10 i = 5 → (nI i + 1 = nI (i + 1) ∧ (∀ v, ¬ v = 22 → (zsI M 22 t (M.1 22 t ||| (zb b <<< (nI i &&& 31)))).1 v = M0.1 v) ∧ (zsI M 22 t (M.1 22 t ||| (zb b <<< (nI i &&& 31)))).2 = M0.2 ∧ (∀ q, ¬ q = t → (zsI M 22 t (M.1 22 t ||| (zb b <<< (nI i &&& 31)))).1 22 q = M0.1 22 q) ∧ ∀ j, j < 32 → bt ((zsI M 22 t (M.1 22 t ||| (zb b <<< (nI i &&& 31)))).1 22 t) j = decide (j < N ∧ (Mr.1 10 j = 5 ∨ j < i + 1) ∧ pl Mr t j = true)) := fun b hb n5 => by
      have e22 : ∀ q, (zsI M 22 t (M.1 22 t ||| (zb b <<< (nI i &&& 31)))).1 22 q = if q = t then M.1 22 t ||| (zb b <<< (nI i &&& 31)) else M.1 22 q := fun q => upd_ap _ _ _ _
      refine ⟨nI_1 i, fun v hv => ?_, f0, fun q hq => ?_, fun j hj => ?_⟩
      · rw [zsI_1, if_neg hv]; exact f1 v hv
      · rw [e22, if_neg hq]; exact f2 q hq
      · rw [e22, if_pos rfl, b_or, b_zbshl b (show i < 32 by omega) hj, f3 j hj, ← Bool.decide_eq_true (b := b), ← Bool.decide_and, ← Bool.decide_or]
        refine decide_eq_decide.mpr ⟨fun h => ?_, fun h => ?_⟩
        · rcases h with ⟨a, c, d⟩ | ⟨a, c⟩
          · exact ⟨a, c.imp id (fun h => by omega), d⟩
          · subst a; exact ⟨hiN, Or.inr (by omega), by rw [← hb]; exact c⟩
        · obtain ⟨a, c, d⟩ := h
          by_cases e : j = i
          · subst e; exact Or.inr ⟨rfl, by rw [hb]; exact d⟩
          · exact Or.inl ⟨a, c.imp id (fun h => by omega), d⟩
    by_cases c0 : Mr.1 10 i = 0
    · obtain ⟨u, hu, h17⟩ := (hnd i hiN).inp (by omega) c0
      refine ⟨_, by simp only [B_X3_work_31, K_X3_work_111, d2, if_neg ge, k1, k3, m10, if_pos c0, k4, k5, m13, h17, b_bitz u (show u < 32 by omega), zst_e, zlt_e]; rfl, ?_⟩
      refine fin (bt w u) ?_ (by rw [c0]; decide)
      rw [hw i u h17 hu, pl_in c0]
    by_cases c5 : Mr.1 10 i = 5
    · refine ⟨_, by simp only [B_X3_work_31, K_X3_work_111, d2, if_neg ge, k1, k3, m10, if_neg c0, if_pos c5, zlt_e]; rfl, nI_1 i, f1, f0, f2, fun j hj => ?_⟩
      show bt (M.1 22 t) j = _
      rw [f3 j hj]
      refine decide_eq_decide.mpr ⟨fun ⟨a, b, c⟩ => ⟨a, b.imp id (fun h => by omega), c⟩, fun ⟨a, b, c⟩ => ⟨a, ?_, c⟩⟩
      by_cases e : j = i
      · subst e; exact Or.inl c5
      · exact b.imp id (fun h => by omega)
    obtain ⟨ha, h11, hb⟩ := (hnd i hiN).gate b1 hiN c0 c5
    have ra := c_bit (M := M) (k := ga Mr i) (t := t) (by omega) ht
    rw [rd _ ha] at ra
    have g1 : pX3_gateBit (nI i) (nI t) M = some (zb (pl Mr t i)) := by
      rcases hb with ⟨h1, h12⟩ | ⟨h1, h12, hb, h12'⟩
      · unfold pX3_gateBit
        rw [k1, k3, m11, h11, ra, zbind_some, zlt_e, k1, m12, if_pos h12, c_gateK0 (by omega), m10, pl_g c0 c5 ha (Or.inl h12), if_pos h12]
      · have rb := c_bit (M := M) (k := gb Mr i) (t := t) (by omega) ht
        rw [rd _ hb] at rb
        unfold pX3_gateBit
        rw [k1, k3, m11, h11, ra, zbind_some, zlt_e, k1, m12, if_neg h12, k1, h12', rb, zbind_some, c_gateK (by omega), m10, pl_g c0 c5 ha (Or.inr hb), if_neg h12]
    refine ⟨_, by simp only [B_X3_work_31, K_X3_work_111, d2, if_neg ge, k1, k3, m10, if_neg c0, if_neg c5, k4, k5, g1, zbind_some, zst_e, zlt_e]; rfl, ?_⟩
    exact fin _ rfl c5
  · rintro ⟨x, M⟩ ⟨e1, f1, f0, f2, f3⟩
    dsimp only at e1 f1 f0 f2 f3
    subst e1
    have d2 : M.1 2 0 = nI N := by rw [f1 2 (by decide)]; exact ht0.1
    refine ⟨_, by simp only [B_X3_work_31, d2, if_pos (nI_le (Nat.le_refl N) (show N < 2147483648 by omega))]; rfl, f1, f0, f2, fun k hk => ?_⟩
    show bt (M.1 22 t) k = _
    rw [f3 k (by omega)]
    cases h : pl Mr t k with
    | true => exact decide_eq_true ⟨hk, Or.inr hk, rfl⟩
    | false => exact decide_eq_false (fun q => by have := q.2.2; cases this)
