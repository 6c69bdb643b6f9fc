theorem if00 {α : Type} (a b : α) : (if (0 : Int32) = 0 then a else b) = a := if_pos rfl
theorem if10 {α : Type} (a b : α) : (if (1 : Int32) = 0 then a else b) = b := if_neg (by decide)
theorem c_work2 {Mr M : zM} {n N I S T V : Nat} {sn : Nat → Nat} (hn : 100 ≤ n) (hok : zOk Mr N I S T V sn) (ht0 : zTie Mr M N S sn) (v8 : Int32) {t : Nat} (ht : t < 17) (hp : ∀ k, k < N → bt (M.1 22 t) k = pl Mr t k) :
    ∃ r : Int32 × Int32, zwl (fun q => B_X3_work_122 n q.1 (nI t) v8 q.2 M) n ((0 : Int32), (0 : Int32)) = some r ∧ ∀ j, j < 32 → bt r.1 j = decide (j < N ∧ Mr.1 10 j = 5 ∧ ps Mr (t + 1) j = true) := by
  obtain ⟨⟨⟨b1, b2, b3, b4, b5, b6⟩, q0, q1, q2, q3, q4⟩, hnd, hbits, hst, hsh⟩ := id hok
  obtain ⟨d2, d4, m10, m11, m12, m13, m15, m16, m17, m18, m00⟩ := ht0
  refine zwl_for (fun i s => s.2 = nI i ∧ ∀ j, j < 32 → (bt s.1 j = true ↔ ∃ s, s < i ∧ sn s = j ∧ pl Mr t (ga Mr j) = true)) _ S n _ (by omega) ⟨rfl, fun j hj => ?_⟩ ?_ ?_
  · show bt 0 j = true ↔ _
    rw [b_0]
    exact Iff.intro (fun h => absurd h (by decide)) (fun ⟨s, h, _⟩ => by omega)
  · rintro i ⟨x3, x6⟩ hi ⟨e1, f1⟩
    dsimp only at e1 f1
    subst e1
    obtain ⟨s1, s2, s3⟩ := hst.1 i hi
    obtain ⟨ha, h11⟩ := (hnd (sn i) s1).sto b1 s2
    have k1 : ∀ (α : Type) (q : Option α), zchk (nI i) 24 q = q := fun α q => zchk_n (by omega)
    have k2 : ∀ (α : Type) (q : Option α), zchk (nI (sn i)) 24 q = q := fun α q => zchk_n (by omega)
    have k3 : (nI i).toNatClampNeg = i := cl_n
    have k4 : (nI (sn i)).toNatClampNeg = sn i := cl_n
    have ge : ¬ nI S ≤ nI i := nI_ge hi (by omega)
    have rb := c_bit (M := M) (k := ga Mr (sn i)) (t := t) (by omega) ht
    rw [hp _ ha] at rb
    refine ⟨_, by simp only [B_X3_work_122, d4, if_neg ge, k1, k3, m18 i hi, zlt_e, k2, k4, m11, h11, rb, zbind_some]; rfl, nI_1 i, fun j hj => ?_⟩
    show bt (x3 ||| (zb (pl Mr t (ga Mr (sn i))) <<< (nI (sn i) &&& 31))) j = true ↔ _
    rw [b_or, b_zbshl _ (show sn i < 32 by omega) hj, Bool.or_eq_true, f1 j hj, Bool.and_eq_true, decide_eq_true_iff]
    constructor
    · rintro (⟨s, h1, h2, h3⟩ | ⟨h1, h2⟩)
      · exact ⟨s, by omega, h2, h3⟩
      · subst h1; exact ⟨i, by omega, rfl, h2⟩
    · rintro ⟨s, h1, h2, h3⟩
      by_cases e : s = i
      · subst e; exact Or.inr ⟨h2.symm, by rw [h2]; exact h3⟩
      · exact Or.inl ⟨s, by omega, h2, h3⟩
  · rintro ⟨x3, x6⟩ ⟨e1, f1⟩
    dsimp only at e1 f1
    subst e1
    refine ⟨_, by simp only [B_X3_work_122, d4, if_pos (nI_le (Nat.le_refl S) (show S < 2147483648 by omega))]; rfl, fun j hj => ?_⟩
    show bt x3 j = _
    rw [Bool.eq_iff_iff, f1 j hj, decide_eq_true_iff]
    constructor
    · rintro ⟨s, h1, h2, h3⟩
      obtain ⟨s1, s2, s3⟩ := hst.1 s h1
      rw [h2] at s1 s2
      exact ⟨s1, s2, h3⟩
    · rintro ⟨h1, h2, h3⟩
      obtain ⟨s, s1, s2, s3⟩ := hst.2 j h1 h2
      exact ⟨s, s1, s3, h3⟩
/-- the class's words are the plain net's bits -/
theorem c_work {Mc Mr : zM} {n N I S T V : Nat} {sn : Nat → Nat} (hn : 100 ≤ n) (hok : zOk Mr N I S T V sn) (hi : zEqI Mc Mr) (hnn : zEqN Mc Mr) (hs : zEqS Mc Mr) (hsn : zSn Mc S sn) : ∃ M, pX3_work n Mc = some M ∧ (∀ v, ¬ v = 22 → M.1 v = Mc.1 v) ∧ M.2 = Mc.2 ∧ ∀ t, t < 17 → ∀ k, k < N → bt (M.1 22 t) k = pl Mr t k := by
  have tie := zTie.of hok hi hnn hsn
  obtain ⟨⟨y1, y2, Ma⟩, p1, a1, a2, a3⟩ := zwl_for (b := fun q => B_X3_work_5 n q.1 q.2.1 q.2.2) (fun t s => s.2.1 = nI t ∧ (∀ v, ¬ v = 22 → s.2.2.1 v = Mc.1 v) ∧ s.2.2.2 = Mc.2 ∧ (∀ t', t' < t → ∀ k, k < N → bt (s.2.2.1 22 t') k = pl Mr t' k) ∧ ∀ j, j < 32 → bt s.1 j = decide (j < N ∧ Mr.1 10 j = 5 ∧ ps Mr t j = true)) (fun r => (∀ v, ¬ v = 22 → r.2.2.1 v = Mc.1 v) ∧ r.2.2.2 = Mc.2 ∧ (∀ t', t' < 17 → ∀ k, k < N → bt (r.2.2.1 22 t') k = pl Mr t' k)) 17 n ((0 : Int32), (0 : Int32), Mc) (by omega) ⟨rfl, fun _ _ => rfl, rfl, fun t' h => by omega, fun j hj => by rw [show bt ((0 : Int32), (0 : Int32), Mc).1 j = false from b_0 j]; exact (decide_eq_false (fun h => by have := h.2.2; cases this)).symm⟩
    (by
      rintro t ⟨x3, x4, M⟩ ht ⟨e1, f1, f0, f2, f3⟩
      dsimp only at e1 f1 f0 f2 f3
      subst e1
      have lt : ¬ (16 : Int32) < nI t := nI_nlt (a := 16) (b := t) (by omega) (by decide)
      have k4 : ∀ (α : Type) (q : Option α), zchk (nI t) 17 q = q := fun α q => zchk_n ht
      have k5 : (nI t).toNatClampNeg = t := cl_n
      have g1 : ∀ v, ¬ v = 22 → (zsI M 22 t x3).1 v = Mc.1 v := fun v hv => by rw [zsI_1, if_neg hv]; exact f1 v hv
      have g2 : (zsI M 22 t x3).2 = Mc.2 := f0
      have g3 : ∀ q, (zsI M 22 t x3).1 22 q = if q = t then x3 else M.1 22 q := fun q => upd_ap _ _ _ _
      generalize hMb : zsI M 22 t x3 = Mb at g1 g2 g3
      obtain ⟨w, w1, w2⟩ := c_inputsOf hok hs (keepC_of g1) (show t < 60 by omega)
      obtain ⟨⟨z1, M1⟩, u1, u2, u3, u4, u5⟩ := c_work1 (Mc := Mc) hn hok (tie.keep (keepC_of g1)) x3 ht w2 (fun j hj => by rw [g3, if_pos rfl]; exact f3 j hj)
      dsimp only at u2 u3 u4 u5
      have g4 : ∀ v, ¬ v = 22 → M1.1 v = Mc.1 v := fun v hv => (u2 v hv).trans (g1 v hv)
      obtain ⟨⟨z2, z3⟩, y1, y2⟩ := c_work2 hn hok (tie.keep (keepC_of g4)) w ht u5
      dsimp only at y2
      refine ⟨_, by simp only [B_X3_work_5, if_neg lt, k4, k5, zst_e, hMb, w1, zbind_some, zlt_e, u1, zb2_some, y1]; rfl, nI_1 t, g4, u3.trans g2, fun t' ht' k hk => ?_, y2⟩
      show bt (M1.1 22 t') k = _
      by_cases e : t' = t
      · subst e; exact u5 k hk
      · rw [u4 t' e, g3, if_neg e]; exact f2 t' (by omega) k hk)
    (by
      rintro ⟨x3, x4, M⟩ ⟨e1, f1, f0, f2, f3⟩
      dsimp only at e1 f1 f0 f2 f3
      subst e1
      have lt : (16 : Int32) < nI 17 := by decide
      exact ⟨_, by simp only [B_X3_work_5, if_pos lt]; rfl, f1, f0, f2⟩)
  refine ⟨Ma, ?_, a1, a2, a3⟩
  simp only [pX3_work, zlt_e, p1]; rfl
theorem b_plain {Mc Mr : zM} {n : Nat} (hn : 100 ≤ n) (h : zRel Mc Mr) (x1 x2 : Int32) : zBoth (pX5_plain n x1 x2 Mc) (pX6_plain n x1 x2 Mr) := by
  obtain ⟨N, I, S, T, V, sn, hok, hi, hnn, hs, hsn⟩ := id h
  obtain ⟨⟨⟨b1, b2, b3, b4, b5, b6⟩, q0, q1, q2, q3, q4⟩, -⟩ := id hok
  have d2 : Mc.1 2 0 = nI N := hi.1.trans q0
  unfold pX5_plain pX6_plain
  rcases zix x1 b1 with c | ⟨k, hk, rfl⟩
  · rw [pC_isNode_n d2 c, pR_isNode_n q0 b1 c, zbind_some, zbind_some, if00, if00]
    exact ⟨_, _, _, rfl, rfl, h⟩
  rw [pC_isNode_y d2 b1 hk, pR_isNode_y q0 b1 hk, zbind_some, zbind_some, if10, if10]
  rcases zix x2 (N := 16) (by omega) with c | ⟨t, ht, rfl⟩
  · have r : pX6_in x2 0 15 Mr = some 0 := pR_in_n (c.imp id (nI_lt_m1 (N := 16) (by omega)).mpr)
    rw [r, zbind_some, if00]
    by_cases c1 : x2 < 0
    · rw [if_pos c1]; exact ⟨_, _, _, rfl, rfl, h⟩
    · rw [if_neg c1, if_neg (show ¬ x2 < 16 from by have := c.resolve_left c1; rw [i_le] at this; rw [i_lt]; exact Int.not_lt.mpr this)]
      exact ⟨_, _, _, rfl, rfl, h⟩
  · have r : pX6_in (nI t) 0 15 Mr = some 1 := pR_in_y (nI_pos (by omega)) (nI_nlt (a := 15) (b := t) (by omega) (by decide))
    obtain ⟨M1, a1, a2, a3, a4⟩ := c_work hn hok hi hnn hs hsn
    obtain ⟨M2, c1, c2, c3, c4⟩ := r_bare hn hok (zKeepR.rf Mr) (show t + 1 ≤ 16 by omega)
    have e24 : (24 : Int32) * nI t = nI (24 * t) := by rw [show (24 : Int32) = nI 24 from rfl, pk_mul]
    have l16 : nI t < 16 := nI_lt (a := t) (b := 16) ht (by decide)
    rw [r, zbind_some, if10, if_neg (nI_pos (by omega)), if_pos l16, a1, zbind_some, c_bit (by omega) (by omega), zbind_some, nI_1, c1, zbind_some, e24, nI24, zchk_n (show 24 * t + k < 408 by omega), cl_n (show 24 * t + k < 2147483648 by omega), c3 t (by omega) k hk, a4 t (by omega) k hk]
    exact ⟨_, _, _, rfl, rfl, h.keep (keepC_of a2) (fun v hv => c2 v (fun e => by subst e; revert hv; decide))⟩
