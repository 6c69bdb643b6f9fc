theorem zint {Mc Mr : zM} {T : Nat} (hT : T ≤ 16) (d0 : Mc.1 0 0 = nI T) (q3 : Mr.1 3 0 = nI T) (x : Int32) :
    (pX5_isRunTick x Mc = some 0 ∧ pX6_in x 0 (Mr.1 3 0 - 1) Mr = some 0) ∨ ∃ t, t < T ∧ x = nI t ∧ pX5_isRunTick x Mc = some 1 ∧ pX6_in x 0 (Mr.1 3 0 - 1) Mr = some 1 := by
  unfold pX5_isRunTick K_X5_isRunTick_16
  rw [d0, q3]
  rcases zix x (N := T) (by omega) with c | ⟨t, ht, rfl⟩
  · rw [pR_in_n (c.imp id (nI_lt_m1 (by omega)).mpr)]
    refine Or.inl ⟨?_, rfl⟩
    by_cases c1 : x < 0
    · rw [if_pos c1]
    · rw [if_neg c1, if_pos (c.resolve_left c1)]
  · rw [pR_in_y (nI_pos (by omega)) (fun q => nI_ge ht (by omega) ((nI_lt_m1 (by omega)).mp q)), if_neg (nI_pos (by omega)), if_neg (nI_ge ht (by omega))]
    exact Or.inr ⟨t, ht, rfl, rfl, rfl⟩
/-- a flip, on both sides, or none -/
theorem zflip {Mc Mr : zM} {N T : Nat} (hN : N ≤ 24) (hT : T ≤ 16) (d0 : Mc.1 0 0 = nI T) (q3 : Mr.1 3 0 = nI T) (d2 : Mc.1 2 0 = nI N) (q0 : Mr.1 0 0 = nI N) (m16 : Mc.1 16 = Mr.1 14) (x1 x2 x3 : Int32) :
    (pX5_isFlip x1 x2 x3 Mc = some 0 ∧ (pX6_in x1 0 (Mr.1 3 0 - 1) Mr = some 0 ∨ (pX6_in x1 0 (Mr.1 3 0 - 1) Mr = some 1 ∧ pX6_isCopy x2 x3 Mr = some 0))) ∨ ∃ t k c, t < T ∧ k < N ∧ c < cp Mr k ∧ x1 = nI t ∧ x2 = nI k ∧ x3 = nI c ∧ pX5_isFlip x1 x2 x3 Mc = some 1 ∧ pX6_in x1 0 (Mr.1 3 0 - 1) Mr = some 1 ∧ pX6_isCopy x2 x3 Mr = some 1 := by
  unfold pX5_isFlip K_X5_isFlip_24
  rcases zint hT d0 q3 x1 with ⟨e1, e2⟩ | ⟨t, ht, rfl, e1, e2⟩
  · rw [e1, zbind_some, if00]
    exact Or.inl ⟨rfl, Or.inl e2⟩
  rw [e1, zbind_some, if10]
  rcases zcopy (Mr' := Mr) hN d2 q0 m16 rfl x2 x3 with ⟨e3, e4⟩ | ⟨k, c, hk, hc, rfl, rfl, e3, e4⟩
  · rw [e3, zbind_some, if00]
    exact Or.inl ⟨rfl, Or.inr ⟨e2, e4⟩⟩
  · rw [e3, zbind_some, if10]
    exact Or.inr ⟨t, k, c, ht, hk, hc, rfl, rfl, rfl, rfl, e2, e4⟩
theorem keepR_4 {Mr M0 M : zM} (kr : zKeepR Mr M0) (f : ∀ v, ¬ v = 19 → ¬ v = 20 → ¬ v = 21 → M.1 v = M0.1 v) : zKeepR Mr M := fun v hv => (f v (fun e => by subst e; revert hv; decide) (fun e => by subst e; revert hv; decide) (fun e => by subst e; revert hv; decide)).trans (kr v hv)
theorem keepR_18 {Mr M : zM} (f : ∀ v, ¬ v = 18 → M.1 v = Mr.1 v) : zKeepR Mr M := fun v hv => f v (fun e => by subst e; revert hv; decide)
theorem b_flip {Mc Mr : zM} {n : Nat} (hn : 5000 ≤ n) (h : zRel Mc Mr) (x1 x2 x3 : Int32) : zBoth (pX5_flip n x1 x2 x3 Mc) (pX6_flip n x1 x2 x3 Mr) := by
  obtain ⟨N, I, S, T, V, sn, hok, hi, hnn, hs, hsn⟩ := id h
  obtain ⟨⟨⟨b1, b2, b3, b4, b5, b6⟩, q0, q1, q2, q3, q4⟩, -⟩ := id hok
  have tie := zTie.of hok hi hnn hsn
  have d2 : Mc.1 2 0 = nI N := hi.1.trans q0
  have d0 : Mc.1 0 0 = nI T := hi.2.2.2.1.trans q3
  have m16 : Mc.1 16 = Mr.1 14 := hnn.2.2.2.2.2.2.1
  unfold pX5_flip pX6_flip K_X6_flip_23
  rcases zflip b1 b5 d0 q3 d2 q0 m16 x1 x2 x3 with ⟨e1, e2⟩ | ⟨t, k, c, ht, hk, hc, rfl, rfl, rfl, e1, e2, e3⟩
  · rw [e1, zbind_some, if00]
    rcases e2 with e2 | ⟨e2, e3⟩
    · rw [e2, zbind_some, if00]; exact ⟨_, _, _, rfl, rfl, h⟩
    · rw [e2, zbind_some, if10, e3, zbind_some, if00]; exact ⟨_, _, _, rfl, rfl, h⟩
  rw [e1, zbind_some, if10, e2, zbind_some, if10, e3, zbind_some, if10]
  obtain ⟨M1, a1, a2⟩ := c_start hn hok hi hnn hs hsn
  obtain ⟨M2, c1, c2, -⟩ := c_mark (t0 := t) (k0 := k) (c0 := c) (show 100 ≤ n by omega) m16 a2 (by omega) (by omega) hc
  rw [show (fun t' k' c' => z0f t' k' c' ^^ fO t k c t' k' c') = fO t k c from funext fun _ => funext fun _ => funext fun _ => Bool.false_xor _] at c2
  obtain ⟨M3, g1, g2⟩ := c_runOne hn hok tie c2
  obtain ⟨R1, p1, p2, p3⟩ := r_bare (show 100 ≤ n by omega) hok (zKeepR.rf Mr) b5
  obtain ⟨R2, o1, o2⟩ := r_one (t0 := t) (k0 := k) (c0 := c) (show 100 ≤ n by omega) hok (keepR_18 p2) p3 ht
  rw [a1, zbind_some, c1, zbind_some, g1, zb2_some, q3, p1, zbind_some, o1, zb2_some]
  exact ⟨_, _, _, rfl, rfl, h.keep g2 (keepR_4 (keepR_18 p2) o2)⟩
theorem b_flips {Mc Mr : zM} {n : Nat} (hn : 5000 ≤ n) (h : zRel Mc Mr) (x1 x2 x3 x4 x5 x6 : Int32) : zBoth (pX5_flips n x1 x2 x3 x4 x5 x6 Mc) (pX6_flips n x1 x2 x3 x4 x5 x6 Mr) := by
  obtain ⟨N, I, S, T, V, sn, hok, hi, hnn, hs, hsn⟩ := id h
  obtain ⟨⟨⟨b1, b2, b3, b4, b5, b6⟩, q0, q1, q2, q3, q4⟩, -⟩ := id hok
  have tie := zTie.of hok hi hnn hsn
  have d2 : Mc.1 2 0 = nI N := hi.1.trans q0
  have d0 : Mc.1 0 0 = nI T := hi.2.2.2.1.trans q3
  have m16 : Mc.1 16 = Mr.1 14 := hnn.2.2.2.2.2.2.1
  unfold pX5_flips pX6_flips K_X6_flips_67 K_X5_flips_23
  rcases zflip b1 b5 d0 q3 d2 q0 m16 x1 x2 x3 with ⟨e1, e2⟩ | ⟨t, k, c, ht, hk, hc, rfl, rfl, rfl, e1, e2, e3⟩
  · rw [e1, zbind_some, if00]
    rcases e2 with e2 | ⟨e2, e3⟩
    · rw [e2, zbind_some, if00]; exact ⟨_, _, _, rfl, rfl, h⟩
    · rw [e2, zbind_some, if10, e3, zbind_some, if00]; exact ⟨_, _, _, rfl, rfl, h⟩
  rw [e1, zbind_some, if10, e2, zbind_some, if10, e3, zbind_some, if10]
  rcases zflip b1 b5 d0 q3 d2 q0 m16 x4 x5 x6 with ⟨f1, f2⟩ | ⟨t', k', c', ht', hk', hc', rfl, rfl, rfl, f1, f2, f3⟩
  · rw [f1, zbind_some, if00]
    rcases f2 with f2 | ⟨f2, f3⟩
    · rw [f2, zbind_some, if00]; exact ⟨_, _, _, rfl, rfl, h⟩
    · rw [f2, zbind_some, if10, f3, zbind_some, if00]; exact ⟨_, _, _, rfl, rfl, h⟩
  rw [f1, zbind_some, if10, f2, zbind_some, if10, f3, zbind_some, if10]
  have go : ¬ (nI t = nI t' ∧ nI k = nI k' ∧ nI c = nI c') → zBoth (K_X5_flips_47 n (nI t) (nI k) (nI c) (nI t') (nI k') (nI c') Mc) (K_X6_flips_70 n (nI t) (nI k) (nI c) (nI t') (nI k') (nI c') Mr) := fun ne => by
    unfold K_X5_flips_47 K_X6_flips_70
    obtain ⟨M1, a1, a2⟩ := c_start hn hok hi hnn hs hsn
    obtain ⟨M2, c1, c2, -⟩ := c_mark (t0 := t) (k0 := k) (c0 := c) (show 100 ≤ n by omega) m16 a2 (by omega) (by omega) hc
    obtain ⟨M2', c1', c2', -⟩ := c_mark (t0 := t') (k0 := k') (c0 := c') (show 100 ≤ n by omega) m16 c2 (by omega) (by omega) hc'
    rw [show (fun a b d => (z0f a b d ^^ fO t k c a b d) ^^ fO t' k' c' a b d) = fW t k c t' k' c' from funext fun a => funext fun b => funext fun d => by
      unfold fW
      rw [show z0f a b d = false from rfl, Bool.false_xor]
      cases x : fO t k c a b d with
      | false => rw [Bool.false_xor, Bool.false_or]
      | true =>
        cases y : fO t' k' c' a b d with
        | false => rfl
        | true =>
          exfalso
          unfold fO at x y
          rw [Bool.and_eq_true, Bool.and_eq_true, decide_eq_true_iff, decide_eq_true_iff, decide_eq_true_iff] at x y
          exact ne ⟨by rw [← x.1.1, y.1.1], x.1.2.trans y.1.2.symm, x.2.trans y.2.symm⟩] at c2'
    obtain ⟨M3, g1, g2⟩ := c_runOne hn hok tie c2'
    obtain ⟨R1, p1, p2, p3⟩ := r_bare (show 100 ≤ n by omega) hok (zKeepR.rf Mr) b5
    obtain ⟨R2, o1, o2⟩ := r_two (t0 := t) (k0 := k) (c0 := c) (t1 := t') (k1 := k') (c1 := c') (show 100 ≤ n by omega) hok (keepR_18 p2) p3 ht ht'
    rw [a1, zbind_some, c1, zbind_some, c1', zbind_some, g1, zb2_some, q3, p1, zbind_some, o1, zb2_some]
    exact ⟨_, _, _, rfl, rfl, h.keep g2 (keepR_4 (keepR_18 p2) o2)⟩
  by_cases z1 : nI t = nI t'
  · rw [if_pos z1, if_pos z1]
    by_cases z2 : nI k = nI k'
    · rw [if_pos z2, if_pos z2]
      by_cases z3 : nI c = nI c'
      · rw [if_pos z3, if_pos z3]; exact ⟨_, _, _, rfl, rfl, h⟩
      · rw [if_neg z3, if_neg z3]; exact go (fun q => z3 q.2.2)
    · rw [if_neg z2, if_neg z2]; exact go (fun q => z2 q.2.1)
  · rw [if_neg z1, if_neg z1]; exact go (fun q => z1 q.1)
