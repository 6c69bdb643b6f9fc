theorem b_fact {Mc Mr : zM} (h : zRel Mc Mr) {N k : Nat} (hN : N ≤ 24) (d2 : Mc.1 2 0 = nI N) (hk : k < N) (x : Int32) : ∃ r, pX2_fact (nI k) x Mc = some r ∧ pX6_about (nI k) x Mr = some r := by
  obtain ⟨r, h1, h2⟩ := b_about h (nI k) x
  refine ⟨r, ?_, h2⟩
  unfold pX5_about at h1
  rw [pC_isNode_y d2 hN hk, zbind_some, if10] at h1
  cases e : pX2_fact (nI k) x Mc with
  | none => rw [e] at h1; cases h1
  | some v => rw [e] at h1; exact h1
theorem b_digest {Mc Mr : zM} {n : Nat} (hn : 100 ≤ n) (h : zRel Mc Mr) : zBoth (pX5_digest n Mc) (pX6_digest n Mr) := by
  obtain ⟨N, I, S, T, V, sn, hok, hi, hnn, hs, hsn⟩ := id h
  obtain ⟨⟨⟨b1, b2, b3, b4, b5, b6⟩, q0, q1, q2, q3, q4⟩, hnd, hbits, -⟩ := id hok
  have d2 : Mc.1 2 0 = nI N := hi.1.trans q0
  have d0 : Mc.1 0 0 = nI T := hi.2.2.2.1.trans q3
  -- the counts
  obtain ⟨⟨a1, a2⟩, ⟨a3, a4⟩, l1, l2, l3⟩ := zwl_two (b1 := fun q => B_X5_digest_6 n q.1 q.2 Mc) (b2 := fun q => B_X6_digest_6 n q.1 q.2 Mr) (fun i s1 s2 => s1 = s2 ∧ s1.2 = nI i) (fun r1 r2 => r1.1 = r2.1) 9
    (fun i s1 s2 hi' hI => by
      obtain ⟨rfl, e⟩ := hI
      obtain ⟨x, y⟩ := s1
      dsimp only at e
      subst e
      have g1 : ¬ (8 : Int32) < nI i := nI_nlt (a := 8) (b := i) (by omega) (by decide)
      have g2 : ¬ (9 : Int32) ≤ nI i := nI_ge (a := i) (b := 9) hi' (by decide)
      by_cases c : nI i = (6 : Int32)
      · exact ⟨_, _, by simp only [B_X5_digest_6, K_X5_digest_31, if_neg g1, if_pos c, zlt_e] <;> rfl, by simp only [B_X6_digest_6, K_X6_digest_34, if_neg g2, if_pos c, zlt_e] <;> rfl, rfl, nI_1 i⟩
      · obtain ⟨r, w1, w2⟩ := b_count hn h (nI i)
        exact ⟨_, _, by simp only [B_X5_digest_6, K_X5_digest_31, if_neg g1, if_neg c, w1, zbind_some, zlt_e] <;> rfl, by simp only [B_X6_digest_6, K_X6_digest_34, if_neg g2, if_neg c, w2, zbind_some, zlt_e] <;> rfl, rfl, nI_1 i⟩)
    (fun s1 s2 hI => by
      obtain ⟨rfl, e⟩ := hI
      obtain ⟨x, y⟩ := s1
      dsimp only at e
      subst e
      have g1 : (8 : Int32) < nI 9 := by decide
      have g2 : (9 : Int32) ≤ nI 9 := by decide
      exact ⟨_, _, by simp only [B_X5_digest_6, if_pos g1] <;> rfl, by simp only [B_X6_digest_6, if_pos g2] <;> rfl, rfl⟩) 9 0 n ((17 : Int64), (0 : Int32)) ((17 : Int64), (0 : Int32)) (by omega) (by omega) ⟨rfl, rfl⟩
  dsimp only at l3
  subst l3
  -- the facts
  obtain ⟨⟨c1, c2⟩, ⟨c3, c4⟩, m1, m2, m3⟩ := zwl_two (b1 := fun q => B_X5_digest_39 n q.1 q.2 Mc) (b2 := fun q => B_X6_digest_43 n q.1 q.2 Mr) (fun i s1 s2 => s1 = s2 ∧ s1.2 = nI i) (fun r1 r2 => r1.1 = r2.1) N
    (fun i s1 s2 hi' hI => by
      obtain ⟨rfl, e⟩ := hI
      obtain ⟨x, y⟩ := s1
      dsimp only at e
      subst e
      have ge : ¬ nI N ≤ nI i := nI_ge hi' (by omega)
      obtain ⟨⟨u1, u2⟩, ⟨u3, u4⟩, w1, w2, w3⟩ := zwl_two (b1 := fun q => B_X5_digest_53 n q.1 (nI i) q.2 Mc) (b2 := fun q => B_X6_digest_54 n q.1 (nI i) q.2 Mr) (fun j s1 s2 => s1 = s2 ∧ s1.2 = nI j) (fun r1 r2 => r1.1 = r2.1) 7
        (fun j s1 s2 hj hI => by
          obtain ⟨rfl, e⟩ := hI
          obtain ⟨x, y⟩ := s1
          dsimp only at e
          subst e
          have g1 : ¬ (6 : Int32) < nI j := nI_nlt (a := 6) (b := j) (by omega) (by decide)
          have g2 : ¬ (7 : Int32) ≤ nI j := nI_ge (a := j) (b := 7) hj (by decide)
          obtain ⟨r, w1, w2⟩ := b_fact h b1 d2 hi' (nI j)
          exact ⟨_, _, by simp only [B_X5_digest_53, if_neg g1, w1, zbind_some, zlt_e] <;> rfl, by simp only [B_X6_digest_54, if_neg g2, w2, zbind_some, zlt_e] <;> rfl, rfl, nI_1 j⟩)
        (fun s1 s2 hI => by
          obtain ⟨rfl, e⟩ := hI
          obtain ⟨x, y⟩ := s1
          dsimp only at e
          subst e
          have g1 : (6 : Int32) < nI 7 := by decide
          have g2 : (7 : Int32) ≤ nI 7 := by decide
          exact ⟨_, _, by simp only [B_X5_digest_53, if_pos g1] <;> rfl, by simp only [B_X6_digest_54, if_pos g2] <;> rfl, rfl⟩) 6 1 n (x, (1 : Int32)) (x, (1 : Int32)) (by omega) (by omega) ⟨rfl, rfl⟩
      dsimp only at w3
      subst w3
      exact ⟨_, _, by simp only [B_X5_digest_39, d2, if_neg ge, zlt_e, w1, zb2_some] <;> rfl, by simp only [B_X6_digest_43, q0, if_neg ge, zlt_e, w2, zb2_some] <;> rfl, rfl, nI_1 i⟩)
    (fun s1 s2 hI => by
      obtain ⟨rfl, e⟩ := hI
      obtain ⟨x, y⟩ := s1
      dsimp only at e
      subst e
      have le : nI N ≤ nI N := nI_le (Nat.le_refl _) (by omega)
      exact ⟨_, _, by simp only [B_X5_digest_39, d2, if_pos le] <;> rfl, by simp only [B_X6_digest_43, q0, if_pos le] <;> rfl, rfl⟩) N 0 n (a1, (0 : Int32)) (a1, (0 : Int32)) (by omega) (by omega) ⟨rfl, rfl⟩
  dsimp only at m3
  subst m3
  -- the plain run
  obtain ⟨M1, p1, p2, p3, p4⟩ := c_work hn hok hi hnn hs hsn
  obtain ⟨M2, o1, o2, o3, o4⟩ := r_bare hn hok (zKeepR.rf Mr) b5
  have f2 : M1.1 2 0 = nI N := by rw [p2 2 (by decide)]; exact d2
  have f0 : M1.1 0 0 = nI T := by rw [p2 0 (by decide)]; exact d0
  have f15 : M1.1 15 = Mr.1 13 := (p2 15 (by decide)).trans hnn.2.2.2.2.2.1
  have e0 : M2.1 0 0 = nI N := by rw [o2 0 (by decide)]; exact q0
  have e3 : M2.1 3 0 = nI T := by rw [o2 3 (by decide)]; exact q3
  have e13 : M2.1 13 = Mr.1 13 := o2 13 (by decide)
  obtain ⟨⟨k1, k2⟩, ⟨k3, k4⟩, n1, n2, n3⟩ := zwl_two (b1 := fun q => B_X5_digest_107 n q.1 q.2 M1) (b2 := fun q => B_X6_digest_98 n q.1 q.2 M2) (fun i s1 s2 => s1 = s2 ∧ s1.2 = nI i) (fun r1 r2 => r1.1 = r2.1) N
    (fun i s1 s2 hi' hI => by
      obtain ⟨rfl, e⟩ := hI
      obtain ⟨x, y⟩ := s1
      dsimp only at e
      subst e
      have ge : ¬ nI N ≤ nI i := nI_ge hi' (by omega)
      have k1 : ∀ (α : Type) (q : Option α), zchk (nI i) 24 q = q := fun α q => zchk_n (by omega)
      have k3 : (nI i).toNatClampNeg = i := cl_n
      by_cases c : Mr.1 13 i = 0
      · have w : zwl (fun q => B_X6_digest_109 n q.1 (nI i) q.2 M2) n (x, (0 : Int32)) = some (x, 0) := by
          cases n with
          | zero => omega
          | succ m =>
            unfold zwl
            simp only [B_X6_digest_109, e3, k1, k3, e13, if_pos c]
            rw [ite_self]
        exact ⟨_, _, by simp only [B_X5_digest_107, K_X5_digest_166, f2, if_neg ge, k1, k3, f15, if_pos c, zlt_e] <;> rfl, by simp only [B_X6_digest_98, e0, if_neg ge, zlt_e, w, zb2_some] <;> rfl, rfl, nI_1 i⟩
      · obtain ⟨⟨u1, u2⟩, ⟨u3, u4⟩, w1, w2, w3⟩ := zwl_two (b1 := fun q => B_X5_digest_133 n q.1 (nI i) q.2 M1) (b2 := fun q => B_X6_digest_109 n q.1 (nI i) q.2 M2) (fun j s1 s2 => s1 = s2 ∧ s1.2 = nI j) (fun r1 r2 => r1.1 = r2.1) T
          (fun j s1 s2 hj hI => by
            obtain ⟨rfl, e⟩ := hI
            obtain ⟨x, y⟩ := s1
            dsimp only at e
            subst e
            have g1 : ¬ nI T ≤ nI j := nI_ge hj (by omega)
            have e24 : (24 : Int32) * nI j = nI (24 * j) := by rw [show (24 : Int32) = nI 24 from rfl, pk_mul]
            have k4 : ∀ (α : Type) (q : Option α), zchk (nI (24 * j + i)) 408 q = q := fun α q => zchk_n (by omega)
            have k5 : (nI (24 * j + i)).toNatClampNeg = 24 * j + i := cl_n (by omega)
            have rb := c_bit (M := M1) (k := i) (t := j) (by omega) (by omega)
            rw [p4 j (by omega) i hi'] at rb
            exact ⟨_, _, by simp only [B_X5_digest_133, f0, if_neg g1, rb, zbind_some, zlt_e] <;> rfl, by simp only [B_X6_digest_109, e3, if_neg g1, k1, k3, e13, if_neg c, e24, nI24, k4, k5, o3 j hj i hi', zlt_e] <;> rfl, rfl, nI_1 j⟩)
          (fun s1 s2 hI => by
            obtain ⟨rfl, e⟩ := hI
            obtain ⟨x, y⟩ := s1
            dsimp only at e
            subst e
            have le : nI T ≤ nI T := nI_le (Nat.le_refl _) (by omega)
            exact ⟨_, _, by simp only [B_X5_digest_133, f0, if_pos le] <;> rfl, by simp only [B_X6_digest_109, e3, if_pos le] <;> rfl, rfl⟩) T 0 n (x, (0 : Int32)) (x, (0 : Int32)) (by omega) (by omega) ⟨rfl, rfl⟩
        dsimp only at w3
        subst w3
        exact ⟨_, _, by simp only [B_X5_digest_107, K_X5_digest_166, f2, if_neg ge, k1, k3, f15, if_neg c, zlt_e, w1, zb2_some] <;> rfl, by simp only [B_X6_digest_98, e0, if_neg ge, zlt_e, w2, zb2_some] <;> rfl, rfl, nI_1 i⟩)
    (fun s1 s2 hI => by
      obtain ⟨rfl, e⟩ := hI
      obtain ⟨x, y⟩ := s1
      dsimp only at e
      subst e
      have le : nI N ≤ nI N := nI_le (Nat.le_refl _) (by omega)
      exact ⟨_, _, by simp only [B_X5_digest_107, f2, if_pos le] <;> rfl, by simp only [B_X6_digest_98, e0, if_pos le] <;> rfl, rfl⟩) N 0 n (c1, (0 : Int32)) (c1, (0 : Int32)) (by omega) (by omega) ⟨rfl, rfl⟩
  dsimp only at n3
  subst n3
  have hk := h.keep (keepC_of p2) (show zKeepR Mr M2 from fun v hv => o2 v (fun e => by subst e; revert hv; decide))
  obtain ⟨r, r1, r2⟩ := b_cost hn hk
  refine ⟨_, M1, M2, by simp only [pX5_digest, zlt_e, l1, zb2_some, m1, p1, zbind_some, n1, r1] <;> rfl, by simp only [pX6_digest, zlt_e, l2, zb2_some, m2, q3, o1, zbind_some, n2, r2], hk⟩
