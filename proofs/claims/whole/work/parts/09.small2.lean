theorem zEqS.set {Mc Mr : zM} {vc vr k k' : Nat} {x x' : Int32} (h : zEqS Mc Mr) (hc : vc < 20) (hr : vr < 25) : zEqS (zsI Mc vc k x) (zsI Mr vr k' x') := by
  intro s hs
  have e30 : (zsI Mc vc k x).1 (30 + s) = Mc.1 (30 + s) := if_neg (by omega)
  have e20 : (zsI Mc vc k x).1 20 = Mc.1 20 := if_neg (by omega)
  have e21 : (zsI Mc vc k x).1 21 = Mc.1 21 := if_neg (by omega)
  have r25 : (zsI Mr vr k' x').1 25 = Mr.1 25 := if_neg (by omega)
  have r26 : (zsI Mr vr k' x').1 26 = Mr.1 26 := if_neg (by omega)
  have r27 : (zsI Mr vr k' x').1 27 = Mr.1 27 := if_neg (by omega)
  have r28 : (zsI Mr vr k' x').1 28 = Mr.1 28 := if_neg (by omega)
  rw [e30, e20, e21, r25, r26, r27, r28]
  exact h s hs
theorem zNd.store {M : zM} {N I S k : Nat} (h : zNd M N I S k) (h5 : M.1 10 k = 5) : (∃ a, a < N ∧ M.1 11 k = nI a) ∧ M.1 12 k = -1 ∧ ∃ u, u < S ∧ M.1 17 k = nI u := by
  obtain ⟨-, h2⟩ := h
  rcases h2 with ⟨a, -⟩ | ⟨a, -⟩ | ⟨a, -⟩ | ⟨-, b⟩
  · rw [h5] at a; exact absurd a (by decide)
  · rw [h5] at a; exact absurd a (by decide)
  · rw [h5] at a; rcases a with a | a | a <;> exact absurd a (by decide)
  · exact b
theorem pC_isStore_y {M : zM} {N j : Nat} (h : M.1 2 0 = nI N) (hN : N ≤ 24) (hj : j < N) (h5 : M.1 10 j = 5) : pX2_isStore (nI j) M = some 1 := by
  unfold pX2_isStore
  rw [pC_isNode_y h hN hj, zbind_some, if_neg (by decide), zchk_n (by omega), cl_n, if_pos h5]
theorem pC_isStore_n {M : zM} {N j : Nat} (h : M.1 2 0 = nI N) (hN : N ≤ 24) (hj : j < N) (h5 : ¬ M.1 10 j = 5) : pX2_isStore (nI j) M = some 0 := by
  unfold pX2_isStore
  rw [pC_isNode_y h hN hj, zbind_some, if_neg (by decide), zchk_n (by omega), cl_n, if_neg h5]; rfl
theorem pC_isStore_0 {M : zM} {x : Int32} (h : pX2_isNode x M = some 0) : pX2_isStore x M = some 0 := by
  unfold pX2_isStore
  rw [h, zbind_some, if_pos rfl]; rfl
theorem pR_isStore_y {M : zM} {N j : Nat} (h : M.1 0 0 = nI N) (hN : N ≤ 24) (hj : j < N) (h5 : M.1 10 j = 5) : pX6_isStore (nI j) M = some 1 := by
  unfold pX6_isStore
  rw [pR_isNode_y h hN hj, zbind_some, if_neg (by decide), zchk_n (by omega), cl_n, if_pos h5]
theorem pR_isStore_n {M : zM} {N j : Nat} (h : M.1 0 0 = nI N) (hN : N ≤ 24) (hj : j < N) (h5 : ¬ M.1 10 j = 5) : pX6_isStore (nI j) M = some 0 := by
  unfold pX6_isStore
  rw [pR_isNode_y h hN hj, zbind_some, if_neg (by decide), zchk_n (by omega), cl_n, if_neg h5]; rfl
theorem pR_isStore_0 {M : zM} {x : Int32} (h : pX6_isNode x M = some 0) : pX6_isStore x M = some 0 := by
  unfold pX6_isStore
  rw [h, zbind_some, if_pos rfl]; rfl
/-- a node's number of both sides: none, a store, or another -/
theorem zix3 {Mc Mr : zM} {N : Nat} (h2 : Mc.1 2 0 = nI N) (h0 : Mr.1 0 0 = nI N) (h10 : Mc.1 10 = Mr.1 10) (hN : N ≤ 24) (x : Int32) : (pX2_isStore x Mc = some 0 ∧ pX6_isStore x Mr = some 0) ∨ ∃ j, j < N ∧ x = nI j ∧ Mr.1 10 j = 5 ∧ pX2_isStore x Mc = some 1 ∧ pX6_isStore x Mr = some 1 := by
  rcases zix2 h2 h0 hN x with ⟨a, b⟩ | ⟨j, hj, rfl, -, -⟩
  · exact Or.inl ⟨pC_isStore_0 a, pR_isStore_0 b⟩
  · by_cases h5 : Mr.1 10 j = 5
    · exact Or.inr ⟨j, hj, rfl, h5, pC_isStore_y h2 hN hj (by rw [h10]; exact h5), pR_isStore_y h0 hN hj h5⟩
    · exact Or.inl ⟨pC_isStore_n h2 hN hj (by rw [h10]; exact h5), pR_isStore_n h0 hN hj h5⟩
theorem rel_feed {Mc Mr : zM} {N I S T V : Nat} {sn : Nat → Nat} (hok : zOk Mr N I S T V sn) (hi : zEqI Mc Mr) (hn : zEqN Mc Mr) (hs : zEqS Mc Mr) (hsn : zSn Mc S sn) {k j : Nat} (hk : k < N) (h5 : Mr.1 10 k = 5) (hj : j < N) : zRel (zsI Mc 11 k (nI j)) (zsI Mr 11 k (nI j)) := by
  obtain ⟨hnum, hnd, hbits, hst, hsh⟩ := hok
  refine ⟨N, I, S, T, V, sn, ⟨hnum, fun k' hk' => ?_, hbits, hst, hsh⟩, hi, ?_, hs.set (by decide) (by decide), hsn⟩
  · have q := hnd k' hk'
    have e11 : (zsI Mr 11 k (nI j)).1 11 k' = if k' = k then nI j else Mr.1 11 k' := upd_ap _ _ _ _
    by_cases e : k' = k
    · subst e
      obtain ⟨-, s2, s3⟩ := q.store h5
      rw [if_pos rfl] at e11
      exact ⟨q.1, Or.inr (Or.inr (Or.inr ⟨h5, ⟨j, hj, e11⟩, s2, s3⟩))⟩
    · rw [if_neg e] at e11
      unfold zNd
      rw [e11]
      exact q
  · obtain ⟨g1, g2, g⟩ := hn
    refine ⟨g1, ?_, g⟩
    show upd (Mc.1 11) k (nI j) = upd (Mr.1 11) k (nI j)
    rw [g2]
theorem b_feed {Mc Mr : zM} (h : zRel Mc Mr) (x1 x2 : Int32) : zBoth (pX5_feed x1 x2 Mc) (pX6_feed x1 x2 Mr) := by
  obtain ⟨N, I, S, T, V, sn, hok, hi, hn, hs, hsn⟩ := id h
  obtain ⟨⟨⟨b1, b2, b3, b4, b5, b6⟩, q0, q1, q2, q3, q4⟩, -⟩ := id hok
  have e2 : Mc.1 2 0 = nI N := hi.1.trans q0
  have bad : zBoth (some ((-2 : Int32), Mc)) (some ((-2 : Int32), Mr)) := ⟨_, _, _, rfl, rfl, h⟩
  have z3 : ¬ (1 : Int32) = 0 := by decide
  rcases zix3 e2 q0 hn.1 b1 x1 with ⟨u1, u2⟩ | ⟨k, hk, rfl, h5, u1, u2⟩
  · simp only [pX5_feed, pX6_feed, K_X5_feed_22, K_X6_feed_16, u1, u2, zbind_some, if_true]
    exact bad
  · rcases zix2 e2 q0 b1 x2 with ⟨w1, w2⟩ | ⟨j, hj, rfl, w1, w2⟩
    · simp only [pX5_feed, pX6_feed, K_X5_feed_22, K_X6_feed_16, u1, u2, w1, w2, zbind_some, if_true, z3, if_false]
      exact bad
    · have k1 : ∀ (α : Type) (q : Option α), zchk (nI k) 24 q = q := fun α q => zchk_n (by omega)
      have k3 : (nI k).toNatClampNeg = k := cl_n
      simp only [pX5_feed, pX6_feed, u1, u2, w1, w2, zbind_some, if_true, z3, if_false, k1, k3, zlt_e, zst_e, hn.2.1]
      exact ⟨_, _, _, rfl, rfl, rel_feed hok hi hn hs hsn hk h5 hj⟩
theorem vnarb {x : Int32} (h : x = 0 ∨ x = 1) : vp_nar .boolean x = x := by rcases h with rfl | rfl <;> rfl
theorem b_output {Mc Mr : zM} (h : zRel Mc Mr) (x1 x2 : Int32) (hx : x2 = 0 ∨ x2 = 1) : zBoth (pX5_output x1 x2 Mc) (pX6_output x1 x2 Mr) := by
  obtain ⟨N, I, S, T, V, sn, hok, hi, hn, hs, hsn⟩ := id h
  obtain ⟨⟨⟨b1, b2, b3, b4, b5, b6⟩, q0, q1, q2, q3, q4⟩, -⟩ := id hok
  have e2 : Mc.1 2 0 = nI N := hi.1.trans q0
  have bad : zBoth (some ((-2 : Int32), Mc)) (some ((-2 : Int32), Mr)) := ⟨_, _, _, rfl, rfl, h⟩
  have z3 : ¬ (1 : Int32) = 0 := by decide
  rcases zix2 e2 q0 b1 x1 with ⟨u1, u2⟩ | ⟨k, hk, rfl, u1, u2⟩
  · simp only [pX5_output, pX6_output, u1, u2, zbind_some, if_true]
    exact bad
  · have k1 : ∀ (α : Type) (q : Option α), zchk (nI k) 24 q = q := fun α q => zchk_n (by omega)
    have k3 : (nI k).toNatClampNeg = k := cl_n
    simp only [pX5_output, pX6_output, u1, u2, zbind_some, if_true, z3, if_false, k1, k3, zlt_e, zst_e, vnarb hx]
    refine ⟨_, _, _, rfl, rfl, ?_⟩
    obtain ⟨hnum, hnd, ⟨t1, t2, t3⟩, hst, hsh⟩ := hok
    have e13 : ∀ k', (zsI Mr 13 k x2).1 13 k' = if k' = k then x2 else Mr.1 13 k' := fun k' => upd_ap _ _ _ _
    refine ⟨N, I, S, T, V, sn, ⟨hnum, hnd, ⟨fun k' => ⟨?_, (t1 k').2⟩, fun k' hk' => ⟨?_, (t2 k' hk').2⟩, t3⟩, hst, hsh⟩, hi, ?_, hs.set (by decide) (by decide), hsn⟩
    · rw [e13]
      by_cases e : k' = k
      · rw [if_pos e]; exact hx
      · rw [if_neg e]; exact (t1 k').1
    · rw [e13, if_neg (by omega)]; exact (t2 k' hk').1
    · obtain ⟨g1, g2, g3, g4, g5, g6, g⟩ := hn
      refine ⟨g1, g2, g3, g4, g5, ?_, g⟩
      show upd (Mc.1 15) k x2 = upd (Mr.1 13) k x2
      rw [g6]
theorem pC_isPrice_y {M : zM} {x : Int32} (h1 : ¬ x < 0) (h2 : ¬ (1000 : Int32) < x) : pX5_isPrice x M = some 1 := by
  unfold pX5_isPrice
  rw [if_neg h1, if_neg h2]
theorem pC_isPrice_n {M : zM} {x : Int32} (h : x < 0 ∨ (1000 : Int32) < x) : pX5_isPrice x M = some 0 := by
  unfold pX5_isPrice K_X5_isPrice_15
  by_cases c : x < 0
  · rw [if_pos c]
  · rw [if_neg c, if_pos (h.resolve_left c)]
theorem zpr {Mc Mr : zM} (x : Int32) : (pX5_isPrice x Mc = some 0 ∧ pX6_in x 0 1000 Mr = some 0) ∨ ∃ j, j ≤ 1000 ∧ x = nI j ∧ pX5_isPrice x Mc = some 1 ∧ pX6_in x 0 1000 Mr = some 1 := by
  by_cases h : x < 0 ∨ (1000 : Int32) < x
  · exact Or.inl ⟨pC_isPrice_n h, pR_in_n h⟩
  · have h1 : ¬ x < 0 := fun q => h (Or.inl q)
    have h2 : ¬ (1000 : Int32) < x := fun q => h (Or.inr q)
    have h3 : x ≤ 1000 := by rw [i_le]; rw [i_lt] at h2; omega
    obtain ⟨j, hj, rfl⟩ := nI_of2 (M := 1000) (n := 1000) rfl h1 h3
    exact Or.inr ⟨j, hj, rfl, pC_isPrice_y h1 h2, pR_in_y h1 h2⟩
theorem b_price {Mc Mr : zM} (h : zRel Mc Mr) (x1 x2 : Int32) : zBoth (pX5_price x1 x2 Mc) (pX6_price x1 x2 Mr) := by
  obtain ⟨N, I, S, T, V, sn, hok, hi, hn, hs, hsn⟩ := id h
  obtain ⟨⟨⟨b1, b2, b3, b4, b5, b6⟩, q0, q1, q2, q3, q4⟩, -⟩ := id hok
  have e2 : Mc.1 2 0 = nI N := hi.1.trans q0
  have bad : zBoth (some ((-2 : Int32), Mc)) (some ((-2 : Int32), Mr)) := ⟨_, _, _, rfl, rfl, h⟩
  have z3 : ¬ (1 : Int32) = 0 := by decide
  rcases zix2 e2 q0 b1 x1 with ⟨u1, u2⟩ | ⟨k, hk, rfl, u1, u2⟩
  · simp only [pX5_price, pX6_price, K_X5_price_18, K_X6_price_19, u1, u2, zbind_some, if_true]
    exact bad
  · rcases zpr (Mc := Mc) (Mr := Mr) x2 with ⟨w1, w2⟩ | ⟨j, hj, rfl, w1, w2⟩
    · simp only [pX5_price, pX6_price, K_X5_price_18, K_X6_price_19, u1, u2, w1, w2, zbind_some, if_true, z3, if_false]
      exact bad
    · have k1 : ∀ (α : Type) (q : Option α), zchk (nI k) 24 q = q := fun α q => zchk_n (by omega)
      have k3 : (nI k).toNatClampNeg = k := cl_n
      simp only [pX5_price, pX6_price, u1, u2, w1, w2, zbind_some, if_true, z3, if_false, k1, k3, zlt_e, zst_e, hn.2.2.2.2.1]
      refine ⟨_, _, _, rfl, rfl, ?_⟩
      obtain ⟨hnum, hnd, hbits, hst, hsh⟩ := hok
      have e16 : ∀ k', (zsI Mr 16 k (nI j)).1 16 k' = if k' = k then nI j else Mr.1 16 k' := fun k' => upd_ap _ _ _ _
      refine ⟨N, I, S, T, V, sn, ⟨hnum, fun k' hk' => ⟨?_, (hnd k' hk').2⟩, hbits, hst, hsh⟩, hi, ?_, hs.set (by decide) (by decide), hsn⟩
      · rw [e16]
        by_cases e : k' = k
        · rw [if_pos e]; exact ⟨j, hj, rfl⟩
        · rw [if_neg e]; exact (hnd k' hk').1
      · obtain ⟨g1, g2, g3, g4, g5, g⟩ := hn
        refine ⟨g1, g2, g3, g4, ?_, g⟩
        show upd (Mc.1 14) k (nI j) = upd (Mr.1 16) k (nI j)
        rw [g5]
theorem b_about {Mc Mr : zM} (h : zRel Mc Mr) (x1 x2 : Int32) : ∃ r, pX5_about x1 x2 Mc = some r ∧ pX6_about x1 x2 Mr = some r := by
  obtain ⟨N, I, S, T, V, sn, hok, hi, hn, hs, hsn⟩ := id h
  obtain ⟨⟨⟨b1, b2, b3, b4, b5, b6⟩, q0, q1, q2, q3, q4⟩, -⟩ := id hok
  have e2 : Mc.1 2 0 = nI N := hi.1.trans q0
  have z3 : ¬ (1 : Int32) = 0 := by decide
  rcases zix2 e2 q0 b1 x1 with ⟨u1, u2⟩ | ⟨k, hk, rfl, u1, u2⟩
  · simp only [pX5_about, pX6_about, u1, u2, zbind_some, if_true]
    exact ⟨_, rfl, rfl⟩
  · have k1 : ∀ (α : Type) (q : Option α), zchk (nI k) 24 q = q := fun α q => zchk_n (by omega)
    have k3 : (nI k).toNatClampNeg = k := cl_n
    obtain ⟨g1, g2, g3, g4, g5, g6, g7, g8⟩ := hn
    simp only [pX5_about, pX6_about, pX2_fact, u1, u2, zbind_some, if_true, z3, if_false, k1, k3, g1, g2, g3, g4, g5, g6, g7, g8]
    by_cases c0 : x2 = 0
    · simp only [c0, if_true, zbind_some]; exact ⟨_, rfl, rfl⟩
    by_cases c1 : x2 = 1
    · simp only [c0, c1, if_true, if_false, zbind_some, z3]; exact ⟨_, rfl, rfl⟩
    by_cases c2 : x2 = 2
    · simp only [c0, c1, c2, if_true, if_false, zbind_some]; exact ⟨_, rfl, rfl⟩
    by_cases c3 : x2 = 3
    · simp only [c0, c1, c2, if_false, c3, if_true]
      by_cases d : Mr.1 13 k = 0
      · simp only [d, if_true, zbind_some]; exact ⟨_, rfl, rfl⟩
      · simp only [d, if_false, zbind_some]; exact ⟨_, rfl, rfl⟩
    by_cases c4 : x2 = 4
    · simp only [c0, c1, c2, c3, if_false, c4, if_true]
      by_cases d : Mr.1 14 k = 0
      · simp only [d, if_true, zbind_some]; exact ⟨_, rfl, rfl⟩
      · simp only [d, if_false, zbind_some]; exact ⟨_, rfl, rfl⟩
    by_cases c5 : x2 = 5
    · simp only [c0, c1, c2, c3, c4, if_false, c5, if_true]
      by_cases d : Mr.1 15 k = 0
      · simp only [d, if_true, zbind_some]; exact ⟨_, rfl, rfl⟩
      · simp only [d, if_false, zbind_some]; exact ⟨_, rfl, rfl⟩
    by_cases c6 : x2 = 6
    · simp only [c0, c1, c2, c3, c4, c5, if_false, c6, if_true, zbind_some]; exact ⟨_, rfl, rfl⟩
    by_cases c7 : x2 = 7
    · simp only [c0, c1, c2, c3, c4, c5, c6, if_false, c7, if_true, zbind_some]; exact ⟨_, rfl, rfl⟩
    simp only [c0, c1, c2, c3, c4, c5, c6, c7, if_false, zbind_some]; exact ⟨_, rfl, rfl⟩
theorem b_ticks {Mc Mr : zM} (h : zRel Mc Mr) (x1 : Int32) : zBoth (pX5_ticks x1 Mc) (pX6_ticks x1 Mr) := by
  obtain ⟨N, I, S, T, V, sn, hok, hi, hn, hs, hsn⟩ := id h
  obtain ⟨⟨⟨b1, b2, b3, b4, b5, b6⟩, q0, q1, q2, q3, q4⟩, hnd, hbits, hst, hsh⟩ := id hok
  have bad : zBoth (some ((-2 : Int32), Mc)) (some ((-2 : Int32), Mr)) := ⟨_, _, _, rfl, rfl, h⟩
  have z3 : ¬ (1 : Int32) = 0 := by decide
  by_cases c1 : x1 < 1
  · have f : pX6_in x1 1 16 Mr = some 0 := pR_in_n (Or.inl c1)
    simp only [pX5_ticks, pX6_ticks, K_X5_ticks_11, c1, f, zbind_some, if_true]
    exact bad
  · by_cases c2 : x1 ≤ 16
    · have g1 : ¬ x1 < 0 := fun q => c1 (by rw [i_lt] at *; simp at *; omega)
      have g2 : ¬ (16 : Int32) < x1 := fun q => by rw [i_lt] at q; rw [i_le] at c2; omega
      have f : pX6_in x1 1 16 Mr = some 1 := pR_in_y c1 g2
      obtain ⟨j, hj, rfl⟩ := nI_of2 (M := 16) (n := 16) rfl g1 c2
      have hj1 : 1 ≤ j := Nat.pos_of_ne_zero fun q => by subst q; exact c1 (by decide)
      simp only [pX5_ticks, pX6_ticks, c1, c2, f, zbind_some, if_true, if_false, z3, zlt_e, zst_e, hi.2.2.2.1]
      refine ⟨_, _, _, rfl, rfl, ?_⟩
      exact ⟨N, I, S, j, V, sn, ⟨⟨⟨b1, b2, b3, hj1, hj, b6⟩, q0, q1, q2, rfl, q4⟩, hnd, hbits, hst, hsh⟩, ⟨hi.1, hi.2.1, hi.2.2.1, rfl, hi.2.2.2.2⟩, hn, hs.set (by decide) (by decide), hsn⟩
    · have g2 : (16 : Int32) < x1 := by rw [i_lt]; rw [i_le] at c2; omega
      have f : pX6_in x1 1 16 Mr = some 0 := pR_in_n (Or.inr g2)
      simp only [pX5_ticks, pX6_ticks, K_X5_ticks_11, c1, c2, f, zbind_some, if_true, if_false]
      exact bad
theorem b_voter {Mc Mr : zM} (h : zRel Mc Mr) (x1 : Int32) : zBoth (pX5_voter x1 Mc) (pX6_voter x1 Mr) := by
  obtain ⟨N, I, S, T, V, sn, hok, hi, hn, hs, hsn⟩ := id h
  obtain ⟨⟨⟨b1, b2, b3, b4, b5, b6⟩, q0, q1, q2, q3, q4⟩, hnd, hbits, hst, hsh⟩ := id hok
  have z3 : ¬ (1 : Int32) = 0 := by decide
  rcases zpr (Mc := Mc) (Mr := Mr) x1 with ⟨w1, w2⟩ | ⟨j, hj, rfl, w1, w2⟩
  · simp only [pX5_voter, pX6_voter, w1, w2, zbind_some, if_true]
    exact ⟨_, _, _, rfl, rfl, h⟩
  · simp only [pX5_voter, pX6_voter, w1, w2, zbind_some, if_true, if_false, z3, zlt_e, zst_e, hi.2.2.2.2.1]
    refine ⟨_, _, _, rfl, rfl, ?_⟩
    exact ⟨N, I, S, T, j, sn, ⟨⟨⟨b1, b2, b3, b4, b5, hj⟩, q0, q1, q2, q3, rfl⟩, hnd, hbits, hst, hsh⟩, ⟨hi.1, hi.2.1, hi.2.2.1, hi.2.2.2.1, rfl, hi.2.2.2.2.2⟩, hn, hs.set (by decide) (by decide), hsn⟩
/-- a node's two marks, THRICE and VOTED, set on both sides -/
theorem rel_marks {Mc Mr Mc' Mr' : zM} {N I S T V : Nat} {sn : Nat → Nat} (hok : zOk Mr N I S T V sn) (hi : zEqI Mc Mr) (hn : zEqN Mc Mr) (hs : zEqS Mc Mr) (hsn : zSn Mc S sn) (f14 f15 : Nat → Int32)
    (hr : ∀ v, ¬ v = 14 → ¬ v = 15 → Mr'.1 v = Mr.1 v) (hc : ∀ v, ¬ v = 16 → ¬ v = 17 → Mc'.1 v = Mc.1 v) (r14 : Mr'.1 14 = f14) (r15 : Mr'.1 15 = f15) (c16 : Mc'.1 16 = f14) (c17 : Mc'.1 17 = f15)
    (hb : ∀ k, (f14 k = 0 ∨ f14 k = 1) ∧ (f15 k = 0 ∨ f15 k = 1)) (hN : ∀ k, N ≤ k → f14 k = 0 ∧ f15 k = 0) (hv : ∀ k, f15 k = 1 → f14 k = 1 ∧ Mr.1 10 k = 5) : zRel Mc' Mr' := by
  obtain ⟨⟨hb0, q0, q1, q2, q3, q4⟩, hnd, ⟨t1, t2, t3⟩, hst, hsh⟩ := hok
  have e : ∀ v, v ∈ [0, 1, 2, 3, 4, 5, 10, 11, 12, 13, 16, 17, 25, 26, 27, 28] → Mr'.1 v = Mr.1 v := fun v hv => hr v (fun q => by subst q; revert hv; decide) (fun q => by subst q; revert hv; decide)
  have g : ∀ v, v ∈ [0, 1, 2, 3, 4, 5, 10, 11, 12, 13, 14, 15, 18, 20, 21, 30, 31, 32, 33] → Mc'.1 v = Mc.1 v := fun v hv => hc v (fun q => by subst q; revert hv; decide) (fun q => by subst q; revert hv; decide)
  have e10 := e 10 (by decide)
  have e11 := e 11 (by decide)
  have e12 := e 12 (by decide)
  have e16 := e 16 (by decide)
  have e17 := e 17 (by decide)
  refine ⟨N, I, S, T, V, sn, ⟨⟨hb0, by rw [e 0 (by decide)]; exact q0, by rw [e 1 (by decide)]; exact q1, by rw [e 2 (by decide)]; exact q2, by rw [e 3 (by decide)]; exact q3, by rw [e 4 (by decide)]; exact q4⟩, ?_, ⟨?_, ?_, ?_⟩, ?_, ?_⟩, ?_, ?_, ?_, ?_⟩
  · intro k hk
    have := hnd k hk
    unfold zNd at *
    rw [e10, e11, e12, e16, e17]; exact this
  · intro k
    rw [r14, r15, e 13 (by decide)]; exact ⟨(t1 k).1, hb k⟩
  · intro k hk
    rw [r14, r15, e 13 (by decide)]; exact ⟨(t2 k hk).1, hN k hk⟩
  · intro k hk
    rw [r15] at hk
    rw [r14, e10]; exact hv k hk
  · unfold zSts at *
    rw [e10, e17]; exact hst
  · unfold zShs at *
    rw [e 25 (by decide), e 26 (by decide), e 27 (by decide)]; exact hsh
  · unfold zEqI at *
    rw [g 0 (by decide), g 1 (by decide), g 2 (by decide), g 3 (by decide), g 4 (by decide), g 5 (by decide), e 0 (by decide), e 1 (by decide), e 2 (by decide), e 3 (by decide), e 4 (by decide), e 5 (by decide)]; exact hi
  · unfold zEqN at *
    rw [g 10 (by decide), g 11 (by decide), g 12 (by decide), g 13 (by decide), g 14 (by decide), g 15 (by decide), c16, c17, r14, r15, e10, e11, e12, e 13 (by decide), e16, e17]
    exact ⟨hn.1, hn.2.1, hn.2.2.1, hn.2.2.2.1, hn.2.2.2.2.1, hn.2.2.2.2.2.1, rfl, rfl⟩
  · intro s hs4
    have e30 : Mc'.1 (30 + s) = Mc.1 (30 + s) := hc _ (by omega) (by omega)
    rw [g 20 (by decide), g 21 (by decide), e 25 (by decide), e 26 (by decide), e 27 (by decide), e 28 (by decide), e30]; exact hs s hs4
  · intro s hs4
    rw [g 18 (by decide)]; exact hsn s hs4
theorem b_thrice {Mc Mr : zM} (h : zRel Mc Mr) (x1 x2 : Int32) (hx : x2 = 0 ∨ x2 = 1) : zBoth (pX5_thrice x1 x2 Mc) (pX6_thrice x1 x2 Mr) := by
  obtain ⟨N, I, S, T, V, sn, hok, hi, hn, hs, hsn⟩ := id h
  obtain ⟨⟨⟨b1, b2, b3, b4, b5, b6⟩, q0, q1, q2, q3, q4⟩, hnd, ⟨t1, t2, t3⟩, hst, hsh⟩ := id hok
  have e2 : Mc.1 2 0 = nI N := hi.1.trans q0
  have z3 : ¬ (1 : Int32) = 0 := by decide
  rcases zix2 e2 q0 b1 x1 with ⟨u1, u2⟩ | ⟨k, hk, rfl, u1, u2⟩
  · simp only [pX5_thrice, pX6_thrice, u1, u2, zbind_some, if_true]
    exact ⟨_, _, _, rfl, rfl, h⟩
  · have k1 : ∀ (α : Type) (q : Option α), zchk (nI k) 24 q = q := fun α q => zchk_n (by omega)
    have k3 : (nI k).toNatClampNeg = k := cl_n
    have c16 : Mc.1 16 = Mr.1 14 := hn.2.2.2.2.2.2.1
    have c17 : Mc.1 17 = Mr.1 15 := hn.2.2.2.2.2.2.2
    have and1 : Mr.1 15 k &&& x2 = if x2 = 1 then Mr.1 15 k else 0 := by
      rcases hx with rfl | rfl
      · rw [if_neg (by decide)]; rcases (t1 k).2.2 with e | e <;> rw [e] <;> rfl
      · rw [if_pos rfl]; rcases (t1 k).2.2 with e | e <;> rw [e] <;> rfl
    have nar2 : vp_nar .boolean (if x2 = 1 then Mr.1 15 k else 0) = if x2 = 1 then Mr.1 15 k else 0 := by
      apply vnarb
      by_cases e : x2 = 1
      · rw [if_pos e]; exact (t1 k).2.2
      · rw [if_neg e]; exact Or.inl rfl
    have e15 : (zsI Mr 14 k x2).1 15 k = Mr.1 15 k := rfl
    by_cases c : Mr.1 14 k = x2
    · simp only [pX5_thrice, pX6_thrice, K_X6_thrice_26, u1, u2, zbind_some, if_true, z3, if_false, k1, k3, zlt_e, zst_e, vnarb hx, c16, c, e15, and1, nar2]
      refine ⟨_, _, _, rfl, rfl, ?_⟩
      have w14 : upd (Mr.1 14) k x2 = Mr.1 14 := upd_same _ _ _ c
      have w15 : upd (Mr.1 15) k (if x2 = 1 then Mr.1 15 k else 0) = Mr.1 15 := upd_same _ _ _ (by
        by_cases e : x2 = 1
        · rw [if_pos e]
        · rw [if_neg e]
          rcases (t1 k).2.2 with e' | e'
          · exact e'
          · have := (t3 k e').1
            rw [c] at this; exact absurd this e)
      refine h.keep (zKeepC.rf _) (fun v hv => ?_)
      show (if v = 15 then upd ((zsI Mr 14 k x2).1 15) k _ else (if v = 14 then upd (Mr.1 14) k x2 else Mr.1 v)) = Mr.1 v
      by_cases v15 : v = 15
      · rw [if_pos v15, v15]; exact w15
      · rw [if_neg v15]
        by_cases v14 : v = 14
        · rw [if_pos v14, v14]; exact w14
        · rw [if_neg v14]
    · simp only [pX5_thrice, pX6_thrice, K_X6_thrice_26, u1, u2, zbind_some, if_true, z3, if_false, k1, k3, zlt_e, zst_e, vnarb hx, c16, c, e15, and1, nar2, vnar0]
      refine ⟨_, _, _, rfl, rfl, ?_⟩
      have v0 : (if x2 = 1 then Mr.1 15 k else 0) = 0 := by
        by_cases e : x2 = 1
        · rw [if_pos e]
          rcases (t1 k).2.2 with e' | e'
          · exact e'
          · exact absurd ((t3 k e').1.trans e.symm) c
        · rw [if_neg e]
      rw [v0]
      refine rel_marks hok hi hn hs hsn (upd (Mr.1 14) k x2) (upd (Mr.1 15) k 0) (fun v h1 h2 => ?_) (fun v h1 h2 => ?_) rfl rfl ?_ ?_ (fun j => ?_) (fun j hj => ?_) (fun j hj => ?_)
      · simp only [zsI_1, if_neg h1, if_neg h2]
      · simp only [zsI_1, if_neg h1, if_neg h2]
      · show upd (Mc.1 16) k x2 = _
        rw [c16]
      · show upd (Mc.1 17) k 0 = _
        rw [c17]
      · simp only [upd_ap]
        by_cases e : j = k
        · rw [if_pos e, if_pos e]; exact ⟨hx, Or.inl rfl⟩
        · rw [if_neg e, if_neg e]; exact (t1 j).2
      · simp only [upd_ap, if_neg (show ¬ j = k by omega)]; exact (t2 j hj).2
      · simp only [upd_ap] at *
        by_cases e : j = k
        · rw [if_pos e] at hj; exact absurd hj (by decide)
        · rw [if_neg e] at *; exact t3 j hj
theorem b_vote {Mc Mr : zM} (h : zRel Mc Mr) (x1 x2 : Int32) (hx : x2 = 0 ∨ x2 = 1) : zBoth (pX5_vote x1 x2 Mc) (pX6_vote x1 x2 Mr) := by
  obtain ⟨N, I, S, T, V, sn, hok, hi, hn, hs, hsn⟩ := id h
  obtain ⟨⟨⟨b1, b2, b3, b4, b5, b6⟩, q0, q1, q2, q3, q4⟩, hnd, ⟨t1, t2, t3⟩, hst, hsh⟩ := id hok
  have e2 : Mc.1 2 0 = nI N := hi.1.trans q0
  have z3 : ¬ (1 : Int32) = 0 := by decide
  rcases zix3 e2 q0 hn.1 b1 x1 with ⟨u1, u2⟩ | ⟨k, hk, rfl, h5, u1, u2⟩
  · simp only [pX5_vote, pX6_vote, u1, u2, zbind_some, if_true]
    exact ⟨_, _, _, rfl, rfl, h⟩
  · have k1 : ∀ (α : Type) (q : Option α), zchk (nI k) 24 q = q := fun α q => zchk_n (by omega)
    have k3 : (nI k).toNatClampNeg = k := cl_n
    have c16 : Mc.1 16 = Mr.1 14 := hn.2.2.2.2.2.2.1
    have c17 : Mc.1 17 = Mr.1 15 := hn.2.2.2.2.2.2.2
    by_cases t0 : Mr.1 14 k = 0
    · simp only [pX5_vote, pX6_vote, u1, u2, zbind_some, if_true, if_false, z3, k1, k3, c16, t0]
      exact ⟨_, _, _, rfl, rfl, h⟩
    · have th : Mr.1 14 k = 1 := (t1 k).2.1.resolve_left t0
      by_cases c : Mr.1 15 k = x2
      · simp only [pX5_vote, pX6_vote, K_X6_vote_38, u1, u2, zbind_some, if_true, z3, if_false, k1, k3, zlt_e, zst_e, vnarb hx, c16, c17, c, t0]
        refine ⟨_, _, _, rfl, rfl, ?_⟩
        have w15 : upd (Mr.1 15) k x2 = Mr.1 15 := upd_same _ _ _ c
        refine h.keep (zKeepC.rf _) (fun v hv => ?_)
        show (if v = 15 then upd (Mr.1 15) k x2 else Mr.1 v) = Mr.1 v
        by_cases v15 : v = 15
        · rw [if_pos v15, v15]; exact w15
        · rw [if_neg v15]
      · simp only [pX5_vote, pX6_vote, K_X6_vote_38, u1, u2, zbind_some, if_true, z3, if_false, k1, k3, zlt_e, zst_e, vnarb hx, c16, c17, c, t0]
        refine ⟨_, _, _, rfl, rfl, ?_⟩
        refine rel_marks hok hi hn hs hsn (Mr.1 14) (upd (Mr.1 15) k x2) (fun v h1 h2 => ?_) (fun v h1 h2 => ?_) rfl rfl ?_ ?_ (fun j => ?_) (fun j hj => ?_) (fun j hj => ?_)
        · simp only [zsI_1, if_neg h2]
        · simp only [zsI_1, if_neg h2]
        · exact c16
        · show upd (Mc.1 17) k x2 = _
          rw [c17]
        · simp only [upd_ap]
          refine ⟨(t1 j).2.1, ?_⟩
          by_cases e : j = k
          · rw [if_pos e]; exact hx
          · rw [if_neg e]; exact (t1 j).2.2
        · simp only [upd_ap, if_neg (show ¬ j = k by omega)]; exact (t2 j hj).2
        · simp only [upd_ap] at *
          by_cases e : j = k
          · subst e; exact ⟨th, h5⟩
          · rw [if_neg e] at *; exact t3 j hj
