/-! ===== node ===== -/
theorem pC_append {M : zM} {N I S : Nat} (hN : N < 24) (hI : I ≤ N) (hS : S ≤ N) (h2 : M.1 2 0 = nI N) (h3 : M.1 3 0 = nI I) (h4 : M.1 4 0 = nI S) (d a b : Int32) :
    ∃ M', pX2_append d a b M = some (nI N, M') ∧ M'.1 0 = M.1 0 ∧ M'.1 1 = M.1 1 ∧ M'.1 2 0 = nI (N + 1) ∧ M'.1 3 0 = nI (if d = 0 then I + 1 else I) ∧ M'.1 4 0 = nI (if d = 5 then S + 1 else S) ∧ M'.1 5 = M.1 5 ∧ M'.1 10 = upd (M.1 10) N d ∧ M'.1 11 = upd (M.1 11) N (if d = 5 then nI N else a) ∧ M'.1 12 = upd (M.1 12) N b ∧ M'.1 13 = upd (M.1 13) N (if d = 0 then nI I else if d = 5 then nI S else -1) ∧ M'.1 14 = upd (M.1 14) N 1 ∧ M'.1 15 = M.1 15 ∧ M'.1 16 = M.1 16 ∧ M'.1 17 = M.1 17 ∧ M'.1 18 = (if d = 5 then upd (M.1 18) S (nI N) else M.1 18) ∧ M'.1 20 = M.1 20 ∧ M'.1 21 = M.1 21 ∧ ∀ s, s < 4 → M'.1 (30 + s) = M.1 (30 + s) := by
  have k1 : ∀ (α : Type) (k : Option α), zchk (nI N) 24 k = k := fun α k => zchk_n hN
  have k2 : ∀ (α : Type) (k : Option α), zchk (nI S) 24 k = k := fun α k => zchk_n (by omega)
  have k3 : (nI N).toNatClampNeg = N := cl_n
  have k4 : (nI S).toNatClampNeg = S := cl_n
  have r30 : ∀ (s v : Nat), v < 30 → ¬ 30 + s = v := fun s v h => by omega
  by_cases d0 : d = 0
  · have d5 : ¬ d = 5 := by rw [d0]; decide
    refine ⟨_, by simp only [pX2_append, K_X2_append_38, K_X2_append_122, zst_e, zlt_e, h2, k1, k3, if_neg d5, if_pos d0]; rfl, ?_⟩
    simp [zsI_1, h2, h3, h4, upd_ap, d0, upd_upd, nI_1, r30]
  · by_cases d5 : d = 5
    · refine ⟨_, by simp only [pX2_append, K_X2_append_38, K_X2_append_122, zst_e, zlt_e, h2, k1, k3, if_pos d5, if_neg d0, zsI_1, Nat.reduceEqDiff, if_false, if_true, h4, k2, k4]; rfl, ?_⟩
      simp [zsI_1, h2, h3, h4, upd_ap, d5, upd_upd, nI_1, r30]
    · refine ⟨_, by simp only [pX2_append, K_X2_append_38, K_X2_append_122, zst_e, zlt_e, h2, k1, k3, if_neg d5, if_neg d0]; rfl, ?_⟩
      simp [zsI_1, h2, h3, h4, upd_ap, d0, d5, upd_upd, nI_1, r30]
theorem pR_append {M : zM} {N I S : Nat} (hN : N < 24) (hI : I ≤ N) (hS : S ≤ N) (h0 : M.1 0 0 = nI N) (h1 : M.1 1 0 = nI I) (h2 : M.1 2 0 = nI S) (d a b y z : Int32) :
    ∃ M', K_X6_node_70 d a b y z M = some (nI N, M') ∧ M'.1 0 0 = nI (N + 1) ∧ M'.1 1 0 = nI (if d = 0 then I + 1 else I) ∧ M'.1 2 0 = nI (if d = 5 then S + 1 else S) ∧ M'.1 3 = M.1 3 ∧ M'.1 4 = M.1 4 ∧ M'.1 5 = M.1 5 ∧ M'.1 10 = upd (M.1 10) N d ∧ M'.1 11 = upd (M.1 11) N (if d = 5 then nI N else a) ∧ M'.1 12 = upd (M.1 12) N b ∧ M'.1 13 = M.1 13 ∧ M'.1 14 = M.1 14 ∧ M'.1 15 = M.1 15 ∧ M'.1 16 = upd (M.1 16) N 1 ∧ M'.1 17 = upd (M.1 17) N (if d = 0 then nI I else if d = 5 then nI S else -1) ∧ M'.1 25 = M.1 25 ∧ M'.1 26 = M.1 26 ∧ M'.1 27 = M.1 27 ∧ M'.1 28 = M.1 28 := by
  have k1 : ∀ (α : Type) (k : Option α), zchk (nI N) 24 k = k := fun α k => zchk_n hN
  have k3 : (nI N).toNatClampNeg = N := cl_n
  have k5 : ¬ nI N = 24 := fun q => by have := (nI_eq (a := N) (b := 24) (by omega) (by omega)).mp q; omega
  have k6 : nI N + 1 - 1 = nI N := by rw [nI_1, nI_pred]
  by_cases d0 : d = 0
  · have d5 : ¬ d = 5 := by rw [d0]; decide
    refine ⟨_, by simp only [K_X6_node_70, K_X6_node_113, K_X6_node_166, K_X6_node_181, K_X6_node_200, zst_e, zlt_e, h0, k1, k3, if_neg d5, if_pos d0, zsI_1, Nat.reduceEqDiff, if_false, if_true, if_neg k5, upd_ap, k6]; rfl, ?_⟩
    simp [zsI_1, h0, h1, h2, upd_ap, d0, nI_1]
  · by_cases d5 : d = 5
    · refine ⟨_, by simp only [K_X6_node_70, K_X6_node_113, K_X6_node_166, K_X6_node_181, K_X6_node_200, zst_e, zlt_e, h0, k1, k3, if_pos d5, if_neg d0, zsI_1, Nat.reduceEqDiff, if_false, if_true, if_neg k5, upd_ap, k6]; rfl, ?_⟩
      simp [zsI_1, h0, h1, h2, upd_ap, d0, d5, nI_1]
    · refine ⟨_, by simp only [K_X6_node_70, K_X6_node_113, K_X6_node_166, K_X6_node_181, K_X6_node_200, zst_e, zlt_e, h0, k1, k3, if_neg d5, if_neg d0, zsI_1, Nat.reduceEqDiff, if_false, if_true, if_neg k5, upd_ap, k6]; rfl, ?_⟩
      simp [zsI_1, h0, h1, h2, upd_ap, d0, d5, nI_1]
theorem b_app {Mc Mr : zM} {N I S T V : Nat} {sn : Nat → Nat} (hok : zOk Mr N I S T V sn) (hi : zEqI Mc Mr) (hn : zEqN Mc Mr) (hs : zEqS Mc Mr) (hsn : zSn Mc S sn) {d a b y z : Int32}
    (hv : (d = 0 ∧ a = -1 ∧ b = -1) ∨ (d = 1 ∧ (∃ j, j < N ∧ a = nI j) ∧ b = -1) ∨ ((d = 2 ∨ d = 3 ∨ d = 4) ∧ (∃ j, j < N ∧ a = nI j) ∧ ∃ j, j < N ∧ b = nI j) ∨ (d = 5 ∧ a = -1 ∧ b = -1)) :
    zBoth (if (Mc.1 2 0) < (24 : Int32) then (zb2 (pX2_append d a b Mc) (fun v6 N7 => some (v6, N7))) else (some ((-4 : Int32), Mc))) (K_X6_node_70 d a b y z Mr) := by
  have hrel : zRel Mc Mr := ⟨N, I, S, T, V, sn, hok, hi, hn, hs, hsn⟩
  obtain ⟨⟨⟨b1, b2, b3, b4, b5, b6⟩, q0, q1, q2, q3, q4⟩, -⟩ := id hok
  have e2 : Mc.1 2 0 = nI N := hi.1.trans q0
  have e3 : Mc.1 3 0 = nI I := hi.2.1.trans q1
  have e4 : Mc.1 4 0 = nI S := hi.2.2.1.trans q2
  by_cases hN : N < 24
  · have hlt : nI N < (24 : Int32) := nI_lt (a := N) (b := 24) hN (by omega)
    rw [e2, if_pos hlt]
    obtain ⟨M1, p1, c0, c1, c2, c3, c4, c5, c10, c11, c12, c13, c14, c15, c16, c17, c18, c20, c21, c30⟩ := pC_append hN b2 b3 e2 e3 e4 d a b
    obtain ⟨M2, p2, r0, r1, r2, r3, r4, r5, r10, r11, r12, r13, r14, r15, r16, r17, r25, r26, r27, r28⟩ := pR_append hN b2 b3 q0 q1 q2 d a b y z
    rw [p1, p2, zb2_some]
    refine ⟨_, _, _, rfl, rfl, ?_⟩
    refine zRel_add hok hi hn hs hsn hN d _ b _ ?_ ?_ r0 r1 r2 r3 r4 r5 r10 r11 r12 r13 r14 r15 r16 r17 r25 r26 r27 r28 c0 c1 c2 c3 c4 c5 c10 c11 c12 c13 c14 c15 c16 c17 c18 c20 c21 c30 ?_
    · by_cases h : d = 0
      · rw [if_pos h]; exact Or.inl ⟨rfl, h⟩
      · rw [if_neg h]; exact Or.inr ⟨rfl, h⟩
    · by_cases h : d = 5
      · rw [if_pos h]
        refine Or.inl ⟨rfl, h, ?_⟩
        rw [if_neg (by rw [h]; decide), if_pos h]
      · rw [if_neg h]; exact Or.inr ⟨rfl, h⟩
    · unfold zNd
      rw [r10, r11, r12, r16, r17]
      simp only [upd_ap, if_true]
      refine ⟨⟨1, by omega, rfl⟩, ?_⟩
      rcases hv with ⟨rfl, rfl, rfl⟩ | ⟨rfl, ⟨j, hj, rfl⟩, rfl⟩ | ⟨hd, ⟨j, hj, rfl⟩, ⟨j2, hj2, rfl⟩⟩ | ⟨rfl, rfl, rfl⟩
      · exact Or.inl ⟨rfl, rfl, rfl, I, by simp, rfl⟩
      · exact Or.inr (Or.inl ⟨rfl, ⟨j, hj, rfl⟩, rfl, rfl⟩)
      · refine Or.inr (Or.inr (Or.inl ⟨hd, ⟨j, hj, ?_⟩, ⟨j2, hj2, rfl⟩, ?_⟩)) <;> rcases hd with rfl | rfl | rfl <;> rfl
      · exact Or.inr (Or.inr (Or.inr ⟨rfl, ⟨N, by omega, rfl⟩, rfl, S, by simp, rfl⟩))
  · have hN' : N = 24 := by omega
    subst hN'
    have h1 : ¬ nI 24 < (24 : Int32) := by decide
    rw [e2, if_neg h1]
    refine ⟨_, _, _, rfl, ?_, hrel⟩
    unfold K_X6_node_70
    rw [q0, if_pos (show nI 24 = 24 from rfl)]
theorem zix2 {Mc Mr : zM} {N : Nat} (h2 : Mc.1 2 0 = nI N) (h0 : Mr.1 0 0 = nI N) (hN : N ≤ 24) (x : Int32) : (pX2_isNode x Mc = some 0 ∧ pX6_isNode x Mr = some 0) ∨ ∃ j, j < N ∧ x = nI j ∧ pX2_isNode x Mc = some 1 ∧ pX6_isNode x Mr = some 1 := by
  rcases zix x hN with h | ⟨j, hj, rfl⟩
  · exact Or.inl ⟨pC_isNode_n h2 h, pR_isNode_n h0 hN h⟩
  · exact Or.inr ⟨j, hj, rfl, pC_isNode_y h2 hN hj, pR_isNode_y h0 hN hj⟩
theorem b_node {Mc Mr : zM} (h : zRel Mc Mr) (x1 x2 x3 : Int32) : zBoth (pX5_node x1 x2 x3 Mc) (pX6_node x1 x2 x3 Mr) := by
  obtain ⟨N, I, S, T, V, sn, hok, hi, hn, hs, hsn⟩ := id h
  obtain ⟨⟨⟨b1, b2, b3, b4, b5, b6⟩, q0, q1, q2, q3, q4⟩, -⟩ := id hok
  have e2 : Mc.1 2 0 = nI N := hi.1.trans q0
  have bad : zBoth (some ((-2 : Int32), Mc)) (some ((-2 : Int32), Mr)) := ⟨_, _, _, rfl, rfl, h⟩
  have ap := fun (d a b y z : Int32) hv => b_app (d := d) (a := a) (b := b) (y := y) (z := z) hok hi hn hs hsn hv
  rcases pk_ix x1 (n := 6) (by omega) with g | g | ⟨j, hj, rfl⟩
  · have f1 : pX2_fits x1 x2 x3 Mc = some 0 := by unfold pX2_fits; rw [if_pos g]; rfl
    have f2 : pX6_in x1 0 5 Mr = some 0 := pR_in_n (Or.inl g)
    unfold pX5_node
    rw [f1, zbind_some, if_pos rfl]
    unfold pX6_node
    rcases (show pX6_in x1 1 4 Mr = some 0 ∨ pX6_in x1 1 4 Mr = some 1 by unfold pX6_in K_X6_in_14; split <;> (try split) <;> simp) with e | e <;> rcases (show pX6_in x1 2 4 Mr = some 0 ∨ pX6_in x1 2 4 Mr = some 1 by unfold pX6_in K_X6_in_14; split <;> (try split) <;> simp) with e' | e' <;> rw [e, e', f2] <;> exact bad
  · have g' : ¬ x1 < (6 : Int32) := fun q => by have := i_le.mp g; have := i_lt.mp q; rw [i_toInt_nI (by omega)] at *; simp at *; omega
    have g0 : ¬ x1 < 0 := fun q => by have := i_le.mp g; have := i_lt.mp q; rw [i_toInt_nI (by omega)] at *; simp at *; omega
    have g5 : (5 : Int32) < x1 := by have := i_le.mp g; rw [i_lt]; rw [i_toInt_nI (by omega)] at *; simp at *; omega
    have f1 : pX2_fits x1 x2 x3 Mc = some 0 := by unfold pX2_fits; rw [if_neg g0, if_neg g']; rfl
    have f2 : pX6_in x1 0 5 Mr = some 0 := pR_in_n (Or.inr g5)
    unfold pX5_node
    rw [f1, zbind_some, if_pos rfl]
    unfold pX6_node
    rcases (show pX6_in x1 1 4 Mr = some 0 ∨ pX6_in x1 1 4 Mr = some 1 by unfold pX6_in K_X6_in_14; split <;> (try split) <;> simp) with e | e <;> rcases (show pX6_in x1 2 4 Mr = some 0 ∨ pX6_in x1 2 4 Mr = some 1 by unfold pX6_in K_X6_in_14; split <;> (try split) <;> simp) with e' | e' <;> rw [e, e', f2] <;> exact bad
  · have n2 := zix2 e2 q0 b1 x2
    have n3 := zix2 e2 q0 b1 x3
    rcases (show j = 0 ∨ j = 1 ∨ j = 2 ∨ j = 3 ∨ j = 4 ∨ j = 5 by omega) with rfl | rfl | rfl | rfl | rfl | rfl
    · show zBoth (pX5_node 0 x2 x3 Mc) (pX6_node 0 x2 x3 Mr)
      have i1 : pX6_in 0 1 4 Mr = some 0 := pR_in_n (by decide)
      have i2 : pX6_in 0 2 4 Mr = some 0 := pR_in_n (by decide)
      have i3 : pX6_in 0 0 5 Mr = some 1 := pR_in_y (by decide) (by decide)
      have z1 : ¬ (0 : Int32) < 0 := by decide
      have z2 : (0 : Int32) < 6 := by decide
      have z3 : ¬ (1 : Int32) = 0 := by decide
      by_cases h2 : x2 = -1
      · by_cases h3 : x3 = -1
        · simp only [pX5_node, pX2_fits, K_X2_fits_21, K_X2_fits_35, pX6_node, K_X6_node_46, K_X6_node_67, z1, z2, z3, i1, i2, i3, zbind_some, zlt_e, if_true, if_false, reduceIte, h2, h3]
          exact ap 0 (-1) (-1) _ _ (Or.inl ⟨rfl, rfl, rfl⟩)
        · simp only [pX5_node, pX2_fits, K_X2_fits_21, K_X2_fits_35, pX6_node, K_X6_node_46, K_X6_node_67, z1, z2, z3, i1, i2, i3, zbind_some, zlt_e, if_true, if_false, reduceIte, h2, h3]
          exact bad
      · simp only [pX5_node, pX2_fits, K_X2_fits_21, K_X2_fits_35, pX6_node, K_X6_node_46, K_X6_node_67, z1, z2, z3, i1, i2, i3, zbind_some, zlt_e, if_true, if_false, reduceIte, h2]
        exact bad
    · show zBoth (pX5_node 1 x2 x3 Mc) (pX6_node 1 x2 x3 Mr)
      have i1 : pX6_in 1 1 4 Mr = some 1 := pR_in_y (by decide) (by decide)
      have i2 : pX6_in 1 2 4 Mr = some 0 := pR_in_n (by decide)
      have i3 : pX6_in 1 0 5 Mr = some 1 := pR_in_y (by decide) (by decide)
      have z1 : ¬ (1 : Int32) < 0 := by decide
      have z2 : (1 : Int32) < 6 := by decide
      have z3 : ¬ (1 : Int32) = 0 := by decide
      have z4 : ¬ (1 : Int32) = 5 := by decide
      rcases n2 with ⟨u1, u2⟩ | ⟨j2, hj2, e, u1, u2⟩
      · simp only [pX5_node, pX2_fits, K_X2_fits_66, K_X2_fits_70, pX6_node, K_X6_node_46, K_X6_node_67, z1, z2, z3, z4, i1, i2, i3, zbind_some, zlt_e, if_true, if_false, reduceIte, u1, u2]
        exact bad
      · by_cases h3 : x3 = -1
        · simp only [pX5_node, pX2_fits, K_X2_fits_66, K_X2_fits_70, pX6_node, K_X6_node_46, K_X6_node_67, z1, z2, z3, z4, i1, i2, i3, zbind_some, zlt_e, if_true, if_false, reduceIte, u1, u2, h3]
          exact ap 1 x2 (-1) _ _ (Or.inr (Or.inl ⟨rfl, ⟨j2, hj2, e⟩, rfl⟩))
        · simp only [pX5_node, pX2_fits, K_X2_fits_66, K_X2_fits_70, pX6_node, K_X6_node_46, K_X6_node_67, z1, z2, z3, z4, i1, i2, i3, zbind_some, zlt_e, if_true, if_false, reduceIte, u1, u2, h3]
          exact bad
    · show zBoth (pX5_node 2 x2 x3 Mc) (pX6_node 2 x2 x3 Mr)
      have i1 : pX6_in 2 1 4 Mr = some 1 := pR_in_y (by decide) (by decide)
      have i2 : pX6_in 2 2 4 Mr = some 1 := pR_in_y (by decide) (by decide)
      have i3 : pX6_in 2 0 5 Mr = some 1 := pR_in_y (by decide) (by decide)
      have z1 : ¬ (2 : Int32) < 0 := by decide
      have z2 : (2 : Int32) < 6 := by decide
      have z3 : ¬ (1 : Int32) = 0 := by decide
      have z4 : ¬ (2 : Int32) = 5 := by decide
      have z5 : ¬ (2 : Int32) = 0 := by decide
      have z6 : ¬ (2 : Int32) = 1 := by decide
      rcases n2 with ⟨u1, u2⟩ | ⟨j2, hj2, e, u1, u2⟩
      · simp only [pX5_node, pX2_fits, K_X2_fits_66, K_X2_fits_70, pX6_node, K_X6_node_46, K_X6_node_67, z1, z2, z3, z4, z5, z6, i1, i2, i3, zbind_some, zlt_e, if_true, if_false, reduceIte, u1, u2]
        exact bad
      · rcases n3 with ⟨w1, w2⟩ | ⟨j3, hj3, e3, w1, w2⟩
        · simp only [pX5_node, pX2_fits, K_X2_fits_66, K_X2_fits_70, pX6_node, K_X6_node_46, K_X6_node_67, z1, z2, z3, z4, z5, z6, i1, i2, i3, zbind_some, zlt_e, if_true, if_false, reduceIte, u1, u2, w1, w2]
          exact bad
        · simp only [pX5_node, pX2_fits, K_X2_fits_66, K_X2_fits_70, pX6_node, K_X6_node_46, K_X6_node_67, z1, z2, z3, z4, z5, z6, i1, i2, i3, zbind_some, zlt_e, if_true, if_false, reduceIte, u1, u2, w1, w2]
          exact ap 2 x2 x3 _ _ (Or.inr (Or.inr (Or.inl ⟨Or.inl rfl, ⟨j2, hj2, e⟩, ⟨j3, hj3, e3⟩⟩)))
    · show zBoth (pX5_node 3 x2 x3 Mc) (pX6_node 3 x2 x3 Mr)
      have i1 : pX6_in 3 1 4 Mr = some 1 := pR_in_y (by decide) (by decide)
      have i2 : pX6_in 3 2 4 Mr = some 1 := pR_in_y (by decide) (by decide)
      have i3 : pX6_in 3 0 5 Mr = some 1 := pR_in_y (by decide) (by decide)
      have z1 : ¬ (3 : Int32) < 0 := by decide
      have z2 : (3 : Int32) < 6 := by decide
      have z3 : ¬ (1 : Int32) = 0 := by decide
      have z4 : ¬ (3 : Int32) = 5 := by decide
      have z5 : ¬ (3 : Int32) = 0 := by decide
      have z6 : ¬ (3 : Int32) = 1 := by decide
      rcases n2 with ⟨u1, u2⟩ | ⟨j2, hj2, e, u1, u2⟩
      · simp only [pX5_node, pX2_fits, K_X2_fits_66, K_X2_fits_70, pX6_node, K_X6_node_46, K_X6_node_67, z1, z2, z3, z4, z5, z6, i1, i2, i3, zbind_some, zlt_e, if_true, if_false, reduceIte, u1, u2]
        exact bad
      · rcases n3 with ⟨w1, w2⟩ | ⟨j3, hj3, e3, w1, w2⟩
        · simp only [pX5_node, pX2_fits, K_X2_fits_66, K_X2_fits_70, pX6_node, K_X6_node_46, K_X6_node_67, z1, z2, z3, z4, z5, z6, i1, i2, i3, zbind_some, zlt_e, if_true, if_false, reduceIte, u1, u2, w1, w2]
          exact bad
        · simp only [pX5_node, pX2_fits, K_X2_fits_66, K_X2_fits_70, pX6_node, K_X6_node_46, K_X6_node_67, z1, z2, z3, z4, z5, z6, i1, i2, i3, zbind_some, zlt_e, if_true, if_false, reduceIte, u1, u2, w1, w2]
          exact ap 3 x2 x3 _ _ (Or.inr (Or.inr (Or.inl ⟨Or.inr (Or.inl rfl), ⟨j2, hj2, e⟩, ⟨j3, hj3, e3⟩⟩)))
    · show zBoth (pX5_node 4 x2 x3 Mc) (pX6_node 4 x2 x3 Mr)
      have i1 : pX6_in 4 1 4 Mr = some 1 := pR_in_y (by decide) (by decide)
      have i2 : pX6_in 4 2 4 Mr = some 1 := pR_in_y (by decide) (by decide)
      have i3 : pX6_in 4 0 5 Mr = some 1 := pR_in_y (by decide) (by decide)
      have z1 : ¬ (4 : Int32) < 0 := by decide
      have z2 : (4 : Int32) < 6 := by decide
      have z3 : ¬ (1 : Int32) = 0 := by decide
      have z4 : ¬ (4 : Int32) = 5 := by decide
      have z5 : ¬ (4 : Int32) = 0 := by decide
      have z6 : ¬ (4 : Int32) = 1 := by decide
      rcases n2 with ⟨u1, u2⟩ | ⟨j2, hj2, e, u1, u2⟩
      · simp only [pX5_node, pX2_fits, K_X2_fits_66, K_X2_fits_70, pX6_node, K_X6_node_46, K_X6_node_67, z1, z2, z3, z4, z5, z6, i1, i2, i3, zbind_some, zlt_e, if_true, if_false, reduceIte, u1, u2]
        exact bad
      · rcases n3 with ⟨w1, w2⟩ | ⟨j3, hj3, e3, w1, w2⟩
        · simp only [pX5_node, pX2_fits, K_X2_fits_66, K_X2_fits_70, pX6_node, K_X6_node_46, K_X6_node_67, z1, z2, z3, z4, z5, z6, i1, i2, i3, zbind_some, zlt_e, if_true, if_false, reduceIte, u1, u2, w1, w2]
          exact bad
        · simp only [pX5_node, pX2_fits, K_X2_fits_66, K_X2_fits_70, pX6_node, K_X6_node_46, K_X6_node_67, z1, z2, z3, z4, z5, z6, i1, i2, i3, zbind_some, zlt_e, if_true, if_false, reduceIte, u1, u2, w1, w2]
          exact ap 4 x2 x3 _ _ (Or.inr (Or.inr (Or.inl ⟨Or.inr (Or.inr rfl), ⟨j2, hj2, e⟩, ⟨j3, hj3, e3⟩⟩)))
    · show zBoth (pX5_node 5 x2 x3 Mc) (pX6_node 5 x2 x3 Mr)
      have i1 : pX6_in 5 1 4 Mr = some 0 := pR_in_n (by decide)
      have i2 : pX6_in 5 2 4 Mr = some 0 := pR_in_n (by decide)
      have i3 : pX6_in 5 0 5 Mr = some 1 := pR_in_y (by decide) (by decide)
      have z1 : ¬ (5 : Int32) < 0 := by decide
      have z2 : (5 : Int32) < 6 := by decide
      have z3 : ¬ (1 : Int32) = 0 := by decide
      have z4 : ¬ (5 : Int32) = 0 := by decide
      by_cases h2 : x2 = -1
      · by_cases h3 : x3 = -1
        · simp only [pX5_node, pX2_fits, K_X2_fits_21, K_X2_fits_35, pX6_node, K_X6_node_46, K_X6_node_67, z1, z2, z3, i1, i2, i3, zbind_some, zlt_e, if_true, if_false, reduceIte, z4, h2, h3]
          exact ap 5 (-1) (-1) _ _ (Or.inr <| Or.inr <| Or.inr ⟨rfl, rfl, rfl⟩)
        · simp only [pX5_node, pX2_fits, K_X2_fits_21, K_X2_fits_35, pX6_node, K_X6_node_46, K_X6_node_67, z1, z2, z3, i1, i2, i3, zbind_some, zlt_e, if_true, if_false, reduceIte, z4, h2, h3]
          exact bad
      · simp only [pX5_node, pX2_fits, K_X2_fits_21, K_X2_fits_35, pX6_node, K_X6_node_46, K_X6_node_67, z1, z2, z3, i1, i2, i3, zbind_some, zlt_e, if_true, if_false, reduceIte, z4, h2]
        exact bad
