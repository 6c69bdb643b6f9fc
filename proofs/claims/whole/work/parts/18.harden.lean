theorem b_bestSet {Mc Mr : zM} {n N I S T V : Nat} {sn : Nat → Nat} (hn5 : 5000 ≤ n) (hok : zOk Mr N I S T V sn) (hi : zEqI Mc Mr) (hn : zEqN Mc Mr) (hsn : zSn Mc S sn) (hS : S ≤ 12) :
    ∃ M1 M2 b, b < 4096 ∧ pX5_best n Mc = some (nI b, M1) ∧ pX6_bestSet n Mr = some (nI b, M2) ∧ zKeepC Mc M1 ∧ zKeepR Mr M2 := by
  obtain ⟨⟨⟨b1, b2, b3, b4, b5, b6⟩, q0, q1, q2, q3, q4⟩, hnd, hbits, hst, hsh⟩ := id hok
  have hp := pow_S hS
  have c4 : Mc.1 4 0 = nI S := hi.2.2.1.trans q2
  obtain ⟨M1, M2, L, p1, p2, kc, kr, l8, hL⟩ := b_reach (n := n) (by omega) hok hi hn hsn
  have pr0 : ∀ s, s < S → ∃ q, q ≤ 1000 ∧ Mr.1 16 (sn s) = nI q := fun s hs => (hnd _ (hst.1 s hs).1).1
  obtain ⟨pr, hpr⟩ : ∃ pr : Nat → Nat, ∀ s, s < S → pr s ≤ 1000 ∧ Mr.1 16 (sn s) = nI (pr s) := ⟨fun s => (Mr.1 16 (sn s)).toNatClampNeg, fun s hs => by
    obtain ⟨q, hq, e⟩ := pr0 s hs
    dsimp only
    rw [e, cl_n (by omega)]; exact ⟨hq, rfl⟩⟩
  have s24 : ∀ s, s < S → sn s < 24 := fun s hs => by have := (hst.1 s hs).1; omega
  have h2 : M2.1 2 0 = nI S := by rw [kr 2 (by decide)]; exact q2
  have hp1 : ∀ s, s < S → sn s < 24 ∧ M1.1 18 s = nI (sn s) ∧ M1.1 14 (sn s) = nI (pr s) := fun s hs => ⟨s24 s hs, by rw [kc 18 (by decide)]; exact hsn s hs, by rw [kc 14 (by decide), hn.2.2.2.2.1]; exact (hpr s hs).2⟩
  have hp2 : ∀ s, s < S → sn s < 24 ∧ M2.1 23 s = nI (sn s) ∧ M2.1 16 (sn s) = nI (pr s) := fun s hs => ⟨s24 s hs, (hL s hs).2.1, by rw [kr 16 (by decide)]; exact (hpr s hs).2⟩
  obtain ⟨⟨x1, x2, x3⟩, ⟨y1, y2, y3⟩, w1, w2, b, hb, w3, w4⟩ := b_search (n := n) (N := N) (L := L) (sn := sn) (pr := pr) hn5 b1 hS l8 h2 (fun s hs => (hL s hs).1) (fun s hs => ⟨s24 s hs, (hL s hs).2⟩) hp1 hp2 (fun s hs => (hpr s hs).1)
  dsimp only at w3 w4
  subst w3; subst w4
  have le12 : nI S ≤ (12 : Int32) := nI_le (a := S) (b := 12) hS (by decide)
  have full : nI (2 ^ S) - 1 = nI (2 ^ S - 1) := by rw [show (1 : Int32) = nI 1 from rfl, pk_sub hp.2]
  have pF := c_price (n := n) (by omega) (show S ≤ 24 by omega) l8 hp1 (nI (2 ^ S - 1))
  refine ⟨M1, M2, b, by omega, ?_, ?_, kc, kr⟩
  · simp only [pX5_best, pX1_cheapest, c4, if_pos le12, p1, zbind_some, l8, shl_S hS, full, zlt_e, pF, w1]
    rfl
  · simp only [pX6_bestSet, p2, zbind_some, zlt_e, w2]
    rfl
theorem b_best {Mc Mr : zM} {n : Nat} (hn5 : 5000 ≤ n) (h : zRel Mc Mr) : zBoth (pX5_best n Mc) (pX6_best n Mr) := by
  obtain ⟨N, I, S, T, V, sn, hok, hi, hn, hs, hsn⟩ := id h
  obtain ⟨⟨⟨b1, b2, b3, b4, b5, b6⟩, q0, q1, q2, q3, q4⟩, hnd, hbits, hst, hsh⟩ := id hok
  have c4 : Mc.1 4 0 = nI S := hi.2.2.1.trans q2
  by_cases hS : S ≤ 12
  · obtain ⟨M1, M2, b, hb, p1, p2, kc, kr⟩ := b_bestSet hn5 hok hi hn hsn hS
    have le12 : nI S ≤ (12 : Int32) := nI_le (a := S) (b := 12) hS (by decide)
    rw [p1]
    simp only [pX6_best, q2, if_pos le12, p2, zb2_some]
    exact ⟨_, _, _, rfl, rfl, h.keep kc kr⟩
  · have gt12 : ¬ nI S ≤ (12 : Int32) := nI_ge (a := 12) (b := S) (by omega) (by omega)
    simp only [pX5_best, pX6_best, c4, q2, if_neg gt12]
    exact ⟨_, _, _, rfl, rfl, h⟩
theorem b_hardLoop {Mc Mr : zM} {n b : Nat} (hn100 : 100 ≤ n) (h : zRel Mc Mr) : ∃ (r1 r2 : Int32 × zM), zwl (fun q => B_X5_harden_13 n (nI b) q.1 q.2) n ((0 : Int32), Mc) = some r1 ∧ zwl (fun q => B_X6_harden_19 n (nI b) q.1 q.2) n ((0 : Int32), Mr) = some r2 ∧ zRel r1.2 r2.2 := by
  obtain ⟨N, I, S, T, V, sn, hok, hi, hn, hs, hsn⟩ := id h
  obtain ⟨⟨⟨b1, b2, b3, b4, b5, b6⟩, q0, q1, q2, q3, q4⟩, hnd, ⟨t1, t2, t3⟩, hst, hsh⟩ := id hok
  have c2 : Mc.1 2 0 = nI N := hi.1.trans q0
  obtain ⟨vt, hvt⟩ : ∃ vt : Nat → Int32, ∀ k, vt k = if Mr.1 10 k = 5 ∧ (nI b >>> (Mr.1 17 k &&& 31)) &&& 1 = 1 then 1 else 0 := ⟨_, fun _ => rfl⟩
  have vt01 : ∀ k, vt k = 0 ∨ vt k = 1 := fun k => by
    rw [hvt]
    split
    · exact Or.inr rfl
    · exact Or.inl rfl
  obtain ⟨f, hf⟩ : ∃ f : Nat → Nat → Int32, ∀ i k, f i k = if k < i then 1 else Mr.1 14 k := ⟨_, fun _ _ => rfl⟩
  obtain ⟨g, hg⟩ : ∃ g : Nat → Nat → Int32, ∀ i k, g i k = if k < i then vt k else Mr.1 15 k := ⟨_, fun _ _ => rfl⟩
  have fs : ∀ i, upd (f i) i 1 = f (i + 1) := fun i => by
    funext k
    rw [upd_ap, hf, hf]
    by_cases e : k = i
    · rw [if_pos e, if_pos (by omega)]
    · rw [if_neg e]
      by_cases e2 : k < i
      · rw [if_pos e2, if_pos (by omega)]
      · rw [if_neg e2, if_neg (by omega)]
  have gs : ∀ i, upd (g i) i (vt i) = g (i + 1) := fun i => by
    funext k
    rw [upd_ap, hg, hg]
    by_cases e : k = i
    · rw [if_pos e, if_pos (by omega), e]
    · rw [if_neg e]
      by_cases e2 : k < i
      · rw [if_pos e2, if_pos (by omega)]
      · rw [if_neg e2, if_neg (by omega)]
  have f0 : f 0 = Mr.1 14 := by funext k; rw [hf, if_neg (by omega)]
  have g0 : g 0 = Mr.1 15 := by funext k; rw [hg, if_neg (by omega)]
  refine zwl_two (fun i s1 s2 => s1.1 = nI i ∧ s2.1 = nI i ∧ (∀ v, ¬ v = 16 → ¬ v = 17 → s1.2.1 v = Mc.1 v) ∧ (∀ v, ¬ v = 14 → ¬ v = 15 → s2.2.1 v = Mr.1 v) ∧ s1.2.1 16 = f i ∧ s1.2.1 17 = g i ∧ s2.2.1 14 = f i ∧ s2.2.1 15 = g i) _ N ?_ ?_ N 0 n _ _ (by omega) (by omega) ⟨rfl, rfl, fun _ _ _ => rfl, fun _ _ _ => rfl, by rw [f0]; exact hn.2.2.2.2.2.2.1, by rw [g0]; exact hn.2.2.2.2.2.2.2, f0.symm, g0.symm⟩
  · rintro i ⟨x1, M1⟩ ⟨x2, M2⟩ hiN ⟨e1, e2, k1, k2, a1, a2, a3, a4⟩
    dsimp only at e1 e2 k1 k2 a1 a2 a3 a4
    subst e1; subst e2
    have z1 : ∀ (α : Type) (q : Option α), zchk (nI i) 24 q = q := fun α q => zchk_n (by omega)
    have z3 : (nI i).toNatClampNeg = i := cl_n
    have ge : ¬ nI N ≤ nI i := nI_ge hiN (by omega)
    have d2 : M1.1 2 0 = nI N := by rw [k1 2 (by decide) (by decide)]; exact c2
    have d0 : M2.1 0 0 = nI N := by rw [k2 0 (by decide) (by decide)]; exact q0
    have m10 : ∀ x, (zsI M1 16 i x).1 10 i = Mr.1 10 i := fun x => by show M1.1 10 i = _; rw [k1 10 (by decide) (by decide), hn.1]
    have m13 : ∀ x, (zsI M1 16 i x).1 13 i = Mr.1 17 i := fun x => by show M1.1 13 i = _; rw [k1 13 (by decide) (by decide), hn.2.2.2.1]
    have w10 : ∀ x, (zsI M2 14 i x).1 10 i = Mr.1 10 i := fun x => by show M2.1 10 i = _; rw [k2 10 (by decide) (by decide)]
    have w17 : ∀ x, (zsI M2 14 i x).1 17 i = Mr.1 17 i := fun x => by show M2.1 17 i = _; rw [k2 17 (by decide) (by decide)]
    have eC : B_X5_harden_13 n (nI b) (nI i) M1 = some (.inl (nI i + 1, zsI (zsI M1 16 i 1) 17 i (vt i))) := by
      rw [hvt]
      by_cases c5 : Mr.1 10 i = 5
      · by_cases cb : (nI b >>> (Mr.1 17 i &&& 31)) &&& 1 = 1
        · simp only [B_X5_harden_13, K_X5_harden_77, d2, if_neg ge, z1, z3, zst_e, zlt_e, vnar1, m10, m13, if_pos c5, if_pos cb, if_pos (And.intro c5 cb)]
        · simp only [B_X5_harden_13, K_X5_harden_77, K_X5_harden_76, d2, if_neg ge, z1, z3, zst_e, zlt_e, vnar1, vnar0, m10, m13, if_pos c5, if_neg cb, if_neg (fun q : _ ∧ _ => cb q.2)]
      · simp only [B_X5_harden_13, K_X5_harden_77, K_X5_harden_76, d2, if_neg ge, z1, z3, zst_e, zlt_e, vnar1, vnar0, m10, m13, if_neg c5, if_neg (fun q : _ ∧ _ => c5 q.1)]
    have eR : B_X6_harden_19 n (nI b) (nI i) M2 = some (.inl (nI i + 1, zsI (zsI M2 14 i 1) 15 i (vt i))) := by
      rw [hvt]
      by_cases c5 : Mr.1 10 i = 5
      · by_cases cb : (nI b >>> (Mr.1 17 i &&& 31)) &&& 1 = 1
        · simp only [B_X6_harden_19, K_X6_harden_68, d0, if_neg ge, z1, z3, zst_e, zlt_e, vnar1, w10, w17, if_pos c5, if_pos cb, if_pos (And.intro c5 cb)]
        · simp only [B_X6_harden_19, K_X6_harden_68, K_X6_harden_67, d0, if_neg ge, z1, z3, zst_e, zlt_e, vnar1, vnar0, w10, w17, if_pos c5, if_neg cb, if_neg (fun q : _ ∧ _ => cb q.2)]
      · simp only [B_X6_harden_19, K_X6_harden_68, K_X6_harden_67, d0, if_neg ge, z1, z3, zst_e, zlt_e, vnar1, vnar0, w10, w17, if_neg c5, if_neg (fun q : _ ∧ _ => c5 q.1)]
    refine ⟨_, _, eC, eR, nI_1 i, nI_1 i, fun v h1 h2 => ?_, fun v h1 h2 => ?_, ?_, ?_, ?_, ?_⟩
    · simp only [zsI_1, if_neg h1, if_neg h2]; exact k1 v h1 h2
    · simp only [zsI_1, if_neg h1, if_neg h2]; exact k2 v h1 h2
    · show upd (M1.1 16) i 1 = _
      rw [a1, fs]
    · show upd (M1.1 17) i (vt i) = _
      rw [a2, gs]
    · show upd (M2.1 14) i 1 = _
      rw [a3, fs]
    · show upd (M2.1 15) i (vt i) = _
      rw [a4, gs]
  · rintro ⟨x1, M1⟩ ⟨x2, M2⟩ ⟨e1, e2, k1, k2, a1, a2, a3, a4⟩
    dsimp only at e1 e2 k1 k2 a1 a2 a3 a4
    subst e1; subst e2
    have le : nI N ≤ nI N := nI_le (Nat.le_refl _) (by omega)
    have d2 : M1.1 2 0 = nI N := by rw [k1 2 (by decide) (by decide)]; exact c2
    have d0 : M2.1 0 0 = nI N := by rw [k2 0 (by decide) (by decide)]; exact q0
    refine ⟨_, _, by simp only [B_X5_harden_13, d2, if_pos le]; rfl, by simp only [B_X6_harden_19, d0, if_pos le]; rfl, ?_⟩
    refine rel_marks hok hi hn hs hsn (f N) (g N) k2 k1 a3 a4 a1 a2 (fun k => ?_) (fun k hk => ?_) (fun k hk => ?_)
    · rw [hf, hg]
      by_cases c : k < N
      · rw [if_pos c, if_pos c]; exact ⟨Or.inr rfl, vt01 k⟩
      · rw [if_neg c, if_neg c]; exact (t1 k).2
    · rw [hf, hg, if_neg (by omega), if_neg (by omega)]; exact (t2 k hk).2
    · rw [hg] at hk
      by_cases c : k < N
      · rw [if_pos c, hvt] at hk
        rw [hf, if_pos c]
        refine ⟨rfl, Classical.byContradiction fun q => ?_⟩
        rw [if_neg (fun w : _ ∧ _ => q w.1)] at hk
        exact absurd hk (by decide)
      · rw [if_neg c, (t2 k (by omega)).2.2] at hk
        exact absurd hk (by decide)
theorem b_harden {Mc Mr : zM} {n : Nat} (hn5 : 5000 ≤ n) (h : zRel Mc Mr) : zBoth (pX5_harden n Mc) (pX6_harden n Mr) := by
  obtain ⟨N, I, S, T, V, sn, hok, hi, hn, hs, hsn⟩ := id h
  obtain ⟨⟨⟨b1, b2, b3, b4, b5, b6⟩, q0, q1, q2, q3, q4⟩, hnd, hbits, hst, hsh⟩ := id hok
  have c4 : Mc.1 4 0 = nI S := hi.2.2.1.trans q2
  by_cases hS : S ≤ 12
  · obtain ⟨M1, M2, b, hb, p1, p2, kc, kr⟩ := b_bestSet hn5 hok hi hn hsn hS
    have le12 : nI S ≤ (12 : Int32) := nI_le (a := S) (b := 12) hS (by decide)
    obtain ⟨⟨x1, Ma⟩, ⟨x2, Mb⟩, w1, w2, w3⟩ := b_hardLoop (b := b) (n := n) (by omega) (h.keep kc kr)
    have pos : (0 : Int32) ≤ nI b := nI_pos' (by omega)
    simp only [pX5_harden, pX6_harden, q2, if_pos le12, p1, p2, zb2_some, zlt_e, if_pos pos, w1, w2, c_bits hb, r_ones (n := n) (by omega), zbind_some]
    exact ⟨_, _, _, rfl, rfl, w3⟩
  · have gt12 : ¬ nI S ≤ (12 : Int32) := nI_ge (a := 12) (b := S) (by omega) (by omega)
    have neg : ¬ (0 : Int32) ≤ -3 := by decide
    simp only [pX5_harden, pX5_best, pX6_harden, c4, q2, if_neg gt12, zb2_some, zlt_e, if_neg neg]
    exact ⟨_, _, _, rfl, rfl, h⟩
