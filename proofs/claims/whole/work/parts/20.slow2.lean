/-- the greatest of m and of the numbers v s, s < S -/
def zgr (m : Nat) (v : Nat → Nat) (p : Nat → Bool) : Nat → Nat
  | 0 => m
  | s + 1 => if p s = true then max (zgr m v p s) (v s) else zgr m v p s
theorem zgr_ge (m : Nat) (v : Nat → Nat) (p : Nat → Bool) : ∀ S, m ≤ zgr m v p S
  | 0 => Nat.le_refl _
  | S + 1 => by
    have := zgr_ge m v p S
    unfold zgr
    split
    · exact Nat.le_trans this (Nat.le_max_left _ _)
    · exact this
theorem zgr_all (m : Nat) (v : Nat → Nat) (p : Nat → Bool) : ∀ S s, s < S → p s = true → v s ≤ zgr m v p S
  | 0, s, h, _ => by omega
  | S + 1, s, h, hp => by
    unfold zgr
    by_cases e : s = S
    · subst e; rw [if_pos hp]; exact Nat.le_max_right _ _
    · have := zgr_all m v p S s (by omega) hp
      split
      · exact Nat.le_trans this (Nat.le_max_left _ _)
      · exact this
theorem zgr_one (m : Nat) (v : Nat → Nat) (p : Nat → Bool) : ∀ S, zgr m v p S = m ∨ ∃ s, s < S ∧ p s = true ∧ zgr m v p S = v s
  | 0 => Or.inl rfl
  | S + 1 => by
    have ih := zgr_one m v p S
    unfold zgr
    by_cases hp : p S = true
    · rw [if_pos hp]
      by_cases c : v S ≤ zgr m v p S
      · rw [Nat.max_eq_left c]
        rcases ih with h | ⟨s, h1, h2, h3⟩
        · exact Or.inl h
        · exact Or.inr ⟨s, by omega, h2, h3⟩
      · rw [Nat.max_eq_right (by omega)]
        exact Or.inr ⟨S, by omega, hp, rfl⟩
    · rw [if_neg hp]
      rcases ih with h | ⟨s, h1, h2, h3⟩
      · exact Or.inl h
      · exact Or.inr ⟨s, by omega, h2, h3⟩
theorem zgr_le (m : Nat) (v : Nat → Nat) (p : Nat → Bool) {B : Nat} (hm : m ≤ B) : ∀ S, (∀ s, s < S → v s ≤ B) → zgr m v p S ≤ B
  | 0, _ => hm
  | S + 1, h => by
    have := zgr_le m v p hm S (fun s hs => h s (by omega))
    unfold zgr
    split
    · exact Nat.max_le.mpr ⟨this, h S (by omega)⟩
    · exact this
theorem b_slow {Mc Mr : zM} {n : Nat} (hn100 : 100 ≤ n) (h : zRel Mc Mr) : zBoth (pX2_slowness n Mc) (pX6_slow n Mr) := by
  obtain ⟨N, I, S, T, V, sn, hok, hi, hn, hs, hsn⟩ := id h
  obtain ⟨⟨⟨b1, b2, b3, b4, b5, b6⟩, q0, q1, q2, q3, q4⟩, hnd, ⟨t1, t2, t3⟩, hst, hsh⟩ := id hok
  obtain ⟨⟨y1, x1, M1⟩, ⟨y2, x2, M2⟩, p1, p2, kc, kr, ⟨m0, hm0, em1, em2⟩, hd⟩ := b_slow1 hn100 hok hi hn
  dsimp only at kc kr em1 em2 hd
  subst em1; subst em2
  obtain ⟨dp, hdp⟩ : ∃ dp : Nat → Nat, ∀ j, j < N → dp j ≤ 24 ∧ M1.1 19 j = nI (dp j) ∧ M2.1 24 j = nI (dp j) := ⟨fun j => (M1.1 19 j).toNatClampNeg, fun j hj => by
    obtain ⟨d, h1, h2, h3⟩ := hd j hj
    dsimp only
    rw [h2, cl_n (by omega)]; exact ⟨h1, rfl, h3⟩⟩
  obtain ⟨sa, hsa⟩ : ∃ sa : Nat → Nat, ∀ k, k < N → Mr.1 10 k = 5 → sa k < N ∧ Mr.1 11 k = nI (sa k) := ⟨fun k => (Mr.1 11 k).toNatClampNeg, fun k hk h5 => by
    obtain ⟨a, ha, e⟩ := ((hnd k hk).store h5).1
    dsimp only
    rw [e, cl_n (by omega)]; exact ⟨ha, rfl⟩⟩
  -- what a store's way comes to
  obtain ⟨vl, hvl⟩ : ∃ vl : Nat → Nat, ∀ k, vl k = if k < N ∧ Mr.1 10 k = 5 then dp (sa k) + (if Mr.1 15 k = 0 then 0 else 1) else 0 := ⟨_, fun _ => rfl⟩
  have vl25 : ∀ k, vl k ≤ 25 := fun k => by
    rw [hvl]
    split
    · rename_i c
      have := (hdp _ (hsa k c.1 c.2).1).1
      split <;> omega
    · omega
  have c4 : M1.1 4 0 = nI S := by rw [kc 4 (by decide)]; exact hi.2.2.1.trans q2
  have m18 : M1.1 18 = Mc.1 18 := kc 18 (by decide)
  have m11 : M1.1 11 = Mr.1 11 := (kc 11 (by decide)).trans hn.2.1
  have m17 : M1.1 17 = Mr.1 15 := (kc 17 (by decide)).trans hn.2.2.2.2.2.2.2
  have w0 : M2.1 0 0 = nI N := by rw [kr 0 (by decide)]; exact q0
  have w10 := kr 10 (by decide)
  have w11 := kr 11 (by decide)
  have w15 := kr 15 (by decide)
  obtain ⟨⟨z1, z2⟩, g1, g2⟩ := zwl_for (b := fun q => B_X2_slowness_115 n q.1 q.2 M1) (fun i s => s = (nI (zgr m0 (fun s => vl (sn s)) (fun _ => true) i), nI i)) (fun r => r.1 = nI (zgr m0 (fun s => vl (sn s)) (fun _ => true) S)) S n (nI m0, (0 : Int32)) (by omega) rfl
    (fun i s hiS hI => by
      subst hI
      obtain ⟨s1, s2, s3⟩ := hst.1 i hiS
      obtain ⟨a1, a2⟩ := hsa _ s1 s2
      obtain ⟨d1, d2, d3⟩ := hdp _ a1
      have k1 : ∀ (α : Type) (q : Option α), zchk (nI i) 24 q = q := fun α q => zchk_n (by omega)
      have k3 : (nI i).toNatClampNeg = i := cl_n
      have k5 : ∀ (α : Type) (q : Option α), zchk (nI (sn i)) 24 q = q := fun α q => zchk_n (by omega)
      have k6 : (nI (sn i)).toNatClampNeg = sn i := cl_n
      have k7 : ∀ (α : Type) (q : Option α), zchk (nI (sa (sn i))) 24 q = q := fun α q => zchk_n (by omega)
      have k8 : (nI (sa (sn i))).toNatClampNeg = sa (sn i) := cl_n
      have ge : ¬ nI S ≤ nI i := nI_ge hiS (by omega)
      have e18 : M1.1 18 i = nI (sn i) := by rw [m18]; exact hsn i hiS
      have bd := zgr_le m0 (fun s => vl (sn s)) (fun _ => true) (show m0 ≤ 25 by omega) i (fun s _ => vl25 _)
      have ev : vl (sn i) = dp (sa (sn i)) + (if Mr.1 15 (sn i) = 0 then 0 else 1) := by rw [hvl, if_pos ⟨s1, s2⟩]
      have v25 := vl25 (sn i)
      have nx : nI (zgr m0 (fun s => vl (sn s)) (fun _ => true) (i + 1)) = zmx (nI (zgr m0 (fun s => vl (sn s)) (fun _ => true) i)) (nI (vl (sn i))) := by
        rw [zmx_n (by omega) (by omega)]
        show nI (if (true = true) then _ else _) = _
        rw [if_pos rfl]
      by_cases c : Mr.1 15 (sn i) = 0
      · rw [if_pos c] at ev
        refine ⟨_, by simp only [B_X2_slowness_115, K_X2_slowness_156, c4, if_neg ge, k1, k3, e18, zlt_e, k5, k6, m11, a2, k7, k8, m17, if_pos c, d2]; rfl, ?_⟩
        rw [nx, ev, nI_1, show nI (dp (sa (sn i))) + 0 = nI (dp (sa (sn i)) + 0) from Int32.add_zero _]
      · rw [if_neg c] at ev
        refine ⟨_, by simp only [B_X2_slowness_115, K_X2_slowness_156, c4, if_neg ge, k1, k3, e18, zlt_e, k5, k6, m11, a2, k7, k8, m17, if_neg c, d2]; rfl, ?_⟩
        rw [nx, ev, nI_1, nI_1])
    (fun s hI => by
      subst hI
      exact ⟨_, by simp only [B_X2_slowness_115, c4, if_pos (nI_le (Nat.le_refl S) (show S < 2147483648 by omega))]; rfl, rfl⟩)
  obtain ⟨⟨z3, z4⟩, g3, g4⟩ := zwl_for (b := fun q => B_X6_slow_132 n q.1 q.2 M2) (fun i s => s = (nI (zgr m0 vl (fun _ => true) i), nI i)) (fun r => r.1 = nI (zgr m0 vl (fun _ => true) N)) N n (nI m0, (0 : Int32)) (by omega) rfl
    (fun i s hiN hI => by
      subst hI
      have k1 : ∀ (α : Type) (q : Option α), zchk (nI i) 24 q = q := fun α q => zchk_n (by omega)
      have k3 : (nI i).toNatClampNeg = i := cl_n
      have ge : ¬ nI N ≤ nI i := nI_ge hiN (by omega)
      have bd := zgr_le m0 vl (fun _ => true) (show m0 ≤ 25 by omega) i (fun s _ => vl25 _)
      have v25 := vl25 i
      have nx : nI (zgr m0 vl (fun _ => true) (i + 1)) = nI (max (zgr m0 vl (fun _ => true) i) (vl i)) := by
        show nI (if (true = true) then _ else _) = _
        rw [if_pos rfl]
      have tail : ∀ y : Int32, y = nI (vl i) → K_X6_slow_180 n (nI (zgr m0 vl (fun _ => true) i)) (nI i) y M2 = some (.inl (nI (zgr m0 vl (fun _ => true) (i + 1)), nI (i + 1))) := fun y hy => by
        subst hy
        rw [nx, ← nI_1]
        by_cases c : vl i ≤ zgr m0 vl (fun _ => true) i
        · simp only [K_X6_slow_180, K_X6_slow_191, zlt_e, if_pos (nI_le c (show zgr m0 vl (fun _ => true) i < 2147483648 by omega)), Nat.max_eq_left c]
        · simp only [K_X6_slow_180, K_X6_slow_191, zlt_e, if_neg (nI_ge (show zgr m0 vl (fun _ => true) i < vl i by omega) (show vl i < 2147483648 by omega)), Nat.max_eq_right (show zgr m0 vl (fun _ => true) i ≤ vl i by omega)]
      by_cases c5 : Mr.1 10 i = 5
      · obtain ⟨a1, a2⟩ := hsa _ hiN c5
        obtain ⟨d1, d2, d3⟩ := hdp _ a1
        have k7 : ∀ (α : Type) (q : Option α), zchk (nI (sa i)) 24 q = q := fun α q => zchk_n (by omega)
        have k8 : (nI (sa i)).toNatClampNeg = sa i := cl_n
        have ev : vl i = dp (sa i) + (if Mr.1 15 i = 0 then 0 else 1) := by rw [hvl, if_pos ⟨hiN, c5⟩]
        by_cases c : Mr.1 15 i = 0
        · rw [if_pos c] at ev
          refine ⟨_, by simp only [B_X6_slow_132, K_X6_slow_175, w0, if_neg ge, k1, k3, w10, if_pos c5, w11, a2, k7, k8, w15, if_pos c, d3]; exact tail _ (by rw [ev]; exact Int32.add_zero _), rfl⟩
        · rw [if_neg c] at ev
          refine ⟨_, by simp only [B_X6_slow_132, K_X6_slow_175, w0, if_neg ge, k1, k3, w10, if_pos c5, w11, a2, k7, k8, w15, if_neg c, d3]; exact tail _ (by rw [ev]; exact nI_1 _), rfl⟩
      · have ev : vl i = 0 := by rw [hvl, if_neg (fun q => c5 q.2)]
        refine ⟨_, by simp only [B_X6_slow_132, w0, if_neg ge, k1, k3, w10, if_neg c5]; exact tail _ (by rw [ev]; rfl), rfl⟩)
    (fun s hI => by
      subst hI
      exact ⟨_, by simp only [B_X6_slow_132, w0, if_pos (nI_le (Nat.le_refl N) (show N < 2147483648 by omega))]; rfl, rfl⟩)
  dsimp only at g2 g4
  have same : zgr m0 (fun s => vl (sn s)) (fun _ => true) S = zgr m0 vl (fun _ => true) N := by
    apply Nat.le_antisymm
    · rcases zgr_one m0 (fun s => vl (sn s)) (fun _ => true) S with e | ⟨s, hs', -, e⟩
      · rw [e]; exact zgr_ge _ _ _ _
      · rw [e]; exact zgr_all m0 vl (fun _ => true) N (sn s) (hst.1 s hs').1 rfl
    · rcases zgr_one m0 vl (fun _ => true) N with e | ⟨k, hk, -, e⟩
      · rw [e]; exact zgr_ge _ _ _ _
      · rw [e]
        by_cases c5 : Mr.1 10 k = 5
        · obtain ⟨s, s1, s2, s3⟩ := hst.2 k hk c5
          rw [← s3]; exact zgr_all m0 (fun s => vl (sn s)) (fun _ => true) S s s1 rfl
        · rw [hvl, if_neg (fun q => c5 q.2)]; exact Nat.zero_le _
  simp only [pX2_slowness, pX6_slow, zlt_e, p1, p2, show ∀ (a b : Int32) (c : zM) (k : Int32 → Int32 → zM → Option (Int32 × zM)), zb3 (some (a, b, c)) k = k a b c from fun _ _ _ _ => rfl, g1, g3, zb2_some, g2, g4, same]
  exact ⟨_, _, _, rfl, rfl, h.keep kc kr⟩
