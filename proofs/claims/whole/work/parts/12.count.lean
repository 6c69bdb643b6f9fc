/-! ===== count, cost ===== -/
theorem z_same {α : Type} {o : Option α} (h : ∃ r, o = some r) : ∃ r, o = some r ∧ o = some r := h.elim fun r hr => ⟨r, hr, hr⟩
theorem ite_some {α : Type} {c : Prop} {d : Decidable c} {a b : Option α} (ha : ∃ r, a = some r) (hb : ∃ r, b = some r) : ∃ r, (@ite _ c d a b) = some r := by
  by_cases h : c
  · rw [if_pos h]; exact ha
  · rw [if_neg h]; exact hb
def zct (f : Nat → Int32) : Nat → Nat
  | 0 => 0
  | k + 1 => zct f k + (if f k = 0 then 0 else 1)
theorem zct_le (f : Nat → Int32) : ∀ k, zct f k ≤ k
  | 0 => Nat.le_refl _
  | k + 1 => by
    have := zct_le f k
    unfold zct
    by_cases h : f k = 0 <;> simp [h] <;> omega
theorem zct_more (f : Nat → Int32) (N : Nat) (h : ∀ k, N ≤ k → f k = 0) : ∀ d, zct f (N + d) = zct f N
  | 0 => rfl
  | d + 1 => by
    show zct f (N + d) + (if f (N + d) = 0 then 0 else 1) = _
    rw [if_pos (h _ (by omega)), zct_more f N h d, Nat.add_zero]
theorem c_howMany {n la va : Nat} (hla : la < n) (hl : la < 1000000) (M : zM) : pX5_howMany n la va M = some (nI (zct (M.1 va) la)) := by
  unfold pX5_howMany
  simp only [zlt_e]
  obtain ⟨r, h1, h2⟩ := zwl_for (b := fun q => B_X5_howMany_4 n la va q.1 q.2 M) (fun i s => s = (nI (zct (M.1 va) i), nI i)) (fun r => r.1 = nI (zct (M.1 va) la)) la n ((0 : Int32), (0 : Int32)) hla rfl
    (fun i s hi hI => by
      subst hI
      by_cases c : M.1 va i = 0
      · refine ⟨_, by simp only [B_X5_howMany_4, K_X5_howMany_19]; rw [if_neg (nI_ge hi (by omega)), zchk_n hi (by omega), cl_n (by omega), if_pos c, zlt_e], ?_⟩
        refine Prod.ext ?_ (nI_1 i)
        show _ = nI (zct (M.1 va) i + (if M.1 va i = 0 then 0 else 1))
        rw [if_pos c]; rfl
      · refine ⟨_, by simp only [B_X5_howMany_4, K_X5_howMany_19]; rw [if_neg (nI_ge hi (by omega)), zchk_n hi (by omega), cl_n (by omega), if_neg c, zlt_e, zlt_e], ?_⟩
        refine Prod.ext ?_ (nI_1 i)
        show _ = nI (zct (M.1 va) i + (if M.1 va i = 0 then 0 else 1))
        rw [if_neg c]; exact nI_1 _)
    (fun s hI => by
      subst hI
      exact ⟨_, by simp only [B_X5_howMany_4]; rw [if_pos (nI_le (Nat.le_refl _) (by omega))], rfl⟩)
  rw [h1]
  obtain ⟨r1, r2⟩ := r
  rw [zb2_some]
  exact congrArg some h2
theorem r_countLoop {n N : Nat} (hn : 100 ≤ n) (hN : N ≤ 24) (x1 : Int32) (M : zM) (h0 : M.1 0 0 = nI N) : ∃ r : Int32 × Int32 × Int32 × Int32, zwl (fun q => B_X6_count_10 n x1 q.1 q.2.1 q.2.2.1 q.2.2.2 M) n ((0 : Int32), (0 : Int32), (0 : Int32), (0 : Int32)) = some r ∧ (r.1 = nI (zct (M.1 13) N) ∧ r.2.1 = nI (zct (M.1 14) N) ∧ r.2.2.1 = nI (zct (M.1 15) N)) := by
  refine zwl_for (fun i s => s = (nI (zct (M.1 13) i), nI (zct (M.1 14) i), nI (zct (M.1 15) i), nI i)) _ N n _ (by omega) rfl (fun i s hi hI => ?_) (fun s hI => ?_)
  · subst hI
    have st : ∀ (f : Nat → Int32), nI (zct f i) + (if f i = 0 then (0 : Int32) else 1) = nI (zct f (i + 1)) := fun f => by
      show _ = nI (zct f i + _)
      by_cases c : f i = 0
      · rw [if_pos c, if_pos c, Int32.add_zero]; rfl
      · rw [if_neg c, if_neg c]; exact nI_1 _
    have k1 : ∀ (α : Type) (q : Option α), zchk (nI i) 24 q = q := fun α q => zchk_n (by omega)
    have k3 : (nI i).toNatClampNeg = i := cl_n
    have e : B_X6_count_10 n x1 (nI (zct (M.1 13) i)) (nI (zct (M.1 14) i)) (nI (zct (M.1 15) i)) (nI i) M = some (.inl (nI (zct (M.1 13) i) + (if M.1 13 i = 0 then (0 : Int32) else 1), nI (zct (M.1 14) i) + (if M.1 14 i = 0 then (0 : Int32) else 1), nI (zct (M.1 15) i) + (if M.1 15 i = 0 then (0 : Int32) else 1), nI i + 1)) := by
      unfold B_X6_count_10 K_X6_count_35 K_X6_count_53 K_X6_count_72
      simp only [h0, k1, k3, zlt_e]
      rw [if_neg (nI_ge hi (by omega))]
      by_cases c1 : M.1 13 i = 0 <;> by_cases c2 : M.1 14 i = 0 <;> by_cases c3 : M.1 15 i = 0 <;> simp only [c1, c2, c3, if_true, if_false]
    refine ⟨_, e, ?_⟩
    rw [st, st, st, nI_1]
  · subst hI
    refine ⟨_, by simp only [B_X6_count_10]; rw [h0, if_pos (nI_le (Nat.le_refl _) (by omega))], rfl, rfl, rfl⟩
theorem b_count {Mc Mr : zM} {n : Nat} (hn100 : 100 ≤ n) (h : zRel Mc Mr) (x1 : Int32) : ∃ r, pX5_count n x1 Mc = some r ∧ pX6_count n x1 Mr = some r := by
  obtain ⟨N, I, S, T, V, sn, hok, hi, hn, hs, hsn⟩ := id h
  obtain ⟨⟨⟨b1, b2, b3, b4, b5, b6⟩, q0, q1, q2, q3, q4⟩, hnd, ⟨t1, t2, t3⟩, hst, hsh⟩ := id hok
  obtain ⟨⟨r1, r2, r3, r4⟩, p1, p2, p3, p4⟩ := r_countLoop (n := n) hn100 b1 x1 Mr q0
  dsimp only at p2 p3 p4
  have e : ∀ f : Nat → Int32, (∀ k, N ≤ k → f k = 0) → zct f 24 = zct f N := fun f hf => by
    have := zct_more f N hf (24 - N)
    rw [show N + (24 - N) = 24 by omega] at this; exact this
  have e13 := e _ (fun k hk => (t2 k hk).1)
  have e14 := e _ (fun k hk => (t2 k hk).2.1)
  have e15 := e _ (fun k hk => (t2 k hk).2.2)
  obtain ⟨g1, g2, g3, g4, g5, g6, g7, g8⟩ := hn
  obtain ⟨i1, i2, i3, i4, i5, i6⟩ := hi
  unfold pX5_count pX6_count
  simp only [zlt_e, p1, show ∀ (a b c d : Int32) (k : Int32 → Int32 → Int32 → Int32 → Option Int32), zb4 (some (a, b, c, d)) k = k a b c d from fun _ _ _ _ _ => rfl, c_howMany (n := n) (la := 24) (show 24 < n by omega) (by omega), zbind_some, g6, g7, g8, e13, e14, e15, p2, p3, p4, i1, i2, i3, i4, i5, i6]
  refine z_same ?_
  repeat (first | exact ⟨_, rfl⟩ | refine ite_some ?_ ?_)
theorem c_copies {M : zM} {k : Nat} (hk : k < 24) : pX2_copies (nI k) M = some (if M.1 16 k = 0 then 1 else 3) := by
  unfold pX2_copies
  rw [zchk_n hk, cl_n (by omega)]
  by_cases c : M.1 16 k = 0
  · rw [if_pos c, if_pos c]
  · rw [if_neg c, if_neg c]
theorem r_copies {M : zM} {k : Nat} (hk : k < 24) : pX6_copiesOf (nI k) M = some (if M.1 14 k = 0 then 1 else 3) := by
  unfold pX6_copiesOf
  rw [zchk_n hk, cl_n (by omega)]
  by_cases c : M.1 14 k = 0
  · rw [if_pos c, if_pos c]
  · rw [if_neg c, if_neg c]
theorem b_cost' {Mc Mr : zM} {n N : Nat} (hn100 : 100 ≤ n) (hN : N ≤ 24) (c2 : Mc.1 2 0 = nI N) (q0 : Mr.1 0 0 = nI N) (e14 : Mc.1 14 = Mr.1 16) (e16 : Mc.1 16 = Mr.1 14) (e17 : Mc.1 17 = Mr.1 15) (e1 : Mc.1 1 0 = Mr.1 4 0) : ∃ r, pX5_cost n Mc = some r ∧ pX6_cost n Mr = some r := by
  unfold pX5_cost pX6_cost
  simp only [zlt_e]
  obtain ⟨⟨a1, a2⟩, ⟨d1, d2⟩, h1, h2, h3⟩ := zwl_two (b1 := fun q => B_X5_cost_4 n q.1 q.2 Mc) (b2 := fun q => B_X6_cost_4 n q.1 q.2 Mr) (fun i s1 s2 => s1 = s2 ∧ s1.2 = nI i) (fun r1 r2 => r1.1 = r2.1) N
    (fun i s1 s2 hi hI => by
      obtain ⟨rfl, h2⟩ := hI
      obtain ⟨x, y⟩ := s1
      dsimp only at h2
      subst h2
      have k1 : ∀ (α : Type) (q : Option α), zchk (nI i) 24 q = q := fun α q => zchk_n (by omega)
      have k3 : (nI i).toNatClampNeg = i := cl_n
      have kc := c_copies (M := Mc) (k := i) (by omega)
      have kr := r_copies (M := Mr) (k := i) (by omega)
      rw [e16] at kc
      by_cases v : Mr.1 15 i = 0
      · refine ⟨_, _, by simp only [B_X5_cost_4, K_X5_cost_57]; rw [c2, if_neg (nI_ge hi (by omega)), k1, kc, zbind_some, zlt_e, k1, k3, e17, if_pos v, zlt_e], by simp only [B_X6_cost_4, K_X6_cost_44]; rw [q0, if_neg (nI_ge hi (by omega)), kr, zbind_some, k1, k1, k3, if_pos v, zlt_e, zlt_e], ?_, nI_1 i⟩
        rw [e14, Int32.add_zero, Int32.mul_comm]
      · refine ⟨_, _, by simp only [B_X5_cost_4, K_X5_cost_57]; rw [c2, if_neg (nI_ge hi (by omega)), k1, kc, zbind_some, zlt_e, k1, k3, e17, if_neg v, zlt_e, zlt_e], by simp only [B_X6_cost_4, K_X6_cost_44]; rw [q0, if_neg (nI_ge hi (by omega)), kr, zbind_some, k1, k1, k3, if_neg v, zlt_e, zlt_e], ?_, nI_1 i⟩
        rw [e14, e1, Int32.mul_comm (Mr.1 16 i), Int32.mul_comm (Mr.1 4 0), Int32.add_assoc])
    (fun s1 s2 hI => by
      obtain ⟨rfl, h2⟩ := hI
      obtain ⟨x, y⟩ := s1
      dsimp only at h2
      subst h2
      exact ⟨_, _, by simp only [B_X5_cost_4]; rw [c2, if_pos (nI_le (Nat.le_refl _) (by omega))], by simp only [B_X6_cost_4]; rw [q0, if_pos (nI_le (Nat.le_refl _) (by omega))], rfl⟩) N 0 n ((0 : Int32), (0 : Int32)) ((0 : Int32), (0 : Int32)) (by omega) (by omega) ⟨rfl, rfl⟩
  rw [h1, h2, zb2_some, zb2_some]
  dsimp only at h3
  exact ⟨_, rfl, by rw [h3]⟩
theorem b_cost {Mc Mr : zM} {n : Nat} (hn100 : 100 ≤ n) (h : zRel Mc Mr) : ∃ r, pX5_cost n Mc = some r ∧ pX6_cost n Mr = some r := by
  obtain ⟨N, I, S, T, V, sn, hok, hi, hn, hs, hsn⟩ := id h
  obtain ⟨⟨⟨b1, b2, b3, b4, b5, b6⟩, q0, q1, q2, q3, q4⟩, -⟩ := id hok
  exact b_cost' hn100 b1 (hi.1.trans q0) q0 hn.2.2.2.2.1 hn.2.2.2.2.2.2.1 hn.2.2.2.2.2.2.2 hi.2.2.2.2.1
