/-! ===== a node more ===== -/
theorem zNd.more {M M' : zM} {N I S I' S' k : Nat} (h : zNd M N I S k) (hI : I ≤ I') (hS : S ≤ S') (e10 : M'.1 10 k = M.1 10 k) (e11 : M'.1 11 k = M.1 11 k) (e12 : M'.1 12 k = M.1 12 k) (e16 : M'.1 16 k = M.1 16 k) (e17 : M'.1 17 k = M.1 17 k) : zNd M' (N + 1) I' S' k := by
  unfold zNd at *
  rw [e10, e11, e12, e16, e17]
  obtain ⟨h1, h2⟩ := h
  refine ⟨h1, ?_⟩
  rcases h2 with ⟨a, b, c, u, hu, d⟩ | h2 | h2 | ⟨a, ⟨x, hx, b⟩, c, u, hu, d⟩
  · exact Or.inl ⟨a, b, c, u, by omega, d⟩
  · exact Or.inr (Or.inl h2)
  · exact Or.inr (Or.inr (Or.inl h2))
  · exact Or.inr (Or.inr (Or.inr ⟨a, ⟨x, by omega, b⟩, c, u, by omega, d⟩))
theorem zRel_add {Mc Mr Mc' Mr' : zM} {N I S T V I' S' : Nat} {sn : Nat → Nat} (hok : zOk Mr N I S T V sn) (hi : zEqI Mc Mr) (hn : zEqN Mc Mr) (hs : zEqS Mc Mr) (hsn : zSn Mc S sn) (hN : N < 24) (d a b u : Int32)
    (hI' : (I' = I + 1 ∧ d = 0) ∨ (I' = I ∧ ¬ d = 0)) (hS' : (S' = S + 1 ∧ d = 5 ∧ u = nI S) ∨ (S' = S ∧ ¬ d = 5))
    (r0 : Mr'.1 0 0 = nI (N + 1)) (r1 : Mr'.1 1 0 = nI I') (r2 : Mr'.1 2 0 = nI S') (r3 : Mr'.1 3 = Mr.1 3) (r4 : Mr'.1 4 = Mr.1 4) (r5 : Mr'.1 5 = Mr.1 5) (r10 : Mr'.1 10 = upd (Mr.1 10) N d) (r11 : Mr'.1 11 = upd (Mr.1 11) N a) (r12 : Mr'.1 12 = upd (Mr.1 12) N b) (r13 : Mr'.1 13 = Mr.1 13) (r14 : Mr'.1 14 = Mr.1 14) (r15 : Mr'.1 15 = Mr.1 15) (r16 : Mr'.1 16 = upd (Mr.1 16) N 1) (r17 : Mr'.1 17 = upd (Mr.1 17) N u) (r25 : Mr'.1 25 = Mr.1 25) (r26 : Mr'.1 26 = Mr.1 26) (r27 : Mr'.1 27 = Mr.1 27) (r28 : Mr'.1 28 = Mr.1 28)
    (c0 : Mc'.1 0 = Mc.1 0) (c1 : Mc'.1 1 = Mc.1 1) (c2 : Mc'.1 2 0 = nI (N + 1)) (c3 : Mc'.1 3 0 = nI I') (c4 : Mc'.1 4 0 = nI S') (c5 : Mc'.1 5 = Mc.1 5) (c10 : Mc'.1 10 = upd (Mc.1 10) N d) (c11 : Mc'.1 11 = upd (Mc.1 11) N a) (c12 : Mc'.1 12 = upd (Mc.1 12) N b) (c13 : Mc'.1 13 = upd (Mc.1 13) N u) (c14 : Mc'.1 14 = upd (Mc.1 14) N 1) (c15 : Mc'.1 15 = Mc.1 15) (c16 : Mc'.1 16 = Mc.1 16) (c17 : Mc'.1 17 = Mc.1 17) (c18 : Mc'.1 18 = if d = 5 then upd (Mc.1 18) S (nI N) else Mc.1 18) (c20 : Mc'.1 20 = Mc.1 20) (c21 : Mc'.1 21 = Mc.1 21) (c30 : ∀ s, s < 4 → Mc'.1 (30 + s) = Mc.1 (30 + s))
    (hnew : zNd Mr' (N + 1) I' S' N) : zRel Mc' Mr' := by
  obtain ⟨⟨hb, q0, q1, q2, q3, q4⟩, hnd, hbits, hst, hsh⟩ := hok
  have up : ∀ (f : Nat → Int32) (x : Int32) (k : Nat), k < N → upd f N x k = f k := fun f x k hk => by rw [upd_ap, if_neg (by omega)]
  refine ⟨N + 1, I', S', T, V, fun s => if s = S then N else sn s, ⟨⟨?_, r0, r1, r2, by rw [r3]; exact q3, by rw [r4]; exact q4⟩, ?_, ?_, ?_, ?_⟩, ?_, ?_, ?_, ?_⟩
  · have e1 : I' ≤ I + 1 := by rcases hI' with ⟨h, -⟩ | ⟨h, -⟩ <;> omega
    have e2 : S' ≤ S + 1 := by rcases hS' with ⟨h, -⟩ | ⟨h, -⟩ <;> omega
    omega
  · intro k hk
    by_cases hkN : k < N
    · refine (hnd k hkN).more (M' := Mr') ?_ ?_ (by rw [r10, up _ _ _ hkN]) (by rw [r11, up _ _ _ hkN]) (by rw [r12, up _ _ _ hkN]) (by rw [r16, up _ _ _ hkN]) (by rw [r17, up _ _ _ hkN])
      · rcases hI' with ⟨h, -⟩ | ⟨h, -⟩ <;> omega
      · rcases hS' with ⟨h, -⟩ | ⟨h, -⟩ <;> omega
    · have : k = N := by omega
      subst this; exact hnew
  · obtain ⟨b1, b2, b3⟩ := hbits
    refine ⟨by rw [r13, r14, r15]; exact b1, fun k hk => by rw [r13, r14, r15]; exact b2 k (by omega), fun k hk => ?_⟩
    rw [r15] at hk
    obtain ⟨h1, h2⟩ := b3 k hk
    refine ⟨by rw [r14]; exact h1, ?_⟩
    have hkN : k < N := Nat.lt_of_not_le fun q => by
      have := (b2 k q).2.2
      rw [this] at hk; exact absurd hk (by decide)
    rw [r10, up _ _ _ hkN]; exact h2
  · obtain ⟨s1, s2⟩ := hst
    refine ⟨fun s hs => ?_, fun k hk h5 => ?_⟩
    · by_cases e : s = S
      · subst e
        rcases hS' with ⟨-, hd, hu⟩ | ⟨h, -⟩
        · refine ⟨by simp, ?_, ?_⟩
          · simp only [if_pos, r10, upd_ap]; exact hd
          · simp only [if_pos, r17, upd_ap]; exact hu
        · omega
      · have hs' : s < S := by rcases hS' with ⟨h, -⟩ | ⟨h, -⟩ <;> omega
        obtain ⟨t1, t2, t3⟩ := s1 s hs'
        simp only [if_neg e]
        exact ⟨by omega, by rw [r10, up _ _ _ t1]; exact t2, by rw [r17, up _ _ _ t1]; exact t3⟩
    · by_cases hkN : k < N
      · rw [r10, up _ _ _ hkN] at h5
        obtain ⟨s, t1, t2, t3⟩ := s2 k hkN h5
        exact ⟨s, by rcases hS' with ⟨h, -⟩ | ⟨h, -⟩ <;> omega, by rw [r17, up _ _ _ hkN]; exact t2, by simp only [if_neg (show ¬ s = S by omega)]; exact t3⟩
      · have e : k = N := by omega
        subst e
        rw [r10, upd_ap, if_pos rfl] at h5
        rcases hS' with ⟨h, -, hu⟩ | ⟨-, h⟩
        · exact ⟨S, by omega, by rw [r17, upd_ap, if_pos rfl]; exact hu, by simp⟩
        · exact absurd h5 h
  · intro s hs
    rw [r25, r26, r27]; exact hsh s hs
  · obtain ⟨-, -, -, g4, g5, g6⟩ := hi
    exact ⟨by rw [c2, r0], by rw [c3, r1], by rw [c4, r2], by rw [c0, r3]; exact g4, by rw [c1, r4]; exact g5, by rw [c5, r5]; exact g6⟩
  · obtain ⟨g1, g2, g3, g4, g5, g6, g7, g8⟩ := hn
    exact ⟨by rw [c10, r10, g1], by rw [c11, r11, g2], by rw [c12, r12, g3], by rw [c13, r17, g4], by rw [c14, r16, g5], by rw [c15, r13, g6], by rw [c16, r14, g7], by rw [c17, r15, g8]⟩
  · intro s hs4
    rw [c20, c21, r25, r26, r27, r28, c30 s hs4]; exact hs s hs4
  · intro s hs4
    rw [c18]
    by_cases e : s = S
    · subst e
      rcases hS' with ⟨-, hd, -⟩ | ⟨h, -⟩
      · simp only [if_pos hd, upd_ap, if_pos]
      · omega
    · have hs' : s < S := by rcases hS' with ⟨h, -⟩ | ⟨h, -⟩ <;> omega
      simp only [if_neg e]
      by_cases hd : d = 5
      · rw [if_pos hd, upd_ap, if_neg e]; exact hsn s hs'
      · rw [if_neg hd]; exact hsn s hs'
