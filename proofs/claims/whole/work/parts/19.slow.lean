theorem zmx_n {a b : Nat} (ha : a < 1000000) (hb : b < 1000000) : zmx (nI a) (nI b) = nI (max a b) := by
  unfold zmx
  by_cases h : a < b
  · rw [if_pos (nI_lt h (by omega)), Nat.max_eq_right (by omega)]
  · rw [if_neg (nI_nlt (by omega) (by omega)), Nat.max_eq_left (by omega)]
theorem zmx_r {a b : Nat} (ha : a < 1000000) (hb : b < 1000000) : (if nI b ≤ nI a then nI a else nI b) = nI (max a b) := by
  by_cases h : b ≤ a
  · rw [if_pos (nI_le h (by omega)), Nat.max_eq_left h]
  · rw [if_neg (nI_ge (by omega) (by omega)), Nat.max_eq_right (by omega)]
theorem b_slow1 {Mc Mr : zM} {n N I S T V : Nat} {sn : Nat → Nat} (hn100 : 100 ≤ n) (hok : zOk Mr N I S T V sn) (hi : zEqI Mc Mr) (hn : zEqN Mc Mr) :
    ∃ (r1 r2 : Int32 × Int32 × zM), zwl (fun q => B_X2_slowness_4 n q.1 q.2.1 q.2.2) n ((0 : Int32), (0 : Int32), Mc) = some r1 ∧ zwl (fun q => B_X6_slow_4 n q.1 q.2.1 q.2.2) n ((0 : Int32), (0 : Int32), Mr) = some r2 ∧ (zKeepC Mc r1.2.2 ∧ zKeepR Mr r2.2.2 ∧ (∃ m, m ≤ 24 ∧ r1.1 = nI m ∧ r2.1 = nI m) ∧ ∀ j, j < N → ∃ d, d ≤ 24 ∧ r1.2.2.1 19 j = nI d ∧ r2.2.2.1 24 j = nI d) := by
  obtain ⟨⟨⟨b1, b2, b3, b4, b5, b6⟩, q0, q1, q2, q3, q4⟩, hnd, hbits, hst, hsh⟩ := id hok
  have c2 : Mc.1 2 0 = nI N := hi.1.trans q0
  refine zwl_two (fun i s1 s2 => s1.2.1 = nI i ∧ s2.2.1 = nI i ∧ zKeepC Mc s1.2.2 ∧ zKeepR Mr s2.2.2 ∧ (∃ m, m ≤ i ∧ s1.1 = nI m ∧ s2.1 = nI m) ∧ ∀ j, j < i → ∃ d, d ≤ j ∧ s1.2.2.1 19 j = nI d ∧ s2.2.2.1 24 j = nI d) _ N ?_ ?_ N 0 n _ _ (by omega) (by omega) ⟨rfl, rfl, zKeepC.rf _, zKeepR.rf _, ⟨0, Nat.le_refl _, rfl, rfl⟩, fun j hj => by omega⟩
  · rintro i ⟨y1, x1, M1⟩ ⟨y2, x2, M2⟩ hiN ⟨e1, e2, kc, kr, ⟨mm, hmm, em1, em2⟩, ih⟩
    dsimp only at e1 e2 kc kr ih em1 em2
    subst e1; subst e2; subst em1; subst em2
    have k1 : ∀ (α : Type) (q : Option α), zchk (nI i) 24 q = q := fun α q => zchk_n (by omega)
    have k3 : (nI i).toNatClampNeg = i := cl_n
    have d2 : M1.1 2 0 = nI N := by rw [kc 2 (by decide)]; exact c2
    have d0 : M2.1 0 0 = nI N := by rw [kr 0 (by decide)]; exact q0
    have m10 : ∀ x, (zsI M1 19 i x).1 10 = Mr.1 10 := fun x => (kc 10 (by decide)).trans hn.1
    have m11 : ∀ x, (zsI M1 19 i x).1 11 = Mr.1 11 := fun x => (kc 11 (by decide)).trans hn.2.1
    have m12 : ∀ x, (zsI M1 19 i x).1 12 = Mr.1 12 := fun x => (kc 12 (by decide)).trans hn.2.2.1
    have m15 : ∀ x y, (zsI (zsI M1 19 i x) 19 i y).1 15 = Mr.1 13 := fun x y => (kc 15 (by decide)).trans hn.2.2.2.2.2.1
    have m15' : ∀ x, (zsI M1 19 i x).1 15 = Mr.1 13 := fun x => (kc 15 (by decide)).trans hn.2.2.2.2.2.1
    have w10 := kr 10 (by decide)
    have w11 := kr 11 (by decide)
    have w12 := kr 12 (by decide)
    have w13 : ∀ x, (zsI M2 24 i x).1 13 = Mr.1 13 := fun x => kr 13 (by decide)
    have ge : ¬ nI N ≤ nI i := nI_ge hiN (by omega)
    -- the end of a step: the depth d laid on both sides, the greatest brought up to date
    have tailC : ∀ (M : zM) (d : Nat), d ≤ i → M.1 15 = Mr.1 13 → M.1 19 i = nI d → K_X2_slowness_87 n (nI mm) (nI i) M = some (.inl (nI (if Mr.1 13 i = 0 then mm else max mm d), nI i + 1, M)) := fun M d hd h15 h19 => by
      by_cases c : Mr.1 13 i = 0
      · simp only [K_X2_slowness_87, K_X2_slowness_107, k1, k3, h15, if_pos c, zlt_e]
      · simp only [K_X2_slowness_87, K_X2_slowness_107, k1, k3, h15, h19, if_neg c, zlt_e, zmx_n (show mm < 1000000 by omega) (show d < 1000000 by omega)]
    have tailR : ∀ (x3 x4 y0 : Int32) (d : Nat), d ≤ i → (1 : Int32) + y0 = nI d → K_X6_slow_92 n (nI mm) (nI i) x3 x4 y0 1 (nI i) M2 = some (.inl (nI (if Mr.1 13 i = 0 then mm else max mm d), nI i + 1, zsI M2 24 i (nI d))) := fun x3 x4 y0 d hd hy => by
      have e24 : (zsI M2 24 i (nI d)).1 24 i = nI d := by
        show upd (M2.1 24) i (nI d) i = _
        rw [upd_ap, if_pos rfl]
      by_cases c : Mr.1 13 i = 0
      · simp only [K_X6_slow_92, K_X6_slow_122, K_X6_slow_123, k1, k3, zst_e, zlt_e, hy, w13, if_pos c]
      · by_cases c2 : d ≤ mm
        · simp only [K_X6_slow_92, K_X6_slow_122, K_X6_slow_123, k1, k3, zst_e, zlt_e, hy, w13, if_neg c, e24, if_pos (nI_le c2 (show mm < 2147483648 by omega)), Nat.max_eq_left c2]
        · simp only [K_X6_slow_92, K_X6_slow_123, k1, k3, zst_e, zlt_e, hy, w13, if_neg c, e24, if_neg (nI_ge (show mm < d by omega) (show d < 2147483648 by omega)), Nat.max_eq_right (show mm ≤ d by omega)]
    have fin : ∀ (M : zM) (d : Nat), d ≤ i → zKeepC Mc M → M.1 19 = upd (M1.1 19) i (nI d) → (nI i + 1 = nI (i + 1) ∧ nI i + 1 = nI (i + 1) ∧ zKeepC Mc M ∧ zKeepR Mr (zsI M2 24 i (nI d)) ∧ (∃ m, m ≤ i + 1 ∧ nI (if Mr.1 13 i = 0 then mm else max mm d) = nI m ∧ nI (if Mr.1 13 i = 0 then mm else max mm d) = nI m) ∧ ∀ j, j < i + 1 → ∃ d', d' ≤ j ∧ M.1 19 j = nI d' ∧ (zsI M2 24 i (nI d)).1 24 j = nI d') := fun M d hd hk h19 => by
      refine ⟨nI_1 i, nI_1 i, hk, kr.tr (keepR_set (by decide)), ⟨_, ?_, rfl, rfl⟩, fun j hj => ?_⟩
      · split
        · omega
        · exact Nat.max_le.mpr ⟨by omega, by omega⟩
      · rw [h19, show (zsI M2 24 i (nI d)).1 24 = upd (M2.1 24) i (nI d) from rfl, upd_ap, upd_ap]
        by_cases e : j = i
        · rw [if_pos e, if_pos e]; exact ⟨d, by omega, rfl, rfl⟩
        · rw [if_neg e, if_neg e]; exact ih j (by omega)
    have kc1 : ∀ x, zKeepC Mc (zsI M1 19 i x) := fun x => kc.tr (keepC_set (by decide))
    have kc2 : ∀ x y, zKeepC Mc (zsI (zsI M1 19 i x) 19 i y) := fun x y => (kc1 x).tr (keepC_set (by decide))
    have u2 : ∀ x y, (zsI (zsI M1 19 i x) 19 i y).1 19 = upd (M1.1 19) i y := fun x y => upd_upd _ _ _ _
    have u2i : ∀ x y, (zsI (zsI M1 19 i x) 19 i y).1 19 i = y := fun x y => by rw [u2, upd_ap, if_pos rfl]
    have u1i : ∀ x, (zsI M1 19 i x).1 19 i = x := fun x => by show upd (M1.1 19) i x i = _; rw [upd_ap, if_pos rfl]
    have old : ∀ x j, j < i → (zsI M1 19 i x).1 19 j = M1.1 19 j := fun x j hj => by show upd (M1.1 19) i x j = _; rw [upd_ap, if_neg (by omega)]
    have lem1 : (-1 : Int32) ≤ -1 := by decide
    obtain ⟨-, hk⟩ := hnd i hiN
    rcases hk with ⟨h10, h11, h12, u, hu, h17⟩ | ⟨h10, ⟨a, ha, h11⟩, h12, h17⟩ | ⟨h10, ⟨a, ha, h11⟩, ⟨b, hb, h12⟩, h17⟩ | ⟨h10, ⟨a, ha, h11⟩, h12, u, hu, h17⟩
    · refine ⟨_, _, by simp only [B_X2_slowness_4, d2, if_neg ge, k1, k3, zst_e, m10, h10, if_true]; exact tailC _ 0 (by omega) (m15' _) (u1i _), by simp only [B_X6_slow_4, K_X6_slow_31, K_X6_slow_46, K_X6_slow_72, d0, if_neg ge, k1, k3, w10, h10, if_true, zlt_e, w12, h12, if_pos lem1]; exact tailR _ _ _ 0 (by omega) rfl, ?_⟩
      exact fin _ 0 (by omega) (kc1 _) rfl
    · have n5 : ¬ (1 : Int32) = 5 := by decide
      have n0 : ¬ (1 : Int32) = 0 := by decide
      have k5 : ∀ (α : Type) (q : Option α), zchk (nI a) 24 q = q := fun α q => zchk_n (by omega)
      have k6 : (nI a).toNatClampNeg = a := cl_n
      obtain ⟨d, hd, f1, f2⟩ := ih a ha
      have g1 : (1 : Int32) + zmx (nI d) 0 = nI (d + 1) := by
        rw [show (0 : Int32) = nI 0 from rfl, zmx_n (by omega) (by omega), Nat.max_eq_left (by omega), Int32.add_comm]; exact nI_1 d
      have g2 : (1 : Int32) + nI d = nI (d + 1) := by rw [Int32.add_comm]; exact nI_1 d
      have le : nI d ≤ nI d := nI_le (Nat.le_refl _) (by omega)
      refine ⟨_, _, by simp only [B_X2_slowness_4, K_X2_slowness_63, d2, if_neg ge, k1, k3, zst_e, zlt_e, m10, m11, m12, h10, h11, h12, n5, n0, if_false, if_true, k5, k6, old _ a ha, f1, g1]; exact tailC _ (d + 1) (by omega) (m15 _ _) (u2i _ _), by simp only [B_X6_slow_4, K_X6_slow_46, K_X6_slow_72, d0, if_neg ge, k1, k3, w10, w11, w12, h10, h11, h12, n5, n0, if_false, if_true, zlt_e, k5, k6, f2, if_pos le]; exact tailR _ _ _ (d + 1) (by omega) g2, ?_⟩
      exact fin _ (d + 1) (by omega) (kc2 _ _) (u2 _ _)
    · have n5 : ¬ Mr.1 10 i = 5 := by rcases h10 with e | e | e <;> rw [e] <;> decide
      have n0 : ¬ Mr.1 10 i = 0 := by rcases h10 with e | e | e <;> rw [e] <;> decide
      have n1 : ¬ nI b = -1 := nI_ne_m1 (by omega)
      have k5 : ∀ (α : Type) (q : Option α), zchk (nI a) 24 q = q := fun α q => zchk_n (by omega)
      have k6 : (nI a).toNatClampNeg = a := cl_n
      have k7 : ∀ (α : Type) (q : Option α), zchk (nI b) 24 q = q := fun α q => zchk_n (by omega)
      have k8 : (nI b).toNatClampNeg = b := cl_n
      obtain ⟨d, hd, f1, f2⟩ := ih a ha
      obtain ⟨d', hd', f1', f2'⟩ := ih b hb
      have g1 : (1 : Int32) + zmx (nI d) (nI d') = nI (max d d' + 1) := by
        rw [zmx_n (by omega) (by omega), Int32.add_comm]; exact nI_1 _
      have hmax : max d d' + 1 ≤ i := by have := Nat.max_le.mpr ⟨show d ≤ i - 1 by omega, show d' ≤ i - 1 by omega⟩; omega
      have eR : B_X6_slow_4 n (nI mm) (nI i) M2 = some (.inl (nI (if Mr.1 13 i = 0 then mm else max mm (max d d' + 1)), nI i + 1, zsI M2 24 i (nI (max d d' + 1)))) := by
        simp only [B_X6_slow_4, K_X6_slow_46, K_X6_slow_72, d0, if_neg ge, k1, k3, w10, w11, w12, h11, h12, n5, n0, n1, if_false, zlt_e, k5, k6, k7, k8, f2, f2']
        by_cases c : d ≤ d'
        · rw [if_pos (nI_le c (by omega))]
          exact tailR _ _ _ _ hmax (by rw [Nat.max_eq_right c, Int32.add_comm]; exact nI_1 _)
        · rw [if_neg (nI_ge (by omega) (by omega))]
          exact tailR _ _ _ _ hmax (by rw [Nat.max_eq_left (by omega), Int32.add_comm]; exact nI_1 _)
      refine ⟨_, _, by simp only [B_X2_slowness_4, K_X2_slowness_63, d2, if_neg ge, k1, k3, zst_e, zlt_e, m10, m11, m12, h11, h12, n5, n0, n1, if_false, k5, k6, k7, k8, old _ a ha, old _ b hb, f1, f1', g1]; exact tailC _ (max d d' + 1) hmax (m15 _ _) (u2i _ _), eR, ?_⟩
      exact fin _ (max d d' + 1) hmax (kc2 _ _) (u2 _ _)
    · have n0 : ¬ (5 : Int32) = 0 := by decide
      refine ⟨_, _, by simp only [B_X2_slowness_4, d2, if_neg ge, k1, k3, zst_e, m10, h10, if_true, n0, if_false]; exact tailC _ 0 (by omega) (m15' _) (u1i _), by simp only [B_X6_slow_4, K_X6_slow_31, K_X6_slow_46, K_X6_slow_72, d0, if_neg ge, k1, k3, w10, h10, if_true, n0, if_false, zlt_e, w12, h12, if_pos lem1]; exact tailR _ _ _ 0 (by omega) rfl, ?_⟩
      exact fin _ 0 (by omega) (kc1 _) rfl
  · rintro ⟨y1, x1, M1⟩ ⟨y2, x2, M2⟩ ⟨e1, e2, kc, kr, ⟨mm, hmm, em1, em2⟩, ih⟩
    dsimp only at e1 e2 kc kr ih em1 em2
    subst e1; subst e2
    have d2 : M1.1 2 0 = nI N := by rw [kc 2 (by decide)]; exact c2
    have d0 : M2.1 0 0 = nI N := by rw [kr 0 (by decide)]; exact q0
    have le : nI N ≤ nI N := nI_le (Nat.le_refl _) (by omega)
    exact ⟨_, _, by simp only [B_X2_slowness_4, d2, if_pos le]; rfl, by simp only [B_X6_slow_4, d0, if_pos le]; rfl, kc, kr, ⟨mm, by omega, em1, em2⟩, fun j hj => by
      obtain ⟨d, hd, f⟩ := ih j hj
      exact ⟨d, by omega, f⟩⟩
