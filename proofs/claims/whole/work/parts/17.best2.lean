/-- the two searches, side by side: up to set i nothing was found, or the same -/
def zbI (L : Nat → Int32) (pr : Nat → Nat) (S i : Nat) (s1 s2 : Int32 × Int32 × Int32) : Prop :=
  s1.2.2 = nI i ∧ s2.2.2 = nI i ∧
  ((i < 2 ^ S ∧ s2.1 = -1 ∧ s1.1 = nI (2 ^ S - 1) ∧ s1.2.1 = nI (zps pr (nI (2 ^ S - 1)) S)) ∨
   ∃ b, b < 2 ^ S ∧ s1.1 = nI b ∧ s2.1 = nI b ∧ s1.2.1 = nI (zps pr (nI b) S) ∧ s2.2.1 = nI (100 * zps pr (nI b) S + zpc (nI b) 24))
theorem b_search {n N S : Nat} {M1 M2 : zM} {L : Nat → Int32} {sn pr : Nat → Nat} (hn : 5000 ≤ n) (hN : N ≤ 24) (hS : S ≤ 12) (h8 : M1.1 8 0 = nI S) (h2 : M2.1 2 0 = nI S)
    (hL1 : ∀ s, s < S → M1.1 26 s = L s) (hL2 : ∀ s, s < S → sn s < 24 ∧ M2.1 23 s = nI (sn s) ∧ ∃ a, a < N ∧ M2.1 11 (sn s) = nI a ∧ M2.1 22 a = L s) (hp1 : ∀ s, s < S → sn s < 24 ∧ M1.1 18 s = nI (sn s) ∧ M1.1 14 (sn s) = nI (pr s)) (hp2 : ∀ s, s < S → sn s < 24 ∧ M2.1 23 s = nI (sn s) ∧ M2.1 16 (sn s) = nI (pr s)) (hpr : ∀ s, s < S → pr s ≤ 1000) :
    ∃ (r1 r2 : Int32 × Int32 × Int32), zwl (fun q => B_X1_cheapest_19 n q.1 q.2.1 q.2.2 M1) n (nI (2 ^ S - 1), nI (zps pr (nI (2 ^ S - 1)) S), (0 : Int32)) = some r1 ∧ zwl (fun q => B_X6_bestSet_10 n q.1 q.2.1 q.2.2 M2) n ((-1 : Int32), (0 : Int32), (0 : Int32)) = some r2 ∧ ∃ b, b < 2 ^ S ∧ r1.1 = nI b ∧ r2.1 = nI b := by
  have hp := pow_S hS
  have P24 : ∀ x, zps pr x S ≤ 12000 := fun x => by have := zps_le (x := x) S hpr; omega
  have O24 : ∀ x, zpc x 24 ≤ 24 := fun x => zpc_le x 24
  refine zwl_two (zbI L pr S) _ (2 ^ S) ?_ ?_ (2 ^ S) 0 n _ _ (by omega) (by omega) ⟨rfl, rfl, Or.inl ⟨hp.2, rfl, rfl, rfl⟩⟩
  · rintro i ⟨c1, c2, c3⟩ ⟨d1, d2, d3⟩ hi ⟨e1, e2, hI⟩
    dsimp only at e1 e2 hI
    subst e1; subst e2
    have ge : ¬ nI (2 ^ S) ≤ nI i := nI_ge hi (by omega)
    have pC := c_price (n := n) (by omega) (show S ≤ 24 by omega) h8 hp1 (nI i)
    have pR := r_price (n := n) (by omega) (show S ≤ 24 by omega) h2 hp2 (nI i)
    have oC := c_bits (k := i) (by omega) M1
    have oR := r_ones (n := n) (by omega) (nI i) M2
    have bC := c_broken (n := n) (by omega) (show S ≤ 24 by omega) h8 hL1 (nI i)
    have bR := r_broken (n := n) (by omega) hN (show S ≤ 24 by omega) h2 hL2 (nI i)
    have by_ : (100 : Int32) * nI (zps pr (nI i) S) + nI (zpc (nI i) 24) = nI (100 * zps pr (nI i) S + zpc (nI i) 24) := by
      rw [show (100 : Int32) = nI 100 from rfl, pk_mul, nI_add]
    have hPi := P24 (nI i)
    have hOi := O24 (nI i)
    have z10 : ¬ (1 : Int32) = 0 := by decide
    rcases hI with ⟨hi2, f1, f2, f3⟩ | ⟨b, hb, f1, f2, f3, f4⟩
    · subst f1; subst f2; subst f3
      have oF := c_bits (k := 2 ^ S - 1) (by omega) M1
      have hPf := P24 (nI (2 ^ S - 1))
      have hOf := O24 (nI (2 ^ S - 1))
      by_cases hlast : i = 2 ^ S - 1
      · -- the last set is all of them
        have bk := full_bk L hS
        rw [← hlast] at *
        rw [bk] at bC bR
        have le1 : nI (zpc (nI i) 24) ≤ nI (zpc (nI i) 24) := nI_le (Nat.le_refl _) (by omega)
        have nlt : ¬ nI (zps pr (nI i) S) < nI (zps pr (nI i) S) := nI_nlt (Nat.le_refl _) (by omega)
        refine ⟨_, _, by simp only [B_X1_cheapest_19, K_X1_cheapest_56, K_X1_cheapest_79, K_X1_cheapest_80, K_X1_cheapest_102, h8, shl_S hS, if_neg ge, pC, zbind_some, zlt_e, oC, if_pos le1, if_neg nlt, if_true]; rfl, by simp only [B_X6_bestSet_10, K_X6_bestSet_46, K_X6_bestSet_59, h2, shl_S hS, if_neg ge, pR, zbind_some, oR, zlt_e, by_, if_true, bR, z10, if_false]; rfl, nI_1 i, nI_1 i, Or.inr ⟨i, hi, rfl, rfl, rfl, rfl⟩⟩
      · have hi1 : i < 2 ^ S - 1 := by omega
        have lt1 : ¬ nI (zpc (nI (2 ^ S - 1)) 24) ≤ nI (zpc (nI i) 24) := nI_ge (full_pc hS hi1) (by omega)
        have ple : zps pr (nI i) S ≤ zps pr (nI (2 ^ S - 1)) S := zps_mono (full_sub hS hi) S (by omega)
        -- the class looks at it, too
        have look : ∀ (q : Option ((Int32 × Int32 × Int32) ⊕ (Int32 × Int32 × Int32))), K_X1_cheapest_75 n (nI (2 ^ S - 1)) (nI (zps pr (nI (2 ^ S - 1)) S)) (nI i) (nI (zps pr (nI i) S)) 1 M1 = q → (if nI (zps pr (nI i) S) < nI (zps pr (nI (2 ^ S - 1)) S) then K_X1_cheapest_75 n (nI (2 ^ S - 1)) (nI (zps pr (nI (2 ^ S - 1)) S)) (nI i) (nI (zps pr (nI i) S)) 1 M1 else if nI (zps pr (nI i) S) = nI (zps pr (nI (2 ^ S - 1)) S) then (if (1 : Int32) = 0 then K_X1_cheapest_79 n (nI (2 ^ S - 1)) (nI (zps pr (nI (2 ^ S - 1)) S)) (nI i) (nI (zps pr (nI i) S)) 1 M1 else K_X1_cheapest_75 n (nI (2 ^ S - 1)) (nI (zps pr (nI (2 ^ S - 1)) S)) (nI i) (nI (zps pr (nI i) S)) 1 M1) else K_X1_cheapest_79 n (nI (2 ^ S - 1)) (nI (zps pr (nI (2 ^ S - 1)) S)) (nI i) (nI (zps pr (nI i) S)) 1 M1) = q := fun q hq => by
          by_cases c : zps pr (nI i) S < zps pr (nI (2 ^ S - 1)) S
          · rw [if_pos (nI_lt c (by omega))]; exact hq
          · have : zps pr (nI i) S = zps pr (nI (2 ^ S - 1)) S := by omega
            rw [if_neg (nI_nlt (by omega) (by omega)), if_pos (by rw [this]), if_neg z10]; exact hq
        rcases zbk01 L S (nI i) with bk | bk
        · rw [bk] at bC bR
          refine ⟨_, _, by
            simp only [B_X1_cheapest_19, K_X1_cheapest_56, h8, shl_S hS, if_neg ge, pC, zbind_some, zlt_e, oC, oF, if_neg lt1]
            refine look _ ?_
            simp only [K_X1_cheapest_75, K_X1_cheapest_80, K_X1_cheapest_102, zlt_e, if_neg z10, bC, zbind_some, if_true]; rfl, by simp only [B_X6_bestSet_10, K_X6_bestSet_46, K_X6_bestSet_59, h2, shl_S hS, if_neg ge, pR, zbind_some, oR, zlt_e, by_, if_true, bR]; rfl, nI_1 i, nI_1 i, Or.inl ⟨by omega, rfl, rfl, rfl⟩⟩
        · rw [bk] at bC bR
          refine ⟨_, _, by
            simp only [B_X1_cheapest_19, K_X1_cheapest_56, h8, shl_S hS, if_neg ge, pC, zbind_some, zlt_e, oC, oF, if_neg lt1]
            refine look _ ?_
            simp only [K_X1_cheapest_75, K_X1_cheapest_80, K_X1_cheapest_102, zlt_e, if_neg z10, bC, zbind_some]; rfl, by simp only [B_X6_bestSet_10, K_X6_bestSet_46, K_X6_bestSet_59, h2, shl_S hS, if_neg ge, pR, zbind_some, oR, zlt_e, by_, if_true, bR, z10, if_false]; rfl, nI_1 i, nI_1 i, Or.inr ⟨i, hi, rfl, rfl, rfl, rfl⟩⟩
    · subst f1; subst f2; subst f3; subst f4
      have oB := c_bits (k := b) (by omega) M1
      have hPb := P24 (nI b)
      have hOb := O24 (nI b)
      have nm1 : ¬ nI b = -1 := fun e => by
        have := congrArg Int32.toInt e
        rw [i_toInt_nI (by omega)] at this
        simp at this
      by_cases c : zps pr (nI i) S < zps pr (nI b) S ∨ (zps pr (nI i) S = zps pr (nI b) S ∧ zpc (nI i) 24 < zpc (nI b) 24)
      · have lt2 : ¬ nI (100 * zps pr (nI b) S + zpc (nI b) 24) ≤ nI (100 * zps pr (nI i) S + zpc (nI i) 24) := nI_ge (by omega) (by omega)
        -- the class takes the way to the test
        have go : ∀ (v : Int32) (q : Option ((Int32 × Int32 × Int32) ⊕ (Int32 × Int32 × Int32))), (zps pr (nI i) S < zps pr (nI b) S ∨ ¬ v = 0) → zps pr (nI i) S ≤ zps pr (nI b) S → K_X1_cheapest_80 n (nI b) (nI (zps pr (nI b) S)) (nI i) (nI (zps pr (nI i) S)) v 1 M1 = q → K_X1_cheapest_56 n (nI b) (nI (zps pr (nI b) S)) (nI i) (nI (zps pr (nI i) S)) v M1 = q := fun v q hv hle hq => by
          unfold K_X1_cheapest_56
          rw [zlt_e]
          by_cases c3 : zps pr (nI i) S < zps pr (nI b) S
          · rw [if_pos (nI_lt c3 (by omega))]; exact hq
          · have : zps pr (nI i) S = zps pr (nI b) S := by omega
            rw [if_neg (nI_nlt (by omega) (by omega)), if_pos (by rw [this]), if_neg (hv.resolve_left c3)]; exact hq
        have goC : ∀ (q : Option ((Int32 × Int32 × Int32) ⊕ (Int32 × Int32 × Int32))), (∀ v, K_X1_cheapest_80 n (nI b) (nI (zps pr (nI b) S)) (nI i) (nI (zps pr (nI i) S)) v 1 M1 = q) → B_X1_cheapest_19 n (nI b) (nI (zps pr (nI b) S)) (nI i) M1 = q := fun q hq => by
          simp only [B_X1_cheapest_19, h8, shl_S hS, if_neg ge, pC, zbind_some, zlt_e, oC, oB]
          by_cases c4 : zpc (nI b) 24 ≤ zpc (nI i) 24
          · rw [if_pos (nI_le c4 (by omega))]
            exact go 0 q (Or.inl (by omega)) (by omega) (hq 0)
          · rw [if_neg (nI_ge (by omega) (by omega))]
            exact go 1 q (Or.inr z10) (by omega) (hq 1)
        rcases zbk01 L S (nI i) with bk | bk
        · rw [bk] at bC bR
          refine ⟨_, _, goC _ (fun v => by simp only [K_X1_cheapest_80, K_X1_cheapest_102, zlt_e, if_neg z10, bC, zbind_some, if_true]; rfl), by simp only [B_X6_bestSet_10, K_X6_bestSet_46, K_X6_bestSet_59, h2, shl_S hS, if_neg ge, pR, zbind_some, oR, zlt_e, by_, if_neg nm1, if_neg lt2, bR, if_true]; rfl, nI_1 i, nI_1 i, Or.inr ⟨b, hb, rfl, rfl, rfl, rfl⟩⟩
        · rw [bk] at bC bR
          refine ⟨_, _, goC _ (fun v => by simp only [K_X1_cheapest_80, K_X1_cheapest_102, zlt_e, if_neg z10, bC, zbind_some]; rfl), by simp only [B_X6_bestSet_10, K_X6_bestSet_46, K_X6_bestSet_59, h2, shl_S hS, if_neg ge, pR, zbind_some, oR, zlt_e, by_, if_neg nm1, if_neg lt2, bR, if_neg z10]; rfl, nI_1 i, nI_1 i, Or.inr ⟨i, hi, rfl, rfl, rfl, rfl⟩⟩
      · have le2 : nI (100 * zps pr (nI b) S + zpc (nI b) 24) ≤ nI (100 * zps pr (nI i) S + zpc (nI i) 24) := nI_le (by omega) (by omega)
        have no : ∀ v : Int32, (zps pr (nI i) S = zps pr (nI b) S → v = 0) → K_X1_cheapest_56 n (nI b) (nI (zps pr (nI b) S)) (nI i) (nI (zps pr (nI i) S)) v M1 = some (.inl (nI b, nI (zps pr (nI b) S), nI i + 1)) := fun v hv => by
          have nlt : ¬ nI (zps pr (nI i) S) < nI (zps pr (nI b) S) := nI_nlt (by omega) (by omega)
          by_cases c3 : zps pr (nI i) S = zps pr (nI b) S
          · simp only [K_X1_cheapest_56, K_X1_cheapest_79, K_X1_cheapest_80, K_X1_cheapest_102, zlt_e, if_neg nlt, if_pos (congrArg nI c3), if_pos (hv c3), if_true]
          · have ne : ¬ nI (zps pr (nI i) S) = nI (zps pr (nI b) S) := fun q => c3 ((nI_eq (by omega) (by omega)).mp q)
            simp only [K_X1_cheapest_56, K_X1_cheapest_79, K_X1_cheapest_80, K_X1_cheapest_102, zlt_e, if_neg nlt, if_neg ne, if_true]
        have noC : B_X1_cheapest_19 n (nI b) (nI (zps pr (nI b) S)) (nI i) M1 = some (.inl (nI b, nI (zps pr (nI b) S), nI i + 1)) := by
          simp only [B_X1_cheapest_19, h8, shl_S hS, if_neg ge, pC, zbind_some, zlt_e, oC, oB]
          by_cases c4 : zpc (nI b) 24 ≤ zpc (nI i) 24
          · rw [if_pos (nI_le c4 (by omega))]
            exact no 0 (fun _ => rfl)
          · rw [if_neg (nI_ge (by omega) (by omega))]
            exact no 1 (fun e => by omega)
        exact ⟨_, _, noC, by simp only [B_X6_bestSet_10, K_X6_bestSet_59, h2, shl_S hS, if_neg ge, pR, zbind_some, oR, zlt_e, by_, if_neg nm1, if_pos le2]; rfl, nI_1 i, nI_1 i, Or.inr ⟨b, hb, rfl, rfl, rfl, rfl⟩⟩
  · rintro ⟨c1, c2, c3⟩ ⟨d1, d2, d3⟩ ⟨e1, e2, hI⟩
    dsimp only at e1 e2 hI
    subst e1; subst e2
    have le : nI (2 ^ S) ≤ nI (2 ^ S) := nI_le (Nat.le_refl _) (by omega)
    refine ⟨_, _, by simp only [B_X1_cheapest_19, h8, shl_S hS, if_pos le]; rfl, by simp only [B_X6_bestSet_10, h2, shl_S hS, if_pos le]; rfl, ?_⟩
    rcases hI with ⟨h, -⟩ | ⟨b, hb, f1, f2, -, -⟩
    · omega
    · exact ⟨b, hb, f1, f2⟩
