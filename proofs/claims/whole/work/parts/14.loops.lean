theorem nI_ne_m1 {b : Nat} (hb : b < 1000) : ¬ nI b = -1 := fun e => by
  have := congrArg Int32.toInt e
  rw [i_toInt_nI (by omega)] at this
  simp at this
theorem b_reach {Mc Mr : zM} {n N I S T V : Nat} {sn : Nat → Nat} (hn100 : 100 ≤ n) (hok : zOk Mr N I S T V sn) (hi : zEqI Mc Mr) (hn : zEqN Mc Mr) (hsn : zSn Mc S sn) :
    ∃ M1 M2 L, pX1_trace n Mc = some M1 ∧ pX6_reach n Mr = some M2 ∧ zKeepC Mc M1 ∧ zKeepR Mr M2 ∧ zLed M1 M2 N S sn L := by
  obtain ⟨⟨y1, Ma⟩, ⟨y2, Mb⟩, p1, p2, kc, kr, h22, h23⟩ := b_reachLoop hn100 hok hi hn
  obtain ⟨⟨⟨b1, b2, b3, b4, b5, b6⟩, q0, q1, q2, q3, q4⟩, hnd, hbits, hst, hsh⟩ := id hok
  dsimp only at kc kr h22 h23
  have c4 : Ma.1 4 0 = nI S := by rw [kc 4 (by decide)]; exact hi.2.2.1.trans q2
  have m18 : Ma.1 18 = Mc.1 18 := kc 18 (by decide)
  have m11 : Ma.1 11 = Mr.1 11 := (kc 11 (by decide)).trans hn.2.1
  have src : ∀ s, s < S → ∃ a, a < N ∧ Mr.1 11 (sn s) = nI a := fun s hs => by
    obtain ⟨t1, t2, t3⟩ := hst.1 s hs
    exact ((hnd _ t1).store t2).1
  have src11 : ∀ s, s < S → sn s < 24 := fun s hs => by have := (hst.1 s hs).1; omega
  obtain ⟨⟨y3, Mf⟩, p3, pz⟩ := zwl_for (b := fun q => B_X1_trace_117 n q.1 q.2) (fun i st => st.1 = nI i ∧ (∀ v, ¬ v = 26 → st.2.1 v = (zsI Ma 8 0 (nI S)).1 v) ∧ ∀ s, s < i → ∀ a, a < N → Mr.1 11 (sn s) = nI a → st.2.1 26 s = Ma.1 25 a) (fun r => (∀ v, ¬ v = 26 → r.2.1 v = (zsI Ma 8 0 (nI S)).1 v) ∧ ∀ s, s < S → ∀ a, a < N → Mr.1 11 (sn s) = nI a → r.2.1 26 s = Ma.1 25 a) S n ((0 : Int32), zsI Ma 8 0 (nI S)) (by omega) ⟨rfl, fun _ _ => rfl, fun s hs => by omega⟩
    (by
      rintro i ⟨x, M⟩ hiS ⟨e1, e2, e3⟩
      dsimp only at e1 e2 e3
      subst e1
      have k1 : ∀ (α : Type) (q : Option α), zchk (nI i) 24 q = q := fun α q => zchk_n (by omega)
      have k3 : (nI i).toNatClampNeg = i := cl_n
      have d8 : M.1 8 0 = nI S := by rw [e2 8 (by decide)]; rfl
      have d18 : M.1 18 i = nI (sn i) := by rw [e2 18 (by decide)]; show Ma.1 18 i = _; rw [m18]; exact hsn i hiS
      obtain ⟨a, ha, h11⟩ := src i hiS
      have d11 : M.1 11 (sn i) = nI a := by rw [e2 11 (by decide)]; show Ma.1 11 _ = _; rw [m11]; exact h11
      have d25 : M.1 25 = Ma.1 25 := by rw [e2 25 (by decide)]; rfl
      have hsi := src11 i hiS
      have k5 : ∀ (α : Type) (q : Option α), zchk (nI (sn i)) 24 q = q := fun α q => zchk_n hsi
      have k6 : (nI (sn i)).toNatClampNeg = sn i := cl_n
      have k7 : ∀ (α : Type) (q : Option α), zchk (nI a) 24 q = q := fun α q => zchk_n (by omega)
      have k8 : (nI a).toNatClampNeg = a := cl_n
      refine ⟨_, by simp only [B_X1_trace_117, d8, if_neg (nI_ge hiS (show S < 2147483648 by omega)), k1, k3, d18, k5, k6, d11, k7, k8, d25, zst_e, zlt_e]; rfl, nI_1 i, fun v hv => ?_, fun s hs b hb hb11 => ?_⟩
      · show (if v = 26 then _ else M.1 v) = _
        rw [if_neg hv]; exact e2 v hv
      · show upd (M.1 26) i (Ma.1 25 a) s = _
        rw [upd_ap]
        by_cases e : s = i
        · subst e
          have : a = b := (nI_eq (by omega) (by omega)).mp (h11.symm.trans hb11)
          rw [if_pos rfl, this]
        · rw [if_neg e]; exact e3 s (by omega) b hb hb11)
    (by
      rintro ⟨x, M⟩ ⟨e1, e2, e3⟩
      dsimp only at e1 e2 e3
      subst e1
      have d8 : M.1 8 0 = nI S := by rw [e2 8 (by decide)]; rfl
      exact ⟨_, by simp only [B_X1_trace_117, d8, if_pos (nI_le (Nat.le_refl S) (show S < 2147483648 by omega))]; rfl, e2, e3⟩)
  obtain ⟨f1, f2⟩ := pz
  dsimp only at f1 f2
  refine ⟨Mf, Mb, fun s => Mf.1 26 s, ?_, ?_, ?_, kr, ?_, fun s hs => ?_⟩
  · unfold pX1_trace
    simp only [zlt_e, p1, zb2_some, zst_e, c4, p3]
  · unfold pX6_reach
    simp only [zlt_e, p2, zb2_some]
  · intro v hv
    rw [f1 v (fun e => by subst e; revert hv; decide)]
    show (if v = 8 then _ else Ma.1 v) = _
    rw [if_neg (fun e => by subst e; revert hv; decide)]
    exact kc v hv
  · rw [f1 8 (by decide)]; rfl
  · obtain ⟨t1, t2, t3⟩ := hst.1 s hs
    obtain ⟨a, ha, h11⟩ := src s hs
    refine ⟨rfl, h23 _ t1 t2 s t3 hs, a, ha, ?_, ?_⟩
    · rw [kr 11 (by decide)]; exact h11
    · show Mb.1 22 a = Mf.1 26 s
      rw [f2 s hs a ha h11, h22 a ha]
theorem zsn2 {Mc Mr : zM} {S : Nat} (h4 : Mc.1 4 0 = nI S) (h2 : Mr.1 2 0 = nI S) (hS : S ≤ 24) (x : Int32) : (pX2_isStoreNumber x Mc = some 0 ∧ pX6_in x 0 ((Mr.1 2 0) - 1) Mr = some 0) ∨ ∃ j, j < S ∧ x = nI j ∧ pX2_isStoreNumber x Mc = some 1 ∧ pX6_in x 0 ((Mr.1 2 0) - 1) Mr = some 1 := by
  unfold pX2_isStoreNumber K_X2_isStoreNumber_16
  rw [h4, h2]
  rcases zix x hS with h | ⟨j, hj, rfl⟩
  · refine Or.inl ⟨?_, pR_in_n (h.imp id (nI_lt_m1 hS).mpr)⟩
    by_cases c : x < 0
    · rw [if_pos c]
    · rw [if_neg c, if_pos (h.resolve_left c)]
  · refine Or.inr ⟨j, hj, rfl, ?_, pR_in_y (nI_pos (by omega)) (fun q => nI_ge hj (by omega) ((nI_lt_m1 hS).mp q))⟩
    rw [if_neg (nI_pos (by omega)), if_neg (nI_ge hj (by omega))]
theorem b_leads {Mc Mr : zM} {n : Nat} (hn100 : 100 ≤ n) (h : zRel Mc Mr) (x1 x2 : Int32) : zBoth (pX5_leads n x1 x2 Mc) (pX6_leads n x1 x2 Mr) := by
  obtain ⟨N, I, S, T, V, sn, hok, hi, hn, hs, hsn⟩ := id h
  obtain ⟨⟨⟨b1, b2, b3, b4, b5, b6⟩, q0, q1, q2, q3, q4⟩, hnd, hbits, hst, hsh⟩ := id hok
  have c4 : Mc.1 4 0 = nI S := hi.2.2.1.trans q2
  have z3 : ¬ (1 : Int32) = 0 := by decide
  have bad : zBoth (some ((-2 : Int32), Mc)) (some ((-2 : Int32), Mr)) := ⟨_, _, _, rfl, rfl, h⟩
  rcases zsn2 (Mc := Mc) (Mr := Mr) c4 q2 (by omega) x1 with ⟨u1, u2⟩ | ⟨s1, hs1, rfl, u1, u2⟩
  · simp only [pX5_leads, pX6_leads, K_X5_leads_22, K_X6_leads_28, u1, u2, zbind_some, if_true]; exact bad
  rcases zsn2 (Mc := Mc) (Mr := Mr) c4 q2 (by omega) x2 with ⟨v1, v2⟩ | ⟨s2, hs2, rfl, v1, v2⟩
  · simp only [pX5_leads, pX6_leads, K_X5_leads_22, K_X6_leads_28, u1, u2, v1, v2, zbind_some, if_true, if_false, z3]; exact bad
  obtain ⟨M1, M2, L, p1, p2, kc, kr, l8, hL⟩ := b_reach hn100 hok hi hn hsn
  obtain ⟨l1, l2, a, ha, l3, l4⟩ := hL s2 hs2
  have hsi : sn s2 < 24 := by have := (hst.1 s2 hs2).1; omega
  have k1 : ∀ (α : Type) (q : Option α), zchk (nI s2) 24 q = q := fun α q => zchk_n (by omega)
  have k3 : (nI s2).toNatClampNeg = s2 := cl_n
  have k5 : ∀ (α : Type) (q : Option α), zchk (nI (sn s2)) 24 q = q := fun α q => zchk_n hsi
  have k6 : (nI (sn s2)).toNatClampNeg = sn s2 := cl_n
  have k7 : ∀ (α : Type) (q : Option α), zchk (nI a) 24 q = q := fun α q => zchk_n (by omega)
  have k8 : (nI a).toNatClampNeg = a := cl_n
  simp only [pX5_leads, pX6_leads, u1, u2, v1, v2, zbind_some, if_false, z3, p1, p2, k1, k3, l2, k5, k6, l3, k7, k8, l4, l1]
  exact ⟨_, _, _, rfl, rfl, h.keep kc kr⟩
/-! ===== taking away what no one leads to ===== -/
/-- one round over the stores below i -/
def zrd (L : Nat → Int32) : Nat → Int32 → Int32
  | 0, x => x
  | i + 1, x => if L i &&& zrd L i x = 0 then zrd L i x &&& (((1 : Int32) <<< (nI i &&& 31)) ^^^ (-1)) else zrd L i x
/-- how many of the first S bits are set -/
def zpc (x : Int32) : Nat → Nat
  | 0 => 0
  | i + 1 => zpc x i + (if bt x i = true then 1 else 0)
theorem zpc_le (x : Int32) : ∀ S, zpc x S ≤ S
  | 0 => Nat.le_refl _
  | S + 1 => by
    have := zpc_le x S
    unfold zpc
    split <;> omega
theorem zpc_mono {x y : Int32} (h : ∀ i, i < 32 → bt x i = true → bt y i = true) : ∀ S, S ≤ 32 → zpc x S ≤ zpc y S
  | 0, _ => Nat.le_refl _
  | S + 1, hS => by
    have := zpc_mono h S (by omega)
    unfold zpc
    by_cases c : bt x S = true
    · rw [if_pos c, if_pos (h S (by omega) c)]; omega
    · rw [if_neg c]; omega
theorem zpc_lt {x y : Int32} (h : ∀ i, i < 32 → bt x i = true → bt y i = true) {k : Nat} : ∀ S, k < S → S ≤ 32 → bt y k = true → ¬ bt x k = true → zpc x S < zpc y S
  | 0, hk, _, _, _ => by omega
  | S + 1, hk, hS, h1, h2 => by
    unfold zpc
    by_cases e : k = S
    · subst e
      rw [if_neg h2, if_pos h1]
      have := zpc_mono h k (by omega)
      omega
    · have := zpc_lt h S (by omega) (by omega) h1 h2
      by_cases c : bt x S = true
      · rw [if_pos c, if_pos (h S (by omega) c)]; omega
      · rw [if_neg c]; omega
theorem zrd_sub (L : Nat → Int32) (x : Int32) : ∀ i, i ≤ 24 → ∀ j, j < 32 → bt (zrd L i x) j = true → bt x j = true
  | 0, _, j, _, h => h
  | i + 1, hi, j, hj, h => by
    unfold zrd at h
    by_cases c : L i &&& zrd L i x = 0
    · rw [if_pos c, b_clr i (by omega) _ hj, Bool.and_eq_true] at h
      exact zrd_sub L x i (by omega) j hj h.1
    · rw [if_neg c] at h
      exact zrd_sub L x i (by omega) j hj h
/-- the bits from S on stay -/
theorem zrd_hi (L : Nat → Int32) (x : Int32) : ∀ i, i ≤ 24 → ∀ j, i ≤ j → j < 32 → bt (zrd L i x) j = bt x j
  | 0, _, j, _, _ => rfl
  | i + 1, hi, j, hij, hj => by
    unfold zrd
    by_cases c : L i &&& zrd L i x = 0
    · rw [if_pos c, b_clr i (by omega) _ hj, zrd_hi L x i (by omega) j (by omega) hj, decide_eq_false (by omega)]; simp
    · rw [if_neg c]
      exact zrd_hi L x i (by omega) j (by omega) hj
/-- a bit that is not set is not missed -/
theorem zclr_id {x : Int32} {i : Nat} (hi : i < 32) (h : ¬ bt x i = true) : x &&& (((1 : Int32) <<< (nI i &&& 31)) ^^^ (-1)) = x := by
  apply b_ext
  intro j hj
  rw [b_clr i hi x hj]
  by_cases e : j = i
  · subst e
    rw [Bool.eq_false_iff.mpr h]; rfl
  · rw [decide_eq_false e]; simp
theorem zrd_dec (L : Nat → Int32) (x : Int32) {S : Nat} (hS : S ≤ 24) (h : ¬ zrd L S x = x) : zpc (zrd L S x) S < zpc x S := by
  have sub := fun i hi => zrd_sub L x S hS i hi
  have : ∃ k, k < 32 ∧ ¬ bt (zrd L S x) k = bt x k := by
    refine Classical.byContradiction fun q => h (b_ext fun i hi => Classical.byContradiction fun q2 => q ⟨i, hi, q2⟩)
  obtain ⟨k, hk, hne⟩ := this
  have hkS : k < S := Nat.lt_of_not_le fun q => hne (zrd_hi L x S hS k q hk)
  have b1 : bt x k = true := by
    cases hb : bt x k with
    | true => rfl
    | false =>
      cases hb2 : bt (zrd L S x) k with
      | true => have := sub k hk hb2; rw [hb] at this; exact this
      | false => exact absurd (hb2.trans hb.symm) hne
  refine zpc_lt sub S hkS (by omega) b1 (fun q => hne (q.trans b1.symm))
/-- to the end -/
def zfx (L : Nat → Int32) (S : Nat) : Nat → Int32 → Int32
  | 0, x => x
  | m + 1, x => if zrd L S x = x then x else zfx L S m (zrd L S x)
theorem zfx_fix (L : Nat → Int32) (S m : Nat) {x : Int32} (h : zrd L S x = x) : zfx L S m x = x := by
  cases m with
  | zero => rfl
  | succ m => unfold zfx; rw [if_pos h]
