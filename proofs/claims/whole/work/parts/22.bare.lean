theorem pl_in {M : zM} {t k : Nat} (h : M.1 10 k = 0) : pl M t k = gI M t k := by
  unfold pl; rw [pv, if_neg (by rw [h]; decide), if_pos h]
theorem pl_st {M : zM} {t k : Nat} (h : M.1 10 k = 5) : pl M t k = ps M t k := by
  unfold pl; rw [pv, if_pos h]
theorem pl_g {M : zM} {t k : Nat} (n0 : ¬ M.1 10 k = 0) (n5 : ¬ M.1 10 k = 5) (ha : ga M k < k) (hb : M.1 12 k = -1 ∨ gb M k < k) : pl M t k = gG (M.1 10 k) (pl M t (ga M k)) (if M.1 12 k = -1 then false else pl M t (gb M k)) := by
  unfold pl; rw [pv, if_neg n5, if_neg n0, dif_pos ha]
  by_cases c : M.1 12 k = -1
  · rw [if_pos c, if_pos c]
  · rw [if_neg c, if_neg c, dif_pos (hb.resolve_left c)]
theorem ps_s {M : zM} {t k : Nat} : ps M (t + 1) k = pl M t (ga M k) := rfl
theorem nI24 (t k : Nat) : nI (24 * t) + nI k = nI (24 * t + k) := nI_add _ _
theorem r_bare1 {Mr M0 : zM} {n N I S T V : Nat} {sn : Nat → Nat} (hn : 100 ≤ n) (hok : zOk Mr N I S T V sn) (kr : zKeepR Mr M0) (x1 : Int32) {t : Nat} (ht : t < 16)
    (hst0 : ∀ k, k < N → Mr.1 10 k = 5 → M0.1 18 (24 * t + k) = zb (ps Mr t k)) :
    ∃ r : Int32 × zM, zwl (fun q => B_X6_runsBare_38 n x1 (nI t) (nI (24 * t)) q.1 q.2) n ((0 : Int32), M0) = some r ∧ ((∀ v, ¬ v = 18 → r.2.1 v = M0.1 v) ∧ (∀ q, q < 24 * t → r.2.1 18 q = M0.1 18 q) ∧ ∀ k, k < N → r.2.1 18 (24 * t + k) = zb (pl Mr t k)) := by
  obtain ⟨⟨⟨b1, b2, b3, b4, b5, b6⟩, q0, q1, q2, q3, q4⟩, hnd, hbits, hst, hsh⟩ := id hok
  refine zwl_for (fun i s => s.1 = nI i ∧ (∀ v, ¬ v = 18 → s.2.1 v = M0.1 v) ∧ (∀ q, q < 24 * t → s.2.1 18 q = M0.1 18 q) ∧ ∀ k, k < N → (Mr.1 10 k = 5 ∨ k < i) → s.2.1 18 (24 * t + k) = zb (pl Mr t k)) _ N n _ (by omega) ⟨rfl, fun _ _ => rfl, fun _ _ => rfl, fun k hk h => ?_⟩ ?_ ?_
  · rcases h with h | h
    · rw [pl_st h]; exact hst0 k hk h
    · omega
  · rintro i ⟨x, M⟩ hiN ⟨e1, f1, f2, f3⟩
    dsimp only at e1 f1 f2 f3
    subst e1
    have kM : zKeepR Mr M := fun v hv => (f1 v (fun e => by subst e; revert hv; decide)).trans (kr v hv)
    have k1 : ∀ (α : Type) (q : Option α), zchk (nI i) 24 q = q := fun α q => zchk_n (by omega)
    have k3 : (nI i).toNatClampNeg = i := cl_n
    have k4 : ∀ (α : Type) (q : Option α), zchk (nI (24 * t + i)) 408 q = q := fun α q => zchk_n (by omega)
    have k5 : (nI (24 * t + i)).toNatClampNeg = 24 * t + i := cl_n (by omega)
    have ge : ¬ nI N ≤ nI i := nI_ge hiN (by omega)
    have d0 : M.1 0 0 = nI N := by rw [kM 0 (by decide)]; exact q0
    have w10 := kM 10 (by decide)
    have w11 := kM 11 (by decide)
    have w12 := kM 12 (by decide)
    have fin : ∀ b : Bool, b = pl Mr t i → (nI i + 1 = nI (i + 1) ∧ (∀ v, ¬ v = 18 → (zsI M 18 (24 * t + i) (zb b)).1 v = M0.1 v) ∧ (∀ q, q < 24 * t → (zsI M 18 (24 * t + i) (zb b)).1 18 q = M0.1 18 q) ∧ ∀ k, k < N → (Mr.1 10 k = 5 ∨ k < i + 1) → (zsI M 18 (24 * t + i) (zb b)).1 18 (24 * t + k) = zb (pl Mr t k)) := fun b hb => by
      have e18 : ∀ q, (zsI M 18 (24 * t + i) (zb b)).1 18 q = if q = 24 * t + i then zb b else M.1 18 q := fun q => upd_ap _ _ _ _
      refine ⟨nI_1 i, fun v hv => ?_, fun q hq => ?_, fun k hk h => ?_⟩
      · rw [zsI_1, if_neg hv]; exact f1 v hv
      · rw [e18, if_neg (by omega)]; exact f2 q hq
      · rw [e18]
        by_cases e : k = i
        · subst e; rw [if_pos rfl, hb]
        · rw [if_neg (by omega)]; exact f3 k hk (h.imp id (fun h => by omega))
    by_cases c0 : Mr.1 10 i = 0
    · refine ⟨_, by simp only [B_X6_runsBare_38, K_X6_runsBare_149, d0, if_neg ge, k1, k3, w10, if_pos c0, r_inputAt hok kM hiN c0 (show t < 60 by omega), zbind_some, nI24, k4, k5, zst_e, zlt_e]; rfl, ?_⟩
      exact fin _ (pl_in c0).symm
    by_cases c5 : Mr.1 10 i = 5
    · refine ⟨_, by simp only [B_X6_runsBare_38, K_X6_runsBare_149, d0, if_neg ge, k1, k3, w10, if_neg c0, if_pos c5, zlt_e]; rfl, nI_1 i, f1, f2, fun k hk h => ?_⟩
      by_cases e : k = i
      · subst e; exact f3 k hk (Or.inl c5)
      · exact f3 k hk (h.imp id (fun h => by omega))
    obtain ⟨ha, h11, hb⟩ := (hnd i hiN).gate b1 hiN c0 c5
    have ra : M.1 18 (24 * t + ga Mr i) = zb (pl Mr t (ga Mr i)) := f3 _ (by omega) (Or.inr ha)
    have k6 : ∀ (α : Type) (q : Option α), zchk (nI (24 * t + ga Mr i)) 408 q = q := fun α q => zchk_n (by omega)
    have k7 : (nI (24 * t + ga Mr i)).toNatClampNeg = 24 * t + ga Mr i := cl_n (by omega)
    rcases hb with ⟨h1, h12⟩ | ⟨h1, h12, hb, h12'⟩
    · have e0 : (0 : Int32) = zb false := rfl
      refine ⟨_, by
        simp only [B_X6_runsBare_38, d0, if_neg ge, k1, k3, w10, if_neg c0, if_neg c5, w11, h11, w12, if_pos h12, nI24, k6, k7, ra]
        rw [e0]
        simp only [K_X6_runsBare_145, K_X6_runsBare_149, r_gate, zbind_some, k4, k5, zst_e, zlt_e]; rfl, ?_⟩
      refine fin _ ?_
      rw [pl_g c0 c5 ha (Or.inl h12), if_pos h12]
    · have rb : M.1 18 (24 * t + gb Mr i) = zb (pl Mr t (gb Mr i)) := f3 _ (by omega) (Or.inr hb)
      have k8 : ∀ (α : Type) (q : Option α), zchk (nI (24 * t + gb Mr i)) 408 q = q := fun α q => zchk_n (by omega)
      have k9 : (nI (24 * t + gb Mr i)).toNatClampNeg = 24 * t + gb Mr i := cl_n (by omega)
      refine ⟨_, by
        simp only [B_X6_runsBare_38, d0, if_neg ge, k1, k3, w10, if_neg c0, if_neg c5, w11, h11, w12, if_neg h12]
        simp only [h12', nI24, k6, k7, ra, k8, k9, rb, K_X6_runsBare_145, K_X6_runsBare_149, r_gate, zbind_some, k4, k5, zst_e, zlt_e]; rfl, ?_⟩
      refine fin _ ?_
      rw [pl_g c0 c5 ha (Or.inr hb), if_neg h12]
  · rintro ⟨x, M⟩ ⟨e1, f1, f2, f3⟩
    dsimp only at e1 f1 f2 f3
    subst e1
    have d0 : M.1 0 0 = nI N := by rw [f1 0 (by decide), kr 0 (by decide)]; exact q0
    exact ⟨_, by simp only [B_X6_runsBare_38, d0, if_pos (nI_le (Nat.le_refl N) (show N < 2147483648 by omega))]; rfl, f1, f2, fun k hk => f3 k hk (Or.inr hk)⟩
theorem r_bare2 {Mr M0 : zM} {n N I S T V : Nat} {sn : Nat → Nat} (hn : 100 ≤ n) (hok : zOk Mr N I S T V sn) (kr : zKeepR Mr M0) (x1 : Int32) {t : Nat} (ht : t < 16)
    (hpl : ∀ k, k < N → M0.1 18 (24 * t + k) = zb (pl Mr t k)) :
    ∃ r : Int32 × zM, zwl (fun q => B_X6_runsBare_158 n x1 (nI t) (nI (24 * t)) q.1 q.2) n ((0 : Int32), M0) = some r ∧ ((∀ v, ¬ v = 18 → r.2.1 v = M0.1 v) ∧ (∀ q, q < 24 * (t + 1) → r.2.1 18 q = M0.1 18 q) ∧ ∀ k, k < N → Mr.1 10 k = 5 → r.2.1 18 (24 * (t + 1) + k) = zb (ps Mr (t + 1) k)) := by
  obtain ⟨⟨⟨b1, b2, b3, b4, b5, b6⟩, q0, q1, q2, q3, q4⟩, hnd, hbits, hst, hsh⟩ := id hok
  refine zwl_for (fun i s => s.1 = nI i ∧ (∀ v, ¬ v = 18 → s.2.1 v = M0.1 v) ∧ (∀ q, q < 24 * (t + 1) → s.2.1 18 q = M0.1 18 q) ∧ ∀ k, k < i → Mr.1 10 k = 5 → s.2.1 18 (24 * (t + 1) + k) = zb (ps Mr (t + 1) k)) _ N n _ (by omega) ⟨rfl, fun _ _ => rfl, fun _ _ => rfl, fun k hk => by omega⟩ ?_ ?_
  · rintro i ⟨x, M⟩ hiN ⟨e1, f1, f2, f3⟩
    dsimp only at e1 f1 f2 f3
    subst e1
    have kM : zKeepR Mr M := fun v hv => (f1 v (fun e => by subst e; revert hv; decide)).trans (kr v hv)
    have k1 : ∀ (α : Type) (q : Option α), zchk (nI i) 24 q = q := fun α q => zchk_n (by omega)
    have k3 : (nI i).toNatClampNeg = i := cl_n
    have ge : ¬ nI N ≤ nI i := nI_ge hiN (by omega)
    have d0 : M.1 0 0 = nI N := by rw [kM 0 (by decide)]; exact q0
    have w10 := kM 10 (by decide)
    have w11 := kM 11 (by decide)
    by_cases c5 : Mr.1 10 i = 5
    · obtain ⟨ha, h11⟩ := (hnd i hiN).sto b1 c5
      have e24 : nI (24 * t) + 24 + nI i = nI (24 * (t + 1) + i) := by
        rw [show (24 : Int32) = nI 24 from rfl, nI_add, nI_add]; congr 1
      have k4 : ∀ (α : Type) (q : Option α), zchk (nI (24 * (t + 1) + i)) 408 q = q := fun α q => zchk_n (by omega)
      have k5 : (nI (24 * (t + 1) + i)).toNatClampNeg = 24 * (t + 1) + i := cl_n (by omega)
      have k6 : ∀ (α : Type) (q : Option α), zchk (nI (24 * t + ga Mr i)) 408 q = q := fun α q => zchk_n (by omega)
      have k7 : (nI (24 * t + ga Mr i)).toNatClampNeg = 24 * t + ga Mr i := cl_n (by omega)
      have ra : M.1 18 (24 * t + ga Mr i) = zb (pl Mr t (ga Mr i)) := by rw [f2 _ (by omega)]; exact hpl _ ha
      refine ⟨_, by simp only [B_X6_runsBare_158, K_X6_runsBare_204, d0, if_neg ge, k1, k3, w10, if_pos c5, w11, h11, nI24, k6, k7, e24, k4, k5, ra, zst_e, zlt_e]; rfl, nI_1 i, fun v hv => ?_, fun q hq => ?_, fun k hk h => ?_⟩
      · show (zsI M 18 _ _).1 v = _
        rw [zsI_1, if_neg hv]; exact f1 v hv
      · show upd (M.1 18) (24 * (t + 1) + i) _ q = _
        rw [upd_ap, if_neg (by omega)]; exact f2 q hq
      · show upd (M.1 18) (24 * (t + 1) + i) _ (24 * (t + 1) + k) = _
        rw [upd_ap]
        by_cases e : k = i
        · subst e; rw [if_pos rfl]; rfl
        · rw [if_neg (by omega)]; exact f3 k (by omega) h
    · refine ⟨_, by simp only [B_X6_runsBare_158, K_X6_runsBare_204, d0, if_neg ge, k1, k3, w10, if_neg c5, zlt_e]; rfl, nI_1 i, f1, f2, fun k hk h => ?_⟩
      exact f3 k (Nat.lt_of_le_of_ne (by omega) (fun e => by subst e; exact c5 h)) h
  · rintro ⟨x, M⟩ ⟨e1, f1, f2, f3⟩
    dsimp only at e1 f1 f2 f3
    subst e1
    have d0 : M.1 0 0 = nI N := by rw [f1 0 (by decide), kr 0 (by decide)]; exact q0
    exact ⟨_, by simp only [B_X6_runsBare_158, d0, if_pos (nI_le (Nat.le_refl N) (show N < 2147483648 by omega))]; rfl, f1, f2, f3⟩
/-- the plain net's bits of the ticks below τ, and what the stores have then -/
def zPl (Mr M : zM) (N τ : Nat) : Prop := (∀ t, t < τ → ∀ k, k < N → M.1 18 (24 * t + k) = zb (pl Mr t k)) ∧ ∀ k, k < N → Mr.1 10 k = 5 → M.1 18 (24 * τ + k) = zb (ps Mr τ k)
theorem r_bare {Mr M0 : zM} {n N I S T V τ : Nat} {sn : Nat → Nat} (hn : 100 ≤ n) (hok : zOk Mr N I S T V sn) (kr : zKeepR Mr M0) (hτ : τ ≤ 16) : ∃ M, pX6_runsBare n (nI τ) M0 = some M ∧ (∀ v, ¬ v = 18 → M.1 v = M0.1 v) ∧ zPl Mr M N τ := by
  obtain ⟨⟨⟨b1, b2, b3, b4, b5, b6⟩, q0, q1, q2, q3, q4⟩, hnd, hbits, hst, hsh⟩ := id hok
  obtain ⟨⟨y1, Ma⟩, p1, a1, a2⟩ := zwl_for (b := fun q => B_X6_runsBare_2 n (nI τ) q.1 q.2) (fun i s => s.1 = nI i ∧ (∀ v, ¬ v = 18 → s.2.1 v = M0.1 v) ∧ ∀ k, k < i → s.2.1 18 k = 0) (fun r => (∀ v, ¬ v = 18 → r.2.1 v = M0.1 v) ∧ ∀ k, k < N → r.2.1 18 k = 0) N n ((0 : Int32), M0) (by omega) ⟨rfl, fun _ _ => rfl, fun k hk => by omega⟩
    (by
      rintro i ⟨x, M⟩ hiN ⟨e1, f1, f2⟩
      dsimp only at e1 f1 f2
      subst e1
      have d0 : M.1 0 0 = nI N := by rw [f1 0 (by decide), kr 0 (by decide)]; exact q0
      have ge : ¬ nI N ≤ nI i := nI_ge hiN (by omega)
      have k4 : ∀ (α : Type) (q : Option α), zchk (nI i) 408 q = q := fun α q => zchk_n (by omega)
      have k3 : (nI i).toNatClampNeg = i := cl_n
      refine ⟨_, by simp only [B_X6_runsBare_2, d0, if_neg ge, k4, k3, zst_e, zlt_e]; rfl, nI_1 i, fun v hv => ?_, fun k hk => ?_⟩
      · show (zsI M 18 _ _).1 v = _
        rw [zsI_1, if_neg hv]; exact f1 v hv
      · show upd (M.1 18) i 0 k = 0
        rw [upd_ap]
        by_cases e : k = i
        · rw [if_pos e]
        · rw [if_neg e]; exact f2 k (by omega))
    (by
      rintro ⟨x, M⟩ ⟨e1, f1, f2⟩
      dsimp only at e1 f1 f2
      subst e1
      have d0 : M.1 0 0 = nI N := by rw [f1 0 (by decide), kr 0 (by decide)]; exact q0
      exact ⟨_, by simp only [B_X6_runsBare_2, d0, if_pos (nI_le (Nat.le_refl N) (show N < 2147483648 by omega))]; rfl, f1, f2⟩)
  dsimp only at a1 a2
  obtain ⟨⟨y2, Mb⟩, p2, c1, c2, c3⟩ := zwl_for (b := fun q => B_X6_runsBare_25 n (nI τ) q.1 q.2) (fun t s => s.1 = nI t ∧ (∀ v, ¬ v = 18 → s.2.1 v = M0.1 v) ∧ zPl Mr s.2 N t) (fun r => (∀ v, ¬ v = 18 → r.2.1 v = M0.1 v) ∧ zPl Mr r.2 N τ) τ n ((0 : Int32), Ma) (by omega) ⟨rfl, a1, fun t ht => by omega, fun k hk _ => by rw [show 24 * 0 + k = k by omega]; exact a2 k hk⟩
    (by
      rintro t ⟨x, M⟩ htτ ⟨e1, f1, f2, f3⟩
      dsimp only at e1 f1 f2 f3
      subst e1
      have kM : zKeepR Mr M := fun v hv => (f1 v (fun e => by subst e; revert hv; decide)).trans (kr v hv)
      obtain ⟨⟨z1, M1⟩, w1, w2, w3, w4⟩ := r_bare1 hn hok kM (nI τ) (show t < 16 by omega) f3
      dsimp only at w2 w3 w4
      have kM1 : zKeepR Mr M1 := fun v hv => (w2 v (fun e => by subst e; revert hv; decide)).trans (kM v hv)
      obtain ⟨⟨z2, M2⟩, u1, u2, u3, u4⟩ := r_bare2 hn hok kM1 (nI τ) (show t < 16 by omega) w4
      dsimp only at u2 u3 u4
      have e24 : (24 : Int32) * nI t = nI (24 * t) := by rw [show (24 : Int32) = nI 24 from rfl, pk_mul]
      have ge : ¬ nI τ ≤ nI t := nI_ge htτ (by omega)
      refine ⟨_, by simp only [B_X6_runsBare_25, if_neg ge, zlt_e, e24, w1, zb2_some, u1]; rfl, nI_1 t, fun v hv => ?_, fun t' ht' k hk => ?_, u4⟩
      · show M2.1 v = _
        rw [u2 v hv, w2 v hv]; exact f1 v hv
      · show M2.1 18 (24 * t' + k) = _
        rw [u3 _ (by omega)]
        by_cases e : t' = t
        · subst e; exact w4 k hk
        · rw [w3 _ (by omega)]; exact f2 t' (by omega) k hk)
    (by
      rintro ⟨x, M⟩ ⟨e1, f1, f2⟩
      dsimp only at e1 f1 f2
      subst e1
      exact ⟨_, by simp only [B_X6_runsBare_25, if_pos (nI_le (Nat.le_refl τ) (show τ < 2147483648 by omega))]; rfl, f1, f2⟩)
  refine ⟨Mb, ?_, c1, c2, c3⟩
  simp only [pX6_runsBare, zlt_e, p1, zb2_some, p2]
