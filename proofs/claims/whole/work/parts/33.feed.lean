theorem bx (a b : Bool) : (a ^^ b) = (a != b) := by cases a <;> cases b <;> rfl
/-- the outputs are looked at -/
theorem c_look {Mr M0 : zM} {n N I S T V t : Nat} {sn : Nat → Nat} {F : Nat → Nat → Nat → Nat → Bool} (hn : 100 ≤ n) (hok : zOk Mr N I S T V sn) (cx : zCx Mr M0 N S sn F) (ht : t < 16) {A : Nat → Bool}
    (hv : ∀ q, q < N → zHv Mr M0 q (fun L => bl Mr (F L) t q)) (hA : ∀ L, L < 64 → ln (M0.2 0 0) L = A L) :
    ∃ M', pX0_lookAtOutputs n (nI t) M0 = some M' ∧ M'.1 = M0.1 ∧ (∀ v, ¬ v = 0 → M'.2 v = M0.2 v) ∧ ∀ L, L < 64 → ln (M'.2 0 0) L = (A L || ex N (s1 Mr (F L) t)) := by
  obtain ⟨⟨⟨b1, b2, b3, b4, b5, b6⟩, q0, q1, q2, q3, q4⟩, hnd, hbits, hst, hsh⟩ := id hok
  obtain ⟨⟨d2, d4, m10, m11, m12, m13, m15, m16, m17, m18, m00⟩, cw, cf⟩ := id cx
  obtain ⟨⟨z1, M1⟩, u1, u2, u3, u4⟩ := zwl_for (b := fun q => B_X0_lookAtOutputs_3 n (nI t) q.1 q.2) (fun i s => s.1 = nI i ∧ s.2.1 = M0.1 ∧ (∀ v, ¬ v = 0 → s.2.2 v = M0.2 v) ∧ ∀ L, L < 64 → ln (s.2.2 0 0) L = (A L || ex i (s1 Mr (F L) t))) (fun r => r.2.1 = M0.1 ∧ (∀ v, ¬ v = 0 → r.2.2 v = M0.2 v) ∧ ∀ L, L < 64 → ln (r.2.2 0 0) L = (A L || ex N (s1 Mr (F L) t))) N n ((0 : Int32), M0) (by omega) ⟨rfl, rfl, fun _ _ => rfl, fun L hL => by rw [show ex 0 (s1 Mr (F L) t) = false from rfl, Bool.or_false]; exact hA L hL⟩
    (by
      rintro i ⟨x, M⟩ hi ⟨e1, f1, f2, f3⟩
      dsimp only at e1 f1 f2 f3
      subst e1
      have ge : ¬ nI N ≤ nI i := nI_ge hi (by omega)
      have k1 : ∀ (α : Type) (q : Option α), zchk (nI i) 24 q = q := fun α q => zchk_n (by omega)
      have k3 : (nI i).toNatClampNeg = i := cl_n
      have w2 : M.1 2 0 = nI N := by rw [f1]; exact d2
      by_cases c : Mr.1 13 i = 0
      · have w15 : M.1 15 i = 0 := by rw [f1, m15]; exact c
        refine ⟨_, by simp only [B_X0_lookAtOutputs_3, K_X0_lookAtOutputs_50, w2, if_neg ge, k1, k3, if_pos w15, zlt_e]; rfl, nI_1 i, f1, f2, fun L hL => ?_⟩
        show ln (M.2 0 0) L = _
        rw [f3 L hL, ex_s, show s1 Mr (F L) t i = false from by unfold s1; rw [decide_eq_true c]; rfl, Bool.or_false]
      · have w15 : ¬ M.1 15 i = 0 := by rw [f1, m15]; exact c
        have wd := c_wide (M := M) (k := i) (t := t) (by omega) (by omega)
        rw [f1, cw t (by omega) i hi] at wd
        have k4 : ∀ (α : Type) (q : Option α), zchk (nI (i * 4 + 3)) 96 q = q := fun α q => zchk_n (by omega)
        have k5 : (nI (i * 4 + 3)).toNatClampNeg = i * 4 + 3 := cl_n (by omega)
        refine ⟨_, by simp only [B_X0_lookAtOutputs_3, K_X0_lookAtOutputs_50, w2, if_neg ge, k1, k3, if_neg w15, zm4, zad3, k4, k5, wd, zbind_some, zst_e, zlt_e]; rfl, nI_1 i, f1, fun v hv => ?_, fun L hL => ?_⟩
        · show (zsL M 0 _ _).2 v = _
          rw [zsL_2, if_neg hv]; exact f2 v hv
        · show ln (M.2 0 0 ||| (M.2 3 (i * 4 + 3) ^^^ -(Int32.toInt64 (zb (pl Mr t i))))) L = _
          rw [ln_or, ln_xor, ln_wide _ hL, f3 L hL, ex_s, f2 3 (by decide), (hv i hi).2 L hL, bx, ← Bool.or_assoc]
          congr 1
          unfold s1
          rw [decide_eq_false c]; rfl)
    (by
      rintro ⟨x, M⟩ ⟨e1, f1, f2, f3⟩
      dsimp only at e1 f1 f2 f3
      subst e1
      have le : nI N ≤ nI N := nI_le (Nat.le_refl _) (by omega)
      have w2 : M.1 2 0 = nI N := by rw [f1]; exact d2
      exact ⟨(nI N, M), by simp only [B_X0_lookAtOutputs_3, w2, if_pos le], f1, f2, f3⟩)
  exact ⟨M1, by simp only [pX0_lookAtOutputs, zlt_e, u1, zb2_some], u2, u3, u4⟩
/-- what a store's place takes -/
def fst (M : zM) (k c : Nat) : Nat := if M.1 14 k = 0 then 3 else if M.1 15 k = 0 then c else 3
theorem fst_tks {Mr M : zM} {k c L : Nat} {W : Nat → Nat → Nat → Bool} (h : zHv Mr M (ga Mr k) (fun L => W L (ga Mr k))) (h15 : ¬ Mr.1 15 k = 0 → ¬ Mr.1 14 k = 0) (hc : c < 3) (hL : L < 64) : ln (M.2 3 (ga Mr k * 4 + fst Mr k c)) L = tks Mr (W L) k (cc Mr k c) := by
  unfold tks
  by_cases c15 : Mr.1 15 k = 0
  · rw [if_pos c15, ← c_read h hc hL]
    unfold fst frm
    rw [if_pos c15]
  · have c14 := h15 c15
    unfold fst
    rw [if_neg c15, if_neg c15, if_neg c14, h.2 L hL]
    unfold tl tkv
    by_cases c2 : Mr.1 14 (ga Mr k) = 0
    · simp only [if_pos c2, mj_same]
    · simp only [if_neg c2, if_neg c14]
theorem c_feed1 {Mr M0 : zM} {n N I S T V s : Nat} {sn : Nat → Nat} (hn : 100 ≤ n) (hok : zOk Mr N I S T V sn) (tie : zTie Mr M0 N S sn) (hs : s < S) :
    ∃ M', B_X0_feedStores_2 n (nI s) M0 = some (.inl (nI (s + 1), M')) ∧ M'.1 = M0.1 ∧ (∀ v, ¬ v = 4 → M'.2 v = M0.2 v) ∧ (∀ q, q < s * 3 ∨ s * 3 + 3 ≤ q → M'.2 4 q = M0.2 4 q) ∧ ∀ c, c < 3 → M'.2 4 (s * 3 + c) = M0.2 3 (ga Mr (sn s) * 4 + fst Mr (sn s) c) := by
  obtain ⟨⟨⟨b1, b2, b3, b4, b5, b6⟩, q0, q1, q2, q3, q4⟩, hnd, hbits, hst, hsh⟩ := id hok
  obtain ⟨d2, d4, m10, m11, m12, m13, m15, m16, m17, m18, m00⟩ := id tie
  obtain ⟨hk, h5, -⟩ := hst.1 s hs
  have w18 := m18 s hs
  generalize sn s = k at *
  obtain ⟨ha, h11⟩ := (hnd k hk).sto b1 h5
  have k1 : ∀ (α : Type) (q : Option α), zchk (nI k) 24 q = q := fun α q => zchk_n (by omega)
  have k3 : (nI k).toNatClampNeg = k := cl_n
  have s1' : ∀ (α : Type) (q : Option α), zchk (nI s) 24 q = q := fun α q => zchk_n (by omega)
  have s3 : (nI s).toNatClampNeg = s := cl_n
  have ge : ¬ nI S ≤ nI s := nI_ge hs (by omega)
  -- the inner loop
  have inner : ∀ (v2 : Int32), (∀ c, c < 3 → (if v2 = 0 then 3 else c) = fst Mr k c) → ∃ r : Int32 × zM, zwl (fun q => B_X0_feedStores_45 n (nI s) (nI k) v2 q.1 q.2) n ((0 : Int32), M0) = some r ∧ (r.2.1 = M0.1 ∧ (∀ v, ¬ v = 4 → r.2.2 v = M0.2 v) ∧ (∀ q, q < s * 3 ∨ s * 3 + 3 ≤ q → r.2.2 4 q = M0.2 4 q) ∧ ∀ c, c < 3 → r.2.2 4 (s * 3 + c) = M0.2 3 (ga Mr k * 4 + fst Mr k c)) := fun v2 hv2 => by
    refine zwl_for (fun i st => st.1 = nI i ∧ st.2.1 = M0.1 ∧ (∀ v, ¬ v = 4 → st.2.2 v = M0.2 v) ∧ (∀ q, q < s * 3 ∨ s * 3 + 3 ≤ q → st.2.2 4 q = M0.2 4 q) ∧ ∀ c, c < i → st.2.2 4 (s * 3 + c) = M0.2 3 (ga Mr k * 4 + fst Mr k c)) _ 3 n _ (by omega) ⟨rfl, rfl, fun _ _ => rfl, fun _ _ => rfl, fun c hc => by omega⟩ ?_ ?_
    · rintro i ⟨x, M⟩ hi ⟨e1, f1, f2, f3, f4⟩
      dsimp only at e1 f1 f2 f3 f4
      subst e1
      have ge3 : ¬ (3 : Int32) ≤ nI i := nI_ge (a := i) (b := 3) hi (by decide)
      have w11 : M.1 11 k = nI (ga Mr k) := by rw [f1, m11]; exact h11
      have fl : fst Mr k i < 4 := by rw [← hv2 i hi]; by_cases c : v2 = 0 <;> simp [c]; omega
      have k6 : ∀ (α : Type) (q : Option α), zchk (nI (ga Mr k * 4 + fst Mr k i)) 96 q = q := fun α q => zchk_n (by omega)
      have k7 : (nI (ga Mr k * 4 + fst Mr k i)).toNatClampNeg = ga Mr k * 4 + fst Mr k i := cl_n (by omega)
      have k8 : ∀ (α : Type) (q : Option α), zchk (nI (s * 3 + i)) 72 q = q := fun α q => zchk_n (by omega)
      have k9 : (nI (s * 3 + i)).toNatClampNeg = s * 3 + i := cl_n (by omega)
      have st : B_X0_feedStores_45 n (nI s) (nI k) v2 (nI i) M = some (.inl (nI (i + 1), zsL M 4 (s * 3 + i) (M.2 3 (ga Mr k * 4 + fst Mr k i)))) := by
        have q := hv2 i hi
        by_cases c : v2 = 0
        · rw [if_pos c] at q
          rw [← q] at k6 k7 ⊢
          simp only [B_X0_feedStores_45, K_X0_feedStores_84, if_neg ge3, k1, k3, if_pos c, w11, zm4, zm3, zad, zad3, k6, k7, k8, k9, zst_e, zlt_e, zad1]
        · rw [if_neg c] at q
          rw [← q] at k6 k7 ⊢
          simp only [B_X0_feedStores_45, K_X0_feedStores_84, if_neg ge3, k1, k3, if_neg c, w11, zm4, zm3, zad, k6, k7, k8, k9, zst_e, zlt_e, zad1]
      refine ⟨_, st, rfl, f1, fun v hv => ?_, fun q hq => ?_, fun c hc => ?_⟩
      · show (zsL M 4 _ _).2 v = _
        rw [zsL_2, if_neg hv]; exact f2 v hv
      · show vp_updL (M.2 4) _ _ q = _
        rw [updL_ap, if_neg (by omega)]; exact f3 q hq
      · show vp_updL (M.2 4) _ _ (s * 3 + c) = _
        rw [updL_ap]
        by_cases e : c = i
        · subst e; rw [if_pos rfl, f2 3 (by decide)]
        · rw [if_neg (by omega)]; exact f4 c (by omega)
    · rintro ⟨x, M⟩ ⟨e1, f1, f2, f3, f4⟩
      dsimp only at e1 f1 f2 f3 f4
      subst e1
      have le : (3 : Int32) ≤ nI 3 := by decide
      exact ⟨(nI 3, M), by simp only [B_X0_feedStores_45, if_pos le], f1, f2, f3, f4⟩
  by_cases c14 : Mr.1 14 k = 0
  · have w16 : M0.1 16 k = 0 := by rw [m16]; exact c14
    obtain ⟨⟨z1, M1⟩, u1, u2⟩ := inner 0 (fun c hc => by unfold fst; rw [if_pos rfl, if_pos c14])
    exact ⟨M1, by simp only [B_X0_feedStores_2, K_X0_feedStores_39, K_X0_feedStores_40, d4, if_neg ge, s1', s3, w18, zlt_e, k1, k3, if_pos w16, u1, zb2_some, zad1], u2⟩
  · have w16 : ¬ M0.1 16 k = 0 := by rw [m16]; exact c14
    by_cases c15 : Mr.1 15 k = 0
    · have w17 : M0.1 17 k = 0 := by rw [m17]; exact c15
      obtain ⟨⟨z1, M1⟩, u1, u2⟩ := inner 1 (fun c hc => by unfold fst; rw [if_neg (by decide), if_neg c14, if_pos c15])
      exact ⟨M1, by simp only [B_X0_feedStores_2, K_X0_feedStores_39, K_X0_feedStores_40, d4, if_neg ge, s1', s3, w18, zlt_e, k1, k3, if_neg w16, if_pos w17, u1, zb2_some, zad1], u2⟩
    · have w17 : ¬ M0.1 17 k = 0 := by rw [m17]; exact c15
      obtain ⟨⟨z1, M1⟩, u1, u2⟩ := inner 0 (fun c hc => by unfold fst; rw [if_pos rfl, if_neg c14, if_neg c15])
      exact ⟨M1, by simp only [B_X0_feedStores_2, K_X0_feedStores_39, K_X0_feedStores_40, d4, if_neg ge, s1', s3, w18, zlt_e, k1, k3, if_neg w16, if_neg w17, u1, zb2_some, zad1], u2⟩
theorem sn_inj {M : zM} {N S : Nat} {sn : Nat → Nat} (hN : S ≤ 24) (h : zSts M N S sn) {a b : Nat} (ha : a < S) (hb : b < S) (e : sn a = sn b) : a = b := by
  have h1 := (h.1 a ha).2.2
  rw [e, (h.1 b hb).2.2, nI_inj (by omega) (by omega)] at h1
  exact h1
/-- the stores take over -/
theorem c_feed {Mr M0 : zM} {n N I S T V : Nat} {sn : Nat → Nat} {W : Nat → Nat → Nat → Bool} (hn : 100 ≤ n) (hok : zOk Mr N I S T V sn) (tie : zTie Mr M0 N S sn) (hv : ∀ q, q < N → zHv Mr M0 q (fun L => W L q)) :
    ∃ M', pX0_feedStores n M0 = some M' ∧ M'.1 = M0.1 ∧ (∀ v, ¬ v = 3 → ¬ v = 4 → M'.2 v = M0.2 v) ∧ ∀ s, s < S → zH3 Mr M' (sn s) (fun L => tks Mr (W L) (sn s)) := by
  obtain ⟨⟨⟨b1, b2, b3, b4, b5, b6⟩, q0, q1, q2, q3, q4⟩, hnd, hbits, hst, hsh⟩ := id hok
  obtain ⟨d2, d4, m10, m11, m12, m13, m15, m16, m17, m18, m00⟩ := id tie
  obtain ⟨⟨z1, Ma⟩, p1, p2, p3, p4⟩ := zwl_for (b := fun q => B_X0_feedStores_2 n q.1 q.2) (fun i st => st.1 = nI i ∧ st.2.1 = M0.1 ∧ (∀ v, ¬ v = 4 → st.2.2 v = M0.2 v) ∧ ∀ s, s < i → ∀ c, c < 3 → st.2.2 4 (s * 3 + c) = M0.2 3 (ga Mr (sn s) * 4 + fst Mr (sn s) c)) (fun r => r.2.1 = M0.1 ∧ (∀ v, ¬ v = 4 → r.2.2 v = M0.2 v) ∧ ∀ s, s < S → ∀ c, c < 3 → r.2.2 4 (s * 3 + c) = M0.2 3 (ga Mr (sn s) * 4 + fst Mr (sn s) c)) S n ((0 : Int32), M0) (by omega) ⟨rfl, rfl, fun _ _ => rfl, fun s hs => by omega⟩
    (by
      rintro i ⟨x, M⟩ hi ⟨e1, f1, f2, f3⟩
      dsimp only at e1 f1 f2 f3
      subst e1
      obtain ⟨M', u1, u2, u3, u4, u5⟩ := c_feed1 (M0 := M) hn hok (by unfold zTie; rw [f1]; exact tie) hi
      refine ⟨_, u1, rfl, u2.trans f1, fun v hv => (u3 v hv).trans (f2 v hv), fun s hs c hc => ?_⟩
      show M'.2 4 _ = _
      by_cases e : s = i
      · subst e; rw [u5 c hc, f2 3 (by decide)]
      · rw [u4 _ (by omega)]; exact f3 s (by omega) c hc)
    (by
      rintro ⟨x, M⟩ ⟨e1, f1, f2, f3⟩
      dsimp only at e1 f1 f2 f3
      subst e1
      have le : nI S ≤ nI S := nI_le (Nat.le_refl _) (by omega)
      have w4 : M.1 4 0 = nI S := by rw [f1]; exact d4
      exact ⟨(nI S, M), by simp only [B_X0_feedStores_2, w4, if_pos le], f1, f2, f3⟩)
  dsimp only at p2 p3 p4
  obtain ⟨⟨z2, Mb⟩, o1, o2, o3, o4⟩ := zwl_for (b := fun q => B_X0_feedStores_101 n q.1 q.2) (fun i st => st.1 = nI i ∧ st.2.1 = M0.1 ∧ (∀ v, ¬ v = 3 → st.2.2 v = Ma.2 v) ∧ ∀ s, s < i → ∀ c, c < 3 → st.2.2 3 (sn s * 4 + c) = Ma.2 4 (s * 3 + c)) (fun r => r.2.1 = M0.1 ∧ (∀ v, ¬ v = 3 → r.2.2 v = Ma.2 v) ∧ ∀ s, s < S → ∀ c, c < 3 → r.2.2 3 (sn s * 4 + c) = Ma.2 4 (s * 3 + c)) S n ((0 : Int32), Ma) (by omega) ⟨rfl, p2, fun _ _ => rfl, fun s hs => by omega⟩
    (by
      rintro i ⟨x, M⟩ hi ⟨e1, f1, f2, f3⟩
      dsimp only at e1 f1 f2 f3
      subst e1
      obtain ⟨hk, h5, -⟩ := hst.1 i hi
      have ge : ¬ nI S ≤ nI i := nI_ge hi (by omega)
      have s1' : ∀ (α : Type) (q : Option α), zchk (nI i) 24 q = q := fun α q => zchk_n (by omega)
      have s3 : (nI i).toNatClampNeg = i := cl_n
      have w4 : M.1 4 0 = nI S := by rw [f1]; exact d4
      have w18 : M.1 18 i = nI (sn i) := by rw [f1]; exact m18 i hi
      have k3 : (nI (i * 3)).toNatClampNeg = i * 3 := cl_n (by omega)
      have k4 : (nI (sn i * 4)).toNatClampNeg = sn i * 4 := cl_n (by omega)
      have cp : zcp (nI (i * 3)) (nI (sn i * 4)) 3 72 96 = true := by
        unfold zcp
        have n1 : ¬ nI (i * 3) < 0 := nI_pos (by omega)
        have n2 : ¬ nI (sn i * 4) < 0 := nI_pos (by omega)
        have n3 : ¬ (3 : Int32) < 0 := by decide
        rw [decide_eq_false n1, decide_eq_false n2, decide_eq_false n3, k3, k4, cl3, decide_eq_true (show i * 3 + 3 ≤ 72 by omega), decide_eq_true (show sn i * 4 + 3 ≤ 96 by omega)]; rfl
      refine ⟨_, by simp only [B_X0_feedStores_101, w4, if_neg ge, s1', s3, w18, zm3, zm4, cp, zcpk, if_true, k3, k4, cl3, zst_e, zlt_e]; rfl, nI_1 i, f1, fun v hv => ?_, fun s hs c hc => ?_⟩
      · show (zcL M 3 _).2 v = _
        rw [zcL_2, if_neg hv]; exact f2 v hv
      · show va_cpy (M.2 4) (M.2 3) (i * 3) (sn i * 4) 3 (sn s * 4 + c) = _
        unfold va_cpy
        by_cases e : s = i
        · subst e
          rw [if_pos (by omega), f2 4 (by decide), show s * 3 + (sn s * 4 + c - sn s * 4) = s * 3 + c by omega]
        · have ne : ¬ sn s = sn i := fun q => e (sn_inj (by omega) hst (by omega) hi q)
          rw [if_neg (by omega)]; exact f3 s (by omega) c hc)
    (by
      rintro ⟨x, M⟩ ⟨e1, f1, f2, f3⟩
      dsimp only at e1 f1 f2 f3
      subst e1
      have le : nI S ≤ nI S := nI_le (Nat.le_refl _) (by omega)
      have w4 : M.1 4 0 = nI S := by rw [f1]; exact d4
      exact ⟨(nI S, M), by simp only [B_X0_feedStores_101, w4, if_pos le], f1, f2, f3⟩)
  dsimp only at o2 o3 o4
  refine ⟨Mb, by simp only [pX0_feedStores, zlt_e, p1, zb2_some, o1], o2, fun v h3 h4 => (o3 v h3).trans (p3 v h4), fun s hs c hc L hL => ?_⟩
  obtain ⟨hk, h5, -⟩ := hst.1 s hs
  obtain ⟨ha, h11⟩ := (hnd (sn s) hk).sto b1 h5
  rw [o4 s hs c hc, p4 s hs c hc]
  exact fst_tks (W := W) (hv _ ha) (fun h => by have := (hbits.2.2 (sn s) (((hbits.1 (sn s)).2.2).resolve_left h)).1; rw [this]; decide) hc hL
