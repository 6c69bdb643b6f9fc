def sm (v : Nat → Bool) : Nat → Int32
  | 0 => 0
  | i + 1 => sm v i + zb (v i)
theorem sm3 (v : Nat → Bool) : sm v 3 = zb (v 0) + zb (v 1) + zb (v 2) := by
  show (((0 : Int32) + zb (v 0)) + zb (v 1)) + zb (v 2) = _
  rw [Int32.zero_add]
theorem keepR_20 {Mr M0 M : zM} (kr : zKeepR Mr M0) (f : ∀ v, ¬ v = 20 → M.1 v = M0.1 v) : zKeepR Mr M := fun v hv => (f v (fun e => by subst e; revert hv; decide)).trans (kr v hv)
theorem zb3_some {α β γ δ : Type} (a : α) (b : β) (c : γ) (k : α → β → γ → Option δ) : zb3 (some (a, b, c)) k = k a b c := rfl
theorem r_over14 {Mr M0 : zM} {n N k : Nat} (hn : 100 ≤ n) (hN : N ≤ 24) (kr : zKeepR Mr M0) (hk : k < N) (c5 : Mr.1 10 k = 5) (ha : ga Mr k < N) (h11 : Mr.1 11 k = nI (ga Mr k)) {W : Nat → Nat → Bool} (hW : ∀ c, c < cp Mr (ga Mr k) → M0.1 19 (3 * ga Mr k + c) = zb (W (ga Mr k) c)) :
    ∃ r : Int32 × Int32 × zM, zwl (fun q => B_X6_takesOver_14 n (nI k) q.1 q.2.1 q.2.2) n ((0 : Int32), (0 : Int32), M0) = some r ∧ ((∀ v, ¬ v = 20 → r.2.2.1 v = M0.1 v) ∧ (∀ q, q < 3 * k ∨ 3 * k + 3 ≤ q → r.2.2.1 20 q = M0.1 20 q) ∧ (∀ c, c < cp Mr k → r.2.2.1 20 (3 * k + c) = zb (tkv Mr k (ga Mr k) (W (ga Mr k)) c)) ∧ r.1 = sm (tkv Mr k (ga Mr k) (W (ga Mr k))) (cp Mr k)) := by
  have k1 : ∀ (α : Type) (q : Option α), zchk (nI k) 24 q = q := fun α q => zchk_n (by omega)
  have k3 : (nI k).toNatClampNeg = k := cl_n
  have h3 := cp_le Mr k
  refine zwl_for (fun i s => s.2.1 = nI i ∧ (∀ v, ¬ v = 20 → s.2.2.1 v = M0.1 v) ∧ (∀ q, q < 3 * k ∨ 3 * k + 3 ≤ q → s.2.2.1 20 q = M0.1 20 q) ∧ (∀ c, c < i → s.2.2.1 20 (3 * k + c) = zb (tkv Mr k (ga Mr k) (W (ga Mr k)) c)) ∧ s.1 = sm (tkv Mr k (ga Mr k) (W (ga Mr k))) i) _ (cp Mr k) n _ (by omega) ⟨rfl, fun _ _ => rfl, fun _ _ => rfl, fun c hc => by omega, rfl⟩ ?_ ?_
  · rintro i ⟨sum, x, M⟩ hi ⟨e1, f1, f2, f3, f4⟩
    dsimp only at e1 f1 f2 f3 f4
    subst e1
    have kM := keepR_20 kr f1
    have ge : ¬ nI (cp Mr k) ≤ nI i := nI_ge hi (by omega)
    have w10 : M.1 10 k = 5 := by rw [kM 10 (by decide)]; exact c5
    have w11 : M.1 11 k = nI (ga Mr k) := by rw [kM 11 (by decide)]; exact h11
    have k4 : ∀ (α : Type) (q : Option α), zchk (nI (3 * k + i)) 72 q = q := fun α q => zchk_n (by omega)
    have k5 : (nI (3 * k + i)).toNatClampNeg = 3 * k + i := cl_n (by omega)
    have ta := r_takes (Mr := Mr) (M := M) (j := k) (q := ga Mr k) (c := i) (kM 14 (by decide)) (by omega) (by omega) hi (v := W (ga Mr k)) (fun c hc => by rw [f1 19 (by decide)]; exact hW c hc)
    have e20 : ∀ q, (zsI M 20 (3 * k + i) (zb (tkv Mr k (ga Mr k) (W (ga Mr k)) i))).1 20 q = if q = 3 * k + i then zb (tkv Mr k (ga Mr k) (W (ga Mr k)) i) else M.1 20 q := fun q => upd_ap _ _ _ _
    have e20' : (zsI M 20 (3 * k + i) (zb (tkv Mr k (ga Mr k) (W (ga Mr k)) i))).1 20 (3 * k + i) = zb (tkv Mr k (ga Mr k) (W (ga Mr k)) i) := by rw [e20, if_pos rfl]
    refine ⟨_, by simp only [B_X6_takesOver_14, r_cp (kM 14 (by decide)) (show k < 24 by omega), zbind_some, if_neg ge, k1, k3, if_pos w10, w11, ta, e3, e3c, k4, k5, zst_e, zlt_e, e20']; rfl, nI_1 i, fun v hv => ?_, fun q hq => ?_, fun c hc => ?_, ?_⟩
    · show (zsI M 20 _ _).1 v = _
      rw [zsI_1, if_neg hv]; exact f1 v hv
    · show (zsI M 20 (3 * k + i) (zb (tkv Mr k (ga Mr k) (W (ga Mr k)) i))).1 20 q = _
      rw [e20, if_neg (by omega)]; exact f2 q hq
    · show (zsI M 20 (3 * k + i) (zb (tkv Mr k (ga Mr k) (W (ga Mr k)) i))).1 20 (3 * k + c) = _
      rw [e20]
      by_cases e : c = i
      · subst e; rw [if_pos rfl]
      · rw [if_neg (by omega)]; exact f3 c (by omega)
    · show sum + zb (tkv Mr k (ga Mr k) (W (ga Mr k)) i) = _
      rw [f4]; rfl
  · rintro ⟨sum, x, M⟩ ⟨e1, f1, f2, f3, f4⟩
    dsimp only at e1 f1 f2 f3 f4
    subst e1
    have kM := keepR_20 kr f1
    have le : nI (cp Mr k) ≤ nI (cp Mr k) := nI_le (Nat.le_refl _) (by omega)
    exact ⟨_, by simp only [B_X6_takesOver_14, r_cp (kM 14 (by decide)) (show k < 24 by omega), zbind_some, if_pos le]; rfl, f1, f2, f3, f4⟩
theorem r_over76 {Mr M0 : zM} {n k : Nat} (hn : 100 ≤ n) (kr : zKeepR Mr M0) (hk : k < 24) (hv : ¬ Mr.1 15 k = 0) (sum : Int32) {b : Bool} (hb : (if sum ≤ 1 then (0 : Int32) else 1) = zb b) :
    ∃ r : Int32 × zM, zwl (fun q => B_X6_takesOver_76 n (nI k) sum q.1 q.2) n ((0 : Int32), M0) = some r ∧ ((∀ v, ¬ v = 20 → r.2.1 v = M0.1 v) ∧ (∀ q, q < 3 * k ∨ 3 * k + 3 ≤ q → r.2.1 20 q = M0.1 20 q) ∧ (∀ c, c < 3 → r.2.1 20 (3 * k + c) = zb b)) := by
  have k1 : ∀ (α : Type) (q : Option α), zchk (nI k) 24 q = q := fun α q => zchk_n (by omega)
  have k3 : (nI k).toNatClampNeg = k := cl_n
  refine zwl_for (fun i s => s.1 = nI i ∧ (∀ v, ¬ v = 20 → s.2.1 v = M0.1 v) ∧ (∀ q, q < 3 * k ∨ 3 * k + 3 ≤ q → s.2.1 20 q = M0.1 20 q) ∧ (∀ c, c < i → s.2.1 20 (3 * k + c) = zb b)) _ 3 n _ (by omega) ⟨rfl, fun _ _ => rfl, fun _ _ => rfl, fun c hc => by omega⟩ ?_ ?_
  · rintro i ⟨x, M⟩ hi ⟨e1, f1, f2, f3⟩
    dsimp only at e1 f1 f2 f3
    subst e1
    have kM := keepR_20 kr f1
    have ge : ¬ (3 : Int32) ≤ nI i := nI_ge (a := i) (b := 3) hi (by decide)
    have w15 : ¬ M.1 15 k = 0 := by rw [kM 15 (by decide)]; exact hv
    have k4 : ∀ (α : Type) (q : Option α), zchk (nI (3 * k + i)) 72 q = q := fun α q => zchk_n (by omega)
    have k5 : (nI (3 * k + i)).toNatClampNeg = 3 * k + i := cl_n (by omega)
    have fin : (nI i + 1 = nI (i + 1) ∧ (∀ v, ¬ v = 20 → (zsI M 20 (3 * k + i) (zb b)).1 v = M0.1 v) ∧ (∀ q, q < 3 * k ∨ 3 * k + 3 ≤ q → (zsI M 20 (3 * k + i) (zb b)).1 20 q = M0.1 20 q) ∧ ∀ c, c < i + 1 → (zsI M 20 (3 * k + i) (zb b)).1 20 (3 * k + c) = zb b) := by
      have e20 : ∀ q, (zsI M 20 (3 * k + i) (zb b)).1 20 q = if q = 3 * k + i then zb b else M.1 20 q := fun q => upd_ap _ _ _ _
      refine ⟨nI_1 i, fun v hv => ?_, fun q hq => ?_, fun c hc => ?_⟩
      · rw [zsI_1, if_neg hv]; exact f1 v hv
      · rw [e20, if_neg (by omega)]; exact f2 q hq
      · rw [e20]
        by_cases e : c = i
        · subst e; rw [if_pos rfl]
        · rw [if_neg (by omega)]; exact f3 c (by omega)
    have st : B_X6_takesOver_76 n (nI k) sum (nI i) M = some (.inl (nI i + 1, zsI M 20 (3 * k + i) (if sum ≤ 1 then (0 : Int32) else 1))) := by
      by_cases l : sum ≤ 1
      · simp only [B_X6_takesOver_76, K_X6_takesOver_109, if_neg ge, k1, k3, if_neg w15, if_pos l, e3, e3c, k4, k5, zst_e, zlt_e]
      · simp only [B_X6_takesOver_76, K_X6_takesOver_109, if_neg ge, k1, k3, if_neg w15, if_neg l, e3, e3c, k4, k5, zst_e, zlt_e]
    rw [hb] at st
    exact ⟨_, st, fin⟩
  · rintro ⟨x, M⟩ ⟨e1, f1, f2, f3⟩
    dsimp only at e1 f1 f2 f3
    subst e1
    have le : (3 : Int32) ≤ nI 3 := by decide
    exact ⟨_, by simp only [B_X6_takesOver_76, if_pos le]; rfl, f1, f2, f3⟩
theorem r_over1 {Mr M0 : zM} {n N I S T V : Nat} {sn : Nat → Nat} (hn : 100 ≤ n) (hok : zOk Mr N I S T V sn) (kr : zKeepR Mr M0) {W : Nat → Nat → Bool} (hW : ∀ k, k < N → ∀ c, c < cp Mr k → M0.1 19 (3 * k + c) = zb (W k c)) :
    ∃ r : Int32 × zM, zwl (fun q => B_X6_takesOver_2 n q.1 q.2) n ((0 : Int32), M0) = some r ∧ ((∀ v, ¬ v = 20 → r.2.1 v = M0.1 v) ∧ ∀ k, k < N → Mr.1 10 k = 5 → ∀ c, c < cp Mr k → r.2.1 20 (3 * k + c) = zb (tks Mr W k c)) := by
  obtain ⟨⟨⟨b1, b2, b3, b4, b5, b6⟩, q0, q1, q2, q3, q4⟩, hnd, hbits, hst, hsh⟩ := id hok
  refine zwl_for (fun i s => s.1 = nI i ∧ (∀ v, ¬ v = 20 → s.2.1 v = M0.1 v) ∧ ∀ k, k < i → Mr.1 10 k = 5 → ∀ c, c < cp Mr k → s.2.1 20 (3 * k + c) = zb (tks Mr W k c)) _ N n _ (by omega) ⟨rfl, fun _ _ => rfl, fun k hk => by omega⟩ ?_ ?_
  · rintro i ⟨x, M⟩ hi ⟨e1, f1, f2⟩
    dsimp only at e1 f1 f2
    subst e1
    have kM := keepR_20 kr f1
    have d0 : M.1 0 0 = nI N := by rw [kM 0 (by decide)]; exact q0
    have ge : ¬ nI N ≤ nI i := nI_ge hi (by omega)
    have k1 : ∀ (α : Type) (q : Option α), zchk (nI i) 24 q = q := fun α q => zchk_n (by omega)
    have k3 : (nI i).toNatClampNeg = i := cl_n
    have g0 : ¬ (3 : Int32) ≤ 0 := by decide
    by_cases c5 : Mr.1 10 i = 5
    · obtain ⟨ha, h11⟩ := (hnd i hi).sto b1 c5
      obtain ⟨⟨s1, s2, M1⟩, w1, w2, w3, w4, w5⟩ := r_over14 hn b1 kM hi c5 ha h11 (W := W) (fun c hc => by rw [f1 19 (by decide)]; exact hW _ ha c hc)
      dsimp only at w2 w3 w4 w5
      have kM1 := keepR_20 kM w2
      by_cases c15 : Mr.1 15 i = 0
      · have w15 : M1.1 15 i = 0 := by rw [kM1 15 (by decide)]; exact c15
        have o : zwl (fun q => B_X6_takesOver_76 n (nI i) s1 q.1 q.2) n ((0 : Int32), M1) = some ((0 : Int32), M1) := zwl_one (by omega) (by simp only [B_X6_takesOver_76, if_neg g0, k1, k3, if_pos w15])
        refine ⟨_, by simp only [B_X6_takesOver_2, d0, if_neg ge, zlt_e, w1, zb3_some, o, zb2_some]; rfl, nI_1 i, fun v hv => (w2 v hv).trans (f1 v hv), fun k hk h c hc => ?_⟩
        show M1.1 20 _ = _
        have h3 := cp_le Mr k
        by_cases e : k = i
        · subst e; rw [w4 c hc]; unfold tks; rw [if_pos c15]
        · rw [w3 _ (by omega)]; exact f2 k (by omega) h c hc
      · have t14 : ¬ Mr.1 14 i = 0 := by
          have := (hbits.2.2 i (((hbits.1 i).2.2).resolve_left c15)).1
          rw [this]; decide
        rw [cp_3 t14, sm3] at w5
        obtain ⟨⟨z1, M2⟩, u1, u2, u3, u4⟩ := r_over76 (b := mj (tkv Mr i (ga Mr i) (W (ga Mr i)) 0) (tkv Mr i (ga Mr i) (W (ga Mr i)) 1) (tkv Mr i (ga Mr i) (W (ga Mr i)) 2)) hn kM1 (show i < 24 by omega) c15 s1 (by rw [w5]; exact zb_mj _ _ _)
        dsimp only at u2 u3 u4
        refine ⟨_, by simp only [B_X6_takesOver_2, d0, if_neg ge, zlt_e, w1, zb3_some, u1, zb2_some]; rfl, nI_1 i, fun v hv => (u2 v hv).trans ((w2 v hv).trans (f1 v hv)), fun k hk h c hc => ?_⟩
        show M2.1 20 _ = _
        have h3 := cp_le Mr k
        by_cases e : k = i
        · subst e; rw [u4 c (by omega)]; unfold tks; rw [if_neg c15]
        · rw [u3 _ (by omega), w3 _ (by omega)]; exact f2 k (by omega) h c hc
    · have w10 : ¬ M.1 10 i = 5 := by rw [kM 10 (by decide)]; exact c5
      have p := cp_pos Mr i
      have p3 := cp_le Mr i
      have ge' : ¬ nI (cp Mr i) ≤ 0 := nI_ge (a := 0) p (by omega)
      have c15 : Mr.1 15 i = 0 := ((hbits.1 i).2.2).resolve_right (fun h => c5 (hbits.2.2 i h).2)
      have w15 : M.1 15 i = 0 := by rw [kM 15 (by decide)]; exact c15
      have w : zwl (fun q => B_X6_takesOver_14 n (nI i) q.1 q.2.1 q.2.2) n ((0 : Int32), (0 : Int32), M) = some ((0 : Int32), (0 : Int32), M) := zwl_one (by omega) (by simp only [B_X6_takesOver_14, r_cp (kM 14 (by decide)) (show i < 24 by omega), zbind_some, if_neg ge', k1, k3, if_neg w10])
      have o : zwl (fun q => B_X6_takesOver_76 n (nI i) 0 q.1 q.2) n ((0 : Int32), M) = some ((0 : Int32), M) := zwl_one (by omega) (by simp only [B_X6_takesOver_76, if_neg g0, k1, k3, if_pos w15])
      refine ⟨_, by simp only [B_X6_takesOver_2, d0, if_neg ge, zlt_e, w, zb3_some, o, zb2_some]; rfl, nI_1 i, f1, fun k hk h c hc => ?_⟩
      exact f2 k (Nat.lt_of_le_of_ne (by omega) (fun e => by subst e; exact c5 h)) h c hc
  · rintro ⟨x, M⟩ ⟨e1, f1, f2⟩
    dsimp only at e1 f1 f2
    subst e1
    have kM := keepR_20 kr f1
    have d0 : M.1 0 0 = nI N := by rw [kM 0 (by decide)]; exact q0
    have le : nI N ≤ nI N := nI_le (Nat.le_refl _) (by omega)
    exact ⟨_, by simp only [B_X6_takesOver_2, d0, if_pos le]; rfl, f1, f2⟩
theorem r_over134 {Mr M0 : zM} {n k : Nat} (hn : 100 ≤ n) (kr : zKeepR Mr M0) (hk : k < 24) (c5 : Mr.1 10 k = 5) :
    ∃ r : Int32 × zM, zwl (fun q => B_X6_takesOver_134 n (nI k) q.1 q.2) n ((0 : Int32), M0) = some r ∧ ((∀ v, ¬ v = 19 → r.2.1 v = M0.1 v) ∧ (∀ q, q < 3 * k ∨ 3 * k + 3 ≤ q → r.2.1 19 q = M0.1 19 q) ∧ (∀ c, c < cp Mr k → r.2.1 19 (3 * k + c) = M0.1 20 (3 * k + c))) := by
  have k1 : ∀ (α : Type) (q : Option α), zchk (nI k) 24 q = q := fun α q => zchk_n (by omega)
  have k3 : (nI k).toNatClampNeg = k := cl_n
  have h3 := cp_le Mr k
  refine zwl_for (fun i s => s.1 = nI i ∧ (∀ v, ¬ v = 19 → s.2.1 v = M0.1 v) ∧ (∀ q, q < 3 * k ∨ 3 * k + 3 ≤ q → s.2.1 19 q = M0.1 19 q) ∧ (∀ c, c < i → s.2.1 19 (3 * k + c) = M0.1 20 (3 * k + c))) _ (cp Mr k) n _ (by omega) ⟨rfl, fun _ _ => rfl, fun _ _ => rfl, fun c hc => by omega⟩ ?_ ?_
  · rintro i ⟨x, M⟩ hi ⟨e1, f1, f2, f3⟩
    dsimp only at e1 f1 f2 f3
    subst e1
    have kM := keepR_19 kr f1
    have ge : ¬ nI (cp Mr k) ≤ nI i := nI_ge hi (by omega)
    have w10 : M.1 10 k = 5 := by rw [kM 10 (by decide)]; exact c5
    have k4 : ∀ (α : Type) (q : Option α), zchk (nI (3 * k + i)) 72 q = q := fun α q => zchk_n (by omega)
    have k5 : (nI (3 * k + i)).toNatClampNeg = 3 * k + i := cl_n (by omega)
    refine ⟨_, by simp only [B_X6_takesOver_134, r_cp (kM 14 (by decide)) hk, zbind_some, if_neg ge, k1, k3, if_pos w10, e3, e3c, k4, k5, f1 20 (by decide), zst_e, zlt_e]; rfl, nI_1 i, fun v hv => ?_, fun q hq => ?_, fun c hc => ?_⟩
    · show (zsI M 19 _ _).1 v = _
      rw [zsI_1, if_neg hv]; exact f1 v hv
    · show upd (M.1 19) _ _ q = _
      rw [upd_ap, if_neg (by omega)]; exact f2 q hq
    · show upd (M.1 19) _ _ (3 * k + c) = _
      rw [upd_ap]
      by_cases e : c = i
      · subst e; rw [if_pos rfl]
      · rw [if_neg (by omega)]; exact f3 c (by omega)
  · rintro ⟨x, M⟩ ⟨e1, f1, f2, f3⟩
    dsimp only at e1 f1 f2 f3
    subst e1
    have kM := keepR_19 kr f1
    have le : nI (cp Mr k) ≤ nI (cp Mr k) := nI_le (Nat.le_refl _) (by omega)
    exact ⟨_, by simp only [B_X6_takesOver_134, r_cp (kM 14 (by decide)) hk, zbind_some, if_pos le]; rfl, f1, f2, f3⟩
/-- the stores take over -/
theorem r_over {Mr M0 : zM} {n N I S T V : Nat} {sn : Nat → Nat} (hn : 100 ≤ n) (hok : zOk Mr N I S T V sn) (kr : zKeepR Mr M0) {W : Nat → Nat → Bool} (hW : ∀ k, k < N → ∀ c, c < cp Mr k → M0.1 19 (3 * k + c) = zb (W k c)) :
    ∃ M, pX6_takesOver n M0 = some M ∧ (∀ v, ¬ v = 19 → ¬ v = 20 → M.1 v = M0.1 v) ∧ ∀ k, k < N → Mr.1 10 k = 5 → ∀ c, c < cp Mr k → M.1 19 (3 * k + c) = zb (tks Mr W k c) := by
  obtain ⟨⟨⟨b1, b2, b3, b4, b5, b6⟩, q0, q1, q2, q3, q4⟩, hnd, hbits, hst, hsh⟩ := id hok
  obtain ⟨⟨y1, Ma⟩, p1, p2, p3⟩ := r_over1 hn hok kr hW
  dsimp only at p2 p3
  have ka := keepR_20 kr p2
  obtain ⟨⟨y2, Mb⟩, o1, o2, o3⟩ := zwl_for (b := fun q => B_X6_takesOver_124 n q.1 q.2) (fun i s => s.1 = nI i ∧ (∀ v, ¬ v = 19 → s.2.1 v = Ma.1 v) ∧ ∀ k, k < i → Mr.1 10 k = 5 → ∀ c, c < cp Mr k → s.2.1 19 (3 * k + c) = zb (tks Mr W k c)) (fun r => (∀ v, ¬ v = 19 → r.2.1 v = Ma.1 v) ∧ ∀ k, k < N → Mr.1 10 k = 5 → ∀ c, c < cp Mr k → r.2.1 19 (3 * k + c) = zb (tks Mr W k c)) N n ((0 : Int32), Ma) (by omega) ⟨rfl, fun _ _ => rfl, fun k hk => by omega⟩
    (by
      rintro i ⟨x, M⟩ hi ⟨e1, f1, f2⟩
      dsimp only at e1 f1 f2
      subst e1
      have kM := keepR_19 ka f1
      have d0 : M.1 0 0 = nI N := by rw [kM 0 (by decide)]; exact q0
      have ge : ¬ nI N ≤ nI i := nI_ge hi (by omega)
      by_cases c5 : Mr.1 10 i = 5
      · obtain ⟨⟨z1, M1⟩, w1, w2, w3, w4⟩ := r_over134 hn kM (show i < 24 by omega) c5
        dsimp only at w2 w3 w4
        refine ⟨_, by simp only [B_X6_takesOver_124, d0, if_neg ge, zlt_e, w1, zb2_some]; rfl, nI_1 i, fun v hv => (w2 v hv).trans (f1 v hv), fun k hk h c hc => ?_⟩
        show M1.1 19 _ = _
        have h3 := cp_le Mr k
        by_cases e : k = i
        · subst e; rw [w4 c hc, f1 20 (by decide)]; exact p3 k hi h c hc
        · rw [w3 _ (by omega)]; exact f2 k (by omega) h c hc
      · have w10 : ¬ M.1 10 i = 5 := by rw [kM 10 (by decide)]; exact c5
        have k1 : ∀ (α : Type) (q : Option α), zchk (nI i) 24 q = q := fun α q => zchk_n (by omega)
        have k3 : (nI i).toNatClampNeg = i := cl_n
        have p := cp_pos Mr i
        have p3 := cp_le Mr i
        have ge' : ¬ nI (cp Mr i) ≤ 0 := nI_ge (a := 0) p (by omega)
        have w : zwl (fun q => B_X6_takesOver_134 n (nI i) q.1 q.2) n ((0 : Int32), M) = some ((0 : Int32), M) := zwl_one (by omega) (by simp only [B_X6_takesOver_134, r_cp (kM 14 (by decide)) (show i < 24 by omega), zbind_some, if_neg ge', k1, k3, if_neg w10])
        refine ⟨_, by simp only [B_X6_takesOver_124, d0, if_neg ge, zlt_e, w, zb2_some]; rfl, nI_1 i, f1, fun k hk h c hc => ?_⟩
        exact f2 k (Nat.lt_of_le_of_ne (by omega) (fun e => by subst e; exact c5 h)) h c hc)
    (by
      rintro ⟨x, M⟩ ⟨e1, f1, f2⟩
      dsimp only at e1 f1 f2
      subst e1
      have kM := keepR_19 ka f1
      have d0 : M.1 0 0 = nI N := by rw [kM 0 (by decide)]; exact q0
      have le : nI N ≤ nI N := nI_le (Nat.le_refl _) (by omega)
      exact ⟨_, by simp only [B_X6_takesOver_124, d0, if_pos le]; rfl, f1, f2⟩)
  refine ⟨Mb, ?_, fun v h1 h2 => (o2 v h1).trans (p2 v h2), o3⟩
  simp only [pX6_takesOver, zlt_e, p1, zb2_some, o1]
