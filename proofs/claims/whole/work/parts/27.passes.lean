theorem keepR_19 {Mr M0 M : zM} (kr : zKeepR Mr M0) (f : ∀ v, ¬ v = 19 → M.1 v = M0.1 v) : zKeepR Mr M := fun v hv => (f v (fun e => by subst e; revert hv; decide)).trans (kr v hv)
theorem r_pass12 {Mr M0 : zM} {n k t : Nat} (hn : 100 ≤ n) (kr : zKeepR Mr M0) (hk : k < 24) {S : Nat → Bool} (hS : Mr.1 10 k = 5 → ∀ c, c < cp Mr k → M0.1 19 (3 * k + c) = zb (S c)) :
    ∃ r : Int32 × zM, zwl (fun q => B_X6_passes_12 n (nI t) (nI k) q.1 q.2) n ((0 : Int32), M0) = some r ∧ ((∀ v, ¬ v = 19 → r.2.1 v = M0.1 v) ∧ (∀ q, q < 3 * k ∨ 3 * k + 3 ≤ q → r.2.1 19 q = M0.1 19 q) ∧ (Mr.1 10 k = 5 → ∀ c, c < cp Mr k → r.2.1 19 (3 * k + c) = zb (S c ^^ FA (M0.1 21) t k c))) := by
  have k1 : ∀ (α : Type) (q : Option α), zchk (nI k) 24 q = q := fun α q => zchk_n hk
  have k3 : (nI k).toNatClampNeg = k := cl_n
  have h3 := cp_le Mr k
  by_cases c5 : Mr.1 10 k = 5
  · refine zwl_for (fun i s => s.1 = nI i ∧ (∀ v, ¬ v = 19 → s.2.1 v = M0.1 v) ∧ (∀ q, q < 3 * k ∨ 3 * k + 3 ≤ q → s.2.1 19 q = M0.1 19 q) ∧ ∀ c, c < cp Mr k → s.2.1 19 (3 * k + c) = if c < i then zb (S c ^^ FA (M0.1 21) t k c) else zb (S c)) _ (cp Mr k) n _ (by omega) ⟨rfl, fun _ _ => rfl, fun _ _ => rfl, fun c hc => ?_⟩ ?_ ?_
    · rw [if_neg (by omega)]; exact hS c5 c hc
    · rintro i ⟨x, M⟩ hi ⟨e1, f1, f2, f3⟩
      dsimp only at e1 f1 f2 f3
      subst e1
      have kM := keepR_19 kr f1
      have ge : ¬ nI (cp Mr k) ≤ nI i := nI_ge hi (by omega)
      have w10 : M.1 10 k = 5 := by rw [kM 10 (by decide)]; exact c5
      have k4 : ∀ (α : Type) (q : Option α), zchk (nI (3 * k + i)) 72 q = q := fun α q => zchk_n (by omega)
      have k5 : (nI (3 * k + i)).toNatClampNeg = 3 * k + i := cl_n (by omega)
      have v0 : M.1 19 (3 * k + i) = zb (S i) := by rw [f3 i hi, if_neg (by omega)]
      refine ⟨_, by simp only [B_X6_passes_12, r_cp (kM 14 (by decide)) hk, zbind_some, if_neg ge, k1, k3, if_pos w10, e3, e3c, k4, k5, r_flipAt, f1 21 (by decide), v0, zb_xor, zst_e, zlt_e]; rfl, nI_1 i, fun v hv => ?_, fun q hq => ?_, fun c hc => ?_⟩
      · show (zsI M 19 _ _).1 v = _
        rw [zsI_1, if_neg hv]; exact f1 v hv
      · show upd (M.1 19) _ _ q = _
        rw [upd_ap, if_neg (by omega)]; exact f2 q hq
      · show upd (M.1 19) _ _ (3 * k + c) = _
        rw [upd_ap]
        by_cases e : c = i
        · subst e; rw [if_pos rfl, if_pos (by omega)]
        · rw [if_neg (by omega), f3 c hc]
          by_cases l : c < i
          · rw [if_pos l, if_pos (by omega)]
          · rw [if_neg l, if_neg (by omega)]
    · rintro ⟨x, M⟩ ⟨e1, f1, f2, f3⟩
      dsimp only at e1 f1 f2 f3
      subst e1
      have kM := keepR_19 kr f1
      have le : nI (cp Mr k) ≤ nI (cp Mr k) := nI_le (Nat.le_refl _) (by omega)
      refine ⟨_, by simp only [B_X6_passes_12, r_cp (kM 14 (by decide)) hk, zbind_some, if_pos le]; rfl, f1, f2, fun _ c hc => ?_⟩
      show M.1 19 _ = _
      rw [f3 c hc, if_pos hc]
  · have w10 : ¬ M0.1 10 k = 5 := by rw [kr 10 (by decide)]; exact c5
    have p := cp_pos Mr k
    have ge : ¬ nI (cp Mr k) ≤ nI 0 := nI_ge p (by omega)
    refine ⟨((0 : Int32), M0), zwl_one (by omega) ?_, fun _ _ => rfl, fun _ _ => rfl, fun h => absurd h c5⟩
    have ge' : ¬ nI (cp Mr k) ≤ 0 := ge
    simp only [B_X6_passes_12, r_cp (kr 14 (by decide)) hk, zbind_some, if_neg ge', k1, k3, if_neg w10]
theorem r_pass1 {Mr M0 : zM} {n N t : Nat} (hn : 100 ≤ n) (hN : N ≤ 24) (q0 : Mr.1 0 0 = nI N) (kr : zKeepR Mr M0) {S : Nat → Nat → Bool} (hS : ∀ k, k < N → Mr.1 10 k = 5 → ∀ c, c < cp Mr k → M0.1 19 (3 * k + c) = zb (S k c)) :
    ∃ r : Int32 × zM, zwl (fun q => B_X6_passes_2 n (nI t) q.1 q.2) n ((0 : Int32), M0) = some r ∧ ((∀ v, ¬ v = 19 → r.2.1 v = M0.1 v) ∧ (∀ k, k < N → Mr.1 10 k = 5 → ∀ c, c < cp Mr k → r.2.1 19 (3 * k + c) = zb (S k c ^^ FA (M0.1 21) t k c))) := by
  refine zwl_for (fun i s => s.1 = nI i ∧ (∀ v, ¬ v = 19 → s.2.1 v = M0.1 v) ∧ ∀ k, k < N → Mr.1 10 k = 5 → ∀ c, c < cp Mr k → s.2.1 19 (3 * k + c) = if k < i then zb (S k c ^^ FA (M0.1 21) t k c) else zb (S k c)) _ N n _ (by omega) ⟨rfl, fun _ _ => rfl, fun k hk h c hc => ?_⟩ ?_ ?_
  · rw [if_neg (by omega)]; exact hS k hk h c hc
  · rintro i ⟨x, M⟩ hi ⟨e1, f1, f2⟩
    dsimp only at e1 f1 f2
    subst e1
    have kM := keepR_19 kr f1
    have d0 : M.1 0 0 = nI N := by rw [kM 0 (by decide)]; exact q0
    have ge : ¬ nI N ≤ nI i := nI_ge hi (by omega)
    obtain ⟨⟨z1, M1⟩, w1, w2, w3, w4⟩ := r_pass12 (t := t) hn kM (show i < 24 by omega) (S := S i) (fun h c hc => by rw [f2 i hi h c hc, if_neg (by omega)])
    dsimp only at w2 w3 w4
    refine ⟨_, by simp only [B_X6_passes_2, d0, if_neg ge, zlt_e, w1, zb2_some]; rfl, nI_1 i, fun v hv => (w2 v hv).trans (f1 v hv), fun k hk h c hc => ?_⟩
    show M1.1 19 _ = _
    have h3 := cp_le Mr k
    by_cases e : k = i
    · subst e
      rw [w4 h c hc, f1 21 (by decide), if_pos (by omega)]
    · rw [w3 _ (by omega), f2 k hk h c hc]
      by_cases l : k < i
      · rw [if_pos l, if_pos (by omega)]
      · rw [if_neg l, if_neg (by omega)]
  · rintro ⟨x, M⟩ ⟨e1, f1, f2⟩
    dsimp only at e1 f1 f2
    subst e1
    have kM := keepR_19 kr f1
    have d0 : M.1 0 0 = nI N := by rw [kM 0 (by decide)]; exact q0
    have le : nI N ≤ nI N := nI_le (Nat.le_refl _) (by omega)
    refine ⟨_, by simp only [B_X6_passes_2, d0, if_pos le]; rfl, f1, fun k hk h c hc => ?_⟩
    show M.1 19 _ = _
    rw [f2 k hk h c hc, if_pos hk]
theorem r_pass75 {Mr M0 : zM} {n N I S T V k t : Nat} {sn : Nat → Nat} (hn : 100 ≤ n) (hok : zOk Mr N I S T V sn) (kr : zKeepR Mr M0) (hk : k < N) (ht : t < 16) {Z F : Nat → Nat → Bool} (hF : F = FA (M0.1 21) t) (n5 : ¬ Mr.1 10 k = 5)
    (hS : ∀ q, q < k → ∀ c, c < cp Mr q → M0.1 19 (3 * q + c) = zb (gv Mr t Z F q c)) :
    ∃ r : Int32 × zM, zwl (fun q => B_X6_passes_75 n (nI t) (nI k) q.1 q.2) n ((0 : Int32), M0) = some r ∧ ((∀ v, ¬ v = 19 → r.2.1 v = M0.1 v) ∧ (∀ q, q < 3 * k ∨ 3 * k + 3 ≤ q → r.2.1 19 q = M0.1 19 q) ∧ (∀ c, c < cp Mr k → r.2.1 19 (3 * k + c) = zb (gv Mr t Z F k c))) := by
  obtain ⟨⟨⟨b1, b2, b3, b4, b5, b6⟩, q0, q1, q2, q3, q4⟩, hnd, hbits, hst, hsh⟩ := id hok
  have k1 : ∀ (α : Type) (q : Option α), zchk (nI k) 24 q = q := fun α q => zchk_n (by omega)
  have k3 : (nI k).toNatClampNeg = k := cl_n
  have h3 := cp_le Mr k
  refine zwl_for (fun i s => s.1 = nI i ∧ (∀ v, ¬ v = 19 → s.2.1 v = M0.1 v) ∧ (∀ q, q < 3 * k ∨ 3 * k + 3 ≤ q → s.2.1 19 q = M0.1 19 q) ∧ ∀ c, c < i → s.2.1 19 (3 * k + c) = zb (gv Mr t Z F k c)) _ (cp Mr k) n _ (by omega) ⟨rfl, fun _ _ => rfl, fun _ _ => rfl, fun c hc => by omega⟩ ?_ ?_
  · rintro i ⟨x, M⟩ hi ⟨e1, f1, f2, f3⟩
    dsimp only at e1 f1 f2 f3
    subst e1
    have kM := keepR_19 kr f1
    have ge : ¬ nI (cp Mr k) ≤ nI i := nI_ge hi (by omega)
    have w10 : ¬ M.1 10 k = 5 := by rw [kM 10 (by decide)]; exact n5
    have k4 : ∀ (α : Type) (q : Option α), zchk (nI (3 * k + i)) 72 q = q := fun α q => zchk_n (by omega)
    have k5 : (nI (3 * k + i)).toNatClampNeg = 3 * k + i := cl_n (by omega)
    have rd : ∀ q, q < k → ∀ c, c < cp Mr q → M.1 19 (3 * q + c) = zb (gv Mr t Z F q c) := fun q hq c hc => by
      have h3 := cp_le Mr q
      rw [f2 _ (by omega)]; exact hS q hq c hc
    have fin : ∀ b : Bool, (b ^^ F k i) = gv Mr t Z F k i → (nI i + 1 = nI (i + 1) ∧ (∀ v, ¬ v = 19 → (zsI M 19 (3 * k + i) (zb (b ^^ F k i))).1 v = M0.1 v) ∧ (∀ q, q < 3 * k ∨ 3 * k + 3 ≤ q → (zsI M 19 (3 * k + i) (zb (b ^^ F k i))).1 19 q = M0.1 19 q) ∧ ∀ c, c < i + 1 → (zsI M 19 (3 * k + i) (zb (b ^^ F k i))).1 19 (3 * k + c) = zb (gv Mr t Z F k c)) := fun b hb => by
      have e19 : ∀ q, (zsI M 19 (3 * k + i) (zb (b ^^ F k i))).1 19 q = if q = 3 * k + i then zb (b ^^ F k i) else M.1 19 q := fun q => upd_ap _ _ _ _
      refine ⟨nI_1 i, fun v hv => ?_, fun q hq => ?_, fun c hc => ?_⟩
      · rw [zsI_1, if_neg hv]; exact f1 v hv
      · rw [e19, if_neg (by omega)]; exact f2 q hq
      · rw [e19]
        by_cases e : c = i
        · subst e; rw [if_pos rfl, hb]
        · rw [if_neg (by omega)]; exact f3 c (by omega)
    have fa : pX6_flipAt (nI t) (nI k) (nI i) M = some (zb (F k i)) := by rw [r_flipAt, f1 21 (by decide), hF]
    by_cases c0 : Mr.1 10 k = 0
    · have w0 : M.1 10 k = 0 := by rw [kM 10 (by decide)]; exact c0
      refine ⟨_, by simp only [B_X6_passes_75, K_X6_passes_145, r_cp (kM 14 (by decide)) (show k < 24 by omega), zbind_some, if_neg ge, k1, k3, if_neg w10, if_pos w0, r_inputAt hok kM hk c0 (show t < 60 by omega), e3, e3c, k4, k5, fa, zb_xor, zst_e, zlt_e]; rfl, ?_⟩
      exact fin _ (gv_in c0).symm
    · have w0 : ¬ M.1 10 k = 0 := by rw [kM 10 (by decide)]; exact c0
      obtain ⟨ha, h11, hb⟩ := (hnd k hk).gate b1 hk c0 n5
      have ta := r_takes (Mr := Mr) (M := M) (j := k) (q := ga Mr k) (c := i) (kM 14 (by decide)) (by omega) (by omega) hi (v := gv Mr t Z F (ga Mr k)) (rd _ ha)
      have w11 : M.1 11 k = nI (ga Mr k) := by rw [kM 11 (by decide)]; exact h11
      rcases hb with ⟨h1, h12⟩ | ⟨h1, h12, hb, h12'⟩
      · have w12 : M.1 12 k = -1 := by rw [kM 12 (by decide)]; exact h12
        have tb : pX6_takes (nI k) (nI i) (-1) M = some (zb false) := by unfold pX6_takes; rw [if_pos rfl]; rfl
        refine ⟨_, by simp only [B_X6_passes_75, K_X6_passes_145, r_cp (kM 14 (by decide)) (show k < 24 by omega), zbind_some, if_neg ge, k1, k3, if_neg w10, if_neg w0, w11, ta, w12, tb, r_gate, e3, e3c, k4, k5, fa, zb_xor, zst_e, zlt_e]; rfl, ?_⟩
        refine fin _ ?_
        rw [gv_g c0 n5 ha (Or.inl h12), if_pos h12, kM 10 (by decide)]
      · have w12 : M.1 12 k = nI (gb Mr k) := by rw [kM 12 (by decide)]; exact h12'
        have tb := r_takes (Mr := Mr) (M := M) (j := k) (q := gb Mr k) (c := i) (kM 14 (by decide)) (by omega) (by omega) hi (v := gv Mr t Z F (gb Mr k)) (rd _ hb)
        refine ⟨_, by simp only [B_X6_passes_75, K_X6_passes_145, r_cp (kM 14 (by decide)) (show k < 24 by omega), zbind_some, if_neg ge, k1, k3, if_neg w10, if_neg w0, w11, ta, w12, tb, r_gate, e3, e3c, k4, k5, fa, zb_xor, zst_e, zlt_e]; rfl, ?_⟩
        refine fin _ ?_
        rw [gv_g c0 n5 ha (Or.inr hb), if_neg h12, kM 10 (by decide)]
  · rintro ⟨x, M⟩ ⟨e1, f1, f2, f3⟩
    dsimp only at e1 f1 f2 f3
    subst e1
    have kM := keepR_19 kr f1
    have le : nI (cp Mr k) ≤ nI (cp Mr k) := nI_le (Nat.le_refl _) (by omega)
    exact ⟨_, by simp only [B_X6_passes_75, r_cp (kM 14 (by decide)) (show k < 24 by omega), zbind_some, if_pos le]; rfl, f1, f2, f3⟩
/-- a tick of the bearing net -/
theorem r_passes {Mr M0 : zM} {n N I S T V t : Nat} {sn : Nat → Nat} (hn : 100 ≤ n) (hok : zOk Mr N I S T V sn) (kr : zKeepR Mr M0) (ht : t < 16) {Z : Nat → Nat → Bool} (hS : ∀ k, k < N → Mr.1 10 k = 5 → ∀ c, c < cp Mr k → M0.1 19 (3 * k + c) = zb (Z k c)) :
    ∃ M, pX6_passes n (nI t) M0 = some M ∧ (∀ v, ¬ v = 19 → M.1 v = M0.1 v) ∧ ∀ k, k < N → ∀ c, c < cp Mr k → M.1 19 (3 * k + c) = zb (gv Mr t Z (FA (M0.1 21) t) k c) := by
  obtain ⟨⟨⟨b1, b2, b3, b4, b5, b6⟩, q0, q1, q2, q3, q4⟩, hnd, hbits, hst, hsh⟩ := id hok
  obtain ⟨⟨y1, Ma⟩, p1, p2, p3⟩ := r_pass1 (t := t) hn b1 q0 kr hS
  dsimp only at p2 p3
  obtain ⟨⟨y2, Mb⟩, o1, o2, o3⟩ := zwl_for (b := fun q => B_X6_passes_65 n (nI t) q.1 q.2) (fun i s => s.1 = nI i ∧ (∀ v, ¬ v = 19 → s.2.1 v = M0.1 v) ∧ ∀ k, k < N → (Mr.1 10 k = 5 ∨ k < i) → ∀ c, c < cp Mr k → s.2.1 19 (3 * k + c) = zb (gv Mr t Z (FA (M0.1 21) t) k c)) (fun r => (∀ v, ¬ v = 19 → r.2.1 v = M0.1 v) ∧ ∀ k, k < N → ∀ c, c < cp Mr k → r.2.1 19 (3 * k + c) = zb (gv Mr t Z (FA (M0.1 21) t) k c)) N n ((0 : Int32), Ma) (by omega) ⟨rfl, p2, fun k hk h c hc => by
      rcases h with h | h
      · rw [gv_st h]; exact p3 k hk h c hc
      · omega⟩
    (by
      rintro i ⟨x, M⟩ hi ⟨e1, f1, f2⟩
      dsimp only at e1 f1 f2
      subst e1
      have kM := keepR_19 kr f1
      have d0 : M.1 0 0 = nI N := by rw [kM 0 (by decide)]; exact q0
      have ge : ¬ nI N ≤ nI i := nI_ge hi (by omega)
      by_cases c5 : Mr.1 10 i = 5
      · have w10 : M.1 10 i = 5 := by rw [kM 10 (by decide)]; exact c5
        have k1 : ∀ (α : Type) (q : Option α), zchk (nI i) 24 q = q := fun α q => zchk_n (by omega)
        have k3 : (nI i).toNatClampNeg = i := cl_n
        have p := cp_pos Mr i
        have p3 := cp_le Mr i
        have ge' : ¬ nI (cp Mr i) ≤ 0 := nI_ge (a := 0) p (by omega)
        have w : zwl (fun q => B_X6_passes_75 n (nI t) (nI i) q.1 q.2) n ((0 : Int32), M) = some ((0 : Int32), M) := zwl_one (by omega) (by simp only [B_X6_passes_75, r_cp (kM 14 (by decide)) (show i < 24 by omega), zbind_some, if_neg ge', k1, k3, if_pos w10])
        refine ⟨_, by simp only [B_X6_passes_65, d0, if_neg ge, zlt_e, w, zb2_some]; rfl, nI_1 i, f1, fun k hk h c hc => ?_⟩
        refine f2 k hk ?_ c hc
        by_cases e : k = i
        · subst e; exact Or.inl c5
        · exact h.imp id (fun h => by omega)
      · obtain ⟨⟨z1, M1⟩, w1, w2, w3, w4⟩ := r_pass75 (Z := Z) (F := FA (M0.1 21) t) hn hok kM hi ht (by rw [f1 21 (by decide)]) c5 (fun q hq c hc => f2 q (by omega) (Or.inr hq) c hc)
        dsimp only at w2 w3 w4
        refine ⟨_, by simp only [B_X6_passes_65, d0, if_neg ge, zlt_e, w1, zb2_some]; rfl, nI_1 i, fun v hv => (w2 v hv).trans (f1 v hv), fun k hk h c hc => ?_⟩
        show M1.1 19 _ = _
        have h3 := cp_le Mr k
        by_cases e : k = i
        · subst e; exact w4 c hc
        · rw [w3 _ (by omega)]; exact f2 k hk (h.imp id (fun h => by omega)) c hc)
    (by
      rintro ⟨x, M⟩ ⟨e1, f1, f2⟩
      dsimp only at e1 f1 f2
      subst e1
      have kM := keepR_19 kr f1
      have d0 : M.1 0 0 = nI N := by rw [kM 0 (by decide)]; exact q0
      have le : nI N ≤ nI N := nI_le (Nat.le_refl _) (by omega)
      exact ⟨_, by simp only [B_X6_passes_65, d0, if_pos le]; rfl, f1, fun k hk c hc => f2 k hk (Or.inr hk) c hc⟩)
  refine ⟨Mb, ?_, o2, o3⟩
  simp only [pX6_passes, zlt_e, p1, zb2_some, o1]
