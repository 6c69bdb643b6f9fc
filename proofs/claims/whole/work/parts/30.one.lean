/-- one flip -/
def fO (t0 k0 c0 t k c : Nat) : Bool := decide (t = t0) && decide (nI k0 = nI k) && decide (nI c0 = nI c)
/-- a run's verdict -/
def vd (M : zM) (N T : Nat) (F : Nat → Nat → Nat → Bool) : Int32 := vI (SN M F N T) (LG M F N T)
theorem ss_cg {M : zM} {F G : Nat → Nat → Nat → Bool} {T : Nat} (h : ∀ t, t < T → F t = G t) : ∀ t, t ≤ T → ss M F t = ss M G t
  | 0, _ => rfl
  | t + 1, ht => by
    show (fun k c => tks M (gv M t (ss M F t) (F t)) k c) = fun k c => tks M (gv M t (ss M G t) (G t)) k c
    rw [ss_cg h t (by omega), h t (by omega)]
theorem ex_cg {f g : Nat → Bool} : ∀ {n : Nat}, (∀ k, k < n → f k = g k) → ex n f = ex n g
  | 0, _ => rfl
  | n + 1, h => by rw [ex_s, ex_s, ex_cg (fun k hk => h k (by omega)), h n (by omega)]
theorem vd_cg {M : zM} {F G : Nat → Nat → Nat → Bool} {N T : Nat} (h : ∀ t, t < T → F t = G t) : vd M N T F = vd M N T G := by
  have e1 : SN M F N T = SN M G N T := ex_cg (fun t ht => ex_cg (fun k _ => by unfold s1 bl; rw [ss_cg h t (by omega), h t ht]))
  have e2 : LG M F N T = LG M G N T := ex_cg (fun k _ => by unfold l1; rw [ss_cg h T (Nat.le_refl _)])
  unfold vd; rw [e1, e2]
theorem nI_inj {a b : Nat} (ha : a < 1000) (hb : b < 1000) : (nI a = nI b) = (b = a) := by
  refine propext ⟨fun h => ?_, fun h => by rw [h]⟩
  have := congrArg Int32.toInt h
  rw [nI_toInt (by omega), nI_toInt (by omega)] at this
  omega
theorem z6 (i : Nat) (h : i < 6) {α : Type} (q : Option α) : zchk (nI i) 6 q = q := zchk_n h
theorem z60 {α : Type} (q : Option α) : zchk (0 : Int32) 6 q = q := z6 0 (by omega) q
theorem z61 {α : Type} (q : Option α) : zchk (1 : Int32) 6 q = q := z6 1 (by omega) q
theorem z62 {α : Type} (q : Option α) : zchk (2 : Int32) 6 q = q := z6 2 (by omega) q
theorem z63 {α : Type} (q : Option α) : zchk (3 : Int32) 6 q = q := z6 3 (by omega) q
theorem z64 {α : Type} (q : Option α) : zchk (4 : Int32) 6 q = q := z6 4 (by omega) q
theorem z65 {α : Type} (q : Option α) : zchk (5 : Int32) 6 q = q := z6 5 (by omega) q
theorem cl1 : (1 : Int32).toNatClampNeg = 1 := rfl
theorem cl2 : (2 : Int32).toNatClampNeg = 2 := rfl
theorem cl3 : (3 : Int32).toNatClampNeg = 3 := rfl
theorem cl4 : (4 : Int32).toNatClampNeg = 4 := rfl
theorem cl5 : (5 : Int32).toNatClampNeg = 5 := rfl
theorem keepR_21 {Mr M0 M : zM} (kr : zKeepR Mr M0) (f : ∀ v, ¬ v = 21 → M.1 v = M0.1 v) : zKeepR Mr M := fun v hv => (f v (fun e => by subst e; revert hv; decide)).trans (kr v hv)
theorem zPl.keep {Mr M M' : zM} {N τ : Nat} (h : zPl Mr M N τ) (e : M'.1 18 = M.1 18) : zPl Mr M' N τ := by
  unfold zPl; rw [e]; exact h
theorem r_one {Mr M0 : zM} {n N I S T V t0 k0 c0 : Nat} {sn : Nat → Nat} (hn : 100 ≤ n) (hok : zOk Mr N I S T V sn) (kr : zKeepR Mr M0) (hp : zPl Mr M0 N T) (ht : t0 < T) :
    ∃ M, pX6_runsOne n (nI t0) (nI k0) (nI c0) M0 = some (vd Mr N T (fO t0 k0 c0), M) ∧ ∀ v, ¬ v = 19 → ¬ v = 20 → ¬ v = 21 → M.1 v = M0.1 v := by
  obtain ⟨⟨⟨b1, b2, b3, b4, b5, b6⟩, q0, q1, q2, q3, q4⟩, -⟩ := id hok
  unfold pX6_runsOne
  simp only [z60, z61, z62, z63, zst_e, cl0, cl1, cl2, cl3]
  generalize hM : zsI (zsI (zsI (zsI M0 21 0 (nI t0)) 21 1 (nI k0)) 21 2 (nI c0)) 21 3 (-1) = M1
  have g : ∀ v, ¬ v = 21 → M1.1 v = M0.1 v := fun v hv => by subst hM; simp only [zsI_1, if_neg hv]
  have g0 : M1.1 21 0 = nI t0 := by subst hM; simp only [zsI_1, if_true, upd_ap]; rfl
  have g1 : M1.1 21 1 = nI k0 := by subst hM; simp only [zsI_1, if_true, upd_ap]; rfl
  have g2 : M1.1 21 2 = nI c0 := by subst hM; simp only [zsI_1, if_true, upd_ap]; rfl
  have g3 : M1.1 21 3 = -1 := by subst hM; simp only [zsI_1, if_true, upd_ap]
  have fa : ∀ t, t < 16 → FA (M1.1 21) t = fO t0 k0 c0 t := fun t ht' => funext fun k => funext fun c => by
    unfold FA fO
    have m : ¬ (-1 : Int32) = nI t := fun e => nI_ne_m1 (by omega) e.symm
    have m1 : decide ((-1 : Int32) = nI t) = false := decide_eq_false m
    rw [g0, g1, g2, g3, m1, Bool.false_and, Bool.false_and, Bool.or_false]
    congr 2
    exact decide_eq_decide.mpr (by rw [nI_inj (by omega) (by omega)])
  obtain ⟨M, h1, h2⟩ := r_runs39 hn hok (keepR_21 kr g) (hp.keep (g 18 (by decide))) ht (fun t htt k c => by
    rw [fa t (by omega)]; unfold fO; rw [decide_eq_false (show ¬ t = t0 by omega)]; rfl)
  have e : pX6_runs n M1 = some (vd Mr N T (fO t0 k0 c0), M) := by
    unfold pX6_runs K_X6_runs_33
    have lt : (-1 : Int32) < 0 := by decide
    simp only [z63, cl3, g3, if_pos lt, z60, cl0, g0]
    rw [h1, ← vd_cg (M := Mr) (N := N) (T := T) (fun t ht => fa t (by omega))]; rfl
  rw [e]
  exact ⟨M, rfl, fun v h3 h4 h5 => (h2 v h3 h4).trans (g v h5)⟩
/-- two flips -/
def fW (t0 k0 c0 t1 k1 c1 t k c : Nat) : Bool := fO t0 k0 c0 t k c || fO t1 k1 c1 t k c
theorem r_two {Mr M0 : zM} {n N I S T V t0 k0 c0 t1 k1 c1 : Nat} {sn : Nat → Nat} (hn : 100 ≤ n) (hok : zOk Mr N I S T V sn) (kr : zKeepR Mr M0) (hp : zPl Mr M0 N T) (ht : t0 < T) (ht1 : t1 < T) :
    ∃ M, pX6_runsTwo n (nI k0) (nI c0) (nI t0) (nI k1) (nI c1) (nI t1) M0 = some (vd Mr N T (fW t0 k0 c0 t1 k1 c1), M) ∧ ∀ v, ¬ v = 19 → ¬ v = 20 → ¬ v = 21 → M.1 v = M0.1 v := by
  obtain ⟨⟨⟨b1, b2, b3, b4, b5, b6⟩, q0, q1, q2, q3, q4⟩, -⟩ := id hok
  unfold pX6_runsTwo
  simp only [z60, z61, z62, z63, z64, z65, zst_e, cl0, cl1, cl2, cl3, cl4, cl5]
  generalize hM : zsI (zsI (zsI (zsI (zsI (zsI M0 21 0 (nI t0)) 21 1 (nI k0)) 21 2 (nI c0)) 21 3 (nI t1)) 21 4 (nI k1)) 21 5 (nI c1) = M1
  have g : ∀ v, ¬ v = 21 → M1.1 v = M0.1 v := fun v hv => by subst hM; simp only [zsI_1, if_neg hv]
  have g0 : M1.1 21 0 = nI t0 := by subst hM; simp only [zsI_1, if_true, upd_ap]; rfl
  have g1 : M1.1 21 1 = nI k0 := by subst hM; simp only [zsI_1, if_true, upd_ap]; rfl
  have g2 : M1.1 21 2 = nI c0 := by subst hM; simp only [zsI_1, if_true, upd_ap]; rfl
  have g3 : M1.1 21 3 = nI t1 := by subst hM; simp only [zsI_1, if_true, upd_ap]; rfl
  have g4 : M1.1 21 4 = nI k1 := by subst hM; simp only [zsI_1, if_true, upd_ap]; rfl
  have g5 : M1.1 21 5 = nI c1 := by subst hM; simp only [zsI_1, if_true, upd_ap]
  have fa : ∀ t, t < 16 → FA (M1.1 21) t = fW t0 k0 c0 t1 k1 c1 t := fun t ht' => funext fun k => funext fun c => by
    unfold FA fW fO
    rw [g0, g1, g2, g3, g4, g5]
    have h1 : decide (nI t0 = nI t) = decide (t = t0) := decide_eq_decide.mpr (by rw [nI_inj (by omega) (by omega)])
    have h2 : decide (nI t1 = nI t) = decide (t = t1) := decide_eq_decide.mpr (by rw [nI_inj (by omega) (by omega)])
    rw [h1, h2]
  have no : ∀ u, u ≤ t0 → u ≤ t1 → u < 16 → ∀ t, t < u → ∀ k c, FA (M1.1 21) t k c = false := fun u h0 h1 hu t htt k c => by
    rw [fa t (by omega)]; unfold fW fO; rw [decide_eq_false (show ¬ t = t0 by omega), decide_eq_false (show ¬ t = t1 by omega)]; rfl
  have ge : ¬ nI t1 < 0 := nI_pos (by omega)
  by_cases c : t0 ≤ t1
  · obtain ⟨M, h1, h2⟩ := r_runs39 hn hok (keepR_21 kr g) (hp.keep (g 18 (by decide))) ht (no t0 (Nat.le_refl _) c (by omega))
    have e : pX6_runs n M1 = some (vd Mr N T (fW t0 k0 c0 t1 k1 c1), M) := by
      unfold pX6_runs K_X6_runs_33
      simp only [z63, cl3, g3, if_neg ge, z60, cl0, g0, if_pos (nI_le c (show t1 < 2147483648 by omega))]
      rw [h1, ← vd_cg (M := Mr) (N := N) (T := T) (fun t ht => fa t (by omega))]; rfl
    rw [e]
    exact ⟨M, rfl, fun v h3 h4 h5 => (h2 v h3 h4).trans (g v h5)⟩
  · obtain ⟨M, h1, h2⟩ := r_runs39 hn hok (keepR_21 kr g) (hp.keep (g 18 (by decide))) ht1 (no t1 (by omega) (Nat.le_refl _) (by omega))
    have e : pX6_runs n M1 = some (vd Mr N T (fW t0 k0 c0 t1 k1 c1), M) := by
      unfold pX6_runs
      simp only [z63, cl3, g3, if_neg ge, z60, cl0, g0, if_neg (nI_ge (show t1 < t0 by omega) (show t0 < 2147483648 by omega))]
      rw [h1, ← vd_cg (M := Mr) (N := N) (T := T) (fun t ht => fa t (by omega))]; rfl
    rw [e]
    exact ⟨M, rfl, fun v h3 h4 h5 => (h2 v h3 h4).trans (g v h5)⟩
theorem c_cp {Mr M : zM} {k : Nat} (h : M.1 16 = Mr.1 14) (hk : k < 24) : pX2_copies (nI k) M = some (nI (cp Mr k)) := by
  rw [c_copies hk, h]
  by_cases c : Mr.1 14 k = 0
  · rw [if_pos c, cp_1 c]; rfl
  · rw [if_neg c, cp_3 c]; rfl
/-- a copy, on both sides, or none -/
theorem zcopy {Mc Mr Mr' : zM} {N : Nat} (hN : N ≤ 24) (d2 : Mc.1 2 0 = nI N) (q0 : Mr.1 0 0 = nI N) (m16 : Mc.1 16 = Mr'.1 14) (m14 : Mr.1 14 = Mr'.1 14) (x1 x2 : Int32) :
    (pX2_isCopy x1 x2 Mc = some 0 ∧ pX6_isCopy x1 x2 Mr = some 0) ∨ ∃ k c, k < N ∧ c < cp Mr' k ∧ x1 = nI k ∧ x2 = nI c ∧ pX2_isCopy x1 x2 Mc = some 1 ∧ pX6_isCopy x1 x2 Mr = some 1 := by
  unfold pX2_isCopy pX6_isCopy K_X2_isCopy_25 K_X6_isCopy_27
  rcases zix x1 hN with c | ⟨k, hk, rfl⟩
  · rw [pC_isNode_n d2 c, pR_isNode_n q0 hN c, zbind_some, zbind_some, if00, if00]
    exact Or.inl ⟨rfl, rfl⟩
  rw [pC_isNode_y d2 hN hk, pR_isNode_y q0 hN hk, zbind_some, zbind_some, if10, if10, c_cp m16 (by omega), r_cp m14 (by omega), zbind_some, zbind_some]
  have h3 := cp_le Mr' k
  rcases zix x2 (N := cp Mr' k) (by omega) with c | ⟨j, hj, rfl⟩
  · rw [pR_in_n (c.imp id (nI_lt_m1 (by omega)).mpr), zbind_some, if00]
    refine Or.inl ⟨?_, rfl⟩
    by_cases c1 : x2 < 0
    · rw [if_pos c1]
    · rw [if_neg c1, if_pos (c.resolve_left c1)]
  · rw [pR_in_y (nI_pos (by omega)) (fun q => nI_ge hj (by omega) ((nI_lt_m1 (by omega)).mp q)), zbind_some, if10, if_neg (nI_pos (by omega)), if_neg (nI_ge hj (by omega))]
    exact Or.inr ⟨k, j, hk, hj, rfl, rfl, rfl, rfl⟩
theorem b_copy {Mc Mr : zM} {n : Nat} (hn : 100 ≤ n) (h : zRel Mc Mr) (x1 x2 x3 : Int32) : zBoth (pX5_copy n x1 x2 x3 Mc) (pX6_copy n x1 x2 x3 Mr) := by
  obtain ⟨N, I, S, T, V, sn, hok, hi, hnn, hs, hsn⟩ := id h
  obtain ⟨⟨⟨b1, b2, b3, b4, b5, b6⟩, q0, q1, q2, q3, q4⟩, hnd, hbits, -⟩ := id hok
  have d2 : Mc.1 2 0 = nI N := hi.1.trans q0
  have m16 : Mc.1 16 = Mr.1 14 := hnn.2.2.2.2.2.2.1
  unfold pX5_copy pX6_copy K_X6_copy_19
  rcases zcopy b1 d2 q0 m16 rfl x1 x2 with ⟨e1, e2⟩ | ⟨k, c, hk, hc, rfl, rfl, e1, e2⟩
  · rw [e1, e2, zbind_some, zbind_some, if00, if00]
    exact ⟨_, _, _, rfl, rfl, h⟩
  rw [e1, e2, zbind_some, zbind_some, if10, if10]
  unfold pX5_plain K_X5_plain_21
  rw [pC_isNode_y d2 b1 hk, zbind_some, if10]
  rcases zix x3 (N := 16) (by omega) with c' | ⟨t, ht, rfl⟩
  · have r : pX6_in x3 0 15 Mr = some 0 := pR_in_n (c'.imp id (nI_lt_m1 (N := 16) (by omega)).mpr)
    rw [r, zbind_some, if00]
    by_cases c1 : x3 < 0
    · rw [if_pos c1]; exact ⟨_, _, _, rfl, rfl, h⟩
    · rw [if_neg c1, if_neg (show ¬ x3 < 16 from by have := c'.resolve_left c1; rw [i_le] at this; rw [i_lt]; exact Int.not_lt.mpr this)]
      exact ⟨_, _, _, rfl, rfl, h⟩
  have r : pX6_in (nI t) 0 15 Mr = some 1 := pR_in_y (nI_pos (by omega)) (nI_nlt (a := 15) (b := t) (by omega) (by decide))
  obtain ⟨M1, a1, a2, a3, a4⟩ := c_work hn hok hi hnn hs hsn
  have l16 : nI t < 16 := nI_lt (a := t) (b := 16) ht (by decide)
  have h3 := cp_le Mr k
  rw [r, zbind_some, if10, if_neg (nI_pos (by omega)), if_pos l16, a1, zbind_some, c_bit (by omega) (by omega), zbind_some, zb2_some, a4 t (by omega) k hk]
  -- the reference
  obtain ⟨⟨y1, Ma⟩, p1, p2, p3⟩ := zwl_for (b := fun q => B_X6_copy_25 n (nI k) (nI c) (nI t) q.1 q.2) (fun i s => s.1 = nI i ∧ (∀ v, ¬ v = 19 → s.2.1 v = Mr.1 v) ∧ ∀ q, q < i → s.2.1 19 q = 0) (fun r => (∀ v, ¬ v = 19 → r.2.1 v = Mr.1 v) ∧ ∀ q, q < 72 → r.2.1 19 q = 0) 72 n ((0 : Int32), Mr) (by omega) ⟨rfl, fun _ _ => rfl, fun q hq => by omega⟩
    (by
      rintro i ⟨x, M⟩ hi ⟨e1, f1, f2⟩
      dsimp only at e1 f1 f2
      subst e1
      have ge : ¬ (72 : Int32) ≤ nI i := nI_ge (a := i) (b := 72) hi (by decide)
      have k1 : ∀ (α : Type) (q : Option α), zchk (nI i) 72 q = q := fun α q => zchk_n hi
      have k3 : (nI i).toNatClampNeg = i := cl_n
      refine ⟨_, by simp only [B_X6_copy_25, if_neg ge, k1, k3, zst_e, zlt_e]; rfl, nI_1 i, fun v hv => ?_, fun q hq => ?_⟩
      · show (zsI M 19 _ _).1 v = _
        rw [zsI_1, if_neg hv]; exact f1 v hv
      · show upd (M.1 19) i 0 q = 0
        rw [upd_ap]
        by_cases e : q = i
        · rw [if_pos e]
        · rw [if_neg e]; exact f2 q (by omega))
    (by
      rintro ⟨x, M⟩ ⟨e1, f1, f2⟩
      dsimp only at e1 f1 f2
      subst e1
      have le : (72 : Int32) ≤ nI 72 := by decide
      exact ⟨_, by simp only [B_X6_copy_25, if_pos le]; rfl, f1, f2⟩)
  dsimp only at p2 p3
  simp only [zlt_e, p1, zb2_some, z60, z63, cl0, cl3, zst_e]
  generalize hM : zsI (zsI Ma 21 0 (-1)) 21 3 (-1) = Mb
  have g : ∀ v, ¬ v = 21 → Mb.1 v = Ma.1 v := fun v hv => by subst hM; simp only [zsI_1, if_neg hv]
  have g0 : Mb.1 21 0 = -1 := by subst hM; simp only [zsI_1, if_true, upd_ap]; rfl
  have g3 : Mb.1 21 3 = -1 := by subst hM; simp only [zsI_1, if_true, upd_ap]
  have kb : zKeepR Mr Mb := keepR_21 (keepR_19 (zKeepR.rf Mr) p2) g
  have fa : ∀ t, t < 16 → ∀ k c, FA (Mb.1 21) t k c = false := fun t ht' k c => by
    have m1 : decide ((-1 : Int32) = nI t) = false := decide_eq_false (fun e => nI_ne_m1 (by omega) e.symm)
    unfold FA
    rw [g0, g3, m1]; rfl
  obtain ⟨⟨y2, Md⟩, o1, o2, o3⟩ := zwl_for (b := fun q => B_X6_copy_63 n (nI k) (nI c) (nI t) q.1 q.2) (fun i s => s.1 = nI i ∧ (∀ v, ¬ v = 19 → ¬ v = 20 → s.2.1 v = Mb.1 v) ∧ ∀ k, k < N → Mr.1 10 k = 5 → ∀ c, c < cp Mr k → s.2.1 19 (3 * k + c) = zb (ps Mr i k)) (fun r => (∀ v, ¬ v = 19 → ¬ v = 20 → r.2.1 v = Mb.1 v) ∧ ∀ k, k < N → Mr.1 10 k = 5 → ∀ c, c < cp Mr k → r.2.1 19 (3 * k + c) = zb (ps Mr t k)) t n ((0 : Int32), Mb) (by omega) ⟨rfl, fun _ _ _ => rfl, fun k hk _ c hc => by
      have h3 := cp_le Mr k
      show Mb.1 19 _ = _
      rw [g 19 (by decide), p3 _ (by omega)]; rfl⟩
    (by
      rintro i ⟨x, M⟩ hi ⟨e1, f1, f2⟩
      dsimp only at e1 f1 f2
      subst e1
      have kM := keepR_2 kb f1
      have ge : ¬ nI t ≤ nI i := nI_ge hi (by omega)
      obtain ⟨M1, w1, w2, w3⟩ := r_passes hn hok kM (show i < 16 by omega) (Z := fun k _ => ps Mr i k) f2
      rw [f1 21 (by decide) (by decide)] at w3
      have kM1 := keepR_19 kM w2
      obtain ⟨M2, x1, x2, x3⟩ := r_over hn hok kM1 (W := fun k _ => pl Mr i k) (fun k hk c hc => by rw [w3 k hk c hc, gv_pv (P := ps Mr i) (fun _ _ => rfl) (fa i (by omega))]; rfl)
      refine ⟨_, by simp only [B_X6_copy_63, if_neg ge, w1, zbind_some, x1, zlt_e]; rfl, nI_1 i, fun v h1 h2 => (x2 v h1 h2).trans ((w2 v h1).trans (f1 v h1 h2)), fun k hk h c hc => ?_⟩
      show M2.1 19 _ = _
      rw [x3 k hk h c hc]
      unfold tks
      simp only [tkv_same, mj_same, ite_self]; rfl)
    (by
      rintro ⟨x, M⟩ ⟨e1, f1, f2⟩
      dsimp only at e1 f1 f2
      subst e1
      have le : nI t ≤ nI t := nI_le (Nat.le_refl _) (by omega)
      exact ⟨_, by simp only [B_X6_copy_63, if_pos le]; rfl, f1, f2⟩)
  dsimp only at o2 o3
  obtain ⟨Mf, w1, w2, w3⟩ := r_passes hn hok (keepR_2 kb o2) ht (Z := fun k _ => ps Mr t k) o3
  rw [o2 21 (by decide) (by decide)] at w3
  have e19 := w3 k hk c hc
  rw [gv_pv (P := ps Mr t) (fun _ _ => rfl) (fa t (by omega))] at e19
  rw [o1, zb2_some, w1, zbind_some, e3, e3c, zchk_n (show 3 * k + c < 72 by omega), cl_n (show 3 * k + c < 2147483648 by omega), e19]
  exact ⟨_, _, _, rfl, rfl, h.keep (keepC_of a2) (keepR_19 (keepR_2 kb o2) w2)⟩
