/-! ===== batches of runs ===== -/
abbrev Fl := Nat → Nat → Nat → Bool
def z0f : Fl := fun _ _ _ => false
def lst (P : Nat → Fl × Int32) : Nat → List (Fl × Int32)
  | 0 => []
  | u + 1 => lst P u ++ [P u]
theorem lst_cg {P Q : Nat → Fl × Int32} : ∀ {u : Nat}, (∀ i, i < u → P i = Q i) → lst P u = lst Q u
  | 0, _ => rfl
  | u + 1, h => by
    show lst P u ++ [P u] = lst Q u ++ [Q u]
    rw [lst_cg (fun i hi => h i (by omega)), h u (by omega)]
def vN (a b : Bool) : Nat := (if a = true then 1 else 0) + (if b = true then 2 else 0)
theorem vN_lt (a b : Bool) : vN a b < 4 := by cases a <;> cases b <;> decide
theorem vI_N (a b : Bool) : vI a b = nI (vN a b) := by cases a <;> cases b <;> rfl
theorem vI_and (a b : Bool) : vI a b &&& 1 = zb a := by cases a <;> cases b <;> rfl
/-- which verdict an item has -/
def vn (M : zM) (N T : Nat) (F : Fl) : Nat := vN (SN M F N T) (LG M F N T)
theorem vd_vn (M : zM) (N T : Nat) (F : Fl) : vd M N T F = nI (vn M N T F) := vI_N _ _
def cnt (M : zM) (N T v : Nat) (l : List (Fl × Int32)) : Nat := l.countP (fun it => vn M N T it.1 == v)
def fsd (M : zM) (N T : Nat) (l : List (Fl × Int32)) : Int32 := l.foldl (fun a it => if a = -1 then (if SN M it.1 N T = true then it.2 else a) else a) (-1)
theorem fsd_s (M : zM) (N T : Nat) (l : List (Fl × Int32)) (it : Fl × Int32) : fsd M N T (l ++ [it]) = if fsd M N T l = -1 then (if SN M it.1 N T = true then it.2 else fsd M N T l) else fsd M N T l := by
  unfold fsd; rw [List.foldl_append]; rfl
theorem cnt_s (M : zM) (N T v : Nat) (l : List (Fl × Int32)) (it : Fl × Int32) : cnt M N T v (l ++ [it]) = cnt M N T v l + if vn M N T it.1 = v then 1 else 0 := by
  unfold cnt; rw [List.countP_append, List.countP_singleton]
  simp only [beq_iff_eq]
def FL (P : Nat → Fl × Int32) (u : Nat) (G : Fl) (L : Nat) : Fl := if L < u then (P L).1 else if L = u then G else z0f
/-- lanes that stand for the items of l, the last one open with G -/
def zBt (Mc Mr M : zM) (N T : Nat) (l : List (Fl × Int32)) (G : Fl) : Prop := ∃ (D : List (Fl × Int32)) (P : Nat → Fl × Int32) (u : Nat), u < 64 ∧ l = D ++ lst P u ∧ M.1 6 0 = nI u ∧ zKeepC Mc M ∧ (∀ t, t < 17 → ∀ k, k < N → bt (M.1 22 t) k = pl Mr t k) ∧ (∀ t, t < 16 → ∀ k, k < 24 → ∀ c, c < 3 → ∀ L, L < 64 → ln (M.2 2 ((t * 24 + k) * 3 + c)) L = FL P u G L t k (cc Mr k c)) ∧ (∀ i, i < u → M.1 23 i = (P i).2) ∧ (∀ v, v < 4 → M.1 24 v = nI (cnt Mr N T v D)) ∧ M.1 7 0 = fsd Mr N T D
theorem c_begin {M : zM} {n : Nat} (hn : 5000 ≤ n) : ∃ M', pX0_begin n M = some M' ∧ (∀ v, ¬ v = 24 → ¬ v = 6 → ¬ v = 7 → M'.1 v = M.1 v) ∧ (∀ q, q < 1152 → M'.2 2 q = 0) ∧ (∀ v, v < 4 → M'.1 24 v = 0) ∧ M'.1 6 0 = 0 ∧ M'.1 7 0 = -1 := by
  unfold pX0_begin
  rw [p_fillL (show 1152 < n by omega) (by omega), zbind_some, p_fillI (show 4 < n by omega) (by omega), zbind_some, zst_e, zst_e]
  refine ⟨_, rfl, fun v h1 h2 h3 => ?_, fun q hq => ?_, fun v hv => ?_, ?_, ?_⟩
  · rw [zsI_1, if_neg h3, zsI_1, if_neg h2, zcI_1, if_neg h1]; rfl
  · rw [zsI_2, zsI_2, zcI_2, zcL_2, if_pos rfl, if_pos hq]
  · rw [zsI_1, if_neg (by decide), zsI_1, if_neg (by decide), zcI_1, if_pos rfl, if_pos hv]
  · rw [zsI_1, if_neg (by decide), zsI_1, if_pos rfl, upd_ap, if_pos rfl]
  · rw [zsI_1, if_pos rfl, upd_ap, if_pos rfl]
theorem c_start {Mc Mr : zM} {n N I S T V : Nat} {sn : Nat → Nat} (hn : 5000 ≤ n) (hok : zOk Mr N I S T V sn) (hi : zEqI Mc Mr) (hnn : zEqN Mc Mr) (hs : zEqS Mc Mr) (hsn : zSn Mc S sn) : ∃ M, pX5_startRuns n Mc = some M ∧ zBt Mc Mr M N T [] z0f := by
  obtain ⟨M1, a1, a2, a3, a4⟩ := c_work (show 100 ≤ n by omega) hok hi hnn hs hsn
  obtain ⟨M2, b1, b2, b3, b4, b5, b6⟩ := c_begin (M := M1) hn
  refine ⟨M2, by unfold pX5_startRuns; rw [a1, zbind_some, b1, zbind_some], [], fun _ => (z0f, 0), 0, by omega, rfl, b5, fun v hv => ?_, fun t ht k hk => ?_, fun t ht k hk c hc L hL => ?_, fun i h => by omega, fun v hv => b4 v hv, b6⟩
  · rw [b2 v (fun e => by subst e; revert hv; decide) (fun e => by subst e; revert hv; decide) (fun e => by subst e; revert hv; decide)]
    exact keepC_of a2 v hv
  · rw [b2 22 (by decide) (by decide) (by decide)]; exact a4 t ht k hk
  · rw [b3 _ (by omega), ln_0]
    unfold FL
    rw [if_neg (by omega)]
    by_cases e : L = 0
    · rw [if_pos e]; rfl
    · rw [if_neg e]; rfl
def nmI (t k c : Nat) : Int32 := ((10000 : Int32) * nI t + (10 : Int32) * nI k) + nI c
theorem xor_if (p : Prop) [Decidable p] (x y : Int64) (L : Nat) : ln (if p then x ^^^ y else x) L = (ln x L ^^ (decide p && ln y L)) := by
  by_cases h : p
  · rw [if_pos h, ln_xor, decide_eq_true h, Bool.true_and]
  · rw [if_neg h, decide_eq_false h, Bool.false_and, Bool.xor_false]
theorem c_markL {Mr M0 : zM} {n t0 k0 c0 u : Nat} (hn : 100 ≤ n) (m16 : M0.1 16 = Mr.1 14) (hu : u < 64) (h6 : M0.1 6 0 = nI u) (ht : t0 < 16) (hk : k0 < 24) (hc : c0 < cp Mr k0) :
    ∃ r : Int32 × zM, zwl (fun q => B_X0_mark_13 n (nI t0) (nI k0) (nI c0) (nI ((t0 * 24 + k0) * 3)) q.1 q.2) n ((0 : Int32), M0) = some r ∧ (r.2.1 = M0.1 ∧ ∀ q, r.2.2 2 q = if (t0 * 24 + k0) * 3 ≤ q ∧ q < (t0 * 24 + k0) * 3 + 3 ∧ nI c0 = nI (cc Mr k0 (q - (t0 * 24 + k0) * 3)) then M0.2 2 q ^^^ ((1 : Int64) <<< (Int32.toInt64 (nI u) &&& 63)) else M0.2 2 q) := by
  generalize hat : (t0 * 24 + k0) * 3 = at0
  have hlt : at0 + 3 ≤ 1152 := by omega
  have h3 := cp_le Mr k0
  have k1 : ∀ (α : Type) (q : Option α), zchk (nI k0) 24 q = q := fun α q => zchk_n hk
  have k3 : (nI k0).toNatClampNeg = k0 := cl_n
  have mk : ∀ i, i < 3 → ((nI i = nI c0 ∨ M0.1 16 k0 = 0) ↔ nI c0 = nI (cc Mr k0 i)) := fun i hi => by
    rw [m16]
    by_cases c14 : Mr.1 14 k0 = 0
    · rw [cc_0 c14]
      rw [cp_1 c14] at hc
      have : c0 = 0 := by omega
      subst this
      exact ⟨fun _ => rfl, fun _ => Or.inr c14⟩
    · rw [cc_n c14]
      exact ⟨fun h => (h.resolve_right c14).symm, fun h => Or.inl h.symm⟩
  refine zwl_for (fun i s => s.1 = nI i ∧ s.2.1 = M0.1 ∧ ∀ q, s.2.2 2 q = if at0 ≤ q ∧ q < at0 + i ∧ nI c0 = nI (cc Mr k0 (q - at0)) then M0.2 2 q ^^^ ((1 : Int64) <<< (Int32.toInt64 (nI u) &&& 63)) else M0.2 2 q) _ 3 n _ (by omega) ⟨rfl, rfl, fun q => by rw [if_neg (by omega)]⟩ ?_ ?_
  · rintro i ⟨x, M⟩ hi ⟨e1, f1, f2⟩
    dsimp only at e1 f1 f2
    subst e1
    have ge : ¬ (3 : Int32) ≤ nI i := nI_ge (a := i) (b := 3) hi (by decide)
    have k4 : ∀ (α : Type) (q : Option α), zchk (nI (at0 + i)) 1152 q = q := fun α q => zchk_n (by omega)
    have k5 : (nI (at0 + i)).toNatClampNeg = at0 + i := cl_n (by omega)
    have w6 : M.1 6 0 = nI u := by rw [f1]; exact h6
    have was : M.2 2 (at0 + i) = M0.2 2 (at0 + i) := by rw [f2, if_neg (by omega)]
    have yes : nI c0 = nI (cc Mr k0 i) → B_X0_mark_13 n (nI t0) (nI k0) (nI c0) (nI at0) (nI i) M = some (.inl (nI (i + 1), zsL M 2 (at0 + i) (M0.2 2 (at0 + i) ^^^ ((1 : Int64) <<< (Int32.toInt64 (nI u) &&& 63))))) := fun h => by
      rcases (mk i hi).mpr h with g | g
      · simp only [B_X0_mark_13, K_X0_mark_35, K_X0_mark_54, if_neg ge, if_pos g, zad, k4, k5, w6, was, zst_e, zlt_e, zad1]
      · rw [← f1] at g
        by_cases g' : nI i = nI c0
        · simp only [B_X0_mark_13, K_X0_mark_35, K_X0_mark_54, if_neg ge, if_pos g', zad, k4, k5, w6, was, zst_e, zlt_e, zad1]
        · simp only [B_X0_mark_13, K_X0_mark_35, K_X0_mark_54, if_neg ge, if_neg g', k1, k3, if_pos g, zad, k4, k5, w6, was, zst_e, zlt_e, zad1]
    by_cases h : nI c0 = nI (cc Mr k0 i)
    · refine ⟨_, yes h, rfl, f1, fun q => ?_⟩
      show vp_updL (M.2 2) _ _ q = _
      rw [updL_ap]
      by_cases e : q = at0 + i
      · subst e
        rw [if_pos rfl, if_pos ⟨by omega, by omega, by rw [show at0 + i - at0 = i by omega]; exact h⟩]
      · rw [if_neg e, f2]
        by_cases g : at0 ≤ q ∧ q < at0 + i ∧ nI c0 = nI (cc Mr k0 (q - at0))
        · rw [if_pos g, if_pos ⟨g.1, by omega, g.2.2⟩]
        · rw [if_neg g, if_neg (fun g' => g ⟨g'.1, by omega, g'.2.2⟩)]
    · have no := fun g => h ((mk i hi).mp g)
      have n1 : ¬ nI i = nI c0 := fun g => no (Or.inl g)
      have n2 : ¬ M.1 16 k0 = 0 := by rw [f1]; exact fun g => no (Or.inr g)
      refine ⟨_, by simp only [B_X0_mark_13, K_X0_mark_35, K_X0_mark_54, if_neg ge, if_neg n1, k1, k3, if_neg n2, zlt_e]; rfl, nI_1 i, f1, fun q => ?_⟩
      show M.2 2 q = _
      rw [f2]
      by_cases g : at0 ≤ q ∧ q < at0 + i ∧ nI c0 = nI (cc Mr k0 (q - at0))
      · rw [if_pos g, if_pos ⟨g.1, by omega, g.2.2⟩]
      · rw [if_neg g, if_neg (fun g' => g ⟨g'.1, Nat.lt_of_le_of_ne (by omega) (fun e => h (by rw [show q - at0 = i by omega] at g'; exact g'.2.2)), g'.2.2⟩)]
  · rintro ⟨x, M⟩ ⟨e1, f1, f2⟩
    dsimp only at e1 f1 f2
    subst e1
    have le : (3 : Int32) ≤ nI 3 := by decide
    exact ⟨(nI 3, M), by simp only [B_X0_mark_13, if_pos le], f1, f2⟩
/-- a flip is marked -/
theorem c_mark {Mc Mr M : zM} {n N T t0 k0 c0 : Nat} {l : List (Fl × Int32)} {G : Fl} (hn : 100 ≤ n) (m16 : Mc.1 16 = Mr.1 14) (h : zBt Mc Mr M N T l G) (ht : t0 < 16) (hk : k0 < 24) (hc : c0 < cp Mr k0) :
    ∃ M', pX0_mark n (nI t0) (nI k0) (nI c0) M = some M' ∧ zBt Mc Mr M' N T l (fun t k c => G t k c ^^ fO t0 k0 c0 t k c) ∧ M'.1 23 (M'.1 6 0).toNatClampNeg = nmI t0 k0 c0 := by
  obtain ⟨D, P, u, hu, hl, h6, hkeep, hw, hf, hnm, hct, h7⟩ := h
  obtain ⟨⟨z1, M1⟩, w1, w2, w3⟩ := c_markL (Mr := Mr) (M0 := M) (t0 := t0) hn ((hkeep 16 (by decide)).trans m16) hu h6 ht hk hc
  dsimp only at w2 w3
  have w6 : M1.1 6 0 = nI u := by rw [w2]; exact h6
  have e6 : ∀ x, (zsI M1 23 u x).1 6 0 = nI u := fun x => by rw [zsI_1, if_neg (by decide)]; exact w6
  refine ⟨zsI M1 23 u (nmI t0 k0 c0), ?_, ⟨D, P, u, hu, hl, e6 _, fun v hv => ?_, fun t ht k hk => ?_, fun t ht' k hk' c hc' L hL => ?_, fun i hi => ?_, fun v hv => ?_, ?_⟩, ?_⟩
  · unfold pX0_mark
    rw [zfl]
    simp only [zlt_e, w1, zb2_some, w6, cl_n (show u < 2147483648 by omega), zst_e]
    rw [zchk_n hu]; rfl
  · rw [zsI_1, if_neg (fun e => by subst e; revert hv; decide), w2]; exact hkeep v hv
  · rw [zsI_1, if_neg (by decide), w2]; exact hw t ht k hk
  · rw [zsI_2, w3, xor_if, hf t ht' k hk' c hc' L hL, ln_one u hu hL]
    unfold FL
    by_cases l1 : L < u
    · rw [if_pos l1, if_pos l1, decide_eq_false (show ¬ L = u by omega), Bool.and_false, Bool.xor_false]
    · rw [if_neg l1, if_neg l1]
      by_cases l2 : L = u
      · rw [if_pos l2, if_pos l2, decide_eq_true l2, Bool.and_true]
        congr 1
        unfold fO
        rw [← Bool.decide_and, ← Bool.decide_and]
        refine decide_eq_decide.mpr ⟨fun ⟨a, b, d⟩ => ?_, fun ⟨⟨a, b⟩, d⟩ => ?_⟩
        · have e1 : t = t0 ∧ k = k0 := by omega
          obtain ⟨rfl, rfl⟩ := e1
          rw [show (t * 24 + k) * 3 + c - (t * 24 + k) * 3 = c by omega] at d
          exact ⟨⟨rfl, rfl⟩, d⟩
        · subst a
          rw [nI_inj (by omega) (by omega)] at b
          subst b
          exact ⟨by omega, by omega, by rw [show (t * 24 + k) * 3 + c - (t * 24 + k) * 3 = c by omega]; exact d⟩
      · rw [if_neg l2, if_neg l2, decide_eq_false l2, Bool.and_false, Bool.xor_false]
  · rw [zsI_1, if_pos rfl, upd_ap, if_neg (by omega), w2]; exact hnm i hi
  · rw [zsI_1, if_neg (by decide), w2]; exact hct v hv
  · rw [zsI_1, if_neg (by decide), w2]; exact h7
  · rw [e6, cl_n (by omega), zsI_1, if_pos rfl, upd_ap, if_pos rfl]
