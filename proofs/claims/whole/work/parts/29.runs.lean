def ex : Nat → (Nat → Bool) → Bool
  | 0, _ => false
  | n + 1, f => ex n f || f n
theorem ex_s (n : Nat) (f : Nat → Bool) : ex (n + 1) f = (ex n f || f n) := rfl
theorem ex_iff (f : Nat → Bool) : ∀ n, ex n f = true ↔ ∃ k, k < n ∧ f k = true
  | 0 => by
    refine Iff.intro (fun h => ?_) (fun ⟨k, h, _⟩ => by omega)
    cases h
  | n + 1 => by
    rw [ex_s, Bool.or_eq_true, ex_iff f n]
    refine Iff.intro (fun h => ?_) (fun ⟨k, h, e⟩ => ?_)
    · rcases h with ⟨k, h, e⟩ | e
      · exact ⟨k, by omega, e⟩
      · exact ⟨n, by omega, e⟩
    · by_cases q : k = n
      · subst q; exact Or.inr e
      · exact Or.inl ⟨k, by omega, e⟩
theorem ex_no {f : Nat → Bool} {n : Nat} (h : ∀ k, k < n → f k = false) : ex n f = false := by
  cases e : ex n f with
  | false => rfl
  | true =>
    obtain ⟨k, h1, h2⟩ := (ex_iff f n).mp e
    rw [h k h1] at h2; cases h2
/-- what a node tells -/
def tl (M : zM) (k : Nat) (v : Nat → Bool) : Bool := if M.1 14 k = 0 then v 0 else mj (v 0) (v 1) (v 2)
def s1 (M : zM) (F : Nat → Nat → Nat → Bool) (t k : Nat) : Bool := !decide (M.1 13 k = 0) && (tl M k (bl M F t k) != pl M t k)
/-- the flips are seen -/
def SN (M : zM) (F : Nat → Nat → Nat → Bool) (N T : Nat) : Bool := ex T (fun t => ex N (s1 M F t))
def l1 (M : zM) (F : Nat → Nat → Nat → Bool) (T k : Nat) : Bool := decide (M.1 10 k = 5) && ex (cp M k) (fun c => ss M F T k c != ps M T k)
/-- they linger -/
def LG (M : zM) (F : Nat → Nat → Nat → Bool) (N T : Nat) : Bool := ex N (l1 M F T)
def vI (a b : Bool) : Int32 := zb a ||| (if b = true then 2 else 0)
theorem vI_0 (a : Bool) : vI a false = zb a := by cases a <;> rfl
theorem vI_2 (a b : Bool) : vI a b ||| 2 = vI a true := by cases a <;> cases b <;> rfl
theorem vI_n (a b : Bool) : vI a b ||| 0 = vI a b := by cases a <;> cases b <;> rfl
theorem r_tells {Mr M : zM} {k : Nat} (h14 : M.1 14 = Mr.1 14) (hk : k < 24) {v : Nat → Bool} (h : ∀ c, c < cp Mr k → M.1 19 (3 * k + c) = zb (v c)) : pX6_tells (nI k) M = some (zb (tl Mr k v)) := by
  unfold pX6_tells tl
  rw [zchk_n hk, cl_n (show k < 2147483648 by omega), h14]
  by_cases c1 : Mr.1 14 k = 0
  · have h0 := h 0 (cp_pos _ _)
    rw [Nat.add_zero] at h0
    rw [if_pos c1, if_pos c1, e3, zchk_n (show 3 * k < 72 by omega), cl_n (show 3 * k < 2147483648 by omega), h0]
  · rw [if_neg c1, if_neg c1, r_majority hk (fun c hc => h c (by rw [cp_3 c1]; exact hc))]; rfl
theorem zb_ne (a b : Bool) : (zb a = zb b) ↔ (a != b) = false := by rw [zb_inj]; cases a <;> cases b <;> decide
theorem zb_ne' (a b : Bool) : ¬ (zb a = zb b) ↔ (a != b) = true := by rw [zb_inj]; cases a <;> cases b <;> decide
theorem z24 (t : Nat) : (24 : Int32) * nI t = nI (24 * t) := by rw [show (24 : Int32) = nI 24 from rfl, pk_mul]
theorem r_look {Mr M : zM} {n N t : Nat} {F : Nat → Nat → Nat → Bool} (hn : 100 ≤ n) (hN : N ≤ 24) (kr : zKeepR Mr M) (q0 : Mr.1 0 0 = nI N) (v1 : Int32) (ht : t < 16) (A : Bool)
    (h19 : ∀ k, k < N → ∀ c, c < cp Mr k → M.1 19 (3 * k + c) = zb (bl Mr F t k c)) (h18 : ∀ k, k < N → M.1 18 (24 * t + k) = zb (pl Mr t k)) :
    ∃ r : Int32 × Int32, zwl (fun q => B_X6_runs_113 n v1 q.1 (nI t) q.2 M) n (zb A, (0 : Int32)) = some r ∧ r.1 = zb (A || ex N (s1 Mr F t)) := by
  refine zwl_for (fun i s => s.2 = nI i ∧ s.1 = zb (A || ex i (s1 Mr F t))) _ N n _ (by omega) ⟨rfl, ?_⟩ ?_ ?_
  · show zb A = _
    rw [show ex 0 (s1 Mr F t) = false from rfl, Bool.or_false]
  · rintro i ⟨x, y⟩ hi ⟨e1, e2⟩
    dsimp only at e1 e2
    subst e1 e2
    have d0 : M.1 0 0 = nI N := by rw [kr 0 (by decide)]; exact q0
    have ge : ¬ nI N ≤ nI i := nI_ge hi (by omega)
    have k1 : ∀ (α : Type) (q : Option α), zchk (nI i) 24 q = q := fun α q => zchk_n (by omega)
    have k3 : (nI i).toNatClampNeg = i := cl_n
    have k4 : ∀ (α : Type) (q : Option α), zchk (nI (24 * t + i)) 408 q = q := fun α q => zchk_n (by omega)
    have k5 : (nI (24 * t + i)).toNatClampNeg = 24 * t + i := cl_n (by omega)
    have w13 := kr 13 (by decide)
    have st : ∀ b : Bool, (b = s1 Mr F t i) → zb (A || ex i (s1 Mr F t)) ||| zb b = zb (A || ex (i + 1) (s1 Mr F t)) := fun b hb => by rw [zb_or, ex_s, hb, Bool.or_assoc]
    by_cases c : Mr.1 13 i = 0
    · refine ⟨_, by simp only [B_X6_runs_113, K_X6_runs_158, K_X6_runs_159, d0, if_neg ge, k1, k3, w13, if_pos c, zlt_e]; rfl, nI_1 i, ?_⟩
      exact st false (by unfold s1; rw [decide_eq_true c]; rfl)
    · have te := r_tells (kr 14 (by decide)) (show i < 24 by omega) (h19 i hi)
      by_cases e : zb (tl Mr i (bl Mr F t i)) = zb (pl Mr t i)
      · refine ⟨_, by simp only [B_X6_runs_113, K_X6_runs_158, K_X6_runs_159, d0, if_neg ge, k1, k3, w13, if_neg c, te, zbind_some, z24, nI24, k4, k5, h18 i hi, if_pos e, zlt_e]; rfl, nI_1 i, ?_⟩
        exact st false (by unfold s1; rw [decide_eq_false c, (zb_ne _ _).mp e]; rfl)
      · refine ⟨_, by simp only [B_X6_runs_113, K_X6_runs_158, K_X6_runs_159, d0, if_neg ge, k1, k3, w13, if_neg c, te, zbind_some, z24, nI24, k4, k5, h18 i hi, if_neg e, zlt_e]; rfl, nI_1 i, ?_⟩
        exact st true (by unfold s1; rw [decide_eq_false c, (zb_ne' _ _).mp e]; rfl)
  · rintro ⟨x, y⟩ ⟨e1, e2⟩
    dsimp only at e1 e2
    subst e1 e2
    have d0 : M.1 0 0 = nI N := by rw [kr 0 (by decide)]; exact q0
    have le : nI N ≤ nI N := nI_le (Nat.le_refl _) (by omega)
    exact ⟨_, by simp only [B_X6_runs_113, d0, if_pos le]; rfl, rfl⟩
theorem r_ling1 {Mr M : zM} {n T k : Nat} {F : Nat → Nat → Nat → Bool} (hn : 100 ≤ n) (hT : T ≤ 16) (kr : zKeepR Mr M) (q3 : Mr.1 3 0 = nI T) (hk : k < 24) (v1 : Int32) (A B : Bool)
    (h19 : Mr.1 10 k = 5 → ∀ c, c < cp Mr k → M.1 19 (3 * k + c) = zb (ss Mr F T k c)) (h18 : Mr.1 10 k = 5 → M.1 18 (24 * T + k) = zb (ps Mr T k)) :
    ∃ r : Int32 × Int32, zwl (fun q => B_X6_runs_190 n v1 q.1 (nI k) q.2 M) n (vI A B, (0 : Int32)) = some r ∧ r.1 = vI A (B || l1 Mr F T k) := by
  have h3 := cp_le Mr k
  have k1 : ∀ (α : Type) (q : Option α), zchk (nI k) 24 q = q := fun α q => zchk_n (by omega)
  have k3 : (nI k).toNatClampNeg = k := cl_n
  have d3 : M.1 3 0 = nI T := by rw [kr 3 (by decide)]; exact q3
  refine zwl_for (fun i s => s.2 = nI i ∧ s.1 = vI A (B || (decide (Mr.1 10 k = 5) && ex i (fun c => ss Mr F T k c != ps Mr T k)))) _ (cp Mr k) n _ (by omega) ⟨rfl, ?_⟩ ?_ ?_
  · show vI A B = _
    rw [show ∀ f, ex 0 f = false from fun _ => rfl, Bool.and_false, Bool.or_false]
  · rintro i ⟨x, y⟩ hi ⟨e1, e2⟩
    dsimp only at e1 e2
    subst e1 e2
    have ge : ¬ nI (cp Mr k) ≤ nI i := nI_ge hi (by omega)
    have k4 : ∀ (α : Type) (q : Option α), zchk (nI (3 * k + i)) 72 q = q := fun α q => zchk_n (by omega)
    have k5 : (nI (3 * k + i)).toNatClampNeg = 3 * k + i := cl_n (by omega)
    have k6 : ∀ (α : Type) (q : Option α), zchk (nI (24 * T + k)) 408 q = q := fun α q => zchk_n (by omega)
    have k7 : (nI (24 * T + k)).toNatClampNeg = 24 * T + k := cl_n (by omega)
    have w10 := kr 10 (by decide)
    by_cases c5 : Mr.1 10 k = 5
    · by_cases e : zb (ss Mr F T k i) = zb (ps Mr T k)
      · refine ⟨_, by simp only [B_X6_runs_190, K_X6_runs_243, K_X6_runs_244, r_cp (kr 14 (by decide)) hk, zbind_some, if_neg ge, k1, k3, w10, if_pos c5, e3, e3c, k4, k5, d3, z24, nI24, k6, k7, h19 c5 i hi, h18 c5, if_pos e, zlt_e]; rfl, nI_1 i, ?_⟩
        show vI _ _ ||| 0 = _
        rw [vI_n, ex_s, (zb_ne _ _).mp e, Bool.or_false]
      · refine ⟨_, by simp only [B_X6_runs_190, K_X6_runs_243, K_X6_runs_244, r_cp (kr 14 (by decide)) hk, zbind_some, if_neg ge, k1, k3, w10, if_pos c5, e3, e3c, k4, k5, d3, z24, nI24, k6, k7, h19 c5 i hi, h18 c5, if_neg e, zlt_e]; rfl, nI_1 i, ?_⟩
        show vI _ _ ||| 2 = _
        rw [vI_2, ex_s, (zb_ne' _ _).mp e, Bool.or_true, decide_eq_true c5, Bool.and_true, Bool.or_true]
    · refine ⟨_, by simp only [B_X6_runs_190, K_X6_runs_243, K_X6_runs_244, r_cp (kr 14 (by decide)) hk, zbind_some, if_neg ge, k1, k3, w10, if_neg c5, zlt_e]; rfl, nI_1 i, ?_⟩
      show vI _ _ ||| 0 = _
      rw [vI_n, decide_eq_false c5, Bool.false_and, Bool.false_and]
  · rintro ⟨x, y⟩ ⟨e1, e2⟩
    dsimp only at e1 e2
    subst e1 e2
    have le : nI (cp Mr k) ≤ nI (cp Mr k) := nI_le (Nat.le_refl _) (by omega)
    exact ⟨_, by simp only [B_X6_runs_190, r_cp (kr 14 (by decide)) hk, zbind_some, if_pos le]; rfl, rfl⟩
theorem r_ling {Mr M : zM} {n N T : Nat} {F : Nat → Nat → Nat → Bool} (hn : 100 ≤ n) (hN : N ≤ 24) (hT : T ≤ 16) (kr : zKeepR Mr M) (q0 : Mr.1 0 0 = nI N) (q3 : Mr.1 3 0 = nI T) (v1 : Int32) (A : Bool)
    (h19 : ∀ k, k < N → Mr.1 10 k = 5 → ∀ c, c < cp Mr k → M.1 19 (3 * k + c) = zb (ss Mr F T k c)) (h18 : ∀ k, k < N → Mr.1 10 k = 5 → M.1 18 (24 * T + k) = zb (ps Mr T k)) :
    ∃ r : Int32 × Int32, zwl (fun q => B_X6_runs_179 n v1 q.1 q.2 M) n (zb A, (0 : Int32)) = some r ∧ r.1 = vI A (LG Mr F N T) := by
  refine zwl_for (fun i s => s.2 = nI i ∧ s.1 = vI A (ex i (l1 Mr F T))) _ N n _ (by omega) ⟨rfl, (vI_0 A).symm⟩ ?_ ?_
  · rintro i ⟨x, y⟩ hi ⟨e1, e2⟩
    dsimp only at e1 e2
    subst e1 e2
    have d0 : M.1 0 0 = nI N := by rw [kr 0 (by decide)]; exact q0
    have ge : ¬ nI N ≤ nI i := nI_ge hi (by omega)
    obtain ⟨⟨z1, z2⟩, w1, w2⟩ := r_ling1 (F := F) hn hT kr q3 (show i < 24 by omega) v1 A (ex i (l1 Mr F T)) (h19 i hi) (h18 i hi)
    dsimp only at w2
    exact ⟨_, by simp only [B_X6_runs_179, d0, if_neg ge, zlt_e, w1, zb2_some]; rfl, nI_1 i, w2⟩
  · rintro ⟨x, y⟩ ⟨e1, e2⟩
    dsimp only at e1 e2
    subst e1 e2
    have d0 : M.1 0 0 = nI N := by rw [kr 0 (by decide)]; exact q0
    have le : nI N ≤ nI N := nI_le (Nat.le_refl _) (by omega)
    exact ⟨_, by simp only [B_X6_runs_179, d0, if_pos le]; rfl, rfl⟩
theorem keepR_2 {Mr M0 M : zM} (kr : zKeepR Mr M0) (f : ∀ v, ¬ v = 19 → ¬ v = 20 → M.1 v = M0.1 v) : zKeepR Mr M := fun v hv => (f v (fun e => by subst e; revert hv; decide) (fun e => by subst e; revert hv; decide)).trans (kr v hv)
/-- the copies begin as the plain net's -/
theorem r_copyIn {Mr M0 : zM} {n N u : Nat} (hn : 100 ≤ n) (hN : N ≤ 24) (kr : zKeepR Mr M0) (q0 : Mr.1 0 0 = nI N) (hu : u < 16) (v2 : Int32) :
    ∃ r : Int32 × zM, zwl (fun q => B_X6_runs_44 n (nI u) v2 q.1 q.2) n ((0 : Int32), M0) = some r ∧ ((∀ v, ¬ v = 19 → r.2.1 v = M0.1 v) ∧ ∀ k, k < N → ∀ c, c < 3 → r.2.1 19 (3 * k + c) = M0.1 18 (24 * u + k)) := by
  refine zwl_for (fun i s => s.1 = nI i ∧ (∀ v, ¬ v = 19 → s.2.1 v = M0.1 v) ∧ ∀ k, k < i → ∀ c, c < 3 → s.2.1 19 (3 * k + c) = M0.1 18 (24 * u + k)) _ N n _ (by omega) ⟨rfl, fun _ _ => rfl, fun k hk => by omega⟩ ?_ ?_
  · rintro i ⟨x, M⟩ hi ⟨e1, f1, f2⟩
    dsimp only at e1 f1 f2
    subst e1
    have kM := keepR_19 kr f1
    have d0 : M.1 0 0 = nI N := by rw [kM 0 (by decide)]; exact q0
    have ge : ¬ nI N ≤ nI i := nI_ge hi (by omega)
    obtain ⟨⟨z1, M1⟩, w1, w2, w3⟩ := zwl_for (b := fun q => B_X6_runs_55 n (nI u) v2 (nI i) q.1 q.2) (fun j s => s.1 = nI j ∧ (∀ v, ¬ v = 19 → s.2.1 v = M0.1 v) ∧ (∀ k, k < i → ∀ c, c < 3 → s.2.1 19 (3 * k + c) = M0.1 18 (24 * u + k)) ∧ ∀ c, c < j → s.2.1 19 (3 * i + c) = M0.1 18 (24 * u + i)) (fun r => (∀ v, ¬ v = 19 → r.2.1 v = M0.1 v) ∧ ∀ k, k < i + 1 → ∀ c, c < 3 → r.2.1 19 (3 * k + c) = M0.1 18 (24 * u + k)) 3 n ((0 : Int32), M) (by omega) ⟨rfl, f1, f2, fun c hc => by omega⟩
      (by
        rintro j ⟨x, M⟩ hj ⟨e1, g1, g2, g3⟩
        dsimp only at e1 g1 g2 g3
        subst e1
        have ge : ¬ (3 : Int32) ≤ nI j := nI_ge (a := j) (b := 3) hj (by decide)
        have k4 : ∀ (α : Type) (q : Option α), zchk (nI (3 * i + j)) 72 q = q := fun α q => zchk_n (by omega)
        have k5 : (nI (3 * i + j)).toNatClampNeg = 3 * i + j := cl_n (by omega)
        have k6 : ∀ (α : Type) (q : Option α), zchk (nI (24 * u + i)) 408 q = q := fun α q => zchk_n (by omega)
        have k7 : (nI (24 * u + i)).toNatClampNeg = 24 * u + i := cl_n (by omega)
        refine ⟨_, by simp only [B_X6_runs_55, if_neg ge, z24, nI24, k6, k7, e3, e3c, k4, k5, g1 18 (by decide), zst_e, zlt_e]; rfl, nI_1 j, fun v hv => ?_, fun k hk c hc => ?_, fun c hc => ?_⟩
        · show (zsI M 19 _ _).1 v = _
          rw [zsI_1, if_neg hv]; exact g1 v hv
        · show upd (M.1 19) _ _ _ = _
          rw [upd_ap, if_neg (by omega)]; exact g2 k hk c hc
        · show upd (M.1 19) _ _ _ = _
          rw [upd_ap]
          by_cases e : c = j
          · subst e; rw [if_pos rfl]
          · rw [if_neg (by omega)]; exact g3 c (by omega))
      (by
        rintro ⟨x, M⟩ ⟨e1, g1, g2, g3⟩
        dsimp only at e1 g1 g2 g3
        subst e1
        have le : (3 : Int32) ≤ nI 3 := by decide
        refine ⟨_, by simp only [B_X6_runs_55, if_pos le]; rfl, g1, fun k hk c hc => ?_⟩
        show M.1 19 _ = _
        by_cases e : k = i
        · subst e; exact g3 c hc
        · exact g2 k (by omega) c hc)
    dsimp only at w2 w3
    exact ⟨_, by simp only [B_X6_runs_44, d0, if_neg ge, zlt_e, w1, zb2_some]; rfl, nI_1 i, w2, w3⟩
  · rintro ⟨x, M⟩ ⟨e1, f1, f2⟩
    dsimp only at e1 f1 f2
    subst e1
    have kM := keepR_19 kr f1
    have d0 : M.1 0 0 = nI N := by rw [kM 0 (by decide)]; exact q0
    have le : nI N ≤ nI N := nI_le (Nat.le_refl _) (by omega)
    exact ⟨_, by simp only [B_X6_runs_44, d0, if_pos le]; rfl, f1, f2⟩
theorem s1_no {M : zM} {F : Nat → Nat → Nat → Bool} {u t k : Nat} (hF : ∀ t, t < u → ∀ k c, F t k c = false) (ht : t < u) : s1 M F t k = false := by
  unfold s1
  rw [show bl M F t k = fun _ => pl M t k from funext fun c => bl_pl hF ht k c]
  unfold tl
  rw [mj_same, ite_self]; simp
/-- a run of the reference, begun where its first flip is -/
theorem r_runs39 {Mr M0 : zM} {n N I S T V u : Nat} {sn : Nat → Nat} (hn : 100 ≤ n) (hok : zOk Mr N I S T V sn) (kr : zKeepR Mr M0) (hp : zPl Mr M0 N T) (hu : u < T) (hF : ∀ t, t < u → ∀ k c, FA (M0.1 21) t k c = false) :
    ∃ M, K_X6_runs_39 n (nI u) M0 = some (vI (SN Mr (FA (M0.1 21)) N T) (LG Mr (FA (M0.1 21)) N T), M) ∧ ∀ v, ¬ v = 19 → ¬ v = 20 → M.1 v = M0.1 v := by
  obtain ⟨⟨⟨b1, b2, b3, b4, b5, b6⟩, q0, q1, q2, q3, q4⟩, hnd, hbits, hst, hsh⟩ := id hok
  generalize hFe : FA (M0.1 21) = F at hF
  obtain ⟨⟨y1, Ma⟩, p1, p2, p3⟩ := r_copyIn hn b1 kr q0 (show u < 16 by omega) (0 : Int32)
  dsimp only at p2 p3
  obtain ⟨⟨y2, y3, Mb⟩, o1, o2, o3, o4⟩ := zwl_from (b := fun q => B_X6_runs_97 n (nI u) q.1 q.2.1 q.2.2) (fun t s => s.2.1 = nI t ∧ s.1 = zb (ex t (fun t => ex N (s1 Mr F t))) ∧ (∀ v, ¬ v = 19 → ¬ v = 20 → s.2.2.1 v = M0.1 v) ∧ ∀ k, k < N → Mr.1 10 k = 5 → ∀ c, c < cp Mr k → s.2.2.1 19 (3 * k + c) = zb (ss Mr F t k c)) (fun r => r.1 = zb (SN Mr F N T) ∧ (∀ v, ¬ v = 19 → ¬ v = 20 → r.2.2.1 v = M0.1 v) ∧ ∀ k, k < N → Mr.1 10 k = 5 → ∀ c, c < cp Mr k → r.2.2.1 19 (3 * k + c) = zb (ss Mr F T k c)) u T n ((0 : Int32), nI u, Ma) (by omega) (by omega)
    ⟨rfl, by rw [ex_no (fun t ht => ex_no (fun k _ => s1_no hF ht))]; rfl, fun v h1 _ => p2 v h1, fun k hk h c hc => by
      have h3 := cp_le Mr k
      show Ma.1 19 _ = _
      rw [p3 k hk c (by omega), hp.1 u hu k hk, pl_st h, ss_ps hF u (Nat.le_refl _)]⟩
    (by
      rintro t ⟨x, y, M⟩ hut ht ⟨e1, e2, f1, f2⟩
      dsimp only at e1 e2 f1 f2
      subst e1 e2
      have kM := keepR_2 kr f1
      have d3 : M.1 3 0 = nI T := by rw [kM 3 (by decide)]; exact q3
      have ge : ¬ nI T ≤ nI t := nI_ge ht (by omega)
      obtain ⟨M1, w1, w2, w3⟩ := r_passes hn hok kM (show t < 16 by omega) (Z := ss Mr F t) f2
      rw [f1 21 (by decide) (by decide), hFe] at w3
      have kM1 := keepR_19 kM w2
      obtain ⟨⟨z1, z2⟩, u1, u2⟩ := r_look (F := F) hn b1 kM1 q0 (nI u) (show t < 16 by omega) (ex t (fun t => ex N (s1 Mr F t))) w3 (fun k hk => by rw [w2 18 (by decide), f1 18 (by decide) (by decide)]; exact hp.1 t ht k hk)
      dsimp only at u2
      obtain ⟨M2, x1, x2, x3⟩ := r_over hn hok kM1 w3
      exact ⟨_, by simp only [B_X6_runs_97, d3, if_neg ge, w1, zbind_some, zlt_e, u1, zb2_some, x1]; rfl, nI_1 t, u2, fun v h1 h2 => (x2 v h1 h2).trans ((w2 v h1).trans (f1 v h1 h2)), x3⟩)
    (by
      rintro ⟨x, y, M⟩ ⟨e1, e2, f1, f2⟩
      dsimp only at e1 e2 f1 f2
      subst e1 e2
      have kM := keepR_2 kr f1
      have d3 : M.1 3 0 = nI T := by rw [kM 3 (by decide)]; exact q3
      have le : nI T ≤ nI T := nI_le (Nat.le_refl _) (by omega)
      exact ⟨_, by simp only [B_X6_runs_97, d3, if_pos le]; rfl, rfl, f1, f2⟩)
  dsimp only at o2 o3 o4
  subst o2
  obtain ⟨⟨z1, z2⟩, g1, g2⟩ := r_ling (F := F) hn b1 b5 (keepR_2 kr o3) q0 q3 (nI u) (SN Mr F N T) o4 (fun k hk h => by rw [o3 18 (by decide) (by decide)]; exact hp.2 k hk h)
  dsimp only at g2
  subst g2
  refine ⟨Mb, ?_, o3⟩
  simp only [K_X6_runs_39, zlt_e, p1, zb2_some, o1, zb3_some, g1]
