theorem z_div3 : ∀ a, a < 72 → nI a / (3 : Int32) = nI (a / 3) ∧ nI a - nI (a / 3) * (3 : Int32) = nI (a % 3) := by decide +kernel
abbrev isCp (M : zM) (q : Nat) : Prop := q % 3 < cp M (q / 3)
def pI (t a b : Nat) : Fl × Int32 := (fW t (a / 3) (a % 3) t (b / 3) (b % 3), nmI t (b / 3) (b % 3))
def pR (M : zM) (t a : Nat) : Nat → List (Fl × Int32)
  | 0 => []
  | m + 1 => pR M t a m ++ (if isCp M (a + 1 + m) then [pI t a (a + 1 + m)] else [])
def pP (M : zM) (t Z : Nat) : Nat → List (Fl × Int32)
  | 0 => []
  | a + 1 => pP M t Z a ++ (if isCp M a then pR M t a (Z - (a + 1)) else [])
theorem c_isCp {Mr M : zM} {N q : Nat} (hN : N ≤ 24) (d2 : M.1 2 0 = nI N) (m16 : M.1 16 = Mr.1 14) (hq : q < 3 * N) : pX2_isCopy (nI (q / 3)) (nI (q % 3)) M = some (if isCp Mr q then 1 else 0) := by
  unfold pX2_isCopy K_X2_isCopy_25
  have h3 := cp_le Mr (q / 3)
  rw [pC_isNode_y d2 hN (show q / 3 < N by omega), zbind_some, if10, if_neg (nI_pos (by omega)), c_cp m16 (by omega), zbind_some]
  by_cases c : isCp Mr q
  · rw [if_pos c, if_neg (nI_ge c (by omega))]
  · rw [if_neg c, if_pos (nI_le (Nat.not_lt.mp c) (by omega))]
theorem fW_x {t a b : Nat} (ha : a < 72) (hb : b < 72) (h : ¬ a = b) : (fun x y z => (z0f x y z ^^ fO t (a / 3) (a % 3) x y z) ^^ fO t (b / 3) (b % 3) x y z) = fW t (a / 3) (a % 3) t (b / 3) (b % 3) := funext fun x => funext fun y => funext fun z => by
  unfold fW
  rw [show z0f x y z = false from rfl, Bool.false_xor]
  cases p : fO t (a / 3) (a % 3) x y z with
  | false => rw [Bool.false_xor, Bool.false_or]
  | true =>
    cases q : fO t (b / 3) (b % 3) x y z with
    | false => rfl
    | true =>
      exfalso
      unfold fO at p q
      rw [Bool.and_eq_true, Bool.and_eq_true, decide_eq_true_iff, decide_eq_true_iff, decide_eq_true_iff] at p q
      have e1 := p.1.2.trans q.1.2.symm
      have e2 := p.2.trans q.2.symm
      rw [nI_inj (by omega) (by omega)] at e1 e2
      omega
theorem c_pair {Mc Mr M0 : zM} {n N I S T V t a : Nat} {sn : Nat → Nat} {l : List (Fl × Int32)} (hn : 5000 ≤ n) (hok : zOk Mr N I S T V sn) (tie : zTie Mr Mc N S sn) (h : zBt Mc Mr M0 N T l z0f) (ht : t < 16) (ha : a < 3 * N) (hca : isCp Mr a) :
    ∃ M', pX5_runEachPair n (nI t) (nI a) M0 = some M' ∧ zBt Mc Mr M' N T (l ++ pR Mr t a (3 * N - (a + 1))) z0f := by
  obtain ⟨⟨⟨b1, b2, b3, b4, b5, b6⟩, q0, q1, q2, q3, q4⟩, -⟩ := id hok
  have m16 : Mc.1 16 = Mr.1 14 := tie.2.2.2.2.2.2.2.1
  have w16 : ∀ {M l G}, zBt Mc Mr M N T l G → M.1 16 = Mr.1 14 := fun {M l G} ⟨D, P, u, _, _, _, hkeep, _⟩ => (hkeep 16 (by decide)).trans m16
  have w2 : ∀ {M l G}, zBt Mc Mr M N T l G → M.1 2 0 = nI N := fun {M l G} ⟨D, P, u, _, _, _, hkeep, _⟩ => by rw [hkeep 2 (by decide)]; exact tie.1
  obtain ⟨⟨z1, M1⟩, p1, p2⟩ := zwl_for (b := fun q => B_X5_runEachPair_4 n (nI t) (nI a) q.1 q.2) (fun i s => s.1 = nI (a + 1 + i) ∧ zBt Mc Mr s.2 N T (l ++ pR Mr t a i) z0f) (fun r => zBt Mc Mr r.2 N T (l ++ pR Mr t a (3 * N - (a + 1))) z0f) (3 * N - (a + 1)) n (nI (a + 1), M0) (by omega) ⟨rfl, by rw [show l ++ pR Mr t a 0 = l from List.append_nil l]; exact h⟩
    (by
      rintro i ⟨x, M⟩ hi ⟨e1, f1⟩
      dsimp only at e1 f1
      subst e1
      have e3N : nI N * (3 : Int32) = nI (3 * N) := by rw [zm3, Nat.mul_comm]
      have ge : ¬ nI (3 * N) ≤ nI (a + 1 + i) := nI_ge (by omega) (by omega)
      obtain ⟨v1, v2⟩ := z_div3 (a + 1 + i) (by omega)
      obtain ⟨u1, u2⟩ := z_div3 a (by omega)
      have ic := c_isCp (Mr := Mr) (M := M) (q := a + 1 + i) b1 (w2 f1) (w16 f1) (by omega)
      by_cases c : isCp Mr (a + 1 + i)
      · rw [if_pos c] at ic
        obtain ⟨M1, a1, a2, -⟩ := c_mark (t0 := t) (k0 := a / 3) (c0 := a % 3) (show 100 ≤ n by omega) m16 f1 ht (by omega) hca
        obtain ⟨M2, g1, g2, g3⟩ := c_mark (t0 := t) (k0 := (a + 1 + i) / 3) (c0 := (a + 1 + i) % 3) (show 100 ≤ n by omega) m16 a2 ht (by omega) c
        rw [fW_x (by omega) (by omega) (by omega)] at g2
        obtain ⟨M3, k1, k2⟩ := c_close hn hok tie g2 g3
        refine ⟨_, by simp only [B_X5_runEachPair_4, K_X5_runEachPair_88, w2 f1, e3N, if_neg ge, v1, v2, ic, zbind_some, if10, u1, u2, a1, g1, k1, zlt_e]; rfl, nI_1 (a + 1 + i), ?_⟩
        show zBt Mc Mr M3 N T (l ++ (pR Mr t a i ++ if isCp Mr (a + 1 + i) then [pI t a (a + 1 + i)] else [])) z0f
        rw [if_pos c, ← List.append_assoc]; exact k2
      · rw [if_neg c] at ic
        refine ⟨_, by simp only [B_X5_runEachPair_4, K_X5_runEachPair_88, w2 f1, e3N, if_neg ge, v1, v2, ic, zbind_some, if00, zlt_e]; rfl, nI_1 (a + 1 + i), ?_⟩
        show zBt Mc Mr M N T (l ++ (pR Mr t a i ++ if isCp Mr (a + 1 + i) then [pI t a (a + 1 + i)] else [])) z0f
        rw [if_neg c, List.append_nil]; exact f1)
    (by
      rintro ⟨x, M⟩ ⟨e1, f1⟩
      dsimp only at e1 f1
      subst e1
      have e3N : nI N * (3 : Int32) = nI (3 * N) := by rw [zm3, Nat.mul_comm]
      have le : nI (3 * N) ≤ nI (a + 1 + (3 * N - (a + 1))) := nI_le (by omega) (by omega)
      exact ⟨(nI (a + 1 + (3 * N - (a + 1))), M), by simp only [B_X5_runEachPair_4, w2 f1, e3N, if_pos le], f1⟩)
  exact ⟨M1, by simp only [pX5_runEachPair, zad1, zlt_e, p1, zb2_some], p2⟩
theorem c_pairs {Mc Mr : zM} {n N I S T V t : Nat} {sn : Nat → Nat} (hn : 5000 ≤ n) (hok : zOk Mr N I S T V sn) (hi : zEqI Mc Mr) (hnn : zEqN Mc Mr) (hs : zEqS Mc Mr) (hsn : zSn Mc S sn) (ht : t < T) :
    ∃ M', pX5_pairs n (nI t) Mc = some (nI (sc Mr N T (pP Mr t (3 * N) (3 * N))), M') ∧ zKeepC Mc M' := by
  obtain ⟨⟨⟨b1, b2, b3, b4, b5, b6⟩, q0, q1, q2, q3, q4⟩, -⟩ := id hok
  have tie := zTie.of hok hi hnn hsn
  have m16 : Mc.1 16 = Mr.1 14 := tie.2.2.2.2.2.2.2.1
  have w16 : ∀ {M l G}, zBt Mc Mr M N T l G → M.1 16 = Mr.1 14 := fun {M l G} ⟨D, P, u, _, _, _, hkeep, _⟩ => (hkeep 16 (by decide)).trans m16
  have w2 : ∀ {M l G}, zBt Mc Mr M N T l G → M.1 2 0 = nI N := fun {M l G} ⟨D, P, u, _, _, _, hkeep, _⟩ => by rw [hkeep 2 (by decide)]; exact tie.1
  have d0 : Mc.1 0 0 = nI T := hi.2.2.2.1.trans q3
  obtain ⟨M1, a1, a2⟩ := c_start hn hok hi hnn hs hsn
  obtain ⟨⟨z1, M2⟩, p1, p2⟩ := zwl_for (b := fun q => B_X5_pairs_17 n (nI t) q.1 q.2) (fun i s => s.1 = nI i ∧ zBt Mc Mr s.2 N T (pP Mr t (3 * N) i) z0f) (fun r => zBt Mc Mr r.2 N T (pP Mr t (3 * N) (3 * N)) z0f) (3 * N) n ((0 : Int32), M1) (by omega) ⟨rfl, a2⟩
    (by
      rintro i ⟨x, M⟩ hi ⟨e1, f1⟩
      dsimp only at e1 f1
      subst e1
      have e3N : nI N * (3 : Int32) = nI (3 * N) := by rw [zm3, Nat.mul_comm]
      have ge : ¬ nI (3 * N) ≤ nI i := nI_ge hi (by omega)
      obtain ⟨v1, v2⟩ := z_div3 i (by omega)
      have ic := c_isCp (Mr := Mr) (M := M) (q := i) b1 (w2 f1) (w16 f1) hi
      by_cases c : isCp Mr i
      · rw [if_pos c] at ic
        obtain ⟨M3, k1, k2⟩ := c_pair hn hok tie f1 (show t < 16 by omega) hi c
        refine ⟨_, by simp only [B_X5_pairs_17, K_X5_pairs_52, w2 f1, e3N, if_neg ge, v1, v2, ic, zbind_some, if10, k1, zlt_e]; rfl, nI_1 i, ?_⟩
        show zBt Mc Mr M3 N T (pP Mr t (3 * N) i ++ if isCp Mr i then pR Mr t i (3 * N - (i + 1)) else []) z0f
        rw [if_pos c]; exact k2
      · rw [if_neg c] at ic
        refine ⟨_, by simp only [B_X5_pairs_17, K_X5_pairs_52, w2 f1, e3N, if_neg ge, v1, v2, ic, zbind_some, if00, zlt_e]; rfl, nI_1 i, ?_⟩
        show zBt Mc Mr M N T (pP Mr t (3 * N) i ++ if isCp Mr i then pR Mr t i (3 * N - (i + 1)) else []) z0f
        rw [if_neg c, List.append_nil]; exact f1)
    (by
      rintro ⟨x, M⟩ ⟨e1, f1⟩
      dsimp only at e1 f1
      subst e1
      have e3N : nI N * (3 : Int32) = nI (3 * N) := by rw [zm3, Nat.mul_comm]
      have le : nI (3 * N) ≤ nI (3 * N) := nI_le (Nat.le_refl _) (by omega)
      exact ⟨(nI (3 * N), M), by simp only [B_X5_pairs_17, w2 f1, e3N, if_pos le], f1⟩)
  dsimp only at p2
  obtain ⟨M3, g1, g2, g3, g4⟩ := c_rest hn hok tie p2
  refine ⟨M3, ?_, g4⟩
  have rt : pX5_isRunTick (nI t) Mc = some 1 := by
    unfold pX5_isRunTick
    rw [d0, if_neg (nI_pos (by omega)), if_neg (nI_ge ht (by omega))]
  simp only [pX5_pairs, rt, zbind_some, if10, a1, zlt_e, p1, zb2_some, g1, c_allSeen g2]
theorem r_pair44 {Mr R M0 : zM} {n N I S T V t a s0 : Nat} {sn : Nat → Nat} {l : List (Fl × Int32)} (hn : 5000 ≤ n) (hok : zOk Mr N I S T V sn) (kr : zKeepR Mr R) (hp : zPl Mr R N T) (h : zRn R M0) (ht : t < T) (ha : a < 3 * N) (hs : s0 = sc Mr N T l) :
    ∃ r : Int32 × Int32 × zM, zwl (fun q => B_X6_pairs_44 n (nI t) q.1 (nI a) q.2.1 q.2.2) n (nI s0, nI (a + 1), M0) = some r ∧ (r.1 = nI (sc Mr N T (l ++ if isCp Mr a then pR Mr t a (3 * N - (a + 1)) else [])) ∧ zRn R r.2.2) := by
  obtain ⟨⟨⟨b1, b2, b3, b4, b5, b6⟩, q0, q1, q2, q3, q4⟩, -⟩ := id hok
  have h3 := cp_le Mr (a / 3)
  refine zwl_for (fun i s => s.2.1 = nI (a + 1 + i) ∧ s.1 = nI (sc Mr N T (l ++ if isCp Mr a then pR Mr t a i else [])) ∧ zRn R s.2.2) _ (3 * N - (a + 1)) n _ (by omega) ⟨rfl, by
      rw [show (if isCp Mr a then pR Mr t a 0 else []) = [] from by rw [show pR Mr t a 0 = [] from rfl, ite_self], List.append_nil, hs], h⟩ ?_ ?_
  · rintro i ⟨y, x, M⟩ hi ⟨e1, e2, f1⟩
    dsimp only at e1 e2 f1
    subst e1 e2
    have kM : zKeepR Mr M := keepR_4 kr f1
    have d0 : M.1 0 0 = nI N := by rw [kM 0 (by decide)]; exact q0
    have ge : ¬ nI (3 * N) ≤ nI (a + 1 + i) := nI_ge (by omega) (by omega)
    obtain ⟨v1, v2⟩ := z_div3 (a + 1 + i) (by omega)
    obtain ⟨u1, u2⟩ := z_div3 a (by omega)
    have c1 := r_cp (kM 14 (by decide)) (show a / 3 < 24 by omega)
    have c2 := r_cp (kM 14 (by decide)) (show (a + 1 + i) / 3 < 24 by omega)
    have h3' := cp_le Mr ((a + 1 + i) / 3)
    by_cases ca : isCp Mr a
    · have ga : ¬ nI (cp Mr (a / 3)) ≤ nI (a % 3) := nI_ge ca (by omega)
      by_cases cb : isCp Mr (a + 1 + i)
      · have gb : ¬ nI (cp Mr ((a + 1 + i) / 3)) ≤ nI ((a + 1 + i) % 3) := nI_ge cb (by omega)
        obtain ⟨M1, a1, a2⟩ := r_two (t0 := t) (k0 := a / 3) (c0 := a % 3) (t1 := t) (k1 := (a + 1 + i) / 3) (c1 := (a + 1 + i) % 3) (show 100 ≤ n by omega) hok kM (hp.keep (f1 18 (by decide) (by decide) (by decide))) ht ht
        have fin : zRn R M1 := fun v h1 h2 h3 => (a2 v h1 h2 h3).trans (f1 v h1 h2 h3)
        have od : ∀ F, vd Mr N T F - vd Mr N T F / 2 * 2 = zb (SN Mr F N T) := fun F => vI_odd _ _
        refine ⟨_, by simp only [B_X6_pairs_44, K_X6_pairs_88, K_X6_pairs_122, d0, e3, if_neg ge, u1, u2, c1, zbind_some, if_neg ga, v1, v2, c2, if_neg gb, zlt_e, if10, a1, zb2_some, od]; rfl, nI_1 (a + 1 + i), ?_, fin⟩
        show nI (sc Mr N T (l ++ if isCp Mr a then pR Mr t a i else [])) + zb (SN Mr (fW t (a / 3) (a % 3) t ((a + 1 + i) / 3) ((a + 1 + i) % 3)) N T) = nI (sc Mr N T (l ++ if isCp Mr a then pR Mr t a i ++ (if isCp Mr (a + 1 + i) then [pI t a (a + 1 + i)] else []) else []))
        rw [if_pos ca, if_pos ca, if_pos cb, ← List.append_assoc, sc_s]
        show _ = nI (_ + if SN Mr (fW t (a / 3) (a % 3) t ((a + 1 + i) / 3) ((a + 1 + i) % 3)) N T = true then 1 else 0)
        cases SN Mr (fW t (a / 3) (a % 3) t ((a + 1 + i) / 3) ((a + 1 + i) % 3)) N T with
        | true => exact nI_1 _
        | false => exact nI_add _ 0
      · have gb : nI (cp Mr ((a + 1 + i) / 3)) ≤ nI ((a + 1 + i) % 3) := nI_le (Nat.not_lt.mp cb) (by omega)
        refine ⟨_, by simp only [B_X6_pairs_44, K_X6_pairs_87, K_X6_pairs_88, K_X6_pairs_122, d0, e3, if_neg ge, u1, u2, c1, zbind_some, if_neg ga, v1, v2, c2, if_pos gb, zlt_e, if00]; rfl, nI_1 (a + 1 + i), ?_, f1⟩
        show nI (sc Mr N T (l ++ if isCp Mr a then pR Mr t a i else [])) + 0 = nI (sc Mr N T (l ++ if isCp Mr a then pR Mr t a i ++ (if isCp Mr (a + 1 + i) then [pI t a (a + 1 + i)] else []) else []))
        rw [if_pos ca, if_pos ca, if_neg cb, List.append_nil]
        exact nI_add _ 0
    · have ga : nI (cp Mr (a / 3)) ≤ nI (a % 3) := nI_le (Nat.not_lt.mp ca) (by omega)
      refine ⟨_, by simp only [B_X6_pairs_44, K_X6_pairs_87, K_X6_pairs_88, K_X6_pairs_122, d0, e3, if_neg ge, u1, u2, c1, zbind_some, if_pos ga, zlt_e, if00]; rfl, nI_1 (a + 1 + i), ?_, f1⟩
      show nI (sc Mr N T (l ++ if isCp Mr a then pR Mr t a i else [])) + 0 = nI (sc Mr N T (l ++ if isCp Mr a then pR Mr t a (i + 1) else []))
      rw [if_neg ca, if_neg ca]
      exact nI_add _ 0
  · rintro ⟨y, x, M⟩ ⟨e1, e2, f1⟩
    dsimp only at e1 e2 f1
    subst e1 e2
    have kM : zKeepR Mr M := keepR_4 kr f1
    have d0 : M.1 0 0 = nI N := by rw [kM 0 (by decide)]; exact q0
    have le : nI (3 * N) ≤ nI (a + 1 + (3 * N - (a + 1))) := nI_le (by omega) (by omega)
    exact ⟨(nI (sc Mr N T (l ++ if isCp Mr a then pR Mr t a (3 * N - (a + 1)) else [])), nI (a + 1 + (3 * N - (a + 1))), M), by simp only [B_X6_pairs_44, d0, e3, if_pos le], rfl, f1⟩
theorem b_pairs {Mc Mr : zM} {n : Nat} (hn : 5000 ≤ n) (h : zRel Mc Mr) (x1 : Int32) : zBoth (pX5_pairs n x1 Mc) (pX6_pairs n x1 Mr) := by
  obtain ⟨N, I, S, T, V, sn, hok, hi, hnn, hs, hsn⟩ := id h
  obtain ⟨⟨⟨b1, b2, b3, b4, b5, b6⟩, q0, q1, q2, q3, q4⟩, -⟩ := id hok
  have d0 : Mc.1 0 0 = nI T := hi.2.2.2.1.trans q3
  rcases zint b5 d0 q3 x1 with ⟨e1, e2⟩ | ⟨t, ht, rfl, e1, e2⟩
  · unfold pX5_pairs pX6_pairs
    rw [e1, e2, zbind_some, zbind_some, if00, if00]
    exact ⟨_, _, _, rfl, rfl, h⟩
  obtain ⟨M', a1, a2⟩ := c_pairs hn hok hi hnn hs hsn ht
  obtain ⟨R1, p1, p2, p3⟩ := r_bare (show 100 ≤ n by omega) hok (zKeepR.rf Mr) b5
  obtain ⟨⟨y1, y2, R2⟩, o1, o2, o3⟩ := zwl_for (b := fun q => B_X6_pairs_29 n (nI t) q.1 q.2.1 q.2.2) (fun i s => s.2.1 = nI i ∧ s.1 = nI (sc Mr N T (pP Mr t (3 * N) i)) ∧ zRn R1 s.2.2) (fun r => r.1 = nI (sc Mr N T (pP Mr t (3 * N) (3 * N))) ∧ zRn R1 r.2.2) (3 * N) n ((0 : Int32), (0 : Int32), R1) (by omega) ⟨rfl, rfl, fun _ _ _ _ => rfl⟩
    (by
      rintro i ⟨y, x, M⟩ hi ⟨e1, e2, f1⟩
      dsimp only at e1 e2 f1
      subst e1 e2
      have ge : ¬ nI (3 * N) ≤ nI i := nI_ge hi (by omega)
      have d0 : M.1 0 0 = nI N := by rw [keepR_4 (keepR_18 p2) f1 0 (by decide)]; exact q0
      obtain ⟨⟨z1, z2, M1⟩, a1, a2, a3⟩ := r_pair44 (a := i) (l := pP Mr t (3 * N) i) hn hok (keepR_18 p2) p3 f1 ht hi rfl
      dsimp only at a2 a3
      exact ⟨_, by simp only [B_X6_pairs_29, d0, e3, if_neg ge, zad1, zlt_e, a1, zb3_some]; rfl, rfl, a2, a3⟩)
    (by
      rintro ⟨y, x, M⟩ ⟨e1, e2, f1⟩
      dsimp only at e1 e2 f1
      subst e1 e2
      have d0 : M.1 0 0 = nI N := by rw [keepR_4 (keepR_18 p2) f1 0 (by decide)]; exact q0
      have le : nI (3 * N) ≤ nI (3 * N) := nI_le (Nat.le_refl _) (by omega)
      exact ⟨(nI (sc Mr N T (pP Mr t (3 * N) (3 * N))), nI (3 * N), M), by simp only [B_X6_pairs_29, d0, e3, if_pos le], rfl, f1⟩)
  dsimp only at o2 o3
  subst o2
  rw [a1]
  unfold pX6_pairs
  rw [e2, zbind_some, if10, q3, p1, zbind_some]
  simp only [zlt_e, o1, zb3_some]
  exact ⟨_, _, _, rfl, rfl, h.keep a2 (keepR_4 (keepR_18 p2) o3)⟩
