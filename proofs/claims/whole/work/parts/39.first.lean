theorem fC_ext (t k : Nat) {i : Nat} : ∀ {j : Nat}, i ≤ j → ∃ m, fC t k j = fC t k i ++ m
  | 0, h => ⟨[], by rw [show i = 0 by omega] <;> rfl⟩
  | j + 1, h => by
    by_cases e : i = j + 1
    · subst e; exact ⟨[], (List.append_nil _).symm⟩
    · obtain ⟨m, hm⟩ := fC_ext t k (i := i) (j := j) (by omega)
      exact ⟨m ++ [(fO t k j, nmI t k j)], by rw [← List.append_assoc, ← hm] <;> rfl⟩
theorem fK_ext (M : zM) (t a : Nat) {i : Nat} : ∀ {j : Nat}, i ≤ j → ∃ m, fK M t a j = fK M t a i ++ m
  | 0, h => ⟨[], by rw [show i = 0 by omega] <;> rfl⟩
  | j + 1, h => by
    by_cases e : i = j + 1
    · subst e; exact ⟨[], (List.append_nil _).symm⟩
    · obtain ⟨m, hm⟩ := fK_ext M t a (i := i) (j := j) (by omega)
      exact ⟨m ++ fC t (a + j) (cp M (a + j)), by rw [← List.append_assoc, ← hm] <;> rfl⟩
theorem fT_ext (M : zM) (a b : Nat) {i : Nat} : ∀ {j : Nat}, i ≤ j → ∃ m, fT M a b j = fT M a b i ++ m
  | 0, h => ⟨[], by rw [show i = 0 by omega] <;> rfl⟩
  | j + 1, h => by
    by_cases e : i = j + 1
    · subst e; exact ⟨[], (List.append_nil _).symm⟩
    · obtain ⟨m, hm⟩ := fT_ext M a b (i := i) (j := j) (by omega)
      exact ⟨m ++ fK M j a b, by rw [← List.append_assoc, ← hm] <;> rfl⟩
theorem fsd_keep (M : zM) (N T : Nat) : ∀ (m l : List (Fl × Int32)), ¬ fsd M N T l = -1 → fsd M N T (l ++ m) = fsd M N T l := by
  intro m
  induction m with
  | nil => intro l h; rw [List.append_nil]
  | cons it m ih =>
    intro l h
    have e : fsd M N T (l ++ [it]) = fsd M N T l := by rw [fsd_s, if_neg h]
    rw [show l ++ it :: m = (l ++ [it]) ++ m from by rw [List.append_assoc] <;> rfl, ih (l ++ [it]) (by rw [e]; exact h), e]
theorem nmI_ne {t k c : Nat} (ht : t < 16) (hk : k < 24) (hc : c < 3) : ¬ nmI t k c = -1 := by
  have e : nmI t k c = nI (10000 * t + 10 * k + c) := by
    unfold nmI
    rw [show (10000 : Int32) = nI 10000 from rfl, show (10 : Int32) = nI 10 from rfl, pk_mul, pk_mul, nI_add, nI_add]
  rw [e]
  intro q
  have := congrArg Int32.toInt q
  rw [nI_toInt (by omega)] at this
  have e2 : Int32.toInt (-1) = -1 := by decide
  rw [e2] at this
  omega
theorem vI_odd (a b : Bool) : vI a b - vI a b / 2 * 2 = zb a := by cases a <;> cases b <;> rfl
theorem r_first30 {Mr R M0 : zM} {n N I S T V t k : Nat} {sn : Nat → Nat} {l : List (Fl × Int32)} (hn : 100 ≤ n) (hok : zOk Mr N I S T V sn) (kr : zKeepR Mr R) (hp : zPl Mr R N T) (h : zRn R M0) (ht : t < T) (hk : k < 24) (hl : fsd Mr N T l = -1) :
    ∃ r, zwl (fun q => B_X6_first_30 n (nI t) (nI k) q.1 q.2) n ((0 : Int32), M0) = some r ∧ ((∃ x M, r = .inl (x, M) ∧ zRn R M ∧ fsd Mr N T (l ++ fC t k (cp Mr k)) = -1) ∨ (∃ x M, r = .inr (x, M) ∧ zRn R M ∧ ¬ x = -1 ∧ fsd Mr N T (l ++ fC t k (cp Mr k)) = x)) := by
  have h3 := cp_le Mr k
  have hT := hok.1.1.2.2.2.2.1
  refine zwl_rule (fun i s => s.1 = nI i ∧ zRn R s.2 ∧ fsd Mr N T (l ++ fC t k i) = -1) _ (cp Mr k) (fun i s hi hI => ?_) (cp Mr k) 0 n _ (by omega) (by omega) (Nat.zero_le _) ⟨rfl, h, by rw [show l ++ fC t k 0 = l from List.append_nil l]; exact hl⟩
  obtain ⟨x, M⟩ := s
  obtain ⟨e1, f1, f2⟩ := hI
  dsimp only at e1 f1 f2
  subst e1
  have kM : zKeepR Mr M := keepR_4 kr f1
  by_cases c : i < cp Mr k
  · have ge : ¬ nI (cp Mr k) ≤ nI i := nI_ge c (by omega)
    obtain ⟨M1, a1, a2⟩ := r_one (t0 := t) (k0 := k) (c0 := i) hn hok kM (hp.keep (f1 18 (by decide) (by decide) (by decide))) ht
    have fin : zRn R M1 := fun v h1 h2 h3 => (a2 v h1 h2 h3).trans (f1 v h1 h2 h3)
    have ec : fsd Mr N T (l ++ fC t k (i + 1)) = if SN Mr (fO t k i) N T = true then nmI t k i else -1 := by
      rw [show l ++ fC t k (i + 1) = (l ++ fC t k i) ++ [(fO t k i, nmI t k i)] from (List.append_assoc _ _ _).symm, fsd_s, f2, if_pos rfl]
    have od : vd Mr N T (fO t k i) - vd Mr N T (fO t k i) / 2 * 2 = zb (SN Mr (fO t k i) N T) := vI_odd _ _
    cases sv : SN Mr (fO t k i) N T with
    | true =>
      rw [sv] at od ec
      rw [if_pos rfl] at ec
      have od1 : vd Mr N T (fO t k i) - vd Mr N T (fO t k i) / 2 * 2 = 1 := od
      have ne := nmI_ne (t := t) (k := k) (c := i) (by omega) hk (by omega)
      refine Or.inr ⟨_, by simp only [B_X6_first_30, r_cp (kM 14 (by decide)) hk, zbind_some, if_neg ge, a1, zb2_some, if_pos od1] <;> rfl, Or.inr ⟨_, _, rfl, fin, ne, ?_⟩⟩
      obtain ⟨m, hm⟩ := fC_ext t k (show i + 1 ≤ cp Mr k by omega)
      rw [hm, ← List.append_assoc, fsd_keep _ _ _ _ _ (by rw [ec]; exact ne), ec] <;> rfl
    | false =>
      rw [sv] at od ec
      have od1 : ¬ vd Mr N T (fO t k i) - vd Mr N T (fO t k i) / 2 * 2 = 1 := by rw [od]; decide
      exact Or.inl ⟨_, by simp only [B_X6_first_30, r_cp (kM 14 (by decide)) hk, zbind_some, if_neg ge, a1, zb2_some, if_neg od1, zlt_e] <;> rfl, c, nI_1 i, fin, ec⟩
  · have e : i = cp Mr k := by omega
    subst e
    have le : nI (cp Mr k) ≤ nI (cp Mr k) := nI_le (Nat.le_refl _) (by omega)
    exact Or.inr ⟨_, by simp only [B_X6_first_30, r_cp (kM 14 (by decide)) hk, zbind_some, if_pos le] <;> rfl, Or.inl ⟨_, _, rfl, f1, f2⟩⟩
theorem r_first20 {Mr R M0 : zM} {n N I S T V t : Nat} {sn : Nat → Nat} {l : List (Fl × Int32)} (hn : 100 ≤ n) (hok : zOk Mr N I S T V sn) (kr : zKeepR Mr R) (hp : zPl Mr R N T) (h : zRn R M0) (ht : t < T) (hl : fsd Mr N T l = -1) :
    ∃ r, zwl (fun q => B_X6_first_20 n (nI t) q.1 q.2) n ((0 : Int32), M0) = some r ∧ ((∃ x M, r = .inl (x, M) ∧ zRn R M ∧ fsd Mr N T (l ++ fK Mr t 0 N) = -1) ∨ (∃ x M, r = .inr (x, M) ∧ zRn R M ∧ ¬ x = -1 ∧ fsd Mr N T (l ++ fK Mr t 0 N) = x)) := by
  obtain ⟨⟨⟨b1, b2, b3, b4, b5, b6⟩, q0, q1, q2, q3, q4⟩, -⟩ := id hok
  refine zwl_rule (fun i s => s.1 = nI i ∧ zRn R s.2 ∧ fsd Mr N T (l ++ fK Mr t 0 i) = -1) _ N (fun i s hi hI => ?_) N 0 n _ (by omega) (by omega) (Nat.zero_le _) ⟨rfl, h, by rw [show l ++ fK Mr t 0 0 = l from List.append_nil l]; exact hl⟩
  obtain ⟨x, M⟩ := s
  obtain ⟨e1, f1, f2⟩ := hI
  dsimp only at e1 f1 f2
  subst e1
  have kM : zKeepR Mr M := keepR_4 kr f1
  have d0 : M.1 0 0 = nI N := by rw [kM 0 (by decide)]; exact q0
  by_cases c : i < N
  · have ge : ¬ nI N ≤ nI i := nI_ge c (by omega)
    have el : (l ++ fK Mr t 0 i) ++ fC t i (cp Mr i) = l ++ fK Mr t 0 (i + 1) := by
      show _ = l ++ (fK Mr t 0 i ++ fC t (0 + i) (cp Mr (0 + i)))
      rw [Nat.zero_add, List.append_assoc]
    obtain ⟨r, a1, a2⟩ := r_first30 (k := i) hn hok kr hp f1 ht (by omega) f2
    rw [el] at a2
    rcases a2 with ⟨x, M1, rfl, g1, g2⟩ | ⟨x, M1, rfl, g1, g2, g3⟩
    · exact Or.inl ⟨_, by simp only [B_X6_first_20, d0, if_neg ge, zlt_e, a1, zbind_some, Sum.elim_inl] <;> rfl, c, nI_1 i, g1, g2⟩
    · refine Or.inr ⟨_, by simp only [B_X6_first_20, d0, if_neg ge, zlt_e, a1, zbind_some, Sum.elim_inr] <;> rfl, Or.inr ⟨_, _, rfl, g1, g2, ?_⟩⟩
      obtain ⟨m, hm⟩ := fK_ext Mr t 0 (show i + 1 ≤ N by omega)
      rw [hm, ← List.append_assoc, fsd_keep _ _ _ _ _ (by rw [g3]; exact g2), g3]
  · have e : i = N := by omega
    subst e
    have le : nI i ≤ nI i := nI_le (Nat.le_refl _) (by omega)
    exact Or.inr ⟨_, by simp only [B_X6_first_20, d0, if_pos le] <;> rfl, Or.inl ⟨_, _, rfl, f1, f2⟩⟩
theorem b_first {Mc Mr : zM} {n : Nat} (hn : 5000 ≤ n) (h : zRel Mc Mr) : zBoth (pX5_first n Mc) (pX6_first n Mr) := by
  obtain ⟨N, I, S, T, V, sn, hok, hi, hnn, hs, hsn⟩ := id h
  obtain ⟨⟨⟨b1, b2, b3, b4, b5, b6⟩, q0, q1, q2, q3, q4⟩, -⟩ := id hok
  have d2 : Mc.1 2 0 = nI N := hi.1.trans q0
  unfold pX5_first pX6_first
  obtain ⟨M', a1, a2, a3, a4⟩ := c_each (a := 0) (b := N) hn hok hi hnn hs hsn (by omega)
  rw [show nI (0 + N) = nI N by rw [Nat.zero_add]] at a1
  obtain ⟨R1, p1, p2, p3⟩ := r_bare (show 100 ≤ n by omega) hok (zKeepR.rf Mr) b5
  obtain ⟨r, o1, o2⟩ := zwl_rule (b := fun q => B_X6_first_10 n q.1 q.2) (fun t s => s.1 = nI t ∧ zRn R1 s.2 ∧ fsd Mr N T (fT Mr 0 N t) = -1) (fun r => (∃ x M, r = .inl (x, M) ∧ zRn R1 M ∧ fsd Mr N T (fT Mr 0 N T) = -1) ∨ (∃ x M, r = .inr (x, M) ∧ zRn R1 M ∧ ¬ x = -1 ∧ fsd Mr N T (fT Mr 0 N T) = x)) T (fun i s hi hI => by
    obtain ⟨x, M⟩ := s
    obtain ⟨e1, f1, f2⟩ := hI
    dsimp only at e1 f1 f2
    subst e1
    have kM : zKeepR Mr M := keepR_4 (keepR_18 p2) f1
    have d3 : M.1 3 0 = nI T := by rw [kM 3 (by decide)]; exact q3
    by_cases c : i < T
    · have ge : ¬ nI T ≤ nI i := nI_ge c (by omega)
      obtain ⟨r, a1, a2⟩ := r_first20 (t := i) (show 100 ≤ n by omega) hok (keepR_18 p2) p3 f1 c f2
      rcases a2 with ⟨x, M1, rfl, g1, g2⟩ | ⟨x, M1, rfl, g1, g2, g3⟩
      · exact Or.inl ⟨_, by simp only [B_X6_first_10, d3, if_neg ge, zlt_e, a1, zbind_some, Sum.elim_inl] <;> rfl, c, nI_1 i, g1, g2⟩
      · refine Or.inr ⟨_, by simp only [B_X6_first_10, d3, if_neg ge, zlt_e, a1, zbind_some, Sum.elim_inr] <;> rfl, Or.inr ⟨_, _, rfl, g1, g2, ?_⟩⟩
        have g3' : fsd Mr N T (fT Mr 0 N (i + 1)) = x := g3
        obtain ⟨m, hm⟩ := fT_ext Mr 0 N (show i + 1 ≤ T by omega)
        rw [hm, fsd_keep _ _ _ _ _ (by rw [g3']; exact g2), g3']
    · have e : i = T := by omega
      subst e
      have le : nI i ≤ nI i := nI_le (Nat.le_refl _) (by omega)
      exact Or.inr ⟨_, by simp only [B_X6_first_10, d3, if_pos le] <;> rfl, Or.inl ⟨_, _, rfl, f1, f2⟩⟩) T 0 n ((0 : Int32), R1) (by omega) (by omega) (Nat.zero_le _) ⟨rfl, fun _ _ _ _ => rfl, rfl⟩
  rw [d2, show (0 : Int32) = nI 0 from rfl, a1, zbind_some, a3, show nI 0 = (0 : Int32) from rfl, q3, p1, zbind_some, zlt_e, o1, zbind_some]
  rcases o2 with ⟨x, M, rfl, g1, g2⟩ | ⟨x, M, rfl, g1, g2, g3⟩
  · rw [g2]
    exact ⟨_, _, _, rfl, rfl, h.keep a4 (keepR_4 (keepR_18 p2) g1)⟩
  · rw [g3]
    exact ⟨_, _, _, rfl, rfl, h.keep a4 (keepR_4 (keepR_18 p2) g1)⟩
/-- how many are seen -/
def sc (M : zM) (N T : Nat) (l : List (Fl × Int32)) : Nat := l.countP (fun it => SN M it.1 N T)
theorem sc_app (M : zM) (N T : Nat) (l m : List (Fl × Int32)) : sc M N T (l ++ m) = sc M N T l + sc M N T m := List.countP_append
theorem sc_s (M : zM) (N T : Nat) (l : List (Fl × Int32)) (it : Fl × Int32) : sc M N T (l ++ [it]) = sc M N T l + if SN M it.1 N T = true then 1 else 0 := by
  unfold sc; rw [List.countP_append, List.countP_singleton]
theorem sc_cnt (M : zM) (N T : Nat) : ∀ l, cnt M N T 1 l + cnt M N T 3 l = sc M N T l := by
  intro l
  induction l with
  | nil => rfl
  | cons it l ih =>
    unfold cnt sc at *
    rw [List.countP_cons, List.countP_cons, List.countP_cons, ← ih]
    unfold vn
    cases SN M it.1 N T <;> cases LG M it.1 N T <;> simp [vN] <;> omega
theorem sc_le (M : zM) (N T : Nat) (l : List (Fl × Int32)) : sc M N T l ≤ l.length := List.countP_le_length
theorem c_allSeen {Mr M : zM} {N T : Nat} {l : List (Fl × Int32)} (h : ∀ v, v < 4 → M.1 24 v = nI (cnt Mr N T v l)) : pX0_allSeen M = some (nI (sc Mr N T l)) := by
  unfold pX0_allSeen
  rw [show (1 : Int32) = nI 1 from rfl, show (3 : Int32) = nI 3 from rfl, zchk_n (by omega), zchk_n (by omega), cl_n (by omega), cl_n (by omega), h 1 (by omega), h 3 (by omega), nI_add, sc_cnt]
theorem fC_len (t k : Nat) : ∀ i, (fC t k i).length = i
  | 0 => rfl
  | i + 1 => by show (fC t k i ++ [_]).length = _; rw [List.length_append, fC_len t k i] <;> rfl
theorem fT1_len (M : zM) (a : Nat) : ∀ t, (fT M a 1 t).length ≤ 3 * t
  | 0 => Nat.le_refl _
  | t + 1 => by
    show (fT M a 1 t ++ ([] ++ fC t (a + 0) (cp M (a + 0)))).length ≤ _
    have h1 := fT1_len M a t
    have h2 := cp_le M (a + 0)
    rw [List.length_append, List.nil_append, fC_len]
    omega
theorem r_masked31 {Mr R M0 : zM} {n N I S T V t k : Nat} {sn : Nat → Nat} {l : List (Fl × Int32)} (hn : 100 ≤ n) (hok : zOk Mr N I S T V sn) (kr : zKeepR Mr R) (hp : zPl Mr R N T) (h : zRn R M0) (ht : t < T) (hk : k < 24) (hl : sc Mr N T l = 0) :
    ∃ r, zwl (fun q => B_X6_masked_31 n (nI k) (nI t) q.1 q.2) n ((0 : Int32), M0) = some r ∧ ((∃ x M, r = .inl (x, M) ∧ zRn R M ∧ sc Mr N T (l ++ fC t k (cp Mr k)) = 0) ∨ (∃ M, r = .inr ((0 : Int32), M) ∧ zRn R M ∧ 0 < sc Mr N T (l ++ fC t k (cp Mr k)))) := by
  have h3 := cp_le Mr k
  refine zwl_rule (fun i s => s.1 = nI i ∧ zRn R s.2 ∧ sc Mr N T (l ++ fC t k i) = 0) _ (cp Mr k) (fun i s hi hI => ?_) (cp Mr k) 0 n _ (by omega) (by omega) (Nat.zero_le _) ⟨rfl, h, by rw [show l ++ fC t k 0 = l from List.append_nil l]; exact hl⟩
  obtain ⟨x, M⟩ := s
  obtain ⟨e1, f1, f2⟩ := hI
  dsimp only at e1 f1 f2
  subst e1
  have kM : zKeepR Mr M := keepR_4 kr f1
  by_cases c : i < cp Mr k
  · have ge : ¬ nI (cp Mr k) ≤ nI i := nI_ge c (by omega)
    obtain ⟨M1, a1, a2⟩ := r_one (t0 := t) (k0 := k) (c0 := i) hn hok kM (hp.keep (f1 18 (by decide) (by decide) (by decide))) ht
    have fin : zRn R M1 := fun v h1 h2 h3 => (a2 v h1 h2 h3).trans (f1 v h1 h2 h3)
    have ec : sc Mr N T (l ++ fC t k (i + 1)) = if SN Mr (fO t k i) N T = true then 1 else 0 := by
      rw [show l ++ fC t k (i + 1) = (l ++ fC t k i) ++ [(fO t k i, nmI t k i)] from (List.append_assoc _ _ _).symm, sc_s, f2, Nat.zero_add]
    have od : vd Mr N T (fO t k i) - vd Mr N T (fO t k i) / 2 * 2 = zb (SN Mr (fO t k i) N T) := vI_odd _ _
    cases sv : SN Mr (fO t k i) N T with
    | true =>
      rw [sv] at od ec
      rw [if_pos rfl] at ec
      have od1 : vd Mr N T (fO t k i) - vd Mr N T (fO t k i) / 2 * 2 = 1 := od
      refine Or.inr ⟨_, by simp only [B_X6_masked_31, r_cp (kM 14 (by decide)) hk, zbind_some, if_neg ge, a1, zb2_some, if_pos od1] <;> rfl, Or.inr ⟨_, rfl, fin, ?_⟩⟩
      obtain ⟨m, hm⟩ := fC_ext t k (show i + 1 ≤ cp Mr k by omega)
      rw [hm, ← List.append_assoc, sc_app, ec]; omega
    | false =>
      rw [sv] at od ec
      have od1 : ¬ vd Mr N T (fO t k i) - vd Mr N T (fO t k i) / 2 * 2 = 1 := by rw [od]; decide
      exact Or.inl ⟨_, by simp only [B_X6_masked_31, r_cp (kM 14 (by decide)) hk, zbind_some, if_neg ge, a1, zb2_some, if_neg od1, zlt_e] <;> rfl, c, nI_1 i, fin, ec⟩
  · have e : i = cp Mr k := by omega
    subst e
    have le : nI (cp Mr k) ≤ nI (cp Mr k) := nI_le (Nat.le_refl _) (by omega)
    exact Or.inr ⟨_, by simp only [B_X6_masked_31, r_cp (kM 14 (by decide)) hk, zbind_some, if_pos le] <;> rfl, Or.inl ⟨_, _, rfl, f1, f2⟩⟩
theorem b_masked {Mc Mr : zM} {n : Nat} (hn : 5000 ≤ n) (h : zRel Mc Mr) (x1 : Int32) : zBoth (pX5_masked n x1 Mc) (pX6_masked n x1 Mr) := by
  obtain ⟨N, I, S, T, V, sn, hok, hi, hnn, hs, hsn⟩ := id h
  obtain ⟨⟨⟨b1, b2, b3, b4, b5, b6⟩, q0, q1, q2, q3, q4⟩, -⟩ := id hok
  have d2 : Mc.1 2 0 = nI N := hi.1.trans q0
  unfold pX5_masked pX6_masked
  rcases zix x1 b1 with c | ⟨k, hk, rfl⟩
  · rw [pC_isNode_n d2 c, pR_isNode_n q0 b1 c, zbind_some, zbind_some, if00, if00]
    exact ⟨_, _, _, rfl, rfl, h⟩
  rw [pC_isNode_y d2 b1 hk, pR_isNode_y q0 b1 hk, zbind_some, zbind_some, if10, if10]
  obtain ⟨M', a1, a2, a3, a4⟩ := c_each (a := k) (b := 1) hn hok hi hnn hs hsn (by omega)
  obtain ⟨R1, p1, p2, p3⟩ := r_bare (show 100 ≤ n by omega) hok (zKeepR.rf Mr) b5
  obtain ⟨r, o1, o2⟩ := zwl_rule (b := fun q => B_X6_masked_21 n (nI k) q.1 q.2) (fun t s => s.1 = nI t ∧ zRn R1 s.2 ∧ sc Mr N T (fT Mr k 1 t) = 0) (fun r => (∃ x M, r = .inl (x, M) ∧ zRn R1 M ∧ sc Mr N T (fT Mr k 1 T) = 0) ∨ (∃ M, r = .inr ((0 : Int32), M) ∧ zRn R1 M ∧ 0 < sc Mr N T (fT Mr k 1 T))) T (fun i s hi hI => by
    obtain ⟨x, M⟩ := s
    obtain ⟨e1, f1, f2⟩ := hI
    dsimp only at e1 f1 f2
    subst e1
    have kM : zKeepR Mr M := keepR_4 (keepR_18 p2) f1
    have d3 : M.1 3 0 = nI T := by rw [kM 3 (by decide)]; exact q3
    by_cases c : i < T
    · have ge : ¬ nI T ≤ nI i := nI_ge c (by omega)
      obtain ⟨r, a1, a2⟩ := r_masked31 (t := i) (k := k) (show 100 ≤ n by omega) hok (keepR_18 p2) p3 f1 c (by omega) f2
      have el : fT Mr k 1 i ++ fC i k (cp Mr k) = fT Mr k 1 (i + 1) := rfl
      rw [el] at a2
      rcases a2 with ⟨x, M1, rfl, g1, g2⟩ | ⟨M1, rfl, g1, g2⟩
      · exact Or.inl ⟨_, by simp only [B_X6_masked_21, d3, if_neg ge, zlt_e, a1, zbind_some, Sum.elim_inl] <;> rfl, c, nI_1 i, g1, g2⟩
      · refine Or.inr ⟨_, by simp only [B_X6_masked_21, d3, if_neg ge, zlt_e, a1, zbind_some, Sum.elim_inr] <;> rfl, Or.inr ⟨_, rfl, g1, ?_⟩⟩
        obtain ⟨m, hm⟩ := fT_ext Mr k 1 (show i + 1 ≤ T by omega)
        rw [hm, sc_app]; omega
    · have e : i = T := by omega
      subst e
      have le : nI i ≤ nI i := nI_le (Nat.le_refl _) (by omega)
      exact Or.inr ⟨_, by simp only [B_X6_masked_21, d3, if_pos le] <;> rfl, Or.inl ⟨_, _, rfl, f1, f2⟩⟩) T 0 n ((0 : Int32), R1) (by omega) (by omega) (Nat.zero_le _) ⟨rfl, fun _ _ _ _ => rfl, rfl⟩
  rw [nI_1, a1, zbind_some, c_allSeen a2, zbind_some, q3, p1, zbind_some, zlt_e, o1, zbind_some]
  have len := Nat.le_trans (sc_le Mr N T (fT Mr k 1 T)) (fT1_len Mr k T)
  rcases o2 with ⟨x, M, rfl, g1, g2⟩ | ⟨M, rfl, g1, g2⟩
  · rw [g2, if_pos (show nI 0 = 0 from rfl)]
    exact ⟨_, _, _, rfl, rfl, h.keep a4 (keepR_4 (keepR_18 p2) g1)⟩
  · have ne : ¬ nI (sc Mr N T (fT Mr k 1 T)) = 0 := fun q => by
      rw [show (0 : Int32) = nI 0 from rfl, nI_inj (by omega) (by omega)] at q
      omega
    rw [if_neg ne]
    exact ⟨_, _, _, rfl, rfl, h.keep a4 (keepR_4 (keepR_18 p2) g1)⟩
