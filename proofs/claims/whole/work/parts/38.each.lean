def fC (t k : Nat) : Nat → List (Fl × Int32)
  | 0 => []
  | i + 1 => fC t k i ++ [(fO t k i, nmI t k i)]
def fK (M : zM) (t a : Nat) : Nat → List (Fl × Int32)
  | 0 => []
  | m + 1 => fK M t a m ++ fC t (a + m) (cp M (a + m))
def fT (M : zM) (a b : Nat) : Nat → List (Fl × Int32)
  | 0 => []
  | t + 1 => fT M a b t ++ fK M t a b
theorem z0_fO (t k c : Nat) : (fun a b d => z0f a b d ^^ fO t k c a b d) = fO t k c := funext fun _ => funext fun _ => funext fun _ => Bool.false_xor _
theorem c_each26 {Mc Mr M0 : zM} {n N I S T V t k : Nat} {sn : Nat → Nat} {l : List (Fl × Int32)} (hn : 5000 ≤ n) (hok : zOk Mr N I S T V sn) (tie : zTie Mr Mc N S sn) (h : zBt Mc Mr M0 N T l z0f) (ht : t < 16) (hk : k < 24) (x1 x2 : Int32) :
    ∃ r : Int32 × zM, zwl (fun q => B_X5_runEachFlip_26 n x1 x2 (nI t) (nI k) q.1 q.2) n ((0 : Int32), M0) = some r ∧ zBt Mc Mr r.2 N T (l ++ fC t k (cp Mr k)) z0f := by
  have m16 : Mc.1 16 = Mr.1 14 := tie.2.2.2.2.2.2.2.1
  have h3 := cp_le Mr k
  have w16 : ∀ {M l G}, zBt Mc Mr M N T l G → M.1 16 = Mr.1 14 := fun {M l G} ⟨D, P, u, _, _, _, hkeep, _⟩ => (hkeep 16 (by decide)).trans m16
  refine zwl_for (fun i s => s.1 = nI i ∧ zBt Mc Mr s.2 N T (l ++ fC t k i) z0f) _ (cp Mr k) n _ (by omega) ⟨rfl, by rw [show l ++ fC t k 0 = l from List.append_nil l]; exact h⟩ ?_ ?_
  · rintro i ⟨x, M⟩ hi ⟨e1, f1⟩
    dsimp only at e1 f1
    subst e1
    have ge : ¬ nI (cp Mr k) ≤ nI i := nI_ge hi (by omega)
    obtain ⟨M1, a1, a2, a3⟩ := c_mark (t0 := t) (k0 := k) (c0 := i) (show 100 ≤ n by omega) m16 f1 ht hk hi
    rw [z0_fO] at a2
    obtain ⟨M2, b1, b2⟩ := c_close hn hok tie a2 a3
    rw [List.append_assoc] at b2
    exact ⟨_, by simp only [B_X5_runEachFlip_26, c_cp (w16 f1) hk, zbind_some, if_neg ge, a1, b1, zlt_e]; rfl, nI_1 i, b2⟩
  · rintro ⟨x, M⟩ ⟨e1, f1⟩
    dsimp only at e1 f1
    subst e1
    have le : nI (cp Mr k) ≤ nI (cp Mr k) := nI_le (Nat.le_refl _) (by omega)
    exact ⟨(nI (cp Mr k), M), by simp only [B_X5_runEachFlip_26, c_cp (w16 f1) hk, zbind_some, if_pos le], f1⟩
theorem c_each17 {Mc Mr M0 : zM} {n N I S T V t a b : Nat} {sn : Nat → Nat} {l : List (Fl × Int32)} (hn : 5000 ≤ n) (hok : zOk Mr N I S T V sn) (tie : zTie Mr Mc N S sn) (h : zBt Mc Mr M0 N T l z0f) (ht : t < 16) (hab : a + b ≤ 24) :
    ∃ r : Int32 × zM, zwl (fun q => B_X5_runEachFlip_17 n (nI a) (nI (a + b)) (nI t) q.1 q.2) n (nI a, M0) = some r ∧ zBt Mc Mr r.2 N T (l ++ fK Mr t a b) z0f := by
  refine zwl_for (fun i s => s.1 = nI (a + i) ∧ zBt Mc Mr s.2 N T (l ++ fK Mr t a i) z0f) _ b n _ (by omega) ⟨rfl, by rw [show l ++ fK Mr t a 0 = l from List.append_nil l]; exact h⟩ ?_ ?_
  · rintro i ⟨x, M⟩ hi ⟨e1, f1⟩
    dsimp only at e1 f1
    subst e1
    have ge : ¬ nI (a + b) ≤ nI (a + i) := nI_ge (by omega) (by omega)
    obtain ⟨⟨z1, M1⟩, a1, a2⟩ := c_each26 (k := a + i) hn hok tie f1 ht (by omega) (nI a) (nI (a + b))
    dsimp only at a2
    rw [List.append_assoc] at a2
    exact ⟨_, by simp only [B_X5_runEachFlip_17, if_neg ge, zlt_e, a1, zb2_some]; rfl, nI_1 (a + i), a2⟩
  · rintro ⟨x, M⟩ ⟨e1, f1⟩
    dsimp only at e1 f1
    subst e1
    have le : nI (a + b) ≤ nI (a + b) := nI_le (Nat.le_refl _) (by omega)
    exact ⟨(nI (a + b), M), by simp only [B_X5_runEachFlip_17, if_pos le], f1⟩
/-- one run for each flip -/
theorem c_each {Mc Mr : zM} {n N I S T V a b : Nat} {sn : Nat → Nat} (hn : 5000 ≤ n) (hok : zOk Mr N I S T V sn) (hi : zEqI Mc Mr) (hnn : zEqN Mc Mr) (hs : zEqS Mc Mr) (hsn : zSn Mc S sn) (hab : a + b ≤ 24) :
    ∃ M', pX5_runEachFlip n (nI a) (nI (a + b)) Mc = some M' ∧ (∀ v, v < 4 → M'.1 24 v = nI (cnt Mr N T v (fT Mr a b T))) ∧ M'.1 7 0 = fsd Mr N T (fT Mr a b T) ∧ zKeepC Mc M' := by
  obtain ⟨⟨⟨b1, b2, b3, b4, b5, b6⟩, q0, q1, q2, q3, q4⟩, -⟩ := id hok
  have tie := zTie.of hok hi hnn hsn
  have d0 : Mc.1 0 0 = nI T := hi.2.2.2.1.trans q3
  have w0 : ∀ {M l G}, zBt Mc Mr M N T l G → M.1 0 0 = nI T := fun {M l G} ⟨D, P, u, _, _, _, hkeep, _⟩ => by rw [hkeep 0 (by decide)]; exact d0
  obtain ⟨M1, a1, a2⟩ := c_start hn hok hi hnn hs hsn
  obtain ⟨⟨z1, M2⟩, p1, p2⟩ := zwl_for (b := fun q => B_X5_runEachFlip_6 n (nI a) (nI (a + b)) q.1 q.2) (fun t s => s.1 = nI t ∧ zBt Mc Mr s.2 N T (fT Mr a b t) z0f) (fun r => zBt Mc Mr r.2 N T (fT Mr a b T) z0f) T n ((0 : Int32), M1) (by omega) ⟨rfl, a2⟩
    (by
      rintro i ⟨x, M⟩ hi ⟨e1, f1⟩
      dsimp only at e1 f1
      subst e1
      have ge : ¬ nI T ≤ nI i := nI_ge hi (by omega)
      obtain ⟨⟨z1, M1⟩, a1, a2⟩ := c_each17 (t := i) hn hok tie f1 (by omega) hab
      dsimp only at a2
      exact ⟨_, by simp only [B_X5_runEachFlip_6, w0 f1, if_neg ge, zlt_e, a1, zb2_some]; rfl, nI_1 i, a2⟩)
    (by
      rintro ⟨x, M⟩ ⟨e1, f1⟩
      dsimp only at e1 f1
      subst e1
      have le : nI T ≤ nI T := nI_le (Nat.le_refl _) (by omega)
      exact ⟨(nI T, M), by simp only [B_X5_runEachFlip_6, w0 f1, if_pos le], f1⟩)
  dsimp only at p2
  obtain ⟨M3, g1, g2, g3, g4⟩ := c_rest hn hok tie p2
  exact ⟨M3, by simp only [pX5_runEachFlip, a1, zbind_some, zlt_e, p1, zb2_some, g1], g2, g3, g4⟩
/-! ===== the reference's counts ===== -/
theorem nI_4 {a b : Nat} (ha : a < 4) (hb : b < 4) : (nI a = nI b) ↔ a = b := by rw [nI_inj (by omega) (by omega)]; exact eq_comm
/-- where the reference's memory goes on in its runs -/
def zRn (R M : zM) : Prop := ∀ v, ¬ v = 19 → ¬ v = 20 → ¬ v = 21 → M.1 v = R.1 v
theorem r_many47 {Mr R M0 : zM} {n N I S T V t k w s0 : Nat} {sn : Nat → Nat} {l : List (Fl × Int32)} (hn : 100 ≤ n) (hok : zOk Mr N I S T V sn) (kr : zKeepR Mr R) (hp : zPl Mr R N T) (h : zRn R M0) (ht : t < T) (hk : k < 24) (hw : w < 4) (hs : s0 = cnt Mr N T w l) :
    ∃ r : Int32 × Int32 × zM, zwl (fun q => B_X6_many_47 n (nI w) q.1 (nI t) (nI k) q.2.1 q.2.2) n (nI s0, (0 : Int32), M0) = some r ∧ (r.1 = nI (cnt Mr N T w (l ++ fC t k (cp Mr k))) ∧ zRn R r.2.2) := by
  have h3 := cp_le Mr k
  refine zwl_for (fun i s => s.2.1 = nI i ∧ s.1 = nI (cnt Mr N T w (l ++ fC t k i)) ∧ zRn R s.2.2) _ (cp Mr k) n _ (by omega) ⟨rfl, by rw [show l ++ fC t k 0 = l from List.append_nil l, hs], h⟩ ?_ ?_
  · rintro i ⟨y, x, M⟩ hi ⟨e1, e2, f1⟩
    dsimp only at e1 e2 f1
    subst e1 e2
    have ge : ¬ nI (cp Mr k) ≤ nI i := nI_ge hi (by omega)
    have kM : zKeepR Mr M := keepR_4 kr f1
    obtain ⟨M1, a1, a2⟩ := r_one (t0 := t) (k0 := k) (c0 := i) hn hok kM (hp.keep (f1 18 (by decide) (by decide) (by decide))) ht
    have fin : zRn R M1 := fun v h1 h2 h3 => (a2 v h1 h2 h3).trans (f1 v h1 h2 h3)
    have vl : vn Mr N T (fO t k i) < 4 := vN_lt _ _
    rw [vd_vn] at a1
    have ec : cnt Mr N T w (l ++ fC t k (i + 1)) = cnt Mr N T w (l ++ fC t k i) + if vn Mr N T (fO t k i) = w then 1 else 0 := by
      rw [show l ++ fC t k (i + 1) = (l ++ fC t k i) ++ [(fO t k i, nmI t k i)] from (List.append_assoc _ _ _).symm, cnt_s]
    by_cases e : vn Mr N T (fO t k i) = w
    · have e' : nI (vn Mr N T (fO t k i)) = nI w := by rw [e]
      refine ⟨_, by simp only [B_X6_many_47, K_X6_many_77, r_cp (kM 14 (by decide)) hk, zbind_some, if_neg ge, a1, zb2_some, if_pos e', zlt_e]; rfl, nI_1 i, ?_, fin⟩
      rw [ec, if_pos e]; exact nI_1 _
    · have e' : ¬ nI (vn Mr N T (fO t k i)) = nI w := fun q => e ((nI_4 vl hw).mp q)
      refine ⟨_, by simp only [B_X6_many_47, K_X6_many_77, r_cp (kM 14 (by decide)) hk, zbind_some, if_neg ge, a1, zb2_some, if_neg e', zlt_e]; rfl, nI_1 i, ?_, fin⟩
      rw [ec, if_neg e]; exact nI_add _ 0
  · rintro ⟨y, x, M⟩ ⟨e1, e2, f1⟩
    dsimp only at e1 e2 f1
    subst e1 e2
    have kM : zKeepR Mr M := keepR_4 kr f1
    have le : nI (cp Mr k) ≤ nI (cp Mr k) := nI_le (Nat.le_refl _) (by omega)
    exact ⟨(nI (cnt Mr N T w (l ++ fC t k (cp Mr k))), nI (cp Mr k), M), by simp only [B_X6_many_47, r_cp (kM 14 (by decide)) hk, zbind_some, if_pos le], rfl, f1⟩
theorem r_many35 {Mr R M0 : zM} {n N I S T V t w s0 : Nat} {sn : Nat → Nat} {l : List (Fl × Int32)} (hn : 100 ≤ n) (hok : zOk Mr N I S T V sn) (kr : zKeepR Mr R) (hp : zPl Mr R N T) (h : zRn R M0) (ht : t < T) (hw : w < 4) (hs : s0 = cnt Mr N T w l) :
    ∃ r : Int32 × Int32 × zM, zwl (fun q => B_X6_many_35 n (nI w) q.1 (nI t) q.2.1 q.2.2) n (nI s0, (0 : Int32), M0) = some r ∧ (r.1 = nI (cnt Mr N T w (l ++ fK Mr t 0 N)) ∧ zRn R r.2.2) := by
  obtain ⟨⟨⟨b1, b2, b3, b4, b5, b6⟩, q0, q1, q2, q3, q4⟩, -⟩ := id hok
  refine zwl_for (fun i s => s.2.1 = nI i ∧ s.1 = nI (cnt Mr N T w (l ++ fK Mr t 0 i)) ∧ zRn R s.2.2) _ N n _ (by omega) ⟨rfl, by rw [show l ++ fK Mr t 0 0 = l from List.append_nil l, hs], h⟩ ?_ ?_
  · rintro i ⟨y, x, M⟩ hi ⟨e1, e2, f1⟩
    dsimp only at e1 e2 f1
    subst e1 e2
    have ge : ¬ nI N ≤ nI i := nI_ge hi (by omega)
    have d0 : M.1 0 0 = nI N := by rw [keepR_4 kr f1 0 (by decide)]; exact q0
    obtain ⟨⟨z1, z2, M1⟩, a1, a2, a3⟩ := r_many47 (k := i) (l := l ++ fK Mr t 0 i) hn hok kr hp f1 ht (by omega) hw rfl
    dsimp only at a2 a3
    rw [List.append_assoc] at a2
    refine ⟨_, by simp only [B_X6_many_35, d0, if_neg ge, zlt_e, a1, zb3_some]; rfl, nI_1 i, ?_, a3⟩
    show z1 = nI (cnt Mr N T w (l ++ (fK Mr t 0 i ++ fC t (0 + i) (cp Mr (0 + i)))))
    rw [Nat.zero_add]; exact a2
  · rintro ⟨y, x, M⟩ ⟨e1, e2, f1⟩
    dsimp only at e1 e2 f1
    subst e1 e2
    have d0 : M.1 0 0 = nI N := by rw [keepR_4 kr f1 0 (by decide)]; exact q0
    have le : nI N ≤ nI N := nI_le (Nat.le_refl _) (by omega)
    exact ⟨(nI (cnt Mr N T w (l ++ fK Mr t 0 N)), nI N, M), by simp only [B_X6_many_35, d0, if_pos le], rfl, f1⟩
theorem b_many {Mc Mr : zM} {n : Nat} (hn : 5000 ≤ n) (h : zRel Mc Mr) (x1 : Int32) : zBoth (pX5_many n x1 Mc) (pX6_many n x1 Mr) := by
  obtain ⟨N, I, S, T, V, sn, hok, hi, hnn, hs, hsn⟩ := id h
  obtain ⟨⟨⟨b1, b2, b3, b4, b5, b6⟩, q0, q1, q2, q3, q4⟩, -⟩ := id hok
  have d2 : Mc.1 2 0 = nI N := hi.1.trans q0
  unfold pX5_many pX6_many K_X5_many_9
  rcases zix x1 (N := 4) (by omega) with c | ⟨w, hw, rfl⟩
  · have r : pX6_in x1 0 3 Mr = some 0 := pR_in_n (c.imp id (nI_lt_m1 (N := 4) (by omega)).mpr)
    rw [r, zbind_some, if00]
    by_cases c1 : x1 < 0
    · rw [if_pos c1]; exact ⟨_, _, _, rfl, rfl, h⟩
    · rw [if_neg c1, if_neg (show ¬ x1 < 4 from by have := c.resolve_left c1; rw [i_le] at this; rw [i_lt]; exact Int.not_lt.mpr this)]
      exact ⟨_, _, _, rfl, rfl, h⟩
  have r : pX6_in (nI w) 0 3 Mr = some 1 := pR_in_y (nI_pos (by omega)) (nI_nlt (a := 3) (b := w) (by omega) (by decide))
  have l4 : nI w < 4 := nI_lt (a := w) (b := 4) hw (by decide)
  obtain ⟨M', a1, a2, a3, a4⟩ := c_each (a := 0) (b := N) hn hok hi hnn hs hsn (by omega)
  rw [show nI (0 + N) = nI N by rw [Nat.zero_add]] at a1
  obtain ⟨R1, p1, p2, p3⟩ := r_bare (show 100 ≤ n by omega) hok (zKeepR.rf Mr) b5
  obtain ⟨⟨y1, y2, R2⟩, o1, o2, o3⟩ := zwl_for (b := fun q => B_X6_many_24 n (nI w) q.1 q.2.1 q.2.2) (fun t s => s.2.1 = nI t ∧ s.1 = nI (cnt Mr N T w (fT Mr 0 N t)) ∧ zRn R1 s.2.2) (fun r => r.1 = nI (cnt Mr N T w (fT Mr 0 N T)) ∧ zRn R1 r.2.2) T n ((0 : Int32), (0 : Int32), R1) (by omega) ⟨rfl, rfl, fun _ _ _ _ => rfl⟩
    (by
      rintro i ⟨y, x, M⟩ hi ⟨e1, e2, f1⟩
      dsimp only at e1 e2 f1
      subst e1 e2
      have ge : ¬ nI T ≤ nI i := nI_ge hi (by omega)
      have d3 : M.1 3 0 = nI T := by rw [keepR_4 (keepR_18 p2) f1 3 (by decide)]; exact q3
      obtain ⟨⟨z1, z2, M1⟩, a1, a2, a3⟩ := r_many35 (t := i) (l := fT Mr 0 N i) (show 100 ≤ n by omega) hok (keepR_18 p2) p3 f1 hi hw rfl
      dsimp only at a2 a3
      exact ⟨_, by simp only [B_X6_many_24, d3, if_neg ge, zlt_e, a1, zb3_some]; rfl, nI_1 i, a2, a3⟩)
    (by
      rintro ⟨y, x, M⟩ ⟨e1, e2, f1⟩
      dsimp only at e1 e2 f1
      subst e1 e2
      have d3 : M.1 3 0 = nI T := by rw [keepR_4 (keepR_18 p2) f1 3 (by decide)]; exact q3
      have le : nI T ≤ nI T := nI_le (Nat.le_refl _) (by omega)
      exact ⟨(nI (cnt Mr N T w (fT Mr 0 N T)), nI T, M), by simp only [B_X6_many_24, d3, if_pos le], rfl, f1⟩)
  dsimp only at o2 o3
  subst o2
  rw [if_neg (nI_pos (by omega)), if_pos l4, d2, show (0 : Int32) = nI 0 from rfl, a1, zbind_some, zchk_n hw, cl_n (by omega), a2 w hw, show nI 0 = (0 : Int32) from rfl, r, zbind_some, if10, q3, p1, zbind_some]
  simp only [zlt_e, o1, zb3_some]
  exact ⟨_, _, _, rfl, rfl, h.keep a4 (keepR_4 (keepR_18 p2) o3)⟩
