theorem zv4 (a b : Bool) {α : Type} (q : Option α) : zchk (vI a b) 4 q = q := by rw [vI_N]; exact zchk_n (vN_lt a b)
theorem clv (a b : Bool) : (vI a b).toNatClampNeg = vN a b := by rw [vI_N]; exact cl_n (by have := vN_lt a b; omega)
theorem c_lanes {Mr M0 : zM} {n N T u : Nat} {D : List (Fl × Int32)} {P : Nat → Fl × Int32} (hn : 100 ≤ n) (hu : u ≤ 64) (h6 : M0.1 6 0 = nI u) (hnm : ∀ i, i < u → M0.1 23 i = (P i).2) (hct : ∀ v, v < 4 → M0.1 24 v = nI (cnt Mr N T v D)) (h7 : M0.1 7 0 = fsd Mr N T D)
    (hs : ∀ i, i < u → ln (M0.2 0 0) i = SN Mr (P i).1 N T ∧ ln (M0.2 1 0) i = LG Mr (P i).1 N T) (x3 : Int32) :
    ∃ r : Int32 × zM, zwl (fun q => B_X0_runAll_10 n x3 q.1 q.2) n ((0 : Int32), M0) = some r ∧ ((∀ v, ¬ v = 24 → ¬ v = 7 → r.2.1 v = M0.1 v) ∧ (∀ v, v < 4 → r.2.1 24 v = nI (cnt Mr N T v (D ++ lst P u))) ∧ r.2.1 7 0 = fsd Mr N T (D ++ lst P u)) := by
  refine zwl_for (fun i s => s.1 = nI i ∧ s.2.2 = M0.2 ∧ (∀ v, ¬ v = 24 → ¬ v = 7 → s.2.1 v = M0.1 v) ∧ (∀ v, v < 4 → s.2.1 24 v = nI (cnt Mr N T v (D ++ lst P i))) ∧ s.2.1 7 0 = fsd Mr N T (D ++ lst P i)) _ u n _ (by omega) ⟨rfl, rfl, fun _ _ _ => rfl, fun v hv => by rw [show D ++ lst P 0 = D from List.append_nil D]; exact hct v hv, by rw [show D ++ lst P 0 = D from List.append_nil D]; exact h7⟩ ?_ ?_
  · rintro i ⟨x, M⟩ hi ⟨e1, f0, f1, f2, f3⟩
    dsimp only at e1 f0 f1 f2 f3
    subst e1
    have ge : ¬ nI u ≤ nI i := nI_ge hi (by omega)
    have w6 : M.1 6 0 = nI u := by rw [f1 6 (by decide) (by decide)]; exact h6
    have w23 : M.1 23 i = (P i).2 := by rw [f1 23 (by decide) (by decide)]; exact hnm i hi
    have vt := c_verdict (M := M) (L := i) (by omega)
    rw [f0, (hs i hi).1, (hs i hi).2] at vt
    have k1 : ∀ (α : Type) (q : Option α), zchk (nI i) 64 q = q := fun α q => zchk_n (by omega)
    have k3 : (nI i).toNatClampNeg = i := cl_n
    have hl : D ++ lst P (i + 1) = (D ++ lst P i) ++ [P i] := (List.append_assoc D (lst P i) [P i]).symm
    generalize ha : SN Mr (P i).1 N T = a at vt
    generalize hb : LG Mr (P i).1 N T = b at vt
    have evn : vn Mr N T (P i).1 = vN a b := by unfold vn; rw [ha, hb]
    have fin24 : ∀ v, v < 4 → (zsI M 24 (vN a b) (M.1 24 (vN a b) + 1)).1 24 v = nI (cnt Mr N T v (D ++ lst P (i + 1))) := fun v hv => by
      rw [zsI_1, if_pos rfl, upd_ap, hl, cnt_s, evn]
      by_cases e : v = vN a b
      · subst e; rw [if_pos rfl, if_pos rfl, f2 _ hv, nI_1]
      · rw [if_neg e, if_neg (fun q => e q.symm), f2 v hv]; rfl
    have e7 : (zsI M 24 (vN a b) (M.1 24 (vN a b) + 1)).1 7 0 = fsd Mr N T (D ++ lst P i) := by rw [zsI_1, if_neg (by decide)]; exact f3
    have e23 : (zsI M 24 (vN a b) (M.1 24 (vN a b) + 1)).1 23 i = (P i).2 := by rw [zsI_1, if_neg (by decide)]; exact w23
    have oth : ∀ v, ¬ v = 24 → ¬ v = 7 → (zsI M 24 (vN a b) (M.1 24 (vN a b) + 1)).1 v = M0.1 v := fun v h1 h2 => by rw [zsI_1, if_neg h1]; exact f1 v h1 h2
    have o2 : (zsI M 24 (vN a b) (M.1 24 (vN a b) + 1)).2 = M0.2 := f0
    generalize hM1 : zsI M 24 (vN a b) (M.1 24 (vN a b) + 1) = M1 at fin24 e7 e23 oth o2
    by_cases c7 : fsd Mr N T (D ++ lst P i) = -1
    · cases a with
      | false =>
        have z : vI false b &&& 1 = 0 := vI_and false b
        refine ⟨_, by simp only [B_X0_runAll_10, K_X0_runAll_64, w6, if_neg ge, vt, zbind_some, zlt_e, zv4, clv, zst_e, hM1, e7, if_pos c7, if_pos z]; rfl, nI_1 i, o2, oth, fin24, ?_⟩
        show M1.1 7 0 = _
        rw [e7, hl, fsd_s, if_pos c7, ha]; rfl
      | true =>
        have z : ¬ vI true b &&& 1 = 0 := by rw [vI_and]; decide
        refine ⟨_, by simp only [B_X0_runAll_10, K_X0_runAll_64, w6, if_neg ge, vt, zbind_some, zlt_e, zv4, clv, zst_e, hM1, e7, if_pos c7, if_neg z, k1, k3, e23]; rfl, nI_1 i, o2, fun v h1 h2 => ?_, fun v hv => ?_, ?_⟩
        · show (zsI M1 7 _ _).1 v = _
          rw [zsI_1, if_neg h2]; exact oth v h1 h2
        · show (zsI M1 7 _ _).1 24 v = _
          rw [zsI_1, if_neg (by decide)]; exact fin24 v hv
        · show (zsI M1 7 0 (P i).2).1 7 0 = _
          rw [zsI_1, if_pos rfl, upd_ap, if_pos rfl, hl, fsd_s, if_pos c7, ha, if_pos rfl]
    · refine ⟨_, by simp only [B_X0_runAll_10, K_X0_runAll_64, w6, if_neg ge, vt, zbind_some, zlt_e, zv4, clv, zst_e, hM1, e7, if_neg c7]; rfl, nI_1 i, o2, oth, fin24, ?_⟩
      show M1.1 7 0 = _
      rw [e7, hl, fsd_s, if_neg c7]
  · rintro ⟨x, M⟩ ⟨e1, f0, f1, f2, f3⟩
    dsimp only at e1 f0 f1 f2 f3
    subst e1
    have le : nI u ≤ nI u := nI_le (Nat.le_refl _) (by omega)
    have w6 : M.1 6 0 = nI u := by rw [f1 6 (by decide) (by decide)]; exact h6
    exact ⟨(nI u, M), by simp only [B_X0_runAll_10, w6, if_pos le], f1, f2, f3⟩
/-- all lanes that are used are run -/
theorem c_runAll {Mc Mr M : zM} {n N I S T V u : Nat} {sn : Nat → Nat} {D : List (Fl × Int32)} {P : Nat → Fl × Int32} (hn : 5000 ≤ n) (hok : zOk Mr N I S T V sn) (tie : zTie Mr Mc N S sn) (hu : u ≤ 64) (h6 : M.1 6 0 = nI u) (hkeep : zKeepC Mc M) (hw : ∀ t, t < 17 → ∀ k, k < N → bt (M.1 22 t) k = pl Mr t k) (hf : ∀ t, t < 16 → ∀ k, k < 24 → ∀ c, c < 3 → ∀ L, L < 64 → ln (M.2 2 ((t * 24 + k) * 3 + c)) L = FL P u z0f L t k (cc Mr k c)) (hnm : ∀ i, i < u → M.1 23 i = (P i).2) (hct : ∀ v, v < 4 → M.1 24 v = nI (cnt Mr N T v D)) (h7 : M.1 7 0 = fsd Mr N T D) :
    ∃ M', pX0_runAll n (nI T) M = some M' ∧ zBt Mc Mr M' N T (D ++ lst P u) z0f ∧ (∀ v, v < 4 → M'.1 24 v = nI (cnt Mr N T v (D ++ lst P u))) ∧ M'.1 7 0 = fsd Mr N T (D ++ lst P u) ∧ zKeepC Mc M' := by
  obtain ⟨⟨⟨b1, b2, b3, b4, b5, b6⟩, q0, q1, q2, q3, q4⟩, hnd, hbits, hst, hsh⟩ := id hok
  obtain ⟨M1, w1, w2, w3, w4⟩ := c_run (F := FL P u z0f) (show 100 ≤ n by omega) hok ⟨tie.keep hkeep, hw, fun t ht k hk c hc L hL => hf t ht k (by omega) c hc L hL⟩
  obtain ⟨⟨z1, M2⟩, y1, y2, y3, y4⟩ := c_lanes (Mr := Mr) (M0 := M1) (N := N) (T := T) (D := D) (P := P) (show 100 ≤ n by omega) hu (by rw [w2]; exact h6) (fun i hi => by rw [w2]; exact hnm i hi) (fun v hv => by rw [w2]; exact hct v hv) (by rw [w2]; exact h7) (fun i hi => by
    have := w4 i (by omega)
    rw [show FL P u z0f i = (P i).1 from if_pos hi] at this
    exact this) (nI T)
  dsimp only at y2 y3 y4
  unfold pX0_runAll
  rw [w1, zbind_some, zlt_e, y1, zb2_some, zst_e, p_fillL (show 1152 < n by omega) (by omega), zbind_some]
  have rows : ∀ v, ¬ v = 6 → (zcL (zsI M2 6 0 0) 2 (fun i => if i < 1152 then 0 else (zsI M2 6 0 0).2 2 i)).1 v = M2.1 v := fun v hv => by rw [zcL_1, zsI_1, if_neg hv]
  have kp : zKeepC Mc (zcL (zsI M2 6 0 0) 2 (fun i => if i < 1152 then 0 else (zsI M2 6 0 0).2 2 i)) := fun v hv => by
    rw [rows v (fun e => by subst e; revert hv; decide), y2 v (fun e => by subst e; revert hv; decide) (fun e => by subst e; revert hv; decide), w2]; exact hkeep v hv
  have r24 := fun v (hv : v < 4) => (congrFun (rows 24 (by decide)) v).trans (y3 v hv)
  have r7 := (congrFun (rows 7 (by decide)) 0).trans y4
  refine ⟨_, rfl, ⟨D ++ lst P u, fun _ => (z0f, 0), 0, by omega, (List.append_nil _).symm, ?_, kp, fun t ht k hk => ?_, fun t ht k hk c hc L hL => ?_, fun i hi => by omega, r24, r7⟩, r24, r7, kp⟩
  · rw [zcL_1, zsI_1, if_pos rfl, upd_ap, if_pos rfl]; rfl
  · rw [rows 22 (by decide), y2 22 (by decide) (by decide), w2]; exact hw t ht k hk
  · rw [zcL_2, if_pos rfl, if_pos (by omega), ln_0]
    unfold FL
    rw [if_neg (by omega), ite_self]; rfl
/-- what is left is run -/
theorem c_rest {Mc Mr M : zM} {n N I S T V : Nat} {sn : Nat → Nat} {l : List (Fl × Int32)} (hn : 5000 ≤ n) (hok : zOk Mr N I S T V sn) (tie : zTie Mr Mc N S sn) (h : zBt Mc Mr M N T l z0f) :
    ∃ M', pX0_runAll n (M.1 0 0) M = some M' ∧ (∀ v, v < 4 → M'.1 24 v = nI (cnt Mr N T v l)) ∧ M'.1 7 0 = fsd Mr N T l ∧ zKeepC Mc M' := by
  obtain ⟨D, P, u, hu, hl, h6, hkeep, hw, hf, hnm, hct, h7⟩ := h
  obtain ⟨M', w1, -, w3, w4, w5⟩ := c_runAll hn hok tie (show u ≤ 64 by omega) h6 hkeep hw hf hnm hct h7
  have e : M.1 0 0 = nI T := by rw [hkeep 0 (by decide), tie.2.2.2.2.2.2.2.2.2.2]; exact hok.1.2.2.2.2.1
  rw [e, hl]
  exact ⟨M', w1, w3, w4, w5⟩
/-- a lane is closed -/
theorem c_close {Mc Mr M : zM} {n N I S T V : Nat} {sn : Nat → Nat} {l : List (Fl × Int32)} {G : Fl} {nm : Int32} (hn : 5000 ≤ n) (hok : zOk Mr N I S T V sn) (tie : zTie Mr Mc N S sn) (h : zBt Mc Mr M N T l G) (hn' : M.1 23 (M.1 6 0).toNatClampNeg = nm) :
    ∃ M', pX0_close n (M.1 0 0) M = some M' ∧ zBt Mc Mr M' N T (l ++ [(G, nm)]) z0f := by
  obtain ⟨D, P, u, hu, hl, h6, hkeep, hw, hf, hnm, hct, h7⟩ := h
  have e : M.1 0 0 = nI T := by rw [hkeep 0 (by decide), tie.2.2.2.2.2.2.2.2.2.2]; exact hok.1.2.2.2.2.1
  rw [h6, cl_n (by omega)] at hn'
  rw [e]
  unfold pX0_close
  rw [zst_e]
  have rows : ∀ v, ¬ v = 6 → (zsI M 6 0 (M.1 6 0 + 1)).1 v = M.1 v := fun v hv => by rw [zsI_1, if_neg hv]
  have r6 : (zsI M 6 0 (M.1 6 0 + 1)).1 6 0 = nI (u + 1) := by rw [zsI_1, if_pos rfl, upd_ap, if_pos rfl, h6, nI_1]
  have r2 : (zsI M 6 0 (M.1 6 0 + 1)).2 = M.2 := rfl
  generalize zsI M 6 0 (M.1 6 0 + 1) = M1 at rows r6 r2
  have kp : zKeepC Mc M1 := fun v hv => (rows v (fun e => by subst e; revert hv; decide)).trans (hkeep v hv)
  have hl' : l ++ [(G, nm)] = D ++ lst (fun i => if i = u then (G, nm) else P i) (u + 1) := by
    show _ = D ++ (lst (fun i => if i = u then (G, nm) else P i) u ++ [if u = u then (G, nm) else P u])
    rw [if_pos rfl, lst_cg (Q := P) (fun i hi => if_neg (by omega)), hl, List.append_assoc]
  have hF : ∀ L, FL (fun i => if i = u then (G, nm) else P i) (u + 1) z0f L = FL P u G L := fun L => by
    unfold FL
    show (if L < u + 1 then (if L = u then (G, nm) else P L).1 else if L = u + 1 then z0f else z0f) = _
    by_cases l1 : L < u
    · rw [if_pos (by omega), if_pos l1, if_neg (by omega)]
    · by_cases l2 : L = u
      · rw [if_pos (by omega), if_neg l1, if_pos l2, if_pos l2]
      · rw [if_neg (by omega), if_neg l1, if_neg l2, ite_self]
  have hf1 : ∀ t, t < 16 → ∀ k, k < 24 → ∀ c, c < 3 → ∀ L, L < 64 → ln (M1.2 2 ((t * 24 + k) * 3 + c)) L = FL (fun i => if i = u then (G, nm) else P i) (u + 1) z0f L t k (cc Mr k c) := fun t ht k hk c hc L hL => by rw [r2, hF]; exact hf t ht k hk c hc L hL
  have hw1 : ∀ t, t < 17 → ∀ k, k < N → bt (M1.1 22 t) k = pl Mr t k := fun t ht k hk => by rw [rows 22 (by decide)]; exact hw t ht k hk
  have hnm1 : ∀ i, i < u + 1 → M1.1 23 i = ((fun i => if i = u then (G, nm) else P i) i).2 := fun i hi => by
    rw [rows 23 (by decide)]
    show _ = (if i = u then (G, nm) else P i).2
    by_cases q : i = u
    · subst q; rw [if_pos rfl]; exact hn'
    · rw [if_neg q]; exact hnm i (by omega)
  have hct1 : ∀ v, v < 4 → M1.1 24 v = nI (cnt Mr N T v D) := fun v hv => by rw [rows 24 (by decide)]; exact hct v hv
  have h71 : M1.1 7 0 = fsd Mr N T D := by rw [rows 7 (by decide)]; exact h7
  rw [r6, hl']
  by_cases c : u + 1 = 64
  · obtain ⟨M', w1, w2, -⟩ := c_runAll hn hok tie (show u + 1 ≤ 64 by omega) r6 kp hw1 hf1 hnm1 hct1 h71
    refine ⟨M', ?_, w2⟩
    rw [if_pos (by rw [c]; rfl), w1]; rfl
  · refine ⟨M1, ?_, D, _, u + 1, by omega, rfl, r6, kp, hw1, hf1, hnm1, hct1, h71⟩
    rw [if_neg]
    intro q
    rw [show (64 : Int32) = nI 64 from rfl, nI_inj (by omega) (by omega)] at q
    omega
theorem lst_nil {P : Nat → Fl × Int32} {u : Nat} {D : List (Fl × Int32)} (h : [] = D ++ lst P u) : u = 0 := by
  cases u with
  | zero => rfl
  | succ u =>
    have h2 : [] = D ++ (lst P u ++ [P u]) := h
    have := congrArg List.length h2
    rw [List.length_append, List.length_append] at this
    simp at this
/-- one run -/
theorem c_runOne {Mc Mr M : zM} {n N I S T V : Nat} {sn : Nat → Nat} {G : Fl} (hn : 5000 ≤ n) (hok : zOk Mr N I S T V sn) (tie : zTie Mr Mc N S sn) (h : zBt Mc Mr M N T [] G) :
    ∃ M', pX0_runOne n (M.1 0 0) M = some (vd Mr N T G, M') ∧ zKeepC Mc M' := by
  obtain ⟨⟨⟨b1, b2, b3, b4, b5, b6⟩, q0, q1, q2, q3, q4⟩, hnd, hbits, hst, hsh⟩ := id hok
  obtain ⟨D, P, u, hu, hl, h6, hkeep, hw, hf, hnm, hct, h7⟩ := h
  have := lst_nil hl
  subst this
  have e : M.1 0 0 = nI T := by rw [hkeep 0 (by decide), tie.2.2.2.2.2.2.2.2.2.2]; exact hok.1.2.2.2.2.1
  obtain ⟨M1, w1, w2, w3, w4⟩ := c_run (F := FL P 0 G) (show 100 ≤ n by omega) hok ⟨tie.keep hkeep, hw, fun t ht k hk c hc L hL => hf t ht k (by omega) c hc L hL⟩
  have vt := c_verdict (M := M1) (L := 0) (by omega)
  rw [(w4 0 (by omega)).1, (w4 0 (by omega)).2, show FL P 0 G 0 = G from rfl] at vt
  refine ⟨M1, ?_, fun v hv => by rw [w2]; exact hkeep v hv⟩
  unfold pX0_runOne
  rw [e, w1, zbind_some, show (0 : Int32) = nI 0 from rfl, vt]; rfl
