theorem zwl_two {σ1 σ2 ρ1 ρ2 : Type} {b1 : σ1 → Option (σ1 ⊕ ρ1)} {b2 : σ2 → Option (σ2 ⊕ ρ2)} (I : Nat → σ1 → σ2 → Prop) (Post : ρ1 → ρ2 → Prop) (e : Nat)
    (hs : ∀ (i : Nat) (s1 : σ1) (s2 : σ2), i < e → I i s1 s2 → ∃ s1' s2', b1 s1 = some (.inl s1') ∧ b2 s2 = some (.inl s2') ∧ I (i + 1) s1' s2')
    (he : ∀ (s1 : σ1) (s2 : σ2), I e s1 s2 → ∃ r1 r2, b1 s1 = some (.inr r1) ∧ b2 s2 = some (.inr r2) ∧ Post r1 r2) :
    ∀ (k i n : Nat) (s1 : σ1) (s2 : σ2), i + k = e → k < n → I i s1 s2 → ∃ r1 r2, zwl b1 n s1 = some r1 ∧ zwl b2 n s2 = some r2 ∧ Post r1 r2 := by
  intro k
  induction k with
  | zero =>
    intro i n s1 s2 hk hn hI
    cases n with
    | zero => omega
    | succ n =>
      have : i = e := by omega
      subst this
      obtain ⟨r1, r2, h1, h2, h3⟩ := he s1 s2 hI
      exact ⟨r1, r2, by unfold zwl; rw [h1], by unfold zwl; rw [h2], h3⟩
  | succ k ih =>
    intro i n s1 s2 hk hn hI
    cases n with
    | zero => omega
    | succ n =>
      obtain ⟨s1', s2', h1, h2, h3⟩ := hs i s1 s2 (by omega) hI
      obtain ⟨r1, r2, h4, h5, h6⟩ := ih (i + 1) n s1' s2' (by omega) (by omega) h3
      exact ⟨r1, r2, by unfold zwl; rw [h1]; exact h4, by unfold zwl; rw [h2]; exact h5, h6⟩
theorem zcI_zcI (M : zM) (v : Nat) (f g : Nat → Int32) : zcI (zcI M v f) v g = zcI M v g := by
  unfold zcI
  refine Prod.ext (funext fun u => ?_) rfl
  by_cases h : u = v
  · simp [h]
  · simp [h]
theorem zcI_at (M : zM) (v : Nat) (f : Nat → Int32) : (zcI M v f).1 v = f := if_pos rfl
theorem zcI_id (M : zM) (v : Nat) : zcI M v (M.1 v) = M := by
  unfold zcI
  refine Prod.ext (funext fun u => ?_) rfl
  by_cases h : u = v
  · simp [h]
  · simp [h]
theorem zcL_zcL (M : zM) (v : Nat) (f g : Nat → Int64) : zcL (zcL M v f) v g = zcL M v g := by
  unfold zcL
  refine Prod.ext rfl (funext fun u => ?_)
  by_cases h : u = v
  · simp [h]
  · simp [h]
theorem zcL_at (M : zM) (v : Nat) (f : Nat → Int64) : (zcL M v f).2 v = f := if_pos rfl
theorem zcL_id (M : zM) (v : Nat) : zcL M v (M.2 v) = M := by
  unfold zcL
  refine Prod.ext rfl (funext fun u => ?_)
  by_cases h : u = v
  · simp [h]
  · simp [h]
/-- Arrays.fill -/
theorem p_fillI {n la va : Nat} (hla : la < n) (hl : la < 2147483647) (x : Int32) (M : zM) : pJ7_fill_53178 n la va x M = some (zcI M va (fun i => if i < la then x else M.1 va i)) := by
  unfold pJ7_fill_53178
  simp only [zlt_e]
  obtain ⟨r, h1, h2⟩ := zwl_for (b := fun q => B_J7_fill_53178_5 n la va x q.1 (nI la) q.2) (fun i s => s = (nI i, zcI M va (fun j => if j < i then x else M.1 va j))) (fun r => r.2 = zcI M va (fun i => if i < la then x else M.1 va i)) la n ((0 : Int32), M) hla
    (by
      have : (fun j => if j < 0 then x else M.1 va j) = M.1 va := by funext j; simp
      simp only [this, zcI_id]; rfl)
    (fun i s hi hI => by
      subst hI
      refine ⟨_, by simp only [B_J7_fill_53178_5]; rw [if_neg (nI_ge hi (by omega)), zchk_n hi (by omega), zst_e, zlt_e, cl_n (by omega)], ?_⟩
      refine Prod.ext (nI_1 i) ?_
      show zsI _ _ _ _ = _
      unfold zsI
      rw [zcI_zcI, zcI_at]
      congr 1
      funext j
      rw [upd_ap]
      by_cases e : j = i
      · rw [if_pos e, if_pos (by omega)]
      · rw [if_neg e]
        by_cases e2 : j < i
        · rw [if_pos e2, if_pos (by omega)]
        · rw [if_neg e2, if_neg (by omega)])
    (fun s hI => by
      subst hI
      refine ⟨_, by simp only [B_J7_fill_53178_5]; rw [if_pos (nI_le (Nat.le_refl _) (by omega))], rfl⟩)
  rw [h1]
  obtain ⟨r1, r2⟩ := r
  rw [zb2_some]
  exact congrArg some h2
theorem p_fillL {n la va : Nat} (hla : la < n) (hl : la < 2147483647) (x : Int64) (M : zM) : pJ7_fill_d0a16 n la va x M = some (zcL M va (fun i => if i < la then x else M.2 va i)) := by
  unfold pJ7_fill_d0a16
  simp only [zlt_e]
  obtain ⟨r, h1, h2⟩ := zwl_for (b := fun q => B_J7_fill_d0a16_6 n la va x q.1 (nI la) q.2) (fun i s => s = (nI i, zcL M va (fun j => if j < i then x else M.2 va j))) (fun r => r.2 = zcL M va (fun i => if i < la then x else M.2 va i)) la n ((0 : Int32), M) hla
    (by
      have : (fun j => if j < 0 then x else M.2 va j) = M.2 va := by funext j; simp
      simp only [this, zcL_id]; rfl)
    (fun i s hi hI => by
      subst hI
      refine ⟨_, by simp only [B_J7_fill_d0a16_6]; rw [if_neg (nI_ge hi (by omega)), zchk_n hi (by omega), zst_e, zlt_e, cl_n (by omega)], ?_⟩
      refine Prod.ext (nI_1 i) ?_
      show zsL _ _ _ _ = _
      unfold zsL
      rw [zcL_zcL, zcL_at]
      congr 1
      funext j
      rw [updL_ap]
      by_cases e : j = i
      · rw [if_pos e, if_pos (by omega)]
      · rw [if_neg e]
        by_cases e2 : j < i
        · rw [if_pos e2, if_pos (by omega)]
        · rw [if_neg e2, if_neg (by omega)])
    (fun s hI => by
      subst hI
      refine ⟨_, by simp only [B_J7_fill_d0a16_6]; rw [if_pos (nI_le (Nat.le_refl _) (by omega))], rfl⟩)
  rw [h1]
  obtain ⟨r1, r2⟩ := r
  rw [zb2_some]
  exact congrArg some h2
/-! ===== sheets ===== -/
theorem zsh {Mc Mr : zM} (x : Int32) : (pX5_isSheet x Mc = some 0 ∧ pX6_isSheet x Mr = some 0) ∨ ∃ s, s < 4 ∧ x = nI s ∧ pX5_isSheet x Mc = some 1 ∧ pX6_isSheet x Mr = some 1 := by
  unfold pX5_isSheet K_X5_isSheet_13 pX6_isSheet
  rcases pk_ix x (n := 4) (by omega) with h | h | ⟨j, hj, rfl⟩
  · refine Or.inl ⟨by rw [if_pos h], ?_⟩
    rw [pR_in_n (Or.inl h)]; rfl
  · have h1 : ¬ x < 0 := fun q => by rw [i_lt] at q; rw [i_le, i_toInt_nI (by omega)] at h; simp at q; omega
    have h3 : (3 : Int32) < x := by rw [i_lt]; rw [i_le, i_toInt_nI (by omega)] at h; simp; omega
    refine Or.inl ⟨by rw [if_neg h1, if_pos (show (4 : Int32) ≤ x from h)], ?_⟩
    rw [pR_in_n (Or.inr h3)]; rfl
  · have h1 : ¬ nI j < 0 := nI_pos (by omega)
    have h2 : ¬ (4 : Int32) ≤ nI j := nI_ge (a := j) (b := 4) hj (by decide)
    have h3 : ¬ (3 : Int32) < nI j := nI_nlt (a := 3) (b := j) (by omega) (by omega)
    refine Or.inr ⟨j, hj, rfl, by rw [if_neg h1, if_neg h2], ?_⟩
    rw [pR_in_y h1 h3]; rfl
theorem zfo {Mc Mr : zM} (x : Int32) : (pX5_isForm x Mc = some 0 ∧ pX6_in x 0 2 Mr = some 0) ∨ ∃ s, s < 3 ∧ x = nI s ∧ pX5_isForm x Mc = some 1 ∧ pX6_in x 0 2 Mr = some 1 := by
  unfold pX5_isForm K_X5_isForm_13
  rcases pk_ix x (n := 3) (by omega) with h | h | ⟨j, hj, rfl⟩
  · exact Or.inl ⟨by rw [if_pos h], pR_in_n (Or.inl h)⟩
  · have h1 : ¬ x < 0 := fun q => by rw [i_lt] at q; rw [i_le, i_toInt_nI (by omega)] at h; simp at q; omega
    have h3 : (2 : Int32) < x := by rw [i_lt]; rw [i_le, i_toInt_nI (by omega)] at h; simp; omega
    exact Or.inl ⟨by rw [if_neg h1, if_pos (show (3 : Int32) ≤ x from h)], pR_in_n (Or.inr h3)⟩
  · have h1 : ¬ nI j < 0 := nI_pos (by omega)
    have h2 : ¬ (3 : Int32) ≤ nI j := nI_ge (a := j) (b := 3) hj (by decide)
    have h3 : ¬ (2 : Int32) < nI j := nI_nlt (a := 2) (b := j) (by omega) (by omega)
    exact Or.inr ⟨j, hj, rfl, by rw [if_neg h1, if_neg h2], pR_in_y h1 h3⟩
theorem rel_sh {Mc Mr Mc' Mr' : zM} (h : zRel Mc Mr) (hc : ∀ v, v ≤ 18 → ¬ v = 5 → Mc'.1 v = Mc.1 v) (hr : ∀ v, v ≤ 17 → ¬ v = 5 → Mr'.1 v = Mr.1 v) (h5 : Mc'.1 5 0 = Mr'.1 5 0) (hsh : zShs Mr') (hs : zEqS Mc' Mr') : zRel Mc' Mr' := by
  obtain ⟨N, I, S, T, V, sn, ⟨⟨hb, q0, q1, q2, q3, q4⟩, hnd, hbits, hst, -⟩, hi, hn, -, hsn⟩ := h
  refine ⟨N, I, S, T, V, sn, ⟨⟨hb, by rw [hr 0 (by decide) (by decide)]; exact q0, by rw [hr 1 (by decide) (by decide)]; exact q1, by rw [hr 2 (by decide) (by decide)]; exact q2, by rw [hr 3 (by decide) (by decide)]; exact q3, by rw [hr 4 (by decide) (by decide)]; exact q4⟩, ?_, ?_, ?_, hsh⟩, ?_, ?_, hs, ?_⟩
  · unfold zNd at *
    rw [hr 10 (by decide) (by decide), hr 11 (by decide) (by decide), hr 12 (by decide) (by decide), hr 16 (by decide) (by decide), hr 17 (by decide) (by decide)]; exact hnd
  · unfold zBits at *
    rw [hr 10 (by decide) (by decide), hr 13 (by decide) (by decide), hr 14 (by decide) (by decide), hr 15 (by decide) (by decide)]; exact hbits
  · unfold zSts at *
    rw [hr 10 (by decide) (by decide), hr 17 (by decide) (by decide)]; exact hst
  · unfold zEqI at *
    rw [hc 0 (by decide) (by decide), hc 1 (by decide) (by decide), hc 2 (by decide) (by decide), hc 3 (by decide) (by decide), hc 4 (by decide) (by decide), hr 0 (by decide) (by decide), hr 1 (by decide) (by decide), hr 2 (by decide) (by decide), hr 3 (by decide) (by decide), hr 4 (by decide) (by decide)]
    exact ⟨hi.1, hi.2.1, hi.2.2.1, hi.2.2.2.1, hi.2.2.2.2.1, h5⟩
  · unfold zEqN at *
    rw [hc 10 (by decide) (by decide), hc 11 (by decide) (by decide), hc 12 (by decide) (by decide), hc 13 (by decide) (by decide), hc 14 (by decide) (by decide), hc 15 (by decide) (by decide), hc 16 (by decide) (by decide), hc 17 (by decide) (by decide), hr 10 (by decide) (by decide), hr 11 (by decide) (by decide), hr 12 (by decide) (by decide), hr 13 (by decide) (by decide), hr 14 (by decide) (by decide), hr 15 (by decide) (by decide), hr 16 (by decide) (by decide), hr 17 (by decide) (by decide)]
    exact hn
  · unfold zSn at *
    rw [hc 18 (by decide) (by decide)]; exact hsn
theorem rel_find {Mc Mr : zM} (h : zRel Mc Mr) (x : Int32) : zRel (zsI Mc 5 0 x) (zsI Mr 5 0 x) := by
  obtain ⟨N, I, S, T, V, sn, hok, hi, hn, hs, hsn⟩ := id h
  exact rel_sh h (fun v _ h5 => if_neg h5) (fun v _ h5 => if_neg h5) rfl hok.2.2.2.2 (hs.set (by decide) (by decide))
theorem b_find {Mc Mr : zM} (h : zRel Mc Mr) (x : Int32) : zBoth (zb2 (pX5_finding x Mc) (fun v N => some (v, N))) (zb2 (pX6_meets x Mr) (fun v N => some (v, N))) :=
  ⟨_, _, _, rfl, rfl, rel_find h x⟩
theorem b_lose {Mc Mr : zM} (h : zRel Mc Mr) (x1 : Int32) : zBoth (pX5_lose x1 Mc) (pX6_lose x1 Mr) := by
  obtain ⟨N, I, S, T, V, sn, hok, hi, hn, hs, hsn⟩ := id h
  have z3 : ¬ (1 : Int32) = 0 := by decide
  rcases zsh (Mc := Mc) (Mr := Mr) x1 with ⟨u1, u2⟩ | ⟨s, hs4, rfl, u1, u2⟩
  · simp only [pX5_lose, pX6_lose, u1, u2, zbind_some, if_true]
    exact ⟨_, _, _, rfl, rfl, h⟩
  · have k1 : ∀ (α : Type) (q : Option α), zchk (nI s) 4 q = q := fun α q => zchk_n (by omega)
    have k3 : (nI s).toNatClampNeg = s := cl_n
    obtain ⟨e21, hf, hit⟩ := hs s hs4
    obtain ⟨hz, hth⟩ := hok.2.2.2.2 s hs4
    rcases hf with ⟨f1, f2⟩ | ⟨f1, f2⟩
    · simp only [pX5_lose, pX6_lose, u1, u2, zbind_some, if_true, if_false, z3, k1, k3, f1, f2]
      exact b_find h 1
    · have g : ¬ Mc.1 20 s = -1 := by
        rcases hth with e | ⟨-, f, hf3, e⟩
        · rw [f1] at e; exact absurd e (by decide)
        · rw [f2, e]
          rcases (show f = 0 ∨ f = 1 ∨ f = 2 by omega) with rfl | rfl | rfl <;> decide
      have e1 : (zsI Mc 20 s (-1)).1 21 s = Mc.1 21 s := rfl
      have e2 : (zsI Mr 25 s 0).1 27 s = Mr.1 27 s := rfl
      simp only [pX5_lose, pX6_lose, u1, u2, zbind_some, if_true, if_false, z3, k1, k3, f1, g, zst_e, vnar0, e1, e2, e21]
      refine ⟨_, _, _, rfl, rfl, ?_⟩
      have c20 : ∀ t, (zsI Mc 20 s (-1)).1 20 t = if t = s then -1 else Mc.1 20 t := fun t => upd_ap _ _ _ _
      have r25 : ∀ t, (zsI Mr 25 s 0).1 25 t = if t = s then 0 else Mr.1 25 t := fun t => upd_ap _ _ _ _
      have r28 : (zsI Mr 25 s 0).1 28 = Mr.1 28 := rfl
      have r27 : (zsI Mr 25 s 0).1 27 = Mr.1 27 := rfl
      have r26 : (zsI Mr 25 s 0).1 26 = Mr.1 26 := rfl
      have c21 : (zsI Mc 20 s (-1)).1 21 = Mc.1 21 := rfl
      refine rel_sh h (fun v hv _ => if_neg (by omega)) (fun v hv _ => if_neg (by omega)) hi.2.2.2.2.2 ?_ ?_
      · intro t ht
        obtain ⟨a, b⟩ := hok.2.2.2.2 t ht
        rw [r25, r26, r27]
        refine ⟨a, ?_⟩
        by_cases e : t = s
        · rw [if_pos e]; exact Or.inl rfl
        · rw [if_neg e]; exact b
      · intro t ht
        obtain ⟨a, b, c⟩ := hs t ht
        have c30 : (zsI Mc 20 s (-1)).1 (30 + t) = Mc.1 (30 + t) := if_neg (by omega)
        rw [c20, r25, c21, r27, r26, r28, c30]
        refine ⟨a, ?_, c⟩
        by_cases e : t = s
        · rw [if_pos e, if_pos e]; exact Or.inl ⟨rfl, rfl⟩
        · rw [if_neg e, if_neg e]; exact b
/-- what stands against an item, on both sides -/
theorem zwr {Mc Mr : zM} (h : zRel Mc Mr) {s f : Nat} (hs4 : s < 4) (hf : f < 3) (x3 : Int32) : ∃ w, pX4_wrongOf (nI s) (nI f) x3 Mc = some w ∧ pX6_lacks (nI s) (nI f) x3 Mr = some w ∧ ((w = 0 ∧ ∃ i, i < 60 ∧ x3 = nI i) ∨ (¬ w = 0 ∧ ¬ w ≤ 0)) := by
  obtain ⟨N, I, S, T, V, sn, hok, hi, hn, hs, hsn⟩ := h
  have k1 : ∀ (α : Type) (q : Option α), zchk (nI s) 4 q = q := fun α q => zchk_n (by omega)
  have k3 : (nI s).toNatClampNeg = s := cl_n
  obtain ⟨e21, hfm, hit⟩ := hs s hs4
  obtain ⟨⟨z, hz, ez⟩, hth⟩ := hok.2.2.2.2 s hs4
  rw [ez] at e21
  unfold pX4_wrongOf K_X4_wrongOf_38 pX6_lacks
  simp only [k1, k3, ez, e21]
  rcases hfm with ⟨f1, f2⟩ | ⟨f1, f2⟩
  · rw [if_pos f2, if_pos f1]
    exact ⟨1, rfl, rfl, Or.inr (by decide)⟩
  · have g : ¬ Mc.1 20 s = -1 := by
      rcases hth with e | ⟨-, f, hf3, e⟩
      · rw [f1] at e; exact absurd e (by decide)
      · rw [f2, e]
        rcases (show f = 0 ∨ f = 1 ∨ f = 2 by omega) with rfl | rfl | rfl <;> decide
    have g25 : ¬ Mr.1 25 s = 0 := by rw [f1]; decide
    rw [if_neg g, if_neg g25, f2]
    by_cases c : Mr.1 26 s = nI f
    · rw [if_pos c, if_pos c]
      rcases pk_ix x3 (n := z) (by omega) with q | q | ⟨j, hj, rfl⟩
      · rw [if_pos q, pR_in_n (Or.inl q)]
        exact ⟨2, rfl, rfl, Or.inr (by decide)⟩
      · have q1 : ¬ x3 < 0 := fun w => by rw [i_lt] at w; rw [i_le, i_toInt_nI (by omega)] at q; simp at w; omega
        have q2 : ¬ x3 < nI z := fun w => by rw [i_lt] at w; rw [i_le] at q; omega
        have q3 : nI z - 1 < x3 := by
          rw [i_lt]; rw [i_le, i_toInt_nI (by omega)] at q
          have := pk_sub_toInt (a := z) (b := 1) (by omega) (by omega)
          rw [show nI z - 1 = nI z - nI 1 from rfl, this]; omega
        rw [if_neg q1, if_neg q2, pR_in_n (Or.inr q3)]
        exact ⟨2, rfl, rfl, Or.inr (by decide)⟩
      · have q3 : ¬ nI z - 1 < nI j := fun w => by
          rw [i_lt, i_toInt_nI (by omega)] at w
          have := pk_sub_toInt (a := z) (b := 1) (by omega) (by omega)
          rw [show nI z - 1 = nI z - nI 1 from rfl, this] at w; omega
        rw [if_neg (nI_pos (by omega)), if_pos (nI_lt hj (by omega)), pR_in_y (nI_pos (by omega)) q3]
        exact ⟨0, rfl, rfl, Or.inl ⟨rfl, j, by omega, rfl⟩⟩
    · rw [if_neg c, if_neg c]
      exact ⟨3, rfl, rfl, Or.inr (by decide)⟩
theorem nI60 (s i : Nat) : (60 : Int32) * nI s + nI i = nI (60 * s + i) := by
  rw [show (60 : Int32) = nI 60 from rfl, pk_mul, nI_add]
theorem b_get {Mc Mr : zM} (h : zRel Mc Mr) (x1 x2 x3 : Int32) : zBoth (pX5_get x1 x2 x3 Mc) (pX6_get x1 x2 x3 Mr) := by
  have z3 : ¬ (1 : Int32) = 0 := by decide
  have bad : zBoth (some ((-2147483648 : Int32), Mc)) (some ((-2147483648 : Int32), Mr)) := ⟨_, _, _, rfl, rfl, h⟩
  rcases zsh (Mc := Mc) (Mr := Mr) x1 with ⟨u1, u2⟩ | ⟨s, hs4, rfl, u1, u2⟩
  · simp only [pX5_get, pX6_get, K_X5_get_14, K_X6_get_16, u1, u2, zbind_some, if_true]; exact bad
  rcases zfo (Mc := Mc) (Mr := Mr) x2 with ⟨v1, v2⟩ | ⟨f, hf, rfl, v1, v2⟩
  · simp only [pX5_get, pX6_get, K_X5_get_14, K_X6_get_16, u1, u2, v1, v2, zbind_some, if_true, if_false, z3]; exact bad
  obtain ⟨w, w1, w2, hw⟩ := zwr h hs4 hf x3
  have k1 : ∀ (α : Type) (q : Option α), zchk (nI s) 4 q = q := fun α q => zchk_n (by omega)
  have k3 : (nI s).toNatClampNeg = s := cl_n
  rcases hw with ⟨rfl, i, hi60, rfl⟩ | ⟨n1, n2⟩
  · have k2 : ∀ (α : Type) (q : Option α), zchk (nI i) 60 q = q := fun α q => zchk_n (by omega)
    have k4 : ∀ (α : Type) (q : Option α), zchk (nI (60 * s + i)) 240 q = q := fun α q => zchk_n (by omega)
    have k5 : (nI i).toNatClampNeg = i := cl_n
    have k6 : (nI (60 * s + i)).toNatClampNeg = 60 * s + i := cl_n (by omega)
    have z5 : (0 : Int32) ≤ 0 := by decide
    have hit : Mc.1 (30 + s) i = Mr.1 28 (60 * s + i) := by
      obtain ⟨N, I, S, T, V, sn, hok, hi, hn, hs, hsn⟩ := h
      exact (hs s hs4).2.2 i hi60
    simp only [pX5_get, pX6_get, u1, u2, v1, v2, w1, w2, zbind_some, zlt_e, if_true, if_false, z3, z5, k1, k2, k3, nI60, k4, k5, k6, hit]
    exact ⟨_, _, _, rfl, rfl, h⟩
  · simp only [pX5_get, pX6_get, u1, u2, v1, v2, w1, w2, zbind_some, zlt_e, zst_e, if_true, if_false, z3, n1, n2]
    exact ⟨_, _, _, rfl, rfl, rel_find h w⟩
theorem rel_put {Mc Mr : zM} (h : zRel Mc Mr) {s i : Nat} (hs4 : s < 4) (hi60 : i < 60) (x : Int32) : zRel (zsI Mc (30 + s) i x) (zsI Mr 28 (60 * s + i) x) := by
  obtain ⟨N, I, S, T, V, sn, hok, hi, hn, hs, hsn⟩ := id h
  refine rel_sh h (fun v hv _ => if_neg (by omega)) (fun v hv _ => if_neg (by omega)) ?_ ?_ ?_
  · have c5 : (zsI Mc (30 + s) i x).1 5 = Mc.1 5 := if_neg (by omega)
    rw [c5]; exact hi.2.2.2.2.2
  · exact hok.2.2.2.2
  · intro t ht
    obtain ⟨a, b, c⟩ := hs t ht
    have c20 : (zsI Mc (30 + s) i x).1 20 = Mc.1 20 := if_neg (by omega)
    have c21 : (zsI Mc (30 + s) i x).1 21 = Mc.1 21 := if_neg (by omega)
    have r25 : (zsI Mr 28 (60 * s + i) x).1 25 = Mr.1 25 := rfl
    have r26 : (zsI Mr 28 (60 * s + i) x).1 26 = Mr.1 26 := rfl
    have r27 : (zsI Mr 28 (60 * s + i) x).1 27 = Mr.1 27 := rfl
    have r28 : (zsI Mr 28 (60 * s + i) x).1 28 = upd (Mr.1 28) (60 * s + i) x := rfl
    rw [c20, c21, r25, r26, r27, r28]
    refine ⟨a, b, fun j hj => ?_⟩
    rw [upd_ap]
    by_cases e : t = s
    · subst e
      have c30 : (zsI Mc (30 + t) i x).1 (30 + t) = upd (Mc.1 (30 + t)) i x := if_pos rfl
      rw [c30, upd_ap]
      by_cases e2 : j = i
      · rw [if_pos e2, if_pos (by omega)]
      · rw [if_neg e2, if_neg (by omega)]; exact c j hj
    · have c30 : (zsI Mc (30 + s) i x).1 (30 + t) = Mc.1 (30 + t) := if_neg (by omega)
      rw [c30, if_neg (by omega)]; exact c j hj
theorem b_put {Mc Mr : zM} (h : zRel Mc Mr) (x1 x2 x3 x4 : Int32) : zBoth (pX5_put x1 x2 x3 x4 Mc) (pX6_put x1 x2 x3 x4 Mr) := by
  have z3 : ¬ (1 : Int32) = 0 := by decide
  have bad : zBoth (some ((-2 : Int32), Mc)) (some ((-2 : Int32), Mr)) := ⟨_, _, _, rfl, rfl, h⟩
  rcases zsh (Mc := Mc) (Mr := Mr) x1 with ⟨u1, u2⟩ | ⟨s, hs4, rfl, u1, u2⟩
  · simp only [pX5_put, pX6_put, K_X5_put_14, K_X6_put_16, u1, u2, zbind_some, if_true]; exact bad
  rcases zfo (Mc := Mc) (Mr := Mr) x2 with ⟨v1, v2⟩ | ⟨f, hf, rfl, v1, v2⟩
  · simp only [pX5_put, pX6_put, K_X5_put_14, K_X6_put_16, u1, u2, v1, v2, zbind_some, if_true, if_false, z3]; exact bad
  obtain ⟨w, w1, w2, hw⟩ := zwr h hs4 hf x3
  have k1 : ∀ (α : Type) (q : Option α), zchk (nI s) 4 q = q := fun α q => zchk_n (by omega)
  have k3 : (nI s).toNatClampNeg = s := cl_n
  rcases hw with ⟨rfl, i, hi60, rfl⟩ | ⟨n1, n2⟩
  · have k2 : ∀ (α : Type) (q : Option α), zchk (nI i) 60 q = q := fun α q => zchk_n (by omega)
    have k4 : ∀ (α : Type) (q : Option α), zchk (nI (60 * s + i)) 240 q = q := fun α q => zchk_n (by omega)
    have k5 : (nI i).toNatClampNeg = i := cl_n
    have k6 : (nI (60 * s + i)).toNatClampNeg = 60 * s + i := cl_n (by omega)
    have z5 : (0 : Int32) ≤ 0 := by decide
    by_cases f0 : nI f = 0
    · simp only [pX5_put, pX6_put, K_X6_put_73, pX4_narrowed, u1, u2, v1, v2, w1, w2, zbind_some, zlt_e, zst_e, if_true, if_false, z3, z5, k1, k2, k3, nI60, k4, k5, k6, if_pos f0]
      exact ⟨_, _, _, rfl, rfl, rel_put h hs4 hi60 _⟩
    by_cases f1 : nI f = 1
    · simp only [pX5_put, pX6_put, K_X6_put_73, pX4_narrowed, u1, u2, v1, v2, w1, w2, zbind_some, zlt_e, zst_e, if_true, if_false, z3, z5, k1, k2, k3, nI60, k4, k5, k6, if_neg f0, if_pos f1]
      exact ⟨_, _, _, rfl, rfl, rel_put h hs4 hi60 _⟩
    · simp only [pX5_put, pX6_put, K_X6_put_73, pX4_narrowed, u1, u2, v1, v2, w1, w2, zbind_some, zlt_e, zst_e, if_true, if_false, z3, z5, k1, k2, k3, nI60, k4, k5, k6, f0, f1]
      exact ⟨_, _, _, rfl, rfl, rel_put h hs4 hi60 _⟩
  · simp only [pX5_put, pX6_put, u1, u2, v1, v2, w1, w2, zbind_some, zlt_e, zst_e, if_true, if_false, z3, n1, n2]
    exact b_find h w
