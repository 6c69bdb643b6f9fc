theorem r_sheetLoop {n : Nat} (hn : 100 ≤ n) {s : Nat} (hs4 : s < 4) (x2 x3 : Int32) (M : zM) : ∃ r : Int32 × zM, zwl (fun q => B_X6_sheet_59 n (nI s) x2 x3 q.1 q.2) n ((0 : Int32), M) = some r ∧ r.2 = zcI M 28 (fun j => if 60 * s ≤ j ∧ j < 60 * s + 60 then 0 else M.1 28 j) := by
  refine zwl_for (fun i st => st = (nI i, zcI M 28 (fun j => if 60 * s ≤ j ∧ j < 60 * s + i then 0 else M.1 28 j))) _ 60 n _ (by omega) ?_ (fun i st hi hI => ?_) (fun st hI => ?_)
  · have : (fun j => if 60 * s ≤ j ∧ j < 60 * s + 0 then 0 else M.1 28 j) = M.1 28 := by funext j; rw [if_neg (by omega)]
    rw [this, zcI_id]; rfl
  · subst hI
    have e60 : ¬ (60 : Int32) ≤ nI i := nI_ge (a := i) (b := 60) hi (by decide)
    refine ⟨_, by simp only [B_X6_sheet_59]; rw [if_neg e60, nI60, zchk_n (show 60 * s + i < 240 by omega), zst_e, zlt_e, cl_n (by omega)], ?_⟩
    refine Prod.ext (nI_1 i) ?_
    show zsI _ _ _ _ = _
    unfold zsI
    rw [zcI_zcI, zcI_at]
    congr 1
    funext j
    rw [upd_ap]
    by_cases e : j = 60 * s + i
    · rw [if_pos e, if_pos (by omega)]
    · rw [if_neg e]
      by_cases e2 : 60 * s ≤ j ∧ j < 60 * s + i
      · rw [if_pos e2, if_pos (by omega)]
      · rw [if_neg e2, if_neg (by omega)]
  · subst hI
    have e60 : (60 : Int32) ≤ nI 60 := by decide
    exact ⟨_, by simp only [B_X6_sheet_59]; rw [if_pos e60], rfl⟩
theorem rel_sheet {Mc Mr : zM} (h : zRel Mc Mr) {s f z : Nat} (hs4 : s < 4) (hf : f < 3) (hz : z ≤ 60) :
    zRel (zcI (zsI (zsI Mc 20 s (nI f)) 21 s (nI z)) (30 + s) (fun i => if i < 60 then 0 else (zsI (zsI Mc 20 s (nI f)) 21 s (nI z)).1 (30 + s) i))
      (zcI (zsI (zsI (zsI Mr 25 s 1) 26 s (nI f)) 27 s (nI z)) 28 (fun j => if 60 * s ≤ j ∧ j < 60 * s + 60 then 0 else (zsI (zsI (zsI Mr 25 s 1) 26 s (nI f)) 27 s (nI z)).1 28 j)) := by
  obtain ⟨N, I, S, T, V, sn, hok, hi, hn, hs, hsn⟩ := id h
  generalize hg : (fun i => if i < 60 then (0 : Int32) else (zsI (zsI Mc 20 s (nI f)) 21 s (nI z)).1 (30 + s) i) = g
  generalize hk : (fun j => if 60 * s ≤ j ∧ j < 60 * s + 60 then (0 : Int32) else (zsI (zsI (zsI Mr 25 s 1) 26 s (nI f)) 27 s (nI z)).1 28 j) = k
  have cv : ∀ v, ¬ v = 30 + s → ¬ v = 21 → ¬ v = 20 → (zcI (zsI (zsI Mc 20 s (nI f)) 21 s (nI z)) (30 + s) g).1 v = Mc.1 v := fun v h1 h2 h3 => by
    show (if v = 30 + s then g else if v = 21 then upd _ _ _ else if v = 20 then upd _ _ _ else Mc.1 v) = _
    rw [if_neg h1, if_neg h2, if_neg h3]
  have rv : ∀ v, ¬ v = 28 → ¬ v = 27 → ¬ v = 26 → ¬ v = 25 → (zcI (zsI (zsI (zsI Mr 25 s 1) 26 s (nI f)) 27 s (nI z)) 28 k).1 v = Mr.1 v := fun v h1 h2 h3 h4 => by
    show (if v = 28 then k else if v = 27 then upd _ _ _ else if v = 26 then upd _ _ _ else if v = 25 then upd _ _ _ else Mr.1 v) = _
    rw [if_neg h1, if_neg h2, if_neg h3, if_neg h4]
  have c20 : (zcI (zsI (zsI Mc 20 s (nI f)) 21 s (nI z)) (30 + s) g).1 20 = upd (Mc.1 20) s (nI f) := by
    show (if 20 = 30 + s then g else _) = _
    rw [if_neg (by omega)]; rfl
  have c21 : (zcI (zsI (zsI Mc 20 s (nI f)) 21 s (nI z)) (30 + s) g).1 21 = upd (Mc.1 21) s (nI z) := by
    show (if 21 = 30 + s then g else _) = _
    rw [if_neg (by omega)]; rfl
  have r25 : (zcI (zsI (zsI (zsI Mr 25 s 1) 26 s (nI f)) 27 s (nI z)) 28 k).1 25 = upd (Mr.1 25) s 1 := rfl
  have r26 : (zcI (zsI (zsI (zsI Mr 25 s 1) 26 s (nI f)) 27 s (nI z)) 28 k).1 26 = upd (Mr.1 26) s (nI f) := rfl
  have r27 : (zcI (zsI (zsI (zsI Mr 25 s 1) 26 s (nI f)) 27 s (nI z)) 28 k).1 27 = upd (Mr.1 27) s (nI z) := rfl
  have r28 : (zcI (zsI (zsI (zsI Mr 25 s 1) 26 s (nI f)) 27 s (nI z)) 28 k).1 28 = k := rfl
  refine rel_sh h (fun v hv _ => cv v (by omega) (by omega) (by omega)) (fun v hv _ => rv v (by omega) (by omega) (by omega) (by omega)) ?_ ?_ ?_
  · rw [cv 5 (by omega) (by omega) (by omega), rv 5 (by omega) (by omega) (by omega) (by omega)]; exact hi.2.2.2.2.2
  · intro t ht
    obtain ⟨a, b⟩ := hok.2.2.2.2 t ht
    rw [r25, r26, r27]
    simp only [upd_ap]
    by_cases e : t = s
    · simp only [if_pos e]
      exact ⟨⟨z, hz, rfl⟩, Or.inr ⟨trivial, f, hf, rfl⟩⟩
    · simp only [if_neg e]
      exact ⟨a, b⟩
  · intro t ht
    obtain ⟨a, b, c⟩ := hs t ht
    rw [c20, c21, r25, r26, r27, r28]
    simp only [upd_ap]
    by_cases e : t = s
    · subst e
      simp only [if_true]
      refine ⟨trivial, Or.inr ⟨trivial, trivial⟩, fun i hi => ?_⟩
      rw [show (zcI (zsI (zsI Mc 20 t (nI f)) 21 t (nI z)) (30 + t) g).1 (30 + t) = g from if_pos rfl, ← hg, ← hk]
      simp only [if_pos hi]
      rw [if_pos (by omega)]
    · simp only [if_neg e]
      refine ⟨a, b, fun i hi => ?_⟩
      rw [cv (30 + t) (by omega) (by omega) (by omega), ← hk]
      simp only
      rw [if_neg (by omega)]
      exact c i hi
theorem b_sheet {Mc Mr : zM} {n : Nat} (hn : 100 ≤ n) (h : zRel Mc Mr) (x1 x2 x3 : Int32) : zBoth (pX5_sheet n x1 x2 x3 Mc) (pX6_sheet n x1 x2 x3 Mr) := by
  have z3 : ¬ (1 : Int32) = 0 := by decide
  have bad : zBoth (some ((-2 : Int32), Mc)) (some ((-2 : Int32), Mr)) := ⟨_, _, _, rfl, rfl, h⟩
  rcases zsh (Mc := Mc) (Mr := Mr) x1 with ⟨u1, u2⟩ | ⟨s, hs4, rfl, u1, u2⟩
  · simp only [pX5_sheet, pX6_sheet, K_X5_sheet_20, K_X6_sheet_22, u1, u2, zbind_some, if_true]; exact bad
  rcases zfo (Mc := Mc) (Mr := Mr) x2 with ⟨v1, v2⟩ | ⟨f, hf, rfl, v1, v2⟩
  · simp only [pX5_sheet, pX6_sheet, K_X5_sheet_20, K_X6_sheet_22, u1, u2, v1, v2, zbind_some, if_true, if_false, z3]; exact bad
  by_cases c1 : x3 ≤ 60
  · by_cases c2 : 0 ≤ x3
    · have c3 : ¬ x3 < 0 := fun q => by rw [i_lt] at q; rw [i_le] at c2; omega
      obtain ⟨z, hz, rfl⟩ := nI_of2 (M := 60) (n := 60) rfl c3 c1
      have k1 : ∀ (α : Type) (q : Option α), zchk (nI s) 4 q = q := fun α q => zchk_n (by omega)
      have k3 : (nI s).toNatClampNeg = s := cl_n
      obtain ⟨r, hr1, hr2⟩ := r_sheetLoop hn hs4 (nI f) (nI z) (zsI (zsI (zsI Mr 25 s 1) 26 s (nI f)) 27 s (nI z))
      obtain ⟨r1, r2⟩ := r
      simp only [pX5_sheet, pX6_sheet, pX4_renew, u1, u2, v1, v2, zbind_some, if_true, if_false, z3, c1, c2, k1, k3, zst_e, zlt_e, vnar1, p_fillI (n := n) (la := 60) (by omega) (by omega), hr1, zb2_some]
      refine ⟨_, _, _, rfl, rfl, ?_⟩
      rw [show r2 = _ from hr2]
      exact rel_sheet h hs4 hf hz
    · simp only [pX5_sheet, pX6_sheet, u1, u2, v1, v2, zbind_some, if_true, if_false, z3, c1, c2]
      exact b_find h 5
  · simp only [pX5_sheet, pX6_sheet, K_X5_sheet_20, K_X6_sheet_22, u1, u2, v1, v2, zbind_some, if_true, if_false, z3, c1]; exact bad
/-! ===== move ===== -/
theorem lgc (a b : Int64) : 0 < lg_cmp a b ↔ b < a := by
  unfold lg_cmp
  by_cases h : b < a
  · rw [if_pos h]; simp [h]
  · rw [if_neg h]
    by_cases h2 : a = b
    · rw [if_pos h2]; simp [h]
    · rw [if_neg h2]; simp [h]
theorem lgc2 (a b : Int64) : lg_cmp a b ≤ 0 ↔ ¬ b < a := by
  unfold lg_cmp
  by_cases h : b < a
  · rw [if_pos h]; simp [h]
  · rw [if_neg h]
    by_cases h2 : a = b
    · rw [if_pos h2]; simp [h]
    · rw [if_neg h2]; simp [h]
theorem c_has_y {M : zM} {s z i m : Nat} (hs4 : s < 4) (hz : z ≤ 60) (e : M.1 21 s = nI z) (h : i + m ≤ z) : pX4_hasItems (nI s) (nI i) (nI m) M = some 1 := by
  have k1 : ∀ (α : Type) (q : Option α), zchk (nI s) 4 q = q := fun α q => zchk_n (by omega)
  have k3 : (nI s).toNatClampNeg = s := cl_n
  unfold pX4_hasItems
  simp only [k1, k3, e]
  rw [if_neg (nI_pos (by omega)), if_neg (nI_pos (by omega)), if_neg (nI_nlt (by omega) (by omega)), pk_sub (by omega), if_neg (nI_nlt (by omega) (by omega))]
theorem c_has_n {M : zM} {s z : Nat} {x y : Int32} (hs4 : s < 4) (hz : z ≤ 60) (e : M.1 21 s = nI z) (h : ¬ ∃ i m, i + m ≤ z ∧ x = nI i ∧ y = nI m) : pX4_hasItems (nI s) x y M = some 0 := by
  have k1 : ∀ (α : Type) (q : Option α), zchk (nI s) 4 q = q := fun α q => zchk_n (by omega)
  have k3 : (nI s).toNatClampNeg = s := cl_n
  unfold pX4_hasItems K_X4_hasItems_34
  simp only [k1, k3, e]
  by_cases h1 : x < 0
  · rw [if_pos h1]
  rw [if_neg h1]
  by_cases h2 : y < 0
  · rw [if_pos h2]
  rw [if_neg h2]
  by_cases h3 : nI z < x
  · rw [if_pos h3]
  rw [if_neg h3]
  have h4 : x ≤ nI z := by rw [i_le]; rw [i_lt] at h3; omega
  obtain ⟨i, hi, rfl⟩ := nI_of2 (M := nI z) (n := z) (i_toInt_nI (by omega)) h1 h4
  rw [pk_sub hi]
  by_cases h5 : nI (z - i) < y
  · rw [if_pos h5]
  have h6 : y ≤ nI (z - i) := by rw [i_le]; rw [i_lt] at h5; omega
  obtain ⟨m, hm, rfl⟩ := nI_of2 (M := nI (z - i)) (n := z - i) (i_toInt_nI (by omega)) h2 h6
  exact absurd ⟨i, m, by omega, rfl, rfl⟩ h
theorem nI60b (s i k : Nat) : (60 : Int32) * nI s + nI i + nI k = nI (60 * s + i + k) := by
  rw [nI60, nI_add]
theorem r_moveLoop1 {n : Nat} (hn : 100 ≤ n) {s i m : Nat} (hs4 : s < 4) (him : i + m ≤ 60) (x3 x4 : Int32) (M : zM) : ∃ r : Int32 × zM, zwl (fun q => B_X6_move_120 n (nI s) (nI i) x3 x4 (nI m) q.1 q.2) n ((0 : Int32), M) = some r ∧ r.2 = zcI M 29 (fun j => if j < m then M.1 28 (60 * s + i + j) else M.1 29 j) := by
  refine zwl_for (fun k st => st = (nI k, zcI M 29 (fun j => if j < k then M.1 28 (60 * s + i + j) else M.1 29 j))) _ m n _ (by omega) ?_ (fun k st hk hI => ?_) (fun st hI => ?_)
  · have : (fun j => if j < 0 then M.1 28 (60 * s + i + j) else M.1 29 j) = M.1 29 := by funext j; rw [if_neg (by omega)]
    rw [this, zcI_id]; rfl
  · subst hI
    refine ⟨_, by simp only [B_X6_move_120]; rw [if_neg (nI_ge hk (by omega)), nI60b, zchk_n (show 60 * s + i + k < 240 by omega), zchk_n (show k < 60 by omega), zst_e, zlt_e, cl_n (by omega), cl_n (by omega)], ?_⟩
    refine Prod.ext (nI_1 k) ?_
    show zsI _ _ _ _ = _
    unfold zsI
    rw [zcI_zcI, zcI_at, show (zcI M 29 (fun j => if j < k then M.1 28 (60 * s + i + j) else M.1 29 j)).1 28 = M.1 28 from rfl]
    congr 1
    funext j
    rw [upd_ap]
    by_cases e : j = k
    · subst e; rw [if_pos rfl, if_pos (by omega)]
    · rw [if_neg e]
      by_cases e2 : j < k
      · rw [if_pos e2, if_pos (by omega)]
      · rw [if_neg e2, if_neg (by omega)]
  · subst hI
    exact ⟨_, by simp only [B_X6_move_120]; rw [if_pos (nI_le (Nat.le_refl _) (by omega))], rfl⟩
theorem r_moveLoop2 {n : Nat} (hn : 100 ≤ n) {t j m : Nat} (ht4 : t < 4) (hjm : j + m ≤ 60) (x1 x2 : Int32) (M : zM) : ∃ r : Int32 × zM, zwl (fun q => B_X6_move_157 n x1 x2 (nI t) (nI j) (nI m) q.1 q.2) n ((0 : Int32), M) = some r ∧ r.2 = zcI M 28 (fun q => if 60 * t + j ≤ q ∧ q < 60 * t + j + m then M.1 29 (q - (60 * t + j)) else M.1 28 q) := by
  refine zwl_for (fun k st => st = (nI k, zcI M 28 (fun q => if 60 * t + j ≤ q ∧ q < 60 * t + j + k then M.1 29 (q - (60 * t + j)) else M.1 28 q))) _ m n _ (by omega) ?_ (fun k st hk hI => ?_) (fun st hI => ?_)
  · have : (fun q => if 60 * t + j ≤ q ∧ q < 60 * t + j + 0 then M.1 29 (q - (60 * t + j)) else M.1 28 q) = M.1 28 := by funext q; rw [if_neg (by omega)]
    rw [this, zcI_id]; rfl
  · subst hI
    refine ⟨_, by simp only [B_X6_move_157]; rw [if_neg (nI_ge hk (by omega)), nI60b, zchk_n (show k < 60 by omega), zchk_n (show 60 * t + j + k < 240 by omega), zst_e, zlt_e, cl_n (by omega), cl_n (by omega)], ?_⟩
    refine Prod.ext (nI_1 k) ?_
    show zsI _ _ _ _ = _
    unfold zsI
    rw [zcI_zcI, zcI_at, show (zcI M 28 (fun q => if 60 * t + j ≤ q ∧ q < 60 * t + j + k then M.1 29 (q - (60 * t + j)) else M.1 28 q)).1 29 = M.1 29 from rfl]
    congr 1
    funext q
    rw [upd_ap]
    by_cases e : q = 60 * t + j + k
    · subst e; rw [if_pos rfl, if_pos (by omega), show 60 * t + j + k - (60 * t + j) = k by omega]
    · rw [if_neg e]
      by_cases e2 : 60 * t + j ≤ q ∧ q < 60 * t + j + k
      · rw [if_pos e2, if_pos (by omega)]
      · rw [if_neg e2, if_neg (by omega)]
  · subst hI
    exact ⟨_, by simp only [B_X6_move_157]; rw [if_pos (nI_le (Nat.le_refl _) (by omega))], rfl⟩
theorem rel_move {Mc Mr M1 : zM} (h : zRel Mc Mr) {s t i j m : Nat} (hs4 : s < 4) (ht4 : t < 4) (him : i + m ≤ 60) (hjm : j + m ≤ 60) (h1 : M1 = zcI Mr 29 (fun k => if k < m then Mr.1 28 (60 * s + i + k) else Mr.1 29 k)) :
    zRel (zcI Mc (30 + t) (va_cpy (Mc.1 (30 + s)) (Mc.1 (30 + t)) i j m)) (zcI M1 28 (fun q => if 60 * t + j ≤ q ∧ q < 60 * t + j + m then M1.1 29 (q - (60 * t + j)) else M1.1 28 q)) := by
  obtain ⟨N, I, S, T, V, sn, hok, hi, hn, hs, hsn⟩ := id h
  subst h1
  generalize hg : va_cpy (Mc.1 (30 + s)) (Mc.1 (30 + t)) i j m = g
  refine rel_sh h (fun v hv _ => if_neg (by omega)) (fun v hv _ => ?_) ?_ hok.2.2.2.2 ?_
  · show (if v = 28 then _ else if v = 29 then _ else Mr.1 v) = _
    rw [if_neg (by omega), if_neg (by omega)]
  · have c5 : (zcI Mc (30 + t) g).1 5 = Mc.1 5 := if_neg (by omega)
    rw [c5]; exact hi.2.2.2.2.2
  · intro t' ht'
    obtain ⟨a, b, c⟩ := hs t' ht'
    have c20 : (zcI Mc (30 + t) g).1 20 = Mc.1 20 := if_neg (by omega)
    have c21 : (zcI Mc (30 + t) g).1 21 = Mc.1 21 := if_neg (by omega)
    rw [c20, c21]
    refine ⟨a, b, fun q hq => ?_⟩
    show (zcI Mc (30 + t) g).1 (30 + t') q = (if 60 * t + j ≤ 60 * t' + q ∧ 60 * t' + q < 60 * t + j + m then (if 60 * t' + q - (60 * t + j) < m then Mr.1 28 (60 * s + i + (60 * t' + q - (60 * t + j))) else Mr.1 29 (60 * t' + q - (60 * t + j))) else Mr.1 28 (60 * t' + q))
    by_cases e : t' = t
    · subst e
      rw [show (zcI Mc (30 + t') g).1 (30 + t') = g from if_pos rfl, ← hg]
      show (if j ≤ q ∧ q < j + m then Mc.1 (30 + s) (i + (q - j)) else Mc.1 (30 + t') q) = _
      by_cases e2 : j ≤ q ∧ q < j + m
      · rw [if_pos e2, if_pos (by omega), if_pos (by omega), (hs s hs4).2.2 _ (by omega)]
        rw [show 60 * s + (i + (q - j)) = 60 * s + i + (60 * t' + q - (60 * t' + j)) by omega]
      · rw [if_neg e2, if_neg (by omega)]; exact c q hq
    · rw [show (zcI Mc (30 + t) g).1 (30 + t') = Mc.1 (30 + t') from if_neg (by omega), if_neg (by omega)]; exact c q hq
theorem b_move {Mc Mr : zM} {n : Nat} (hn100 : 100 ≤ n) (h : zRel Mc Mr) (x1 x2 x3 x4 x5 : Int32) : zBoth (pX5_move x1 x2 x3 x4 x5 Mc) (pX6_move n x1 x2 x3 x4 x5 Mr) := by
  obtain ⟨N, I, S, T, V, sn, hok, hi, hn, hs, hsn⟩ := id h
  have z3 : ¬ (1 : Int32) = 0 := by decide
  have bad : zBoth (some ((-2 : Int32), Mc)) (some ((-2 : Int32), Mr)) := ⟨_, _, _, rfl, rfl, h⟩
  rcases zsh (Mc := Mc) (Mr := Mr) x1 with ⟨u1, u2⟩ | ⟨s, hs4, rfl, u1, u2⟩
  · simp only [pX5_move, pX6_move, K_X5_move_14, K_X6_move_14, u1, u2, zbind_some, if_true]; exact bad
  rcases zsh (Mc := Mc) (Mr := Mr) x3 with ⟨v1, v2⟩ | ⟨t, ht4, rfl, v1, v2⟩
  · simp only [pX5_move, pX6_move, K_X5_move_14, K_X6_move_14, u1, u2, v1, v2, zbind_some, if_true, if_false, z3]; exact bad
  have k1 : ∀ (α : Type) (q : Option α), zchk (nI s) 4 q = q := fun α q => zchk_n (by omega)
  have k2 : ∀ (α : Type) (q : Option α), zchk (nI t) 4 q = q := fun α q => zchk_n (by omega)
  have k3 : (nI s).toNatClampNeg = s := cl_n
  have k4 : (nI t).toNatClampNeg = t := cl_n
  obtain ⟨es21, hfs, -⟩ := hs s hs4
  obtain ⟨et21, hft, -⟩ := hs t ht4
  obtain ⟨⟨zs, hzs, ezs⟩, hths⟩ := hok.2.2.2.2 s hs4
  obtain ⟨⟨zt, hzt, ezt⟩, htht⟩ := hok.2.2.2.2 t ht4
  have nn : ∀ s, s < 4 → Mr.1 25 s = 1 → Mc.1 20 s = Mr.1 26 s → ¬ Mc.1 20 s = -1 := fun s hs4 f1 f2 => by
    obtain ⟨-, hth⟩ := hok.2.2.2.2 s hs4
    rcases hth with e | ⟨-, f, hf3, e⟩
    · rw [f1] at e; exact absurd e (by decide)
    · rw [f2, e]
      rcases (show f = 0 ∨ f = 1 ∨ f = 2 by omega) with rfl | rfl | rfl <;> decide
  unfold pX5_move pX6_move
  simp only [u1, u2, v1, v2, zbind_some, if_true, if_false, z3, k1, k2, k3, k4]
  rcases hfs with ⟨f1, f2⟩ | ⟨f1, f2⟩
  · rw [if_pos f2, if_pos f1]
    exact b_find h 1
  have f0 : ¬ Mr.1 25 s = 0 := by rw [f1]; exact z3
  rw [if_neg (nn s hs4 f1 f2), if_neg f0]
  rcases hft with ⟨g1, g2⟩ | ⟨g1, g2⟩
  · rw [if_pos g2, if_pos g1]
    exact b_find h 1
  have g0 : ¬ Mr.1 25 t = 0 := by rw [g1]; exact z3
  rw [if_neg (nn t ht4 g1 g2), if_neg g0, f2, g2]
  by_cases c : Mr.1 26 s = Mr.1 26 t
  · rw [if_pos c, if_pos c]
    rw [ezs] at es21
    rw [ezt] at et21
    have idx : zBoth (K_X5_move_105 (nI s) x2 (nI t) x4 x5 Mc) (K_X6_move_111 n (nI s) x2 (nI t) x4 x5 Mr) := b_find h 2
    by_cases A : ∃ i m, i + m ≤ zs ∧ x2 = nI i ∧ x5 = nI m
    · obtain ⟨i, m, him, rfl, rfl⟩ := A
      rw [c_has_y hs4 hzs es21 him, zbind_some, if_neg z3, if_neg (nI_pos (by omega) : ¬ nI i < 0)]
      have l1 : ¬ 0 < lg_cmp ((Int32.toInt64 (nI i)) + (Int32.toInt64 (nI m))) (Int32.toInt64 (Mr.1 27 s)) := by
        rw [lgc, ezs, nI_l (by omega), nI_l (by omega), nI_l (by omega), lN_add, pk_lLT (by omega) (by omega)]; omega
      rw [if_neg (nI_pos (by omega) : ¬ nI m < 0), if_neg l1]
      by_cases B : ∃ j m', j + m' ≤ zt ∧ x4 = nI j ∧ nI m = nI m'
      · obtain ⟨j, m', hjm, rfl, hmm⟩ := B
        have hm' : m = m' := (nI_eq (by omega) (by omega)).mp hmm
        subst hm'
        rw [c_has_y ht4 hzt et21 hjm, zbind_some, if_neg z3, if_neg (nI_pos (by omega) : ¬ nI j < 0)]
        have l2 : lg_cmp ((Int32.toInt64 (nI j)) + (Int32.toInt64 (nI m))) (Int32.toInt64 (Mr.1 27 t)) ≤ 0 := by
          rw [lgc2, ezt, nI_l (by omega), nI_l (by omega), nI_l (by omega), lN_add, pk_lLT (by omega) (by omega)]; omega
        rw [if_pos l2]
        have cp : zcp (nI i) (nI j) (nI m) 60 60 = true := by
          unfold zcp
          rw [cl_n (by omega), cl_n (by omega), cl_n (by omega)]
          have a1 : ¬ nI i < 0 := nI_pos (by omega)
          have a2 : ¬ nI j < 0 := nI_pos (by omega)
          have a3 : ¬ nI m < 0 := nI_pos (by omega)
          have a4 : i + m ≤ 60 := by omega
          have a5 : j + m ≤ 60 := by omega
          simp [a1, a2, a3, a4, a5]
        obtain ⟨⟨q1, M1⟩, p1, p2⟩ := r_moveLoop1 hn100 hs4 (show i + m ≤ 60 by omega) (nI t) (nI j) Mr
        obtain ⟨⟨q2, M2⟩, p3, p4⟩ := r_moveLoop2 hn100 ht4 (show j + m ≤ 60 by omega) (nI s) (nI i) M1
        simp only [zcpk, cp, if_true, zst_e, zlt_e, p1, p3, zb2_some]
        rw [cl_n (by omega), cl_n (by omega), cl_n (by omega)]
        refine ⟨_, _, _, rfl, rfl, ?_⟩
        rw [show M2 = _ from p4]
        exact rel_move h hs4 ht4 (by omega) (by omega) p2
      · rw [c_has_n ht4 hzt et21 B, zbind_some, if_pos rfl]
        by_cases e : x4 < 0
        · rw [if_pos e]; exact idx
        · obtain ⟨j, hj, rfl⟩ := nI_of e
          have l2 : ¬ lg_cmp ((Int32.toInt64 (nI j)) + (Int32.toInt64 (nI m))) (Int32.toInt64 (Mr.1 27 t)) ≤ 0 := by
            rw [lgc2, ezt, nI_l (by omega), nI_l (by omega), nI_l (by omega), lN_add, pk_lLT (by omega) (by omega)]
            intro q
            exact B ⟨j, m, by omega, rfl, rfl⟩
          rw [if_neg e, if_neg l2]; exact idx
    · rw [c_has_n hs4 hzs es21 A, zbind_some, if_pos rfl]
      by_cases e2 : x2 < 0
      · rw [if_pos e2]; exact idx
      rw [if_neg e2]
      by_cases e4 : x4 < 0
      · rw [if_pos e4]; exact idx
      rw [if_neg e4]
      by_cases e5 : x5 < 0
      · rw [if_pos e5]; exact idx
      rw [if_neg e5]
      obtain ⟨i, hi2, rfl⟩ := nI_of e2
      obtain ⟨m, hm2, rfl⟩ := nI_of e5
      have l1 : 0 < lg_cmp ((Int32.toInt64 (nI i)) + (Int32.toInt64 (nI m))) (Int32.toInt64 (Mr.1 27 s)) := by
        rw [lgc, ezs, nI_l (by omega), nI_l (by omega), nI_l (by omega), lN_add, pk_lLT (by omega) (by omega)]
        refine Nat.lt_of_not_le fun q => A ⟨i, m, q, rfl, rfl⟩
      rw [if_pos l1]; exact idx
  · rw [if_neg c, if_neg c]
    exact b_find h 4
