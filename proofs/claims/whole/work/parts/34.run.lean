theorem c_lookS1 {Mr M0 : zM} {n T k : Nat} {F : Nat → Nat → Nat → Nat → Bool} (hn : 100 ≤ n) (hT : T ≤ 16) (hk : k < 24) (x4 : Int32) (hw : bt (M0.1 22 T) k = ps Mr T k) {A : Nat → Bool} (hA : ∀ L, L < 64 → ln (M0.2 1 0) L = A L)
    (h3 : zH3 Mr M0 k (fun L => ss Mr (F L) T k)) :
    ∃ r : Int32 × zM, zwl (fun q => B_X0_lookAtStores_24 n (nI T) x4 (nI k) q.1 q.2) n ((0 : Int32), M0) = some r ∧ (r.2.1 = M0.1 ∧ (∀ v, ¬ v = 1 → r.2.2 v = M0.2 v) ∧ ∀ L, L < 64 → ln (r.2.2 1 0) L = (A L || ex 3 (fun c => ss Mr (F L) T k (cc Mr k c) != ps Mr T k))) := by
  refine zwl_for (fun i s => s.1 = nI i ∧ s.2.1 = M0.1 ∧ (∀ v, ¬ v = 1 → s.2.2 v = M0.2 v) ∧ ∀ L, L < 64 → ln (s.2.2 1 0) L = (A L || ex i (fun c => ss Mr (F L) T k (cc Mr k c) != ps Mr T k))) _ 3 n _ (by omega) ⟨rfl, rfl, fun _ _ => rfl, fun L hL => by rw [show ∀ f, ex 0 f = false from fun _ => rfl, Bool.or_false]; exact hA L hL⟩ ?_ ?_
  · rintro i ⟨x, M⟩ hi ⟨e1, f1, f2, f3⟩
    dsimp only at e1 f1 f2 f3
    subst e1
    have ge : ¬ (3 : Int32) ≤ nI i := nI_ge (a := i) (b := 3) hi (by decide)
    have wd := c_wide (M := M) (k := k) (t := T) (by omega) (by omega)
    rw [f1, hw] at wd
    have k4 : ∀ (α : Type) (q : Option α), zchk (nI (k * 4 + i)) 96 q = q := fun α q => zchk_n (by omega)
    have k5 : (nI (k * 4 + i)).toNatClampNeg = k * 4 + i := cl_n (by omega)
    refine ⟨_, by simp only [B_X0_lookAtStores_24, if_neg ge, zm4, zad, k4, k5, wd, zbind_some, zst_e, zlt_e]; rfl, nI_1 i, f1, fun v hv => ?_, fun L hL => ?_⟩
    · show (zsL M 1 _ _).2 v = _
      rw [zsL_2, if_neg hv]; exact f2 v hv
    · show ln (M.2 1 0 ||| (M.2 3 (k * 4 + i) ^^^ -(Int32.toInt64 (zb (ps Mr T k))))) L = _
      rw [ln_or, ln_xor, ln_wide _ hL, f3 L hL, ex_s, f2 3 (by decide), h3 i hi L hL, bx, ← Bool.or_assoc]
  · rintro ⟨x, M⟩ ⟨e1, f1, f2, f3⟩
    dsimp only at e1 f1 f2 f3
    subst e1
    have le : (3 : Int32) ≤ nI 3 := by decide
    exact ⟨(nI 3, M), by simp only [B_X0_lookAtStores_24, if_pos le], f1, f2, f3⟩
theorem LG_st {Mr : zM} {N I S T V : Nat} {sn : Nat → Nat} (hok : zOk Mr N I S T V sn) (F : Nat → Nat → Nat → Bool) : ex S (fun s => ex 3 (fun c => ss Mr F T (sn s) (cc Mr (sn s) c) != ps Mr T (sn s))) = LG Mr F N T := by
  obtain ⟨-, hnd, hbits, hst, hsh⟩ := hok
  rw [Bool.eq_iff_iff]
  unfold LG
  rw [ex_iff, ex_iff]
  constructor
  · rintro ⟨s, hs, h⟩
    obtain ⟨c, hc, h⟩ := (ex_iff _ _).mp h
    obtain ⟨hk, h5, -⟩ := hst.1 s hs
    refine ⟨sn s, hk, ?_⟩
    unfold l1
    rw [decide_eq_true h5, Bool.true_and, ex_iff]
    refine ⟨cc Mr (sn s) c, ?_, h⟩
    unfold cc cp
    by_cases q : Mr.1 14 (sn s) = 0
    · rw [if_pos q, if_pos q]; omega
    · rw [if_neg q, if_neg q]; exact hc
  · rintro ⟨k, hk, h⟩
    unfold l1 at h
    rw [Bool.and_eq_true, decide_eq_true_iff, ex_iff] at h
    obtain ⟨h5, c, hc, h⟩ := h
    obtain ⟨s, hs, -, rfl⟩ := hst.2 k hk h5
    refine ⟨s, hs, (ex_iff _ _).mpr ⟨c, ?_, ?_⟩⟩
    · have := cp_le Mr (sn s); omega
    · have e : cc Mr (sn s) c = c := by
        unfold cc
        unfold cp at hc
        by_cases q : Mr.1 14 (sn s) = 0
        · rw [if_pos q] at hc; rw [if_pos q]; omega
        · rw [if_neg q]
      rw [e]; exact h
theorem c_lookS {Mr M0 : zM} {n N I S T V : Nat} {sn : Nat → Nat} {F : Nat → Nat → Nat → Nat → Bool} (hn : 100 ≤ n) (hok : zOk Mr N I S T V sn) (cx : zCx Mr M0 N S sn F) (h1 : M0.2 1 0 = 0) (h3 : ∀ s, s < S → zH3 Mr M0 (sn s) (fun L => ss Mr (F L) T (sn s))) :
    ∃ M', pX0_lookAtStores n (nI T) M0 = some M' ∧ M'.1 = M0.1 ∧ (∀ v, ¬ v = 1 → M'.2 v = M0.2 v) ∧ ∀ L, L < 64 → ln (M'.2 1 0) L = LG Mr (F L) N T := by
  obtain ⟨⟨⟨b1, b2, b3, b4, b5, b6⟩, q0, q1, q2, q3, q4⟩, hnd, hbits, hst, hsh⟩ := id hok
  obtain ⟨⟨d2, d4, m10, m11, m12, m13, m15, m16, m17, m18, m00⟩, cw, cf⟩ := id cx
  obtain ⟨⟨z1, M1⟩, u1, u2, u3, u4⟩ := zwl_for (b := fun q => B_X0_lookAtStores_3 n (nI T) q.1 q.2) (fun i s => s.1 = nI i ∧ s.2.1 = M0.1 ∧ (∀ v, ¬ v = 1 → s.2.2 v = M0.2 v) ∧ ∀ L, L < 64 → ln (s.2.2 1 0) L = ex i (fun s => ex 3 (fun c => ss Mr (F L) T (sn s) (cc Mr (sn s) c) != ps Mr T (sn s)))) (fun r => r.2.1 = M0.1 ∧ (∀ v, ¬ v = 1 → r.2.2 v = M0.2 v) ∧ ∀ L, L < 64 → ln (r.2.2 1 0) L = LG Mr (F L) N T) S n ((0 : Int32), M0) (by omega) ⟨rfl, rfl, fun _ _ => rfl, fun L hL => by show ln (M0.2 1 0) L = _; rw [h1, ln_0]; rfl⟩
    (by
      rintro i ⟨x, M⟩ hi ⟨e1, f1, f2, f3⟩
      dsimp only at e1 f1 f2 f3
      subst e1
      obtain ⟨hk, h5, -⟩ := hst.1 i hi
      have ge : ¬ nI S ≤ nI i := nI_ge hi (by omega)
      have s1' : ∀ (α : Type) (q : Option α), zchk (nI i) 24 q = q := fun α q => zchk_n (by omega)
      have s3 : (nI i).toNatClampNeg = i := cl_n
      have w4 : M.1 4 0 = nI S := by rw [f1]; exact d4
      have w18 : M.1 18 i = nI (sn i) := by rw [f1]; exact m18 i hi
      obtain ⟨⟨z1, M'⟩, y1, y2, y3, y4⟩ := c_lookS1 (Mr := Mr) (M0 := M) (F := F) hn b5 (show sn i < 24 by omega) (nI i) (by rw [f1, cw T (by omega) (sn i) hk, pl_st h5]) f3 ((h3 i hi).keep (fun c _ => by rw [f2 3 (by decide)]))
      dsimp only at y2 y3 y4
      exact ⟨_, by simp only [B_X0_lookAtStores_3, w4, if_neg ge, s1', s3, w18, zlt_e, y1, zb2_some]; rfl, nI_1 i, y2.trans f1, fun v hv => (y3 v hv).trans (f2 v hv), y4⟩)
    (by
      rintro ⟨x, M⟩ ⟨e1, f1, f2, f3⟩
      dsimp only at e1 f1 f2 f3
      subst e1
      have le : nI S ≤ nI S := nI_le (Nat.le_refl _) (by omega)
      have w4 : M.1 4 0 = nI S := by rw [f1]; exact d4
      exact ⟨(nI S, M), by simp only [B_X0_lookAtStores_3, w4, if_pos le], f1, f2, fun L hL => by rw [← LG_st hok]; exact f3 L hL⟩)
  exact ⟨M1, by simp only [pX0_lookAtStores, zlt_e, u1, zb2_some], u2, u3, u4⟩
/-- the stores' flips -/
theorem c_run30 {Mr M0 : zM} {n N I S T V t : Nat} {sn : Nat → Nat} {F : Nat → Nat → Nat → Nat → Bool} (hn : 100 ≤ n) (hok : zOk Mr N I S T V sn) (cx : zCx Mr M0 N S sn F) (ht : t < 16) (x3 : Int32) (h3 : ∀ s, s < S → zH3 Mr M0 (sn s) (fun L => ss Mr (F L) t (sn s))) :
    ∃ r : Int32 × zM, zwl (fun q => B_X0_run_30 n x3 (nI t) q.1 q.2) n ((0 : Int32), M0) = some r ∧ (zL3 M0 r.2 ∧ ∀ s, s < S → zHv Mr r.2 (sn s) (fun L => bl Mr (F L) t (sn s))) := by
  obtain ⟨⟨⟨b1, b2, b3, b4, b5, b6⟩, q0, q1, q2, q3, q4⟩, hnd, hbits, hst, hsh⟩ := id hok
  obtain ⟨⟨d2, d4, m10, m11, m12, m13, m15, m16, m17, m18, m00⟩, cw, cf⟩ := id cx
  refine zwl_for (fun i st => st.1 = nI i ∧ zL3 M0 st.2 ∧ (∀ s, s < i → zHv Mr st.2 (sn s) (fun L => bl Mr (F L) t (sn s))) ∧ ∀ s, s < S → i ≤ s → zH3 Mr st.2 (sn s) (fun L => ss Mr (F L) t (sn s))) _ S n _ (by omega) ⟨rfl, zL3.rf _, fun s hs => by omega, fun s hs _ => h3 s hs⟩ ?_ ?_
  · rintro i ⟨x, M⟩ hi ⟨e1, f1, f2, f3⟩
    dsimp only at e1 f1 f2 f3
    subst e1
    obtain ⟨hk, h5, -⟩ := hst.1 i hi
    have ge : ¬ nI S ≤ nI i := nI_ge hi (by omega)
    have s1' : ∀ (α : Type) (q : Option α), zchk (nI i) 24 q = q := fun α q => zchk_n (by omega)
    have s3 : (nI i).toNatClampNeg = i := cl_n
    have w4 : M.1 4 0 = nI S := by rw [f1.1]; exact d4
    have w18 : M.1 18 i = nI (sn i) := by rw [f1.1]; exact m18 i hi
    obtain ⟨M', y1, y2, y3, y4⟩ := c_settle (Mr := Mr) (M := M) hn (show sn i < 24 by omega) ht (f3 i hi (Nat.le_refl _)) (f := fun L => F L t (sn i)) (fun c hc L hL => by rw [f1.2 2 (by decide)]; exact cf t ht (sn i) hk c hc L hL)
    have oth : ∀ s, s < S → ¬ s = i → ∀ c, c < 4 → M'.2 3 (sn s * 4 + c) = M.2 3 (sn s * 4 + c) := fun s hs e c hc => by
      have ne : ¬ sn s = sn i := fun q => e (sn_inj (by omega) hst hs hi q)
      exact y3 _ (by omega)
    refine ⟨_, by simp only [B_X0_run_30, w4, if_neg ge, s1', s3, w18, y1, zbind_some, zlt_e]; rfl, nI_1 i, f1.tr y2, fun s hs => ?_, fun s hs his => ?_⟩
    · by_cases e : s = i
      · subst e
        have e2 : (fun L => bl Mr (F L) t (sn s)) = fun L c => ss Mr (F L) t (sn s) c ^^ F L t (sn s) c := funext fun L => funext fun c => gv_st h5
        rw [e2]; exact y4
      · exact (f2 s (by omega)).keep (oth s (by omega) e)
    · exact (f3 s hs (by omega)).keep (oth s hs (by omega))
  · rintro ⟨x, M⟩ ⟨e1, f1, f2, f3⟩
    dsimp only at e1 f1 f2 f3
    subst e1
    have le : nI S ≤ nI S := nI_le (Nat.le_refl _) (by omega)
    have w4 : M.1 4 0 = nI S := by rw [f1.1]; exact d4
    exact ⟨(nI S, M), by simp only [B_X0_run_30, w4, if_pos le], f1, f2⟩
/-- the other nodes -/
theorem c_run61 {Mr M0 : zM} {n N I S T V t : Nat} {sn : Nat → Nat} {F : Nat → Nat → Nat → Nat → Bool} (hn : 100 ≤ n) (hok : zOk Mr N I S T V sn) (cx : zCx Mr M0 N S sn F) (ht : t < 16) (x3 : Int32) (h3 : ∀ s, s < S → zHv Mr M0 (sn s) (fun L => bl Mr (F L) t (sn s))) :
    ∃ r : Int32 × zM, zwl (fun q => B_X0_run_61 n x3 (nI t) q.1 q.2) n ((0 : Int32), M0) = some r ∧ (zL3 M0 r.2 ∧ ∀ k, k < N → zHv Mr r.2 k (fun L => bl Mr (F L) t k)) := by
  obtain ⟨⟨⟨b1, b2, b3, b4, b5, b6⟩, q0, q1, q2, q3, q4⟩, hnd, hbits, hst, hsh⟩ := id hok
  obtain ⟨⟨d2, d4, m10, m11, m12, m13, m15, m16, m17, m18, m00⟩, cw, cf⟩ := id cx
  refine zwl_for (fun i st => st.1 = nI i ∧ zL3 M0 st.2 ∧ ∀ k, k < N → (Mr.1 10 k = 5 ∨ k < i) → zHv Mr st.2 k (fun L => bl Mr (F L) t k)) _ N n _ (by omega) ⟨rfl, zL3.rf _, fun k hk h => ?_⟩ ?_ ?_
  · rcases h with h | h
    · obtain ⟨s, hs, -, rfl⟩ := hst.2 k hk h
      exact h3 s hs
    · omega
  · rintro i ⟨x, M⟩ hi ⟨e1, f1, f2⟩
    dsimp only at e1 f1 f2
    subst e1
    have ge : ¬ nI N ≤ nI i := nI_ge hi (by omega)
    have s1' : ∀ (α : Type) (q : Option α), zchk (nI i) 24 q = q := fun α q => zchk_n (by omega)
    have s3 : (nI i).toNatClampNeg = i := cl_n
    have w2 : M.1 2 0 = nI N := by rw [f1.1]; exact d2
    by_cases c5 : Mr.1 10 i = 5
    · have w10 : M.1 10 i = 5 := by rw [f1.1, m10]; exact c5
      refine ⟨_, by simp only [B_X0_run_61, K_X0_run_99, w2, if_neg ge, s1', s3, if_pos w10, zlt_e]; rfl, nI_1 i, f1, fun k hk h => ?_⟩
      refine f2 k hk ?_
      by_cases e : k = i
      · subst e; exact Or.inl c5
      · exact h.imp id (fun h => by omega)
    · have w10 : ¬ M.1 10 i = 5 := by rw [f1.1, m10]; exact c5
      have cxM : zCx Mr M N S sn F := cx.keep f1.1 (f1.2 2 (by decide))
      obtain ⟨M1, w, y1, y2, y3, y4, y5⟩ := c_workOut (Z := fun L => ss Mr (F L) t) hn hok cxM hi ht c5 (fun q hq => f2 q (by omega) (Or.inr hq))
      obtain ⟨M2, g1, g2, g3, g4⟩ := c_settle (Mr := Mr) (M := M1) hn (show i < 24 by omega) ht y4 (f := fun L => F L t i) (fun c hc L hL => by rw [y2.2 2 (by decide)]; exact cxM.2.2 t ht i hi c hc L hL)
      refine ⟨_, by simp only [B_X0_run_61, K_X0_run_99, w2, if_neg ge, s1', s3, if_neg w10, y1, zbind_some, g1, zlt_e]; rfl, nI_1 i, (f1.tr y2).tr g2, fun k hk h => ?_⟩
      by_cases e : k = i
      · subst e
        have e2 : (fun L => bl Mr (F L) t k) = fun L c => w L c ^^ F L t k c := funext fun L => funext fun c => (y5 L c).symm
        rw [e2]; exact g4
      · exact (f2 k hk (h.imp id (fun h => by omega))).keep (fun c hc => by
          show M2.2 3 _ = _
          rw [g3 _ (by omega), y3 _ (by omega)])
  · rintro ⟨x, M⟩ ⟨e1, f1, f2⟩
    dsimp only at e1 f1 f2
    subst e1
    have le : nI N ≤ nI N := nI_le (Nat.le_refl _) (by omega)
    have w2 : M.1 2 0 = nI N := by rw [f1.1]; exact d2
    exact ⟨(nI N, M), by simp only [B_X0_run_61, w2, if_pos le], f1, fun k hk => f2 k hk (Or.inr hk)⟩
/-- sixty-four runs at once -/
theorem c_run {Mr M0 : zM} {n N I S T V : Nat} {sn : Nat → Nat} {F : Nat → Nat → Nat → Nat → Bool} (hn : 100 ≤ n) (hok : zOk Mr N I S T V sn) (cx : zCx Mr M0 N S sn F) :
    ∃ M', pX0_run n (nI T) M0 = some M' ∧ M'.1 = M0.1 ∧ M'.2 2 = M0.2 2 ∧ ∀ L, L < 64 → ln (M'.2 0 0) L = SN Mr (F L) N T ∧ ln (M'.2 1 0) L = LG Mr (F L) N T := by
  obtain ⟨⟨⟨b1, b2, b3, b4, b5, b6⟩, q0, q1, q2, q3, q4⟩, hnd, hbits, hst, hsh⟩ := id hok
  unfold pX0_run
  rw [zst_e, zst_e, p_fillL (show 96 < n by omega) (by omega), zbind_some, zlt_e]
  generalize hMa : zcL (zsL (zsL M0 0 0 0) 1 0 0) 3 (fun i => if i < 96 then 0 else (zsL (zsL M0 0 0 0) 1 0 0).2 3 i) = Ma
  have a1 : Ma.1 = M0.1 := by subst hMa; rfl
  have a2 : Ma.2 2 = M0.2 2 := by subst hMa; rfl
  have a3 : ∀ q, q < 96 → Ma.2 3 q = 0 := fun q hq => by subst hMa; show (if q < 96 then (0 : Int64) else _) = 0; rw [if_pos hq]
  have a4 : Ma.2 0 0 = 0 := by subst hMa; rfl
  have a5 : Ma.2 1 0 = 0 := by subst hMa; rfl
  obtain ⟨⟨z1, Mb⟩, o1, o2, o3, o4, o5, o6⟩ := zwl_for (b := fun q => B_X0_run_21 n (nI T) q.1 q.2) (fun t st => st.1 = nI t ∧ st.2.1 = M0.1 ∧ st.2.2 2 = M0.2 2 ∧ st.2.2 1 0 = 0 ∧ (∀ L, L < 64 → ln (st.2.2 0 0) L = ex t (fun t => ex N (s1 Mr (F L) t))) ∧ ∀ s, s < S → zH3 Mr st.2 (sn s) (fun L => ss Mr (F L) t (sn s))) (fun r => r.2.1 = M0.1 ∧ r.2.2 2 = M0.2 2 ∧ r.2.2 1 0 = 0 ∧ (∀ L, L < 64 → ln (r.2.2 0 0) L = SN Mr (F L) N T) ∧ ∀ s, s < S → zH3 Mr r.2 (sn s) (fun L => ss Mr (F L) T (sn s))) T n ((0 : Int32), Ma) (by omega) ⟨rfl, a1, a2, a5, fun L hL => by show ln (Ma.2 0 0) L = _; rw [a4, ln_0]; rfl, fun s hs c hc L hL => by
      have := (hst.1 s hs).1
      show ln (Ma.2 3 _) L = _
      rw [a3 _ (by omega), ln_0]; rfl⟩
    (by
      rintro t ⟨x, M⟩ ht ⟨e1, f1, f2, f3, f4, f5⟩
      dsimp only at e1 f1 f2 f3 f4 f5
      subst e1
      have ge : ¬ nI T ≤ nI t := nI_ge ht (by omega)
      have cxM : zCx Mr M N S sn F := cx.keep f1 f2
      obtain ⟨⟨z1, M1⟩, y1, y2, y3⟩ := c_run30 hn hok cxM (show t < 16 by omega) (nI T) f5
      dsimp only at y2 y3
      have cx1 : zCx Mr M1 N S sn F := cxM.keep y2.1 (y2.2 2 (by decide))
      obtain ⟨⟨z2, M2⟩, g1, g2, g3⟩ := c_run61 hn hok cx1 (show t < 16 by omega) (nI T) y3
      dsimp only at g2 g3
      have cx2 : zCx Mr M2 N S sn F := cx1.keep g2.1 (g2.2 2 (by decide))
      obtain ⟨M3, k1, k2, k3, k4⟩ := c_look (A := fun L => ex t (fun t => ex N (s1 Mr (F L) t))) hn hok cx2 (show t < 16 by omega) g3 (fun L hL => by rw [g2.2 0 (by decide), y2.2 0 (by decide)]; exact f4 L hL)
      have cx3 : zCx Mr M3 N S sn F := cx2.keep k2 (k3 2 (by decide))
      obtain ⟨M4, j1, j2, j3, j4⟩ := c_feed (W := fun L => bl Mr (F L) t) hn hok cx3.1 (fun q hq => (g3 q hq).keep (fun c _ => by rw [k3 3 (by decide)]))
      refine ⟨_, by simp only [B_X0_run_21, if_neg ge, zlt_e, y1, zb2_some, g1, k1, zbind_some, j1]; rfl, nI_1 t, ?_, ?_, ?_, ?_, j4⟩
      · exact j2.trans (k2.trans (g2.1.trans (y2.1.trans f1)))
      · exact (j3 2 (by decide) (by decide)).trans ((k3 2 (by decide)).trans ((g2.2 2 (by decide)).trans ((y2.2 2 (by decide)).trans f2)))
      · show M4.2 1 0 = 0
        rw [j3 1 (by decide) (by decide), k3 1 (by decide), g2.2 1 (by decide), y2.2 1 (by decide)]; exact f3
      · intro L hL
        show ln (M4.2 0 0) L = _
        rw [j3 0 (by decide) (by decide), k4 L hL]; rfl)
    (by
      rintro ⟨x, M⟩ ⟨e1, f1, f2, f3, f4, f5⟩
      dsimp only at e1 f1 f2 f3 f4 f5
      subst e1
      have le : nI T ≤ nI T := nI_le (Nat.le_refl _) (by omega)
      exact ⟨(nI T, M), by simp only [B_X0_run_21, if_pos le], f1, f2, f3, f4, f5⟩)
  dsimp only at o2 o3 o4 o5 o6
  obtain ⟨Mc, u1, u2, u3, u4⟩ := c_lookS hn hok (cx.keep o2 o3) o4 o6
  refine ⟨Mc, by rw [o1, zb2_some, u1]; rfl, u2.trans o2, (u3 2 (by decide)).trans o3, fun L hL => ⟨?_, u4 L hL⟩⟩
  rw [u3 0 (by decide)]; exact o5 L hL
