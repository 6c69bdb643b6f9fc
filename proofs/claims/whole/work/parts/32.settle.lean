def cc (M : zM) (k c : Nat) : Nat := if M.1 14 k = 0 then 0 else c
theorem cc_0 {M : zM} {k c : Nat} (h : M.1 14 k = 0) : cc M k c = 0 := if_pos h
theorem cc_n {M : zM} {k c : Nat} (h : ¬ M.1 14 k = 0) : cc M k c = c := if_neg h
theorem tl_cc (M : zM) (k : Nat) (w : Nat → Bool) : mj (w (cc M k 0)) (w (cc M k 1)) (w (cc M k 2)) = tl M k w := by
  unfold tl
  by_cases h : M.1 14 k = 0
  · rw [cc_0 h, cc_0 h, cc_0 h, if_pos h, mj_same]
  · rw [cc_n h, cc_n h, cc_n h, if_neg h]
/-- a node's places hold w, lane by lane -/
def zH3 (Mr M : zM) (k : Nat) (w : Nat → Nat → Bool) : Prop := ∀ c, c < 3 → ∀ L, L < 64 → ln (M.2 3 (k * 4 + c)) L = w L (cc Mr k c)
def zHv (Mr M : zM) (k : Nat) (w : Nat → Nat → Bool) : Prop := zH3 Mr M k w ∧ ∀ L, L < 64 → ln (M.2 3 (k * 4 + 3)) L = tl Mr k (w L)
theorem zH3.keep {Mr M M' : zM} {k : Nat} {w : Nat → Nat → Bool} (h : zH3 Mr M k w) (e : ∀ c, c < 4 → M'.2 3 (k * 4 + c) = M.2 3 (k * 4 + c)) : zH3 Mr M' k w := fun c hc L hL => by rw [e c (by omega)]; exact h c hc L hL
theorem zHv.keep {Mr M M' : zM} {k : Nat} {w : Nat → Nat → Bool} (h : zHv Mr M k w) (e : ∀ c, c < 4 → M'.2 3 (k * 4 + c) = M.2 3 (k * 4 + c)) : zHv Mr M' k w := ⟨h.1.keep e, fun L hL => by rw [e 3 (by omega)]; exact h.2 L hL⟩
def frm (M : zM) (k c : Nat) : Nat := if M.1 14 k = 0 then 3 else c
theorem c_read {Mr M : zM} {k a c L : Nat} {w : Nat → Nat → Bool} (h : zHv Mr M a w) (hc : c < 3) (hL : L < 64) : ln (M.2 3 (a * 4 + frm Mr k c)) L = tkv Mr k a (w L) (cc Mr k c) := by
  unfold frm tkv
  by_cases c1 : Mr.1 14 k = 0
  · rw [if_pos c1, h.2 L hL]
    unfold tl
    by_cases c2 : Mr.1 14 a = 0
    · rw [if_pos c2, if_pos c2]
    · rw [if_neg c2, if_neg c2, if_pos c1]
  · rw [if_neg c1, h.1 c hc L hL]
    by_cases c2 : Mr.1 14 a = 0
    · rw [if_pos c2, cc_0 c2]
    · rw [if_neg c2, if_neg c1, cc_n c1, cc_n c2]
theorem zm4 (k : Nat) : nI k * (4 : Int32) = nI (k * 4) := by rw [show (4 : Int32) = nI 4 from rfl, pk_mul]
theorem zm3 (k : Nat) : nI k * (3 : Int32) = nI (k * 3) := by rw [show (3 : Int32) = nI 3 from rfl, pk_mul]
theorem zfl (t k : Nat) : (nI t * (24 : Int32) + nI k) * (3 : Int32) = nI ((t * 24 + k) * 3) := by rw [show (24 : Int32) = nI 24 from rfl, pk_mul, nI_add, zm3]
theorem zad (a b : Nat) : nI a + nI b = nI (a + b) := nI_add a b
theorem zad1 (a : Nat) : nI a + (1 : Int32) = nI (a + 1) := nI_1 a
theorem zad2 (a : Nat) : nI a + (2 : Int32) = nI (a + 2) := nI_add a 2
theorem zad3 (a : Nat) : nI a + (3 : Int32) = nI (a + 3) := nI_add a 3
/-- what only rows of longs have changed -/
def zL3 (M M' : zM) : Prop := M'.1 = M.1 ∧ ∀ v, ¬ v = 3 → M'.2 v = M.2 v
theorem zL3.rf (M : zM) : zL3 M M := ⟨rfl, fun _ _ => rfl⟩
theorem zL3.tr {a b c : zM} (h : zL3 a b) (g : zL3 b c) : zL3 a c := ⟨g.1.trans h.1, fun v hv => (g.2 v hv).trans (h.2 v hv)⟩
theorem c_settle1 {M0 : zM} {n k t : Nat} (hn : 100 ≤ n) (hk : k < 24) (ht : t < 16) (x1 x2 : Int32) :
    ∃ r : Int32 × zM, zwl (fun q => B_X0_settle_17 n x1 x2 (nI (k * 4)) (nI ((t * 24 + k) * 3)) q.1 q.2) n ((0 : Int32), M0) = some r ∧ (zL3 M0 r.2 ∧ (∀ q, q < k * 4 ∨ k * 4 + 3 ≤ q → r.2.2 3 q = M0.2 3 q) ∧ ∀ c, c < 3 → r.2.2 3 (k * 4 + c) = M0.2 3 (k * 4 + c) ^^^ M0.2 2 ((t * 24 + k) * 3 + c)) := by
  refine zwl_for (fun i s => s.1 = nI i ∧ zL3 M0 s.2 ∧ (∀ q, q < k * 4 ∨ k * 4 + 3 ≤ q → s.2.2 3 q = M0.2 3 q) ∧ ∀ c, c < 3 → s.2.2 3 (k * 4 + c) = if c < i then M0.2 3 (k * 4 + c) ^^^ M0.2 2 ((t * 24 + k) * 3 + c) else M0.2 3 (k * 4 + c)) _ 3 n _ (by omega) ⟨rfl, zL3.rf M0, fun _ _ => rfl, fun c hc => by rw [if_neg (by omega)]⟩ ?_ ?_
  · rintro i ⟨x, M⟩ hi ⟨e1, f1, f2, f3⟩
    dsimp only at e1 f1 f2 f3
    subst e1
    have ge : ¬ (3 : Int32) ≤ nI i := nI_ge (a := i) (b := 3) hi (by decide)
    have k4 : ∀ (α : Type) (q : Option α), zchk (nI (k * 4 + i)) 96 q = q := fun α q => zchk_n (by omega)
    have k5 : (nI (k * 4 + i)).toNatClampNeg = k * 4 + i := cl_n (by omega)
    have k6 : ∀ (α : Type) (q : Option α), zchk (nI ((t * 24 + k) * 3 + i)) 1152 q = q := fun α q => zchk_n (by omega)
    have k7 : (nI ((t * 24 + k) * 3 + i)).toNatClampNeg = (t * 24 + k) * 3 + i := cl_n (by omega)
    refine ⟨_, by simp only [B_X0_settle_17, if_neg ge, zad, k4, k5, k6, k7, zst_e, zlt_e]; rfl, nI_1 i, ⟨f1.1, fun v hv => ?_⟩, fun q hq => ?_, fun c hc => ?_⟩
    · show (zsL M 3 _ _).2 v = _
      rw [zsL_2, if_neg hv]; exact f1.2 v hv
    · show vp_updL (M.2 3) _ _ q = _
      rw [updL_ap, if_neg (by omega)]; exact f2 q hq
    · show vp_updL (M.2 3) _ _ (k * 4 + c) = _
      rw [updL_ap]
      by_cases e : c = i
      · subst e; rw [if_pos rfl, if_pos (by omega), f3 c hc, if_neg (by omega), f1.2 2 (by decide)]
      · rw [if_neg (by omega), f3 c hc]
        by_cases l : c < i
        · rw [if_pos l, if_pos (by omega)]
        · rw [if_neg l, if_neg (by omega)]
  · rintro ⟨x, M⟩ ⟨e1, f1, f2, f3⟩
    dsimp only at e1 f1 f2 f3
    subst e1
    have le : (3 : Int32) ≤ nI 3 := by decide
    refine ⟨_, by simp only [B_X0_settle_17, if_pos le]; rfl, f1, f2, fun c hc => ?_⟩
    show M.2 3 _ = _
    rw [f3 c hc, if_pos hc]
theorem ln_mj (x y z : Int64) (L : Nat) : ln (x &&& y ||| x &&& z ||| y &&& z) L = mj (ln x L) (ln y L) (ln z L) := by
  rw [ln_or, ln_or, ln_and, ln_and, ln_and]; rfl
/-- a tick's flips are laid on a node's copies -/
theorem c_settle {Mr M : zM} {n k t : Nat} (hn : 100 ≤ n) (hk : k < 24) (ht : t < 16) {w f : Nat → Nat → Bool} (h : zH3 Mr M k w) (hf : ∀ c, c < 3 → ∀ L, L < 64 → ln (M.2 2 ((t * 24 + k) * 3 + c)) L = f L (cc Mr k c)) :
    ∃ M', pX0_settle n (nI k) (nI t) M = some M' ∧ zL3 M M' ∧ (∀ q, q < k * 4 ∨ k * 4 + 4 ≤ q → M'.2 3 q = M.2 3 q) ∧ zHv Mr M' k (fun L c => w L c ^^ f L c) := by
  obtain ⟨⟨z1, M1⟩, w1, w2, w3, w4⟩ := c_settle1 (M0 := M) hn hk ht (nI k) (nI t)
  dsimp only at w2 w3 w4
  unfold pX0_settle
  rw [zm4, zfl]
  simp only [zlt_e, w1, zb2_some, zad1, zad2, zad3]
  rw [zchk_n (show k * 4 < 96 by omega), zchk_n (show k * 4 + 1 < 96 by omega), zchk_n (show k * 4 + 2 < 96 by omega), zchk_n (show k * 4 + 3 < 96 by omega), cl_n (show k * 4 < 2147483648 by omega), cl_n (show k * 4 + 1 < 2147483648 by omega), cl_n (show k * 4 + 2 < 2147483648 by omega), cl_n (show k * 4 + 3 < 2147483648 by omega), zst_e]
  have l3 : ∀ c, c < 3 → ∀ L, L < 64 → ln (M1.2 3 (k * 4 + c)) L = (w L (cc Mr k c) ^^ f L (cc Mr k c)) := fun c hc L hL => by
    rw [w4 c hc, ln_xor, h c hc L hL, hf c hc L hL]
  have l0 := l3 0 (by omega)
  rw [Nat.add_zero] at l0
  have e3 : ∀ (x : Int64) q, (zsL M1 3 (k * 4 + 3) x).2 3 q = if q = k * 4 + 3 then x else M1.2 3 q := fun x q => updL_ap _ _ _ _
  refine ⟨_, rfl, ⟨w2.1, fun v hv => ?_⟩, fun q hq => ?_, fun c hc L hL => ?_, fun L hL => ?_⟩
  · rw [zsL_2, if_neg hv]; exact w2.2 v hv
  · rw [e3, if_neg (by omega)]; exact w3 q (by omega)
  · rw [e3, if_neg (by omega)]; exact l3 c hc L hL
  · rw [e3, if_pos rfl, ln_mj, l0 L hL, l3 1 (by omega) L hL, l3 2 (by omega) L hL, ← tl_cc]
/-- the class's memory beside the reference's, as a run begins: its words are the plain net's, its flips are F's -/
def zCx (Mr M : zM) (N S : Nat) (sn : Nat → Nat) (F : Nat → Nat → Nat → Nat → Bool) : Prop := zTie Mr M N S sn ∧ (∀ t, t < 17 → ∀ k, k < N → bt (M.1 22 t) k = pl Mr t k) ∧ ∀ t, t < 16 → ∀ k, k < N → ∀ c, c < 3 → ∀ L, L < 64 → ln (M.2 2 ((t * 24 + k) * 3 + c)) L = F L t k (cc Mr k c)
theorem zCx.keep {Mr M M' : zM} {N S : Nat} {sn : Nat → Nat} {F : Nat → Nat → Nat → Nat → Bool} (h : zCx Mr M N S sn F) (e1 : M'.1 = M.1) (e2 : M'.2 2 = M.2 2) : zCx Mr M' N S sn F := by
  unfold zCx at *
  rw [e2]
  unfold zTie at *
  rw [e1]
  exact h
/-- a node's copies are worked out -/
theorem c_workOut {Mr M0 : zM} {n N I S T V k t : Nat} {sn : Nat → Nat} {F : Nat → Nat → Nat → Nat → Bool} (hn : 100 ≤ n) (hok : zOk Mr N I S T V sn) (cx : zCx Mr M0 N S sn F) (hk : k < N) (ht : t < 16) (n5 : ¬ Mr.1 10 k = 5) {Z : Nat → Nat → Nat → Bool}
    (hv : ∀ q, q < k → zHv Mr M0 q (fun L => gv Mr t (Z L) (F L t) q)) :
    ∃ M' w, pX0_workOut n (nI k) (nI t) M0 = some M' ∧ zL3 M0 M' ∧ (∀ q, q < k * 4 ∨ k * 4 + 3 ≤ q → M'.2 3 q = M0.2 3 q) ∧ zH3 Mr M' k w ∧ ∀ L c, (w L c ^^ F L t k c) = gv Mr t (Z L) (F L t) k c := by
  obtain ⟨⟨⟨b1, b2, b3, b4, b5, b6⟩, q0, q1, q2, q3, q4⟩, hnd, hbits, hst, hsh⟩ := id hok
  obtain ⟨⟨d2, d4, m10, m11, m12, m13, m15, m16, m17, m18, m00⟩, cw, cf⟩ := id cx
  have k1 : ∀ (α : Type) (q : Option α), zchk (nI k) 24 q = q := fun α q => zchk_n (by omega)
  have k3 : (nI k).toNatClampNeg = k := cl_n
  -- what the loop leaves, if each step lays the right word
  have loop : ∀ w : Nat → Nat → Bool, (∀ (M : zM) (i : Nat), i < 3 → zL3 M0 M → (∀ q, q < k * 4 ∨ k * 4 + 3 ≤ q → M.2 3 q = M0.2 3 q) → ∃ x, B_X0_workOut_3 n (nI k) (nI t) (nI i) M = some (.inl (nI (i + 1), zsL M 3 (k * 4 + i) x)) ∧ ∀ L, L < 64 → ln x L = w L (cc Mr k i)) →
      ∃ M', pX0_workOut n (nI k) (nI t) M0 = some M' ∧ zL3 M0 M' ∧ (∀ q, q < k * 4 ∨ k * 4 + 3 ≤ q → M'.2 3 q = M0.2 3 q) ∧ zH3 Mr M' k w := fun w hw => by
    obtain ⟨⟨z1, M1⟩, u1, u2, u3, u4⟩ := zwl_for (b := fun q => B_X0_workOut_3 n (nI k) (nI t) q.1 q.2) (fun i s => s.1 = nI i ∧ zL3 M0 s.2 ∧ (∀ q, q < k * 4 ∨ k * 4 + 3 ≤ q → s.2.2 3 q = M0.2 3 q) ∧ ∀ c, c < i → ∀ L, L < 64 → ln (s.2.2 3 (k * 4 + c)) L = w L (cc Mr k c)) (fun r => zL3 M0 r.2 ∧ (∀ q, q < k * 4 ∨ k * 4 + 3 ≤ q → r.2.2 3 q = M0.2 3 q) ∧ zH3 Mr r.2 k w) 3 n ((0 : Int32), M0) (by omega) ⟨rfl, zL3.rf _, fun _ _ => rfl, fun c hc => by omega⟩
      (by
        rintro i ⟨x, M⟩ hi ⟨e1, f1, f2, f3⟩
        dsimp only at e1 f1 f2 f3
        subst e1
        obtain ⟨x, x1, x2⟩ := hw M i hi f1 f2
        refine ⟨_, x1, rfl, ⟨f1.1, fun v hv => ?_⟩, fun q hq => ?_, fun c hc L hL => ?_⟩
        · show (zsL M 3 _ _).2 v = _
          rw [zsL_2, if_neg hv]; exact f1.2 v hv
        · show vp_updL (M.2 3) _ _ q = _
          rw [updL_ap, if_neg (by omega)]; exact f2 q hq
        · show ln (vp_updL (M.2 3) _ _ (k * 4 + c)) L = _
          rw [updL_ap]
          by_cases e : c = i
          · subst e; rw [if_pos rfl]; exact x2 L hL
          · rw [if_neg (by omega)]; exact f3 c (by omega) L hL)
      (by
        rintro ⟨x, M⟩ ⟨e1, f1, f2, f3⟩
        dsimp only at e1 f1 f2 f3
        subst e1
        have le : (3 : Int32) ≤ nI 3 := by decide
        exact ⟨(nI 3, M), by simp only [B_X0_workOut_3, if_pos le], f1, f2, f3⟩)
    exact ⟨M1, by simp only [pX0_workOut, zlt_e, u1, zb2_some], u2, u3, u4⟩
  by_cases c0 : Mr.1 10 k = 0
  · obtain ⟨M', u1, u2, u3, u4⟩ := loop (fun _ _ => gI Mr t k) (fun M i hi f1 f2 => by
      have ge : ¬ (3 : Int32) ≤ nI i := nI_ge (a := i) (b := 3) hi (by decide)
      have k4 : ∀ (α : Type) (q : Option α), zchk (nI (k * 4 + i)) 96 q = q := fun α q => zchk_n (by omega)
      have k5 : (nI (k * 4 + i)).toNatClampNeg = k * 4 + i := cl_n (by omega)
      have w10 : M.1 10 k = 0 := by rw [f1.1, m10]; exact c0
      have wd := c_wide (M := M) (k := k) (t := t) (by omega) (by omega)
      rw [f1.1, cw t (by omega) k hk, pl_in c0] at wd
      exact ⟨_, by simp only [B_X0_workOut_3, K_X0_workOut_130, if_neg ge, zm4, zad, zlt_e, k1, k3, if_pos w10, wd, zbind_some, k4, k5, zst_e, zad1], fun L hL => ln_wide _ hL⟩)
    exact ⟨M', _, u1, u2, u3, u4, fun L c => (gv_in c0).symm⟩
  · obtain ⟨ha, h11, hb⟩ := (hnd k hk).gate b1 hk c0 n5
    obtain ⟨M', u1, u2, u3, u4⟩ := loop (fun L c => gG (Mr.1 10 k) (tkv Mr k (ga Mr k) (gv Mr t (Z L) (F L t) (ga Mr k)) c) (if Mr.1 12 k = -1 then false else tkv Mr k (gb Mr k) (gv Mr t (Z L) (F L t) (gb Mr k)) c)) (fun M i hi f1 f2 => by
      have ge : ¬ (3 : Int32) ≤ nI i := nI_ge (a := i) (b := 3) hi (by decide)
      have k4 : ∀ (α : Type) (q : Option α), zchk (nI (k * 4 + i)) 96 q = q := fun α q => zchk_n (by omega)
      have k5 : (nI (k * 4 + i)).toNatClampNeg = k * 4 + i := cl_n (by omega)
      have w10 : ¬ M.1 10 k = 0 := by rw [f1.1, m10]; exact c0
      have w11 : M.1 11 k = nI (ga Mr k) := by rw [f1.1, m11]; exact h11
      have hva := (hv _ ha).keep (M' := M) (fun c hc => f2 _ (by omega))
      have fl : frm Mr k i < 4 := by unfold frm; by_cases c : Mr.1 14 k = 0 <;> simp [c]; omega
      have k6 : ∀ (α : Type) (q : Option α), zchk (nI (ga Mr k * 4 + frm Mr k i)) 96 q = q := fun α q => zchk_n (by omega)
      have k7 : (nI (ga Mr k * 4 + frm Mr k i)).toNatClampNeg = ga Mr k * 4 + frm Mr k i := cl_n (by omega)
      have st : B_X0_workOut_3 n (nI k) (nI t) (nI i) M = K_X0_workOut_58 n (nI k) (nI t) (nI i) (nI (k * 4 + i)) (nI (frm Mr k i)) M := by
        simp only [B_X0_workOut_3, if_neg ge, zm4, zad, zlt_e, k1, k3, if_neg w10]
        unfold frm
        by_cases c14 : Mr.1 14 k = 0
        · have w14 : M.1 16 k = 0 := by rw [f1.1, m16]; exact c14
          rw [if_pos w14, if_pos c14]; rfl
        · have w14 : ¬ M.1 16 k = 0 := by rw [f1.1, m16]; exact c14
          rw [if_neg w14, if_neg c14]
      rcases hb with ⟨h1, h12⟩ | ⟨h1, h12, hb, h12'⟩
      · have w12 : M.1 12 k = -1 := by rw [f1.1, m12]; exact h12
        obtain ⟨g, g1, g2⟩ := c_gateL (M.1 10 k) (M.2 3 (ga Mr k * 4 + frm Mr k i)) 0 M
        refine ⟨g, ?_, fun L hL => ?_⟩
        · rw [st]
          simp only [K_X0_workOut_58, K_X0_workOut_108, K_X0_workOut_130, zlt_e, k1, k3, w11, zm4, zad, k6, k7, if_pos w12, g1, zbind_some, k4, k5, zst_e, zad1]
        · rw [g2 L hL, c_read hva hi hL, ln_0, f1.1, m10, if_pos h12]
      · have w12 : M.1 12 k = nI (gb Mr k) := by rw [f1.1, m12]; exact h12'
        have w12n : ¬ nI (gb Mr k) = -1 := nI_ne_m1 (by omega)
        have hvb := (hv _ hb).keep (M' := M) (fun c hc => f2 _ (by omega))
        have k8 : ∀ (α : Type) (q : Option α), zchk (nI (gb Mr k * 4 + frm Mr k i)) 96 q = q := fun α q => zchk_n (by omega)
        have k9 : (nI (gb Mr k * 4 + frm Mr k i)).toNatClampNeg = gb Mr k * 4 + frm Mr k i := cl_n (by omega)
        obtain ⟨g, g1, g2⟩ := c_gateL (M.1 10 k) (M.2 3 (ga Mr k * 4 + frm Mr k i)) (M.2 3 (gb Mr k * 4 + frm Mr k i)) M
        refine ⟨g, ?_, fun L hL => ?_⟩
        · rw [st]
          simp only [K_X0_workOut_58, K_X0_workOut_108, K_X0_workOut_130, zlt_e, k1, k3, w11, w12, zm4, zad, k6, k7, if_neg w12n, k8, k9, g1, zbind_some, k4, k5, zst_e, zad1]
        · rw [g2 L hL, c_read hva hi hL, c_read hvb hi hL, f1.1, m10, if_neg h12])
    refine ⟨M', _, u1, u2, u3, u4, fun L c => ?_⟩
    rw [gv_g c0 n5 ha (hb.imp (fun h => h.2) (fun h => h.2.2.1))]
