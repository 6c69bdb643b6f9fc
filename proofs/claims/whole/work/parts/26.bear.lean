theorem zwl_from {σ ρ : Type} {b : σ → Option (σ ⊕ ρ)} (I : Nat → σ → Prop) (Post : ρ → Prop) (u e n : Nat) (s : σ) (hu : u ≤ e) (hn : e < n) (h0 : I u s)
    (hs : ∀ (i : Nat) (s : σ), u ≤ i → i < e → I i s → ∃ s', b s = some (.inl s') ∧ I (i + 1) s') (he : ∀ s : σ, I e s → ∃ r, b s = some (.inr r) ∧ Post r) : ∃ r, zwl b n s = some r ∧ Post r := by
  refine zwl_rule (fun i s => u ≤ i ∧ I i s) Post e (fun i s hi hI => ?_) (e - u) u n s rfl (by omega) hu ⟨Nat.le_refl _, h0⟩
  by_cases h : i < e
  · obtain ⟨s', h1, h2⟩ := hs i s hI.1 h hI.2
    exact Or.inl ⟨s', h1, h, by omega, h2⟩
  · have : i = e := by omega
    subst this
    exact Or.inr (he s hI.2)
theorem zwl_one {σ ρ : Type} {b : σ → Option (σ ⊕ ρ)} {n : Nat} {s : σ} {r : ρ} (hn : 0 < n) (h : b s = some (.inr r)) : zwl b n s = some r := by
  cases n with
  | zero => omega
  | succ m => unfold zwl; rw [h]
/-- how many copies -/
def cp (M : zM) (k : Nat) : Nat := if M.1 14 k = 0 then 1 else 3
theorem cp_le (M : zM) (k : Nat) : cp M k ≤ 3 := by unfold cp; by_cases h : M.1 14 k = 0 <;> simp [h]
theorem cp_pos (M : zM) (k : Nat) : 0 < cp M k := by unfold cp; by_cases h : M.1 14 k = 0 <;> simp [h]
theorem cp_3 {M : zM} {k : Nat} (h : ¬ M.1 14 k = 0) : cp M k = 3 := if_neg h
theorem cp_1 {M : zM} {k : Nat} (h : M.1 14 k = 0) : cp M k = 1 := if_pos h
theorem r_cp {Mr M : zM} {k : Nat} (h : M.1 14 = Mr.1 14) (hk : k < 24) : pX6_copiesOf (nI k) M = some (nI (cp Mr k)) := by
  rw [r_copies hk, h]
  by_cases c : Mr.1 14 k = 0
  · rw [if_pos c, cp_1 c]; rfl
  · rw [if_neg c, cp_3 c]; rfl
theorem e3 (q : Nat) : (3 : Int32) * nI q = nI (3 * q) := by rw [show (3 : Int32) = nI 3 from rfl, pk_mul]
theorem e3c (q c : Nat) : nI (3 * q) + nI c = nI (3 * q + c) := nI_add _ _
theorem r_majority {M : zM} {q : Nat} (hq : q < 24) {v : Nat → Bool} (h : ∀ c, c < 3 → M.1 19 (3 * q + c) = zb (v c)) : pX6_majority (nI q) M = some (zb (mj (v 0) (v 1) (v 2))) := by
  unfold pX6_majority
  have h0 := h 0 (by omega)
  rw [Nat.add_zero] at h0
  rw [e3, nI_1, show (2 : Int32) = nI 2 from rfl, e3c, zchk_n (show 3 * q < 72 by omega), zchk_n (show 3 * q + 1 < 72 by omega), zchk_n (show 3 * q + 2 < 72 by omega), cl_n (show 3 * q < 2147483648 by omega), cl_n (show 3 * q + 1 < 2147483648 by omega), cl_n (show 3 * q + 2 < 2147483648 by omega), h0, h 1 (by omega), h 2 (by omega), ← zb_mj]
  by_cases c : zb (v 0) + zb (v 1) + zb (v 2) ≤ 1
  · rw [if_pos c, if_pos c]
  · rw [if_neg c, if_neg c]
theorem r_takes {Mr M : zM} {j q c : Nat} (h14 : M.1 14 = Mr.1 14) (hj : j < 24) (hq : q < 24) (hc : c < cp Mr j) {v : Nat → Bool} (h : ∀ c, c < cp Mr q → M.1 19 (3 * q + c) = zb (v c)) : pX6_takes (nI j) (nI c) (nI q) M = some (zb (tkv Mr j q v c)) := by
  unfold pX6_takes tkv
  have hc3 := cp_le Mr j
  rw [if_neg (nI_ne_m1 (by omega)), zchk_n hq, cl_n (show q < 2147483648 by omega), zchk_n hj, cl_n (show j < 2147483648 by omega), h14]
  by_cases c1 : Mr.1 14 q = 0
  · have h0 := h 0 (cp_pos _ _)
    rw [Nat.add_zero] at h0
    rw [if_pos c1, if_pos c1, e3, zchk_n (show 3 * q < 72 by omega), cl_n (show 3 * q < 2147483648 by omega), h0]
  · have h' : ∀ c, c < 3 → M.1 19 (3 * q + c) = zb (v c) := fun c hc => h c (by rw [cp_3 c1]; exact hc)
    rw [if_neg c1, if_neg c1]
    by_cases c2 : Mr.1 14 j = 0
    · rw [if_pos c2, if_pos c2, r_majority hq h']; rfl
    · rw [if_neg c2, if_neg c2, e3, e3c, zchk_n (show 3 * q + c < 72 by omega), cl_n (show 3 * q + c < 2147483648 by omega), h' c (by omega)]
/-- which flips the reference's row tells -/
def FA (f : Nat → Int32) (t k c : Nat) : Bool := (decide (f 0 = nI t) && decide (f 1 = nI k) && decide (f 2 = nI c)) || (decide (f 3 = nI t) && decide (f 4 = nI k) && decide (f 5 = nI c))
theorem r_flipAt (M : zM) (t k c : Nat) : pX6_flipAt (nI t) (nI k) (nI c) M = some (zb (FA (M.1 21) t k c)) := by
  unfold pX6_flipAt FA K_X6_flipAt_34 K_X6_flipAt_35 K_X6_flipAt_71 K_X6_flipAt_72 K_X6_flipAt_84
  have z : ∀ (i : Nat) (α : Type) (q : Option α), i < 6 → zchk (nI i) 6 q = q := fun i α q h => zchk_n h
  have z0 : ∀ (α : Type) (q : Option α), zchk (0 : Int32) 6 q = q := fun α q => z 0 α q (by omega)
  have z1 : ∀ (α : Type) (q : Option α), zchk (1 : Int32) 6 q = q := fun α q => z 1 α q (by omega)
  have z2 : ∀ (α : Type) (q : Option α), zchk (2 : Int32) 6 q = q := fun α q => z 2 α q (by omega)
  have z3 : ∀ (α : Type) (q : Option α), zchk (3 : Int32) 6 q = q := fun α q => z 3 α q (by omega)
  have z4 : ∀ (α : Type) (q : Option α), zchk (4 : Int32) 6 q = q := fun α q => z 4 α q (by omega)
  have z5 : ∀ (α : Type) (q : Option α), zchk (5 : Int32) 6 q = q := fun α q => z 5 α q (by omega)
  simp only [z0, z1, z2, z3, z4, z5, zlt_e, if00, if10, show (0 : Int32).toNatClampNeg = 0 from rfl, show (1 : Int32).toNatClampNeg = 1 from rfl, show (2 : Int32).toNatClampNeg = 2 from rfl, show (3 : Int32).toNatClampNeg = 3 from rfl, show (4 : Int32).toNatClampNeg = 4 from rfl, show (5 : Int32).toNatClampNeg = 5 from rfl]
  by_cases a0 : M.1 21 0 = nI t <;> by_cases a1 : M.1 21 1 = nI k <;> by_cases a2 : M.1 21 2 = nI c <;> by_cases a3 : M.1 21 3 = nI t <;> by_cases a4 : M.1 21 4 = nI k <;> by_cases a5 : M.1 21 5 = nI c <;> simp only [a0, a1, a2, a3, a4, a5, if_true, if_false, decide_true, decide_false] <;> rfl
theorem gv_st {M : zM} {t k c : Nat} {S F : Nat → Nat → Bool} (h : M.1 10 k = 5) : gv M t S F k c = (S k c ^^ F k c) := by
  rw [gv, if_pos h]
theorem gv_in {M : zM} {t k c : Nat} {S F : Nat → Nat → Bool} (h : M.1 10 k = 0) : gv M t S F k c = (gI M t k ^^ F k c) := by
  rw [gv, if_neg (by rw [h]; decide), if_pos h]
theorem gv_g {M : zM} {t k c : Nat} {S F : Nat → Nat → Bool} (n0 : ¬ M.1 10 k = 0) (n5 : ¬ M.1 10 k = 5) (ha : ga M k < k) (hb : M.1 12 k = -1 ∨ gb M k < k) : gv M t S F k c = (gG (M.1 10 k) (tkv M k (ga M k) (gv M t S F (ga M k)) c) (if M.1 12 k = -1 then false else tkv M k (gb M k) (gv M t S F (gb M k)) c) ^^ F k c) := by
  rw [gv, if_neg n5, if_neg n0, dif_pos ha]
  by_cases q : M.1 12 k = -1
  · rw [if_pos q, if_pos q]
  · rw [if_neg q, if_neg q, dif_pos (hb.resolve_left q)]
theorem tkv_same (M : zM) (j q : Nat) (b : Bool) (c : Nat) : tkv M j q (fun _ => b) c = b := by
  unfold tkv; rw [mj_same, ite_self, ite_self]
/-- no flips: no copy parts from the plain net -/
theorem gv_pv {M : zM} {t : Nat} {S F : Nat → Nat → Bool} {P : Nat → Bool} (hS : ∀ k c, S k c = P k) (hF : ∀ k c, F k c = false) : ∀ j c, gv M t S F j c = pv M t P j := by
  intro j
  induction j using Nat.strongRecOn with
  | ind j ih =>
    intro c
    rw [gv, pv, hS, hF]
    simp only [Bool.xor_false]
    by_cases c5 : M.1 10 j = 5
    · rw [if_pos c5, if_pos c5]
    rw [if_neg c5, if_neg c5]
    by_cases c0 : M.1 10 j = 0
    · rw [if_pos c0, if_pos c0]
    rw [if_neg c0, if_neg c0]
    have one : ∀ q, q < j → tkv M j q (fun c => gv M t S F q c) c = pv M t P q := fun q hq => by
      rw [show (fun c => gv M t S F q c) = fun _ => pv M t P q from funext fun c => ih q hq c, tkv_same]
    congr 1
    · by_cases h : ga M j < j
      · rw [dif_pos h, dif_pos h]; exact one _ h
      · rw [dif_neg h, dif_neg h]
    · by_cases h12 : M.1 12 j = -1
      · rw [if_pos h12, if_pos h12]
      · rw [if_neg h12, if_neg h12]
        by_cases h : gb M j < j
        · rw [dif_pos h, dif_pos h]; exact one _ h
        · rw [dif_neg h, dif_neg h]
theorem ss_ps {M : zM} {F : Nat → Nat → Nat → Bool} {u : Nat} (hF : ∀ t, t < u → ∀ k c, F t k c = false) : ∀ t, t ≤ u → ∀ k c, ss M F t k c = ps M t k := by
  intro t
  induction t with
  | zero => intro _ k c; rfl
  | succ t ih =>
    intro ht k c
    show tks M (gv M t (ss M F t) (F t)) k c = pv M t (ps M t) (ga M k)
    have e : gv M t (ss M F t) (F t) = fun j _ => pv M t (ps M t) j := funext fun j => funext fun c => gv_pv (ih (by omega)) (hF t (by omega)) j c
    rw [e]
    unfold tks
    simp only [tkv_same, mj_same, ite_self]
theorem bl_pl {M : zM} {F : Nat → Nat → Nat → Bool} {u : Nat} (hF : ∀ t, t < u → ∀ k c, F t k c = false) {t : Nat} (ht : t < u) (k c : Nat) : bl M F t k c = pl M t k :=
  gv_pv (ss_ps hF t (by omega)) (hF t ht) k c
