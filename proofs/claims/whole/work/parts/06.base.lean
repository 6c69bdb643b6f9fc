/-! ===== loops ===== -/
theorem zwl_rule {σ ρ : Type} {b : σ → Option (σ ⊕ ρ)} (I : Nat → σ → Prop) (Post : ρ → Prop) (e : Nat)
    (hs : ∀ (i : Nat) (s : σ), i ≤ e → I i s → (∃ s', b s = some (.inl s') ∧ i < e ∧ I (i + 1) s') ∨ (∃ r, b s = some (.inr r) ∧ Post r)) :
    ∀ (k i n : Nat) (s : σ), e - i = k → k < n → i ≤ e → I i s → ∃ r, zwl b n s = some r ∧ Post r := by
  intro k
  induction k with
  | zero =>
    intro i n s hk hn hi hI
    cases n with
    | zero => omega
    | succ n =>
      rcases hs i s hi hI with ⟨s', -, h2, -⟩ | ⟨r, h1, h2⟩
      · omega
      · exact ⟨r, by unfold zwl; rw [h1], h2⟩
  | succ k ih =>
    intro i n s hk hn hi hI
    cases n with
    | zero => omega
    | succ n =>
      rcases hs i s hi hI with ⟨s', h1, h2, h3⟩ | ⟨r, h1, h2⟩
      · obtain ⟨r, h4, h5⟩ := ih (i + 1) n s' (by omega) (by omega) (by omega) h3
        exact ⟨r, by unfold zwl; rw [h1]; exact h4, h5⟩
      · exact ⟨r, by unfold zwl; rw [h1], h2⟩
theorem zwl_for {σ ρ : Type} {b : σ → Option (σ ⊕ ρ)} (I : Nat → σ → Prop) (Post : ρ → Prop) (e n : Nat) (s : σ) (hn : e < n) (h0 : I 0 s)
    (hs : ∀ (i : Nat) (s : σ), i < e → I i s → ∃ s', b s = some (.inl s') ∧ I (i + 1) s') (he : ∀ s : σ, I e s → ∃ r, b s = some (.inr r) ∧ Post r) : ∃ r, zwl b n s = some r ∧ Post r := by
  refine zwl_rule I Post e (fun i s hi hI => ?_) e 0 n s (by omega) hn (Nat.zero_le _) h0
  by_cases h : i < e
  · obtain ⟨s', h1, h2⟩ := hs i s h hI
    exact Or.inl ⟨s', h1, h, h2⟩
  · have : i = e := by omega
    subst this
    exact Or.inr (he s hI)
/-! ===== memory ===== -/
theorem upd_ap (f : Nat → Int32) (k : Nat) (x : Int32) (j : Nat) : upd f k x j = if j = k then x else f j := by
  by_cases h : j = k
  · subst h; rw [pk_us, if_pos rfl]
  · rw [pk_un h, if_neg h]
theorem updL_ap (f : Nat → Int64) (k : Nat) (x : Int64) (j : Nat) : vp_updL f k x j = if j = k then x else f j := rfl
theorem upd_upd (f : Nat → Int32) (k : Nat) (x y : Int32) : upd (upd f k x) k y = upd f k y := by
  funext j
  simp only [upd_ap]
  by_cases h : j = k <;> simp [h]
theorem upd_same (f : Nat → Int32) (k : Nat) (x : Int32) (h : f k = x) : upd f k x = f := by
  funext j
  simp only [upd_ap]
  by_cases h2 : j = k
  · subst h2; simp [h]
  · simp [h2]
theorem zcI_1 (M : zM) (v : Nat) (f : Nat → Int32) (u : Nat) : (zcI M v f).1 u = if u = v then f else M.1 u := rfl
theorem zcI_2 (M : zM) (v : Nat) (f : Nat → Int32) : (zcI M v f).2 = M.2 := rfl
theorem zcL_1 (M : zM) (v : Nat) (f : Nat → Int64) : (zcL M v f).1 = M.1 := rfl
theorem zcL_2 (M : zM) (v : Nat) (f : Nat → Int64) (u : Nat) : (zcL M v f).2 u = if u = v then f else M.2 u := rfl
theorem zsI_1 (M : zM) (v i : Nat) (x : Int32) (u : Nat) : (zsI M v i x).1 u = if u = v then upd (M.1 v) i x else M.1 u := rfl
theorem zsI_2 (M : zM) (v i : Nat) (x : Int32) : (zsI M v i x).2 = M.2 := rfl
theorem zsL_1 (M : zM) (v i : Nat) (x : Int64) : (zsL M v i x).1 = M.1 := rfl
theorem zsL_2 (M : zM) (v i : Nat) (x : Int64) (u : Nat) : (zsL M v i x).2 u = if u = v then vp_updL (M.2 v) i x else M.2 u := rfl
theorem zchk_in {α : Type} {i : Int32} {n : Nat} {k : Option α} (h : vp_in i n) : zchk i n k = k := by
  unfold zchk
  rw [if_pos]
  unfold zin
  have h1 : ¬ i < 0 := fun q => h (Or.inl q)
  have h2 : ¬ n ≤ i.toNatClampNeg := fun q => h (Or.inr q)
  simp [h1, h2]
theorem zchk_n {α : Type} {j n : Nat} {k : Option α} (h : j < n) (hn : n < 2147483648 := by omega) : zchk (nI j) n k = k := zchk_in (vp_in_nI h hn)
theorem cl_n {j : Nat} (h : j < 2147483648 := by omega) : (nI j).toNatClampNeg = j := nI_clamp h
theorem nI_5 : (5 : Int32) = nI 5 := rfl
theorem zbind_some {α β : Type} (a : α) (k : α → Option β) : (some a).bind k = k a := rfl
theorem zb2_some {α β γ : Type} (a : α) (b : β) (k : α → β → Option γ) : zb2 (some (a, b)) k = k a b := rfl
theorem zst_e {α : Type} (M : zM) (k : zM → Option α) : zst M k = k M := rfl
theorem zlt_e {β α : Type} (x : β) (k : β → Option α) : zlt x k = k x := rfl
theorem vnar0 : vp_nar .boolean 0 = 0 := rfl
theorem vnar1 : vp_nar .boolean 1 = 1 := rfl
/-! ===== the state: what the reference's memory is like, what the class's has to do with it ===== -/
/-- node k is as it should be, among N nodes, I inputs, S stores -/
def zNd (M : zM) (N I S k : Nat) : Prop :=
  (∃ q, q ≤ 1000 ∧ M.1 16 k = nI q) ∧
  ((M.1 10 k = 0 ∧ M.1 11 k = -1 ∧ M.1 12 k = -1 ∧ ∃ u, u < I ∧ M.1 17 k = nI u) ∨
   (M.1 10 k = 1 ∧ (∃ a, a < k ∧ M.1 11 k = nI a) ∧ M.1 12 k = -1 ∧ M.1 17 k = -1) ∨
   ((M.1 10 k = 2 ∨ M.1 10 k = 3 ∨ M.1 10 k = 4) ∧ (∃ a, a < k ∧ M.1 11 k = nI a) ∧ (∃ b, b < k ∧ M.1 12 k = nI b) ∧ M.1 17 k = -1) ∨
   (M.1 10 k = 5 ∧ (∃ a, a < N ∧ M.1 11 k = nI a) ∧ M.1 12 k = -1 ∧ ∃ u, u < S ∧ M.1 17 k = nI u))
def zNum (M : zM) (N I S T V : Nat) : Prop := (N ≤ 24 ∧ I ≤ N ∧ S ≤ N ∧ 1 ≤ T ∧ T ≤ 16 ∧ V ≤ 1000) ∧ M.1 0 0 = nI N ∧ M.1 1 0 = nI I ∧ M.1 2 0 = nI S ∧ M.1 3 0 = nI T ∧ M.1 4 0 = nI V
def zBits (M : zM) (N : Nat) : Prop := (∀ k, (M.1 13 k = 0 ∨ M.1 13 k = 1) ∧ (M.1 14 k = 0 ∨ M.1 14 k = 1) ∧ (M.1 15 k = 0 ∨ M.1 15 k = 1)) ∧ (∀ k, N ≤ k → M.1 13 k = 0 ∧ M.1 14 k = 0 ∧ M.1 15 k = 0) ∧ ∀ k, M.1 15 k = 1 → M.1 14 k = 1 ∧ M.1 10 k = 5
def zSts (M : zM) (N S : Nat) (sn : Nat → Nat) : Prop := (∀ s, s < S → sn s < N ∧ M.1 10 (sn s) = 5 ∧ M.1 17 (sn s) = nI s) ∧ ∀ k, k < N → M.1 10 k = 5 → ∃ s, s < S ∧ M.1 17 k = nI s ∧ sn s = k
def zShs (M : zM) : Prop := ∀ s, s < 4 → (∃ z, z ≤ 60 ∧ M.1 27 s = nI z) ∧ (M.1 25 s = 0 ∨ (M.1 25 s = 1 ∧ ∃ f, f < 3 ∧ M.1 26 s = nI f))
/-- the reference's memory as it should be -/
def zOk (M : zM) (N I S T V : Nat) (sn : Nat → Nat) : Prop := zNum M N I S T V ∧ (∀ k, k < N → zNd M N I S k) ∧ zBits M N ∧ zSts M N S sn ∧ zShs M
def zEqN (Mc Mr : zM) : Prop := Mc.1 10 = Mr.1 10 ∧ Mc.1 11 = Mr.1 11 ∧ Mc.1 12 = Mr.1 12 ∧ Mc.1 13 = Mr.1 17 ∧ Mc.1 14 = Mr.1 16 ∧ Mc.1 15 = Mr.1 13 ∧ Mc.1 16 = Mr.1 14 ∧ Mc.1 17 = Mr.1 15
def zEqI (Mc Mr : zM) : Prop := Mc.1 2 0 = Mr.1 0 0 ∧ Mc.1 3 0 = Mr.1 1 0 ∧ Mc.1 4 0 = Mr.1 2 0 ∧ Mc.1 0 0 = Mr.1 3 0 ∧ Mc.1 1 0 = Mr.1 4 0 ∧ Mc.1 5 0 = Mr.1 5 0
def zEqS (Mc Mr : zM) : Prop := ∀ s, s < 4 → Mc.1 21 s = Mr.1 27 s ∧ ((Mr.1 25 s = 0 ∧ Mc.1 20 s = -1) ∨ (Mr.1 25 s = 1 ∧ Mc.1 20 s = Mr.1 26 s)) ∧ ∀ i, i < 60 → Mc.1 (30 + s) i = Mr.1 28 (60 * s + i)
def zSn (Mc : zM) (S : Nat) (sn : Nat → Nat) : Prop := ∀ s, s < S → Mc.1 18 s = nI (sn s)
def zRel (Mc Mr : zM) : Prop := ∃ (N I S T V : Nat) (sn : Nat → Nat), zOk Mr N I S T V sn ∧ zEqI Mc Mr ∧ zEqN Mc Mr ∧ zEqS Mc Mr ∧ zSn Mc S sn
/-- both sides go through a call, answer alike, and stay related -/
def zBoth {α : Type} (o1 o2 : Option (α × zM)) : Prop := ∃ r m1 m2, o1 = some (r, m1) ∧ o2 = some (r, m2) ∧ zRel m1 m2
/-- what the scratch rows hold says nothing of the state -/
def zKeepC (M M' : zM) : Prop := ∀ v, v ∈ [0, 1, 2, 3, 4, 5, 10, 11, 12, 13, 14, 15, 16, 17, 18, 20, 21, 30, 31, 32, 33] → M'.1 v = M.1 v
def zKeepR (M M' : zM) : Prop := ∀ v, v ∈ [0, 1, 2, 3, 4, 5, 10, 11, 12, 13, 14, 15, 16, 17, 25, 26, 27, 28] → M'.1 v = M.1 v
theorem zKeepC.rf (M : zM) : zKeepC M M := fun _ _ => rfl
theorem zKeepR.rf (M : zM) : zKeepR M M := fun _ _ => rfl
theorem zKeepC.tr {a b c : zM} (h1 : zKeepC a b) (h2 : zKeepC b c) : zKeepC a c := fun v hv => (h2 v hv).trans (h1 v hv)
theorem zKeepR.tr {a b c : zM} (h1 : zKeepR a b) (h2 : zKeepR b c) : zKeepR a c := fun v hv => (h2 v hv).trans (h1 v hv)
theorem zOk.keep {M M' : zM} {N I S T V : Nat} {sn : Nat → Nat} (h : zOk M N I S T V sn) (k : zKeepR M M') : zOk M' N I S T V sn := by
  have e0 := k 0 (by decide); have e1 := k 1 (by decide); have e2 := k 2 (by decide); have e3 := k 3 (by decide); have e4 := k 4 (by decide)
  have e10 := k 10 (by decide); have e11 := k 11 (by decide); have e12 := k 12 (by decide); have e13 := k 13 (by decide); have e14 := k 14 (by decide); have e15 := k 15 (by decide); have e16 := k 16 (by decide); have e17 := k 17 (by decide)
  have e25 := k 25 (by decide); have e26 := k 26 (by decide); have e27 := k 27 (by decide)
  unfold zOk zNum zNd zBits zSts zShs at *
  rw [e0, e1, e2, e3, e4, e10, e11, e12, e13, e14, e15, e16, e17, e25, e26, e27]
  exact h
theorem zRel.keep {Mc Mr Mc' Mr' : zM} (h : zRel Mc Mr) (k : zKeepC Mc Mc') (q : zKeepR Mr Mr') : zRel Mc' Mr' := by
  obtain ⟨N, I, S, T, V, sn, h1, h2, h3, h4, h5⟩ := h
  refine ⟨N, I, S, T, V, sn, h1.keep q, ?_, ?_, ?_, ?_⟩
  · unfold zEqI at *
    rw [k 0 (by decide), k 1 (by decide), k 2 (by decide), k 3 (by decide), k 4 (by decide), k 5 (by decide), q 0 (by decide), q 1 (by decide), q 2 (by decide), q 3 (by decide), q 4 (by decide), q 5 (by decide)]
    exact h2
  · unfold zEqN at *
    rw [k 10 (by decide), k 11 (by decide), k 12 (by decide), k 13 (by decide), k 14 (by decide), k 15 (by decide), k 16 (by decide), k 17 (by decide), q 10 (by decide), q 11 (by decide), q 12 (by decide), q 13 (by decide), q 14 (by decide), q 15 (by decide), q 16 (by decide), q 17 (by decide)]
    exact h3
  · intro s hs
    obtain ⟨a, b, c⟩ := h4 s hs
    have e : Mc'.1 (30 + s) = Mc.1 (30 + s) := k _ (by rcases (show s = 0 ∨ s = 1 ∨ s = 2 ∨ s = 3 by omega) with rfl | rfl | rfl | rfl <;> decide)
    rw [k 20 (by decide), k 21 (by decide), q 25 (by decide), q 26 (by decide), q 27 (by decide), q 28 (by decide), e]
    exact ⟨a, b, c⟩
  · intro s hs
    rw [k 18 (by decide)]
    exact h5 s hs
/-! ===== the small tests ===== -/
theorem pC_isNode_y {M : zM} {N j : Nat} (h : M.1 2 0 = nI N) (hN : N ≤ 24) (hj : j < N) : pX2_isNode (nI j) M = some 1 := by
  unfold pX2_isNode
  rw [h, if_neg (nI_pos (by omega)), if_neg (nI_ge hj (by omega))]
theorem pC_isNode_n {M : zM} {N : Nat} {x : Int32} (h : M.1 2 0 = nI N) (hx : x < 0 ∨ nI N ≤ x) : pX2_isNode x M = some 0 := by
  unfold pX2_isNode K_X2_isNode_16
  rw [h]
  by_cases c : x < 0
  · rw [if_pos c]
  · rw [if_neg c, if_pos (hx.resolve_left c)]
theorem pR_in_y {M : zM} {x a b : Int32} (h1 : ¬ x < a) (h2 : ¬ b < x) : pX6_in x a b M = some 1 := by
  unfold pX6_in
  rw [if_neg h1, if_neg h2]
theorem pR_in_n {M : zM} {x a b : Int32} (h : x < a ∨ b < x) : pX6_in x a b M = some 0 := by
  unfold pX6_in K_X6_in_14
  by_cases c : x < a
  · rw [if_pos c]
  · rw [if_neg c, if_pos (h.resolve_left c)]
theorem i_toInt_nI {n : Nat} (h : n < 2147483648) : (nI n).toInt = n := nI_toInt h
theorem i_lt {a b : Int32} : a < b ↔ a.toInt < b.toInt := Int32.lt_iff_toInt_lt
theorem i_le {a b : Int32} : a ≤ b ↔ a.toInt ≤ b.toInt := Int32.le_iff_toInt_le
theorem nI_m1 {N : Nat} (h : N ≤ 24) : (nI N - 1).toInt = (N : Int) - 1 := by
  have h1 := pk_sub_toInt (a := N) (b := 1) (by omega) (by omega)
  exact h1
theorem nI_lt_m1 {N : Nat} (h : N ≤ 24) {x : Int32} : nI N - 1 < x ↔ nI N ≤ x := by
  rw [i_lt, i_le, nI_m1 h, i_toInt_nI (by omega)]
  omega
theorem pR_isNode_y {M : zM} {N j : Nat} (h : M.1 0 0 = nI N) (hN : N ≤ 24) (hj : j < N) : pX6_isNode (nI j) M = some 1 := by
  unfold pX6_isNode
  rw [h, pR_in_y (nI_pos (by omega)) (fun q => nI_ge hj (by omega) ((nI_lt_m1 hN).mp q))]
  rfl
theorem pR_isNode_n {M : zM} {N : Nat} {x : Int32} (h : M.1 0 0 = nI N) (hN : N ≤ 24) (hx : x < 0 ∨ nI N ≤ x) : pX6_isNode x M = some 0 := by
  unfold pX6_isNode
  rw [h, pR_in_n (hx.imp id (nI_lt_m1 hN).mpr)]
  rfl
/-- an int is no node's number, or it is one -/
theorem zix (x : Int32) {N : Nat} (hN : N ≤ 24) : (x < 0 ∨ nI N ≤ x) ∨ ∃ j, j < N ∧ x = nI j := by
  rcases pk_ix x (n := N) (by omega) with h | h | h
  · exact Or.inl (Or.inl h)
  · exact Or.inl (Or.inr h)
  · exact Or.inr h
