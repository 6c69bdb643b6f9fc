theorem c_round {n S : Nat} {M : zM} {L : Nat → Int32} (hn : 100 ≤ n) (hS : S ≤ 24) (h8 : M.1 8 0 = nI S) (hL : ∀ s, s < S → M.1 26 s = L s) (x1 x3 v5 x : Int32) :
    ∃ r : Int32 × Int32, zwl (fun q => B_X1_allBroken_33 n x1 q.1 x3 v5 q.2 M) n (x, (0 : Int32)) = some r ∧ r.1 = zrd L S x := by
  refine zwl_for (fun i s => s = (zrd L i x, nI i)) _ S n _ (by omega) rfl (fun i s hi hI => ?_) (fun s hI => ?_)
  · subst hI
    have k1 : ∀ (α : Type) (q : Option α), zchk (nI i) 24 q = q := fun α q => zchk_n (by omega)
    have k3 : (nI i).toNatClampNeg = i := cl_n
    have ge : ¬ nI S ≤ nI i := nI_ge hi (by omega)
    by_cases c : L i &&& zrd L i x = 0
    · refine ⟨_, by simp only [B_X1_allBroken_33, K_X1_allBroken_63, h8, if_neg ge, k1, k3, hL i hi, if_pos c, zlt_e]; rfl, ?_⟩
      refine Prod.ext ?_ (nI_1 i)
      show _ = (if L i &&& zrd L i x = 0 then zrd L i x &&& (((1 : Int32) <<< (nI i &&& 31)) ^^^ (-1)) else zrd L i x)
      rw [if_pos c]
    · refine ⟨_, by simp only [B_X1_allBroken_33, K_X1_allBroken_63, h8, if_neg ge, k1, k3, hL i hi, if_neg c, zlt_e]; rfl, ?_⟩
      refine Prod.ext ?_ (nI_1 i)
      show _ = (if L i &&& zrd L i x = 0 then zrd L i x &&& (((1 : Int32) <<< (nI i &&& 31)) ^^^ (-1)) else zrd L i x)
      rw [if_neg c]
  · subst hI
    exact ⟨_, by simp only [B_X1_allBroken_33, h8, if_pos (nI_le (Nat.le_refl S) (show S < 2147483648 by omega))]; rfl, rfl⟩
theorem r_round {n N S : Nat} {M : zM} {L : Nat → Int32} {sn : Nat → Nat} (hn : 100 ≤ n) (hN : N ≤ 24) (hS : S ≤ 24) (h2 : M.1 2 0 = nI S) (hL : ∀ s, s < S → sn s < 24 ∧ M.1 23 s = nI (sn s) ∧ ∃ a, a < N ∧ M.1 11 (sn s) = nI a ∧ M.1 22 a = L s) (x1 x : Int32) :
    ∃ r : Int32 × Int32 × Int32, zwl (fun q => B_X6_isBroken_24 n x1 q.1 q.2.1 q.2.2 M) n (x, (0 : Int32), (0 : Int32)) = some r ∧ (r.1 = zrd L S x ∧ r.2.1 = if zrd L S x = x then 0 else 1) := by
  refine zwl_for (fun i s => s = (zrd L i x, (if zrd L i x = x then 0 else 1), nI i)) _ S n _ (by omega) (by rw [show zrd L 0 x = x from rfl, if_pos rfl]; rfl) (fun i s hi hI => ?_) (fun s hI => ?_)
  · subst hI
    obtain ⟨g1, g2, a, ha, g3, g4⟩ := hL i hi
    have k1 : ∀ (α : Type) (q : Option α), zchk (nI i) 24 q = q := fun α q => zchk_n (by omega)
    have k3 : (nI i).toNatClampNeg = i := cl_n
    have k5 : ∀ (α : Type) (q : Option α), zchk (nI (sn i)) 24 q = q := fun α q => zchk_n g1
    have k6 : (nI (sn i)).toNatClampNeg = sn i := cl_n
    have k7 : ∀ (α : Type) (q : Option α), zchk (nI a) 24 q = q := fun α q => zchk_n (by omega)
    have k8 : (nI a).toNatClampNeg = a := cl_n
    have ge : ¬ nI S ≤ nI i := nI_ge hi (by omega)
    have z01 : ¬ (0 : Int32) = 1 := by decide
    by_cases b : bt (zrd L i x) i = true
    · by_cases c : L i &&& zrd L i x = 0
      · refine ⟨_, by simp only [B_X6_isBroken_24, K_X6_isBroken_76, h2, if_neg ge, b_bit i (show i < 32 by omega), if_pos b, if_true, k1, k3, g2, k5, k6, g3, k7, k8, g4, if_pos c, zlt_e]; rfl, ?_⟩
        have e1 : zrd L (i + 1) x = zrd L i x &&& (((1 : Int32) <<< (nI i &&& 31)) ^^^ (-1)) := by
          show (if _ then _ else _) = _
          rw [if_pos c]
        have ne : ¬ zrd L (i + 1) x = x := fun q => by
          have h1 : bt x i = true := zrd_sub L x i (by omega) i (by omega) b
          rw [← q, e1, b_clr i (by omega) _ (by omega), decide_eq_true rfl] at h1
          simp at h1
        rw [if_neg ne, e1, nI_1]
      · refine ⟨_, by simp only [B_X6_isBroken_24, K_X6_isBroken_76, h2, if_neg ge, b_bit i (show i < 32 by omega), if_pos b, if_true, k1, k3, g2, k5, k6, g3, k7, k8, g4, if_neg c, zlt_e]; rfl, ?_⟩
        have e1 : zrd L (i + 1) x = zrd L i x := by
          show (if _ then _ else _) = _
          rw [if_neg c]
        rw [e1, nI_1]
    · refine ⟨_, by simp only [B_X6_isBroken_24, K_X6_isBroken_76, h2, if_neg ge, b_bit i (show i < 32 by omega), if_neg b, z01, if_false, zlt_e]; rfl, ?_⟩
      have e1 : zrd L (i + 1) x = zrd L i x := by
        show (if _ then _ else _) = _
        by_cases c : L i &&& zrd L i x = 0
        · rw [if_pos c, zclr_id (by omega) b]
        · rw [if_neg c]
      rw [e1, nI_1]
  · subst hI
    exact ⟨_, by simp only [B_X6_isBroken_24, h2, if_pos (nI_le (Nat.le_refl S) (show S < 2147483648 by omega))]; rfl, rfl, rfl⟩
theorem r_brokenL {n N S : Nat} {M : zM} {L : Nat → Int32} {sn : Nat → Nat} (hn : 100 ≤ n) (hN : N ≤ 24) (hS : S ≤ 24) (h2 : M.1 2 0 = nI S) (hL : ∀ s, s < S → sn s < 24 ∧ M.1 23 s = nI (sn s) ∧ ∃ a, a < N ∧ M.1 11 (sn s) = nI a ∧ M.1 22 a = L s) (x1 : Int32) :
    ∀ (m n' : Nat) (x : Int32), zpc x S ≤ m → m + 1 < n' → zwl (fun q => B_X6_isBroken_15 n x1 q.1 q.2 M) n' (x, (1 : Int32)) = some (zfx L S m x, (0 : Int32)) := by
  have z10 : ¬ (1 : Int32) = 0 := by decide
  have step : ∀ x : Int32, B_X6_isBroken_15 n x1 x 1 M = some (.inl (zrd L S x, if zrd L S x = x then 0 else 1)) := fun x => by
    obtain ⟨⟨r1, r2, r3⟩, p1, p2, p3⟩ := r_round hn hN hS h2 hL x1 x
    dsimp only at p2 p3
    simp only [B_X6_isBroken_15, z10, if_false, zlt_e, p1]
    show some (Sum.inl (r1, r2)) = _
    rw [p2, p3]
  have stop : ∀ x : Int32, B_X6_isBroken_15 n x1 x 0 M = some (.inr (x, 0)) := fun x => by
    simp only [B_X6_isBroken_15, if_true]
  have fx : ∀ (m n' : Nat) (x : Int32), zrd L S x = x → 1 < n' → zwl (fun q => B_X6_isBroken_15 n x1 q.1 q.2 M) n' (x, (1 : Int32)) = some (zfx L S m x, (0 : Int32)) := fun m n' x hx hn' => by
    obtain ⟨n2, rfl⟩ : ∃ k, n' = k + 2 := ⟨n' - 2, by omega⟩
    rw [zfx_fix L S m hx]
    unfold zwl
    dsimp only
    rw [step, hx, if_pos rfl]
    dsimp only
    unfold zwl
    dsimp only
    rw [stop]
  intro m
  induction m with
  | zero =>
    intro n' x hm hn'
    refine fx 0 n' x (Classical.byContradiction fun q => ?_) (by omega)
    have := zrd_dec L x hS q
    omega
  | succ m ih =>
    intro n' x hm hn'
    by_cases hx : zrd L S x = x
    · exact fx _ n' x hx (by omega)
    · obtain ⟨n2, rfl⟩ : ∃ k, n' = k + 1 := ⟨n' - 1, by omega⟩
      have hd := zrd_dec L x hS hx
      have e : zfx L S (m + 1) x = zfx L S m (zrd L S x) := by
        show (if _ then _ else _) = _
        rw [if_neg hx]
      rw [e]
      unfold zwl
      dsimp only
      rw [step, if_neg hx]
      exact ih n2 (zrd L S x) (by omega) (by omega)
theorem zrd_0 (L : Nat → Int32) {S : Nat} (hS : S ≤ 24) : zrd L S 0 = 0 := by
  apply b_ext
  intro i hi
  rw [b_0]
  cases h : bt (zrd L S 0) i with
  | false => rfl
  | true => have := zrd_sub L 0 S hS i hi h; rw [b_0] at this; exact this.symm
theorem c_brokenL {n S : Nat} {M : zM} {L : Nat → Int32} (hn : 100 ≤ n) (hS : S ≤ 24) (h8 : M.1 8 0 = nI S) (hL : ∀ s, s < S → M.1 26 s = L s) (x1 : Int32) :
    ∀ (m n' r : Nat) (x : Int32), zpc x S ≤ m → r + zpc x S ≤ S → m < n' → ∃ q, zwl (fun q => B_X1_allBroken_15 n x1 q.1 q.2 M) n' (x, nI r) = some q ∧ Sum.elim (fun q : Int32 × Int32 => if q.1 = 0 then some (1 : Int32) else some 0) (fun x => some x) q = some (if zfx L S m x = 0 then 1 else 0) := by
  have s1 : ∀ (r : Nat) (x : Int32), r ≤ 24 → S ≤ r ∨ x = 0 → B_X1_allBroken_15 n x1 x (nI r) M = some (.inr (.inl (x, nI r))) := fun r x hr h => by
    by_cases c1 : S ≤ r
    · simp only [B_X1_allBroken_15, h8, if_pos (nI_le c1 (show r < 2147483648 by omega))]
    · simp only [B_X1_allBroken_15, h8, if_neg (nI_ge (show r < S by omega) (show S < 2147483648 by omega)), if_pos (h.resolve_left c1)]
  have s2 : ∀ (r : Nat) (x : Int32), r < S → ¬ x = 0 → B_X1_allBroken_15 n x1 x (nI r) M = if zrd L S x = x then some (.inr (.inr 0)) else some (.inl (zrd L S x, nI (r + 1))) := fun r x hr h => by
    obtain ⟨⟨r1, r2⟩, p1, p2⟩ := c_round hn hS h8 hL x1 (nI r) x x
    dsimp only at p2
    simp only [B_X1_allBroken_15, h8, if_neg (nI_ge hr (show S < 2147483648 by omega)), if_neg h, zlt_e, p1]
    show (if r1 = x then _ else _) = _
    rw [p2, nI_1]
  have fx : ∀ (m n' r : Nat) (x : Int32), zrd L S x = x → r + zpc x S ≤ S → 0 < n' → ∃ q, zwl (fun q => B_X1_allBroken_15 n x1 q.1 q.2 M) n' (x, nI r) = some q ∧ Sum.elim (fun q : Int32 × Int32 => if q.1 = 0 then some (1 : Int32) else some 0) (fun x => some x) q = some (if zfx L S m x = 0 then 1 else 0) := fun m n' r x hx hr hn' => by
    obtain ⟨n2, rfl⟩ : ∃ k, n' = k + 1 := ⟨n' - 1, by omega⟩
    rw [zfx_fix L S m hx]
    unfold zwl
    dsimp only
    by_cases c : S ≤ r ∨ x = 0
    · rw [s1 r x (by omega) c]
      refine ⟨_, rfl, ?_⟩
      show (if x = 0 then _ else _) = _
      split <;> rfl
    · have c1 : ¬ S ≤ r := fun q => c (Or.inl q)
      have c2 : ¬ x = 0 := fun q => c (Or.inr q)
      rw [s2 r x (by omega) c2, if_pos hx]
      refine ⟨_, rfl, ?_⟩
      rw [if_neg c2]; rfl
  intro m
  induction m with
  | zero =>
    intro n' r x hm hr hn'
    refine fx 0 n' r x (Classical.byContradiction fun q => ?_) hr (by omega)
    have := zrd_dec L x hS q
    omega
  | succ m ih =>
    intro n' r x hm hr hn'
    by_cases hx : zrd L S x = x
    · exact fx _ n' r x hx hr (by omega)
    · obtain ⟨n2, rfl⟩ : ∃ k, n' = k + 1 := ⟨n' - 1, by omega⟩
      have hd := zrd_dec L x hS hx
      have e : zfx L S (m + 1) x = zfx L S m (zrd L S x) := by
        show (if _ then _ else _) = _
        rw [if_neg hx]
      have c2 : ¬ x = 0 := fun q => hx (by rw [q]; exact zrd_0 L hS)
      rw [e]
      unfold zwl
      dsimp only
      rw [s2 r x (by omega) c2, if_neg hx]
      exact ih n2 (r + 1) (zrd L S x) (by omega) (by omega) (by omega)
/-- both tests for loops answer alike -/
def zbk (L : Nat → Int32) (S : Nat) (x : Int32) : Int32 := if zfx L S 24 ((((1 : Int32) <<< (nI S &&& 31)) - 1) &&& (x ^^^ (-1))) = 0 then 1 else 0
theorem c_broken {n S : Nat} {M : zM} {L : Nat → Int32} (hn : 100 ≤ n) (hS : S ≤ 24) (h8 : M.1 8 0 = nI S) (hL : ∀ s, s < S → M.1 26 s = L s) (x : Int32) : pX1_allBroken n x M = some (zbk L S x) := by
  unfold pX1_allBroken
  simp only [zlt_e, h8]
  obtain ⟨q, p1, p2⟩ := c_brokenL hn hS h8 hL x 24 n 0 ((((1 : Int32) <<< (nI S &&& 31)) - 1) &&& (x ^^^ (-1))) (by have := zpc_le ((((1 : Int32) <<< (nI S &&& 31)) - 1) &&& (x ^^^ (-1))) S; omega) (by have := zpc_le ((((1 : Int32) <<< (nI S &&& 31)) - 1) &&& (x ^^^ (-1))) S; omega) (by omega)
  rw [show ((((1 : Int32) <<< (nI S &&& 31)) - 1) &&& (x ^^^ (-1)), (0 : Int32)) = ((((1 : Int32) <<< (nI S &&& 31)) - 1) &&& (x ^^^ (-1)), nI 0) from rfl, p1, zbind_some]
  exact p2
theorem r_broken {n N S : Nat} {M : zM} {L : Nat → Int32} {sn : Nat → Nat} (hn : 100 ≤ n) (hN : N ≤ 24) (hS : S ≤ 24) (h2 : M.1 2 0 = nI S) (hL : ∀ s, s < S → sn s < 24 ∧ M.1 23 s = nI (sn s) ∧ ∃ a, a < N ∧ M.1 11 (sn s) = nI a ∧ M.1 22 a = L s) (x : Int32) : pX6_isBroken n x M = some (zbk L S x) := by
  unfold pX6_isBroken
  simp only [zlt_e, h2]
  have p1 := r_brokenL hn hN hS h2 hL x 24 n ((((1 : Int32) <<< (nI S &&& 31)) - 1) &&& (x ^^^ (-1))) (by have := zpc_le ((((1 : Int32) <<< (nI S &&& 31)) - 1) &&& (x ^^^ (-1))) S; omega) (by omega)
  rw [p1, zb2_some]
  unfold zbk
  split <;> rfl
theorem zush (x : Int32) {S : Nat} (hS : S ≤ 24) : ((Int32.toUInt32 x >>> (Int32.toUInt32 (nI S) &&& Int32.toUInt32 31)).toInt32) = 0 ↔ (¬ x < 0 ∧ x < ((1 : Int32) <<< (nI S &&& 31))) := by
  have e1 : (1 : Int32) <<< (nI S &&& 31) = nI (2 ^ S) := by
    have := pk_shlN (n := 1) (nI S &&& 31) S (s_l S (by omega)) (by have : 2 ^ S ≤ 2 ^ 24 := Nat.pow_le_pow_right (by omega) hS; omega)
    rw [Nat.one_mul] at this; exact this
  have hp : 2 ^ S ≤ 2 ^ 24 := Nat.pow_le_pow_right (by omega) hS
  by_cases h : x < 0
  · refine ⟨fun q => ?_, fun q => absurd h q.1⟩
    have hb : bt x 31 = true := by
      unfold bt
      have h2 : x.toInt < 0 := by rw [i_lt] at h; exact h
      have h3 := BitVec.msb_eq_toInt (x := x.toBitVec)
      rw [BitVec.msb_eq_getLsbD_last] at h3
      have h4 : x.toBitVec.toInt < 0 := h2
      simp only [h4, decide_true] at h3
      exact h3
    have h5 := b_ushr S (by omega) x (31 - S)
    rw [q, b_0, show S + (31 - S) = 31 by omega, hb] at h5
    cases h5
  · obtain ⟨j, hj, rfl⟩ := nI_of h
    rw [pk_ushrN (by omega) (nI S) S (s_u S (by omega)), e1]
    constructor
    · intro q
      have q' : j / 2 ^ S = 0 := (nI_eq (a := j / 2 ^ S) (b := 0) (Nat.lt_of_le_of_lt (Nat.div_le_self _ _) (by omega)) (by omega)).mp q
      refine ⟨h, (nI_ltI (by omega) (by omega)).mpr ?_⟩
      rcases Nat.div_eq_zero_iff.mp q' with q | q
      · have : 0 < 2 ^ S := Nat.pow_pos (by omega)
        omega
      · exact q
    · intro q
      rw [Nat.div_eq_of_lt ((nI_ltI (by omega) (by omega)).mp q.2)]; rfl
theorem b_breaks {Mc Mr : zM} {n : Nat} (hn100 : 100 ≤ n) (h : zRel Mc Mr) (x1 : Int32) : zBoth (pX5_breaks n x1 Mc) (pX6_breaks n x1 Mr) := by
  obtain ⟨N, I, S, T, V, sn, hok, hi, hn, hs, hsn⟩ := id h
  obtain ⟨⟨⟨b1, b2, b3, b4, b5, b6⟩, q0, q1, q2, q3, q4⟩, hnd, hbits, hst, hsh⟩ := id hok
  have c4 : Mc.1 4 0 = nI S := hi.2.2.1.trans q2
  have bad : zBoth (some ((-2 : Int32), Mc)) (some ((-2 : Int32), Mr)) := ⟨_, _, _, rfl, rfl, h⟩
  unfold pX5_breaks pX6_breaks K_X6_breaks_14
  simp only [c4, q2]
  by_cases c : ((Int32.toUInt32 x1 >>> (Int32.toUInt32 (nI S) &&& Int32.toUInt32 31)).toInt32) = 0
  · obtain ⟨d1, d2⟩ := (zush x1 (by omega)).mp c
    rw [if_pos c, if_neg d1, if_pos d2]
    by_cases c12 : nI S ≤ 12
    · rw [if_pos c12, if_pos c12]
      obtain ⟨M1, M2, L, p1, p2, kc, kr, l8, hL⟩ := b_reach hn100 hok hi hn hsn
      have r1 : pX1_allBroken n x1 M1 = some (zbk L S x1) := c_broken hn100 (by omega) l8 (fun s hs => (hL s hs).1) x1
      have r2 : pX6_isBroken n x1 M2 = some (zbk L S x1) := r_broken hn100 b1 (show S ≤ 24 by omega) (by rw [kr 2 (by decide)]; exact q2) (fun s hs => ⟨by have := (hst.1 s hs).1; omega, (hL s hs).2⟩) x1
      rw [p1, p2, zbind_some, zbind_some, r1, r2, zbind_some, zbind_some]
      by_cases e : zbk L S x1 = 0
      · rw [if_pos e, if_pos e]; exact ⟨_, _, _, rfl, rfl, h.keep kc kr⟩
      · rw [if_neg e, if_neg e]; exact ⟨_, _, _, rfl, rfl, h.keep kc kr⟩
    · rw [if_neg c12, if_neg c12]; exact ⟨_, _, _, rfl, rfl, h⟩
  · rw [if_neg c]
    by_cases d1 : x1 < 0
    · rw [if_pos d1]; exact bad
    · rw [if_neg d1, if_neg (fun d2 => c ((zush x1 (by omega)).mpr ⟨d1, d2⟩))]; exact bad
