/-! ===== what the nets do, in the words of the reference's rows: M is the reference's memory as a call finds it ===== -/
def zb (b : Bool) : Int32 := if b = true then 1 else 0
theorem zb_t : zb true = 1 := rfl
theorem zb_f : zb false = 0 := rfl
theorem zb_and (a b : Bool) : zb a &&& zb b = zb (a && b) := by cases a <;> cases b <;> rfl
theorem zb_or (a b : Bool) : zb a ||| zb b = zb (a || b) := by cases a <;> cases b <;> rfl
theorem zb_xor (a b : Bool) : zb a ^^^ zb b = zb (a ^^ b) := by cases a <;> cases b <;> rfl
theorem zb_not (a : Bool) : 1 - zb a = zb (!a) := by cases a <;> rfl
theorem zb_inj {a b : Bool} : zb a = zb b ↔ a = b := by cases a <;> cases b <;> decide
theorem zb_0 {a : Bool} : zb a = 0 ↔ a = false := by cases a <;> decide
def mj (a b c : Bool) : Bool := (a && b) || (a && c) || (b && c)
theorem zb_mj (a b c : Bool) : (if zb a + zb b + zb c ≤ 1 then (0 : Int32) else 1) = zb (mj a b c) := by cases a <;> cases b <;> cases c <;> rfl
theorem mj_same (a : Bool) : mj a a a = a := by cases a <;> rfl
def ga (M : zM) (k : Nat) : Nat := (M.1 11 k).toNatClampNeg
def gb (M : zM) (k : Nat) : Nat := (M.1 12 k).toNatClampNeg
/-- an INPUT's bit -/
def gI (M : zM) (t k : Nat) : Bool := !decide (M.1 25 0 = 0) && decide (t < (M.1 27 0).toNatClampNeg) && bt (M.1 28 t) (M.1 17 k).toNatClampNeg
/-- a gate -/
def gG (x : Int32) (a b : Bool) : Bool := if x = 1 then !a else if x = 2 then a && b else if x = 3 then a || b else a ^^ b
/-- the plain net in a tick, where the stores have P -/
def pv (M : zM) (t : Nat) (P : Nat → Bool) (j : Nat) : Bool :=
  if M.1 10 j = 5 then P j else if M.1 10 j = 0 then gI M t j else
    gG (M.1 10 j) (if _h : ga M j < j then pv M t P (ga M j) else false) (if M.1 12 j = -1 then false else if _h : gb M j < j then pv M t P (gb M j) else false)
termination_by j
/-- what the stores have as a tick begins -/
def ps (M : zM) : Nat → Nat → Bool
  | 0 => fun _ => false
  | t + 1 => fun k => pv M t (ps M t) (ga M k)
/-- the plain net -/
def pl (M : zM) (t k : Nat) : Bool := pv M t (ps M t) k
/-- what copy c of j takes of q, whose copies have v -/
def tkv (M : zM) (j q : Nat) (v : Nat → Bool) (c : Nat) : Bool := if M.1 14 q = 0 then v 0 else if M.1 14 j = 0 then mj (v 0) (v 1) (v 2) else v c
/-- the bearing net in a tick, with the flips F, where the stores' copies have S -/
def gv (M : zM) (t : Nat) (S F : Nat → Nat → Bool) (j c : Nat) : Bool :=
  if M.1 10 j = 5 then S j c ^^ F j c else if M.1 10 j = 0 then gI M t j ^^ F j c else
    gG (M.1 10 j) (if _h : ga M j < j then tkv M j (ga M j) (fun q => gv M t S F (ga M j) q) c else false) (if M.1 12 j = -1 then false else if _h : gb M j < j then tkv M j (gb M j) (fun q => gv M t S F (gb M j) q) c else false) ^^ F j c
termination_by j
/-- what a store's copies take -/
def tks (M : zM) (V : Nat → Nat → Bool) (k c : Nat) : Bool := if M.1 15 k = 0 then tkv M k (ga M k) (V (ga M k)) c else mj (tkv M k (ga M k) (V (ga M k)) 0) (tkv M k (ga M k) (V (ga M k)) 1) (tkv M k (ga M k) (V (ga M k)) 2)
def ss (M : zM) (F : Nat → Nat → Nat → Bool) : Nat → Nat → Nat → Bool
  | 0 => fun _ _ => false
  | t + 1 => fun k c => tks M (gv M t (ss M F t) (F t)) k c
/-- the bearing net -/
def bl (M : zM) (F : Nat → Nat → Nat → Bool) (t k c : Nat) : Bool := gv M t (ss M F t) (F t) k c
/-- nodes as they should be, with their sources as numbers -/
theorem zNd.gate {M : zM} {N I S k : Nat} (h : zNd M N I S k) (hN : N ≤ 24) (hk : k < N) (n0 : ¬ M.1 10 k = 0) (n5 : ¬ M.1 10 k = 5) : ga M k < k ∧ M.1 11 k = nI (ga M k) ∧ ((M.1 10 k = 1 ∧ M.1 12 k = -1) ∨ (¬ M.1 10 k = 1 ∧ ¬ M.1 12 k = -1 ∧ gb M k < k ∧ M.1 12 k = nI (gb M k))) := by
  obtain ⟨-, h2⟩ := h
  rcases h2 with ⟨a, -⟩ | ⟨h10, ⟨a, ha, h11⟩, h12, h17⟩ | ⟨h10, ⟨a, ha, h11⟩, ⟨b, hb, h12⟩, h17⟩ | ⟨a, -⟩
  · exact absurd a n0
  · have e : ga M k = a := by unfold ga; rw [h11, cl_n (by omega)]
    exact ⟨by omega, by rw [e]; exact h11, Or.inl ⟨h10, h12⟩⟩
  · have e : ga M k = a := by unfold ga; rw [h11, cl_n (by omega)]
    have e2 : gb M k = b := by unfold gb; rw [h12, cl_n (by omega)]
    exact ⟨by omega, by rw [e]; exact h11, Or.inr ⟨by rcases h10 with q | q | q <;> rw [q] <;> decide, by rw [h12]; exact nI_ne_m1 (by omega), by omega, by rw [e2]; exact h12⟩⟩
  · exact absurd a n5
theorem zNd.sto {M : zM} {N I S k : Nat} (h : zNd M N I S k) (hN : N ≤ 24) (h5 : M.1 10 k = 5) : ga M k < N ∧ M.1 11 k = nI (ga M k) := by
  obtain ⟨⟨a, ha, e⟩, -⟩ := h.store h5
  have e1 : ga M k = a := by unfold ga; rw [e, cl_n (by omega)]
  exact ⟨by omega, by rw [e1]; exact e⟩
theorem zNd.inp {M : zM} {N I S k : Nat} (h : zNd M N I S k) (hI : I ≤ 24) (h0 : M.1 10 k = 0) : ∃ u, u < 24 ∧ M.1 17 k = nI u := by
  obtain ⟨-, h2⟩ := h
  rcases h2 with ⟨-, -, -, u, hu, h17⟩ | ⟨a, -⟩ | ⟨a, -⟩ | ⟨a, -⟩
  · exact ⟨u, by omega, h17⟩
  · rw [h0] at a; exact absurd a (by decide)
  · rw [h0] at a; rcases a with a | a | a <;> exact absurd a (by decide)
  · rw [h0] at a; exact absurd a (by decide)
/-! ===== the reference's small ones ===== -/
theorem r_gate (x : Int32) (a b : Bool) (M : zM) : pX6_gate x (zb a) (zb b) M = some (zb (gG x a b)) := by
  unfold pX6_gate gG
  by_cases h1 : x = 1
  · rw [if_pos h1, if_pos h1, zb_not]
  · rw [if_neg h1, if_neg h1]
    by_cases h2 : x = 2
    · rw [if_pos h2, if_pos h2, zb_and]
    · rw [if_neg h2, if_neg h2]
      by_cases h3 : x = 3
      · rw [if_pos h3, if_pos h3, zb_or]
      · rw [if_neg h3, if_neg h3, zb_xor]
theorem z04 {α : Type} (q : Option α) : zchk (0 : Int32) 4 q = q := zchk_n (j := 0) (by decide)
theorem cl0 : (0 : Int32).toNatClampNeg = 0 := rfl
theorem r_inputAt {Mr M : zM} {N I S T V : Nat} {sn : Nat → Nat} (hok : zOk Mr N I S T V sn) (kr : zKeepR Mr M) {k t : Nat} (hk : k < N) (h0 : Mr.1 10 k = 0) (ht : t < 60) : pX6_inputAt (nI k) (nI t) M = some (zb (gI Mr t k)) := by
  obtain ⟨⟨⟨b1, b2, b3, b4, b5, b6⟩, q0, q1, q2, q3, q4⟩, hnd, hbits, hst, hsh⟩ := id hok
  obtain ⟨u, hu, h17⟩ := (hnd k hk).inp (by omega) h0
  obtain ⟨⟨z, hz, ez⟩, hth⟩ := hsh 0 (by omega)
  unfold pX6_inputAt K_X6_inputAt_37 gI
  simp only [z04, cl0, kr 25 (by decide), kr 27 (by decide), kr 28 (by decide), kr 17 (by decide), ez, h17, cl_n (show z < 2147483648 by omega), cl_n (show u < 2147483648 by omega), cl_n (show t < 2147483648 by omega), cl_n (show k < 2147483648 by omega)]
  by_cases c : Mr.1 25 0 = 0
  · rw [if_pos c]; simp [c, zb_f]
  · rw [if_neg c]
    by_cases c2 : z ≤ t
    · rw [if_pos (nI_le c2 (by omega))]
      simp [c, show ¬ t < z by omega, zb_f]
    · rw [if_neg (nI_ge (by omega) (by omega)), zchk_n (show t < 240 by omega), zchk_n (show k < 24 by omega), b_bit u (by omega)]
      simp [c, show t < z by omega, zb]
