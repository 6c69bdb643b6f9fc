/-! ===== the memories at the start ===== -/
def mC0 (f : Nat → Int32) : zM := (fun v => match v with | 0 => fun _ => 8 | 1 => fun _ => 1 | 20 => f | _ => fun _ => 0, fun _ _ => 0)
def mR0 : zM := (fun v => match v with | 3 => fun _ => 8 | 4 => fun _ => 1 | _ => fun _ => 0, fun _ _ => 0)
def adC0 (h0 n0 s0 p0 l0 o0 a1 a2 a3 a4 a5 a6 a7 a8 a9 a10 b1 b2 b3 c1 d1 d2 d3 d4 d5 e1 e2 : Nat) : Nat → Nat := fun i => [h0, n0, s0, p0, l0, o0, a1, a2, a3, a4, a5, a6, a7, a8, a9, a10, b1, b2, b3, (b3 + 1 + 0), (b3 + 1 + 1), (b3 + 1 + 2), (b3 + 1 + 3), c1, d1, d2, d3, d4, d5, e1, e2].getD i 0
def adR0 (h0 q1 q2 q3 q4 q5 q6 q7 q8 q9 q10 q11 q12 q13 q14 q15 q16 q17 q18 q19 q20 : Nat) : Nat → Nat := fun i => [h0, q1, q2, q3, q4, q5, q6, q7, q8, q9, q10, q11, q12, q13, q14, q15, q16, q17, q18, q19, q20].getD i 0
theorem rel0 {f : Nat → Int32} (hf : ∀ i, i < 4 → f i = -1) : zRel (mC0 f) mR0 := by
  refine ⟨0, 0, 0, 8, 1, fun _ => 0, ⟨⟨by omega, rfl, rfl, rfl, rfl, rfl⟩, fun k hk => by omega, ⟨fun k => ⟨Or.inl rfl, Or.inl rfl, Or.inl rfl⟩, fun k _ => ⟨rfl, rfl, rfl⟩, fun k (h : (0 : Int32) = 1) => absurd h (by decide)⟩, ⟨fun s hs => by omega, fun k hk => by omega⟩, fun s _ => ⟨⟨0, by omega, rfl⟩, Or.inl rfl⟩⟩, ⟨rfl, rfl, rfl, rfl, rfl, rfl⟩, ⟨rfl, rfl, rfl, rfl, rfl, rfl, rfl, rfl⟩, fun s hs => ⟨rfl, Or.inl ⟨rfl, hf s hs⟩, fun i hi => ?_⟩, fun s hs => by omega⟩
  rcases (show s = 0 ∨ s = 1 ∨ s = 2 ∨ s = 3 by omega) with rfl | rfl | rfl | rfl <;> rfl
set_option maxRecDepth 20000 in
theorem wC0_eq (ck : Nat → ClassId) (h0 n0 s0 p0 l0 o0 a1 a2 a3 a4 a5 a6 a7 a8 a9 a10 b1 b2 b3 c1 d1 d2 d3 d4 d5 e1 e2 : Nat) (f : Nat → Int32) : [0, 1, 12, 20, 22, 28, 2, 3, 4, 5, 6, 7, 8, 9, 10, 11, 13, 14, 15, 16, 17, 18, 19, 21, 23, 24, 25, 26, 27, 29, 30].map (fun i => ([(h0, .inr (5, [.ref n0, .ref s0, .ref p0, .ref l0, .ref o0, .int 8, .int 1]))] ++ nX2 ck n0 a1 a2 a3 a4 a5 a6 a7 a8 a9 a10 ++ nX4 ck s0 b1 b2 b3 f ++ nX3 ck p0 c1 ++ nX0 ck l0 d1 d2 d3 d4 d5 ++ nX1 ck o0 e1 e2)[i]?) = (wC (adC0 h0 n0 s0 p0 l0 o0 a1 a2 a3 a4 a5 a6 a7 a8 a9 a10 b1 b2 b3 c1 d1 d2 d3 d4 d5 e1 e2) ck (mC0 f)).map some := by
  have hg : (fun i => if i < 4 then some (adC0 h0 n0 s0 p0 l0 o0 a1 a2 a3 a4 a5 a6 a7 a8 a9 a10 b1 b2 b3 c1 d1 d2 d3 d4 d5 e1 e2 (19 + i)) else none) = (fun i => if i < 4 then some (b3 + 1 + i) else none) := by
    funext i
    by_cases h : i < 4
    · rw [if_pos h, if_pos h]
      rcases (show i = 0 ∨ i = 1 ∨ i = 2 ∨ i = 3 by omega) with rfl | rfl | rfl | rfl <;> rfl
    · rw [if_neg h, if_neg h]
  unfold wC
  rw [hg]
  rfl
theorem z_fm {α β : Type} (f : α → Option β) : ∀ (l : List α) (r : List β), l.map f = r.map some → l.filterMap f = r
  | [], [], _ => rfl
  | [], _ :: _, h => by cases h
  | _ :: _, [], h => by cases h
  | a :: l, b :: r, h => by
    simp only [List.map_cons, List.cons.injEq] at h
    rw [List.filterMap_cons_some h.1, z_fm f l r h.2]
theorem za_perm {p : Program} {l : Launch} {e : Env} {R : Room} {s : State} {m : MethodId} {args : Array Value} {below : List Frame} {meth : Method} {c : Code} {D : va_G} {A : Nat → Prop} {nL kc ks : Nat} {Q : State → Prop} {pc : Nat} {lv : List (Nat × Value)} {st : List Value} {w w' : va_W} (is : List Nat) (hn : va_nd is = true) (hs : is.map (fun i => w[i]?) = w'.map some)
    (h : za_At p l e R s m args below meth c D A nL kc ks Q pc lv st w') : za_At p l e R s m args below meth c D A nL kc ks Q pc lv st w :=
  fun H locs ls hP hD hS hl => h H locs ls (hP.sub is (z_fm _ _ _ hs)) (hD.sub is hn hs) hS hl
theorem in_X5_init_X2 : ∀ w ∈ wsX20, w ∈ wsX5_init := by decide +kernel
theorem in_X5_init_X4 : ∀ w ∈ wsX40, w ∈ wsX5_init := by decide +kernel
theorem in_X5_init_X3 : ∀ w ∈ wsX30, w ∈ wsX5_init := by decide +kernel
theorem in_X5_init_X0 : ∀ w ∈ wsX00, w ∈ wsX5_init := by decide +kernel
theorem in_X5_init_X1 : ∀ w ∈ wsX10, w ∈ wsX5_init := by decide +kernel
theorem in_X5_init_X5 : ∀ w ∈ wsX50, w ∈ wsX5_init := by decide +kernel
set_option maxHeartbeats 4000000 in
set_option maxRecDepth 20000 in
theorem kX5_init (l : Launch) (D : va_G) (ck : Nat → ClassId) (h0 : Nat) : zn l D ck yX5_init wsX5_init ({ frames := 2, cells := 30, slots := 1975, locals := 43 }) h0 [(h0, .inr (5, [.null, .null, .null, .null, .null, .int 0, .int 0]))] (fun w => ∃ (ad : Nat → Nat) (f : Nat → Int32), (∀ i, i < 4 → f i = (-1 : Int32)) ∧ ad 0 = h0 ∧ w = wC ad ck (mC0 f)) 30 1975 := by
  refine zn_of (cc := cX5_init) (by decide) rfl rfl ?_
  intro p e s m args below meth c A Q C F
  have hn2 := F.2.2.1
  have hE := F.2.2.2.1
  refine za_aload_n C 0 rfl rfl dX5_init_0 ?_
  refine za_objI C (by decide +kernel) (by decide +kernel) (by decide +kernel) (Nat.le_of_ble_eq_true rfl) (Nat.le_of_ble_eq_true rfl) dX5_init_1 ?_
  refine za_aload_n C 0 rfl rfl dX5_init_4 ?_
  refine za_new (ci := 2) (fs := [.int 0, .int 0, .int 0, .null, .null, .null, .null, .null, .null, .null, .null, .null, .null]) C in_X5_init_X2 tyX2 tyX2_ok (show Cond.classLink RX5 7 RX2 ∈ wsX5_init by decide +kernel) (by decide +kernel) (by decide +kernel) rfl (fun j hj => by rcases (show j = 0 ∨ j = 1 ∨ j = 2 ∨ j = 3 ∨ j = 4 ∨ j = 5 ∨ j = 6 ∨ j = 7 ∨ j = 8 ∨ j = 9 ∨ j = 10 ∨ j = 11 ∨ j = 12 by omega) with rfl | rfl | rfl | rfl | rfl | rfl | rfl | rfl | rfl | rfl | rfl | rfl | rfl <;> rfl) (Nat.le_of_ble_eq_true rfl) (Nat.le_of_ble_eq_true rfl) dX5_init_5 (fun n0 => ?_)
  refine za_dup C rfl dX5_init_8 ?_
  refine za_callIN (rest := [.ref n0, .ref h0]) C hE (kX2_init l D ck n0) gX5_init_X2_init_n9 rfl rfl rfl (by decide +kernel) hE.2.1 (by decide +kernel) rfl (by decide +kernel) ⟨Nat.le_of_ble_eq_true rfl, Nat.le_of_ble_eq_true rfl⟩ (Nat.le_of_ble_eq_true rfl) ⟨Nat.le_of_ble_eq_true rfl, Nat.le_of_ble_eq_true rfl⟩ dX5_init_9 (fun w1 hw1 => ?_)
  obtain ⟨a1, a2, a3, a4, a5, a6, a7, a8, a9, a10, rfl⟩ := hw1
  refine za_putF C hn2 in_X5_init_X5 tyX5 tyX5_ok nmX5 0 rfl rfl 0 (by decide) (show Cond.fieldLink RX5 10 "ThriceNets" "net" "LThriceNets$Net;" ∈ wsX5_init by decide +kernel) rfl rfl rfl rfl rfl (Nat.le_of_ble_eq_true rfl) (w' := ([(h0, .inr (5, [.ref n0, .null, .null, .null, .null, .int 0, .int 0]))] ++ nX2 ck n0 a1 a2 a3 a4 a5 a6 a7 a8 a9 a10)) rfl dX5_init_12 ?_
  refine za_aload_n C 0 rfl rfl dX5_init_15 ?_
  refine za_new (ci := 4) (fs := [.null, .null, .null, .int 0]) C in_X5_init_X4 tyX4 tyX4_ok (show Cond.classLink RX5 16 RX4 ∈ wsX5_init by decide +kernel) (by decide +kernel) (by decide +kernel) rfl (fun j hj => by rcases (show j = 0 ∨ j = 1 ∨ j = 2 ∨ j = 3 by omega) with rfl | rfl | rfl | rfl <;> rfl) (Nat.le_of_ble_eq_true rfl) (Nat.le_of_ble_eq_true rfl) dX5_init_16 (fun s0 => ?_)
  refine za_dup C rfl dX5_init_19 ?_
  refine za_callI (rest := [.ref s0, .ref h0]) C hE (kX4_init l D ck s0) gX5_init_X4_init rfl rfl rfl (by decide +kernel) (show Cond.methodLink RX5 18 yX4_init ∈ wsX5_init by decide +kernel) (by decide +kernel) rfl (by decide +kernel) ⟨Nat.le_of_ble_eq_true rfl, Nat.le_of_ble_eq_true rfl⟩ (Nat.le_of_ble_eq_true rfl) ⟨Nat.le_of_ble_eq_true rfl, Nat.le_of_ble_eq_true rfl⟩ dX5_init_20 (fun w1 hw1 => ?_)
  obtain ⟨b1, b2, b3, f, hf, rfl⟩ := hw1
  refine za_putF C hn2 in_X5_init_X5 tyX5 tyX5_ok nmX5 0 rfl rfl 1 (by decide) (show Cond.fieldLink RX5 19 "ThriceNets" "sheets" "LThriceNets$Sheets;" ∈ wsX5_init by decide +kernel) rfl rfl rfl rfl rfl (Nat.le_of_ble_eq_true rfl) (w' := ([(h0, .inr (5, [.ref n0, .ref s0, .null, .null, .null, .int 0, .int 0]))] ++ nX2 ck n0 a1 a2 a3 a4 a5 a6 a7 a8 a9 a10 ++ nX4 ck s0 b1 b2 b3 f)) rfl dX5_init_23 ?_
  refine za_aload_n C 0 rfl rfl dX5_init_26 ?_
  refine za_new (ci := 3) (fs := [.null]) C in_X5_init_X3 tyX3 tyX3_ok (show Cond.classLink RX5 23 RX3 ∈ wsX5_init by decide +kernel) (by decide +kernel) (by decide +kernel) rfl (fun j hj => by rcases (show j = 0 by omega) with rfl <;> rfl) (Nat.le_of_ble_eq_true rfl) (Nat.le_of_ble_eq_true rfl) dX5_init_27 (fun p0 => ?_)
  refine za_dup C rfl dX5_init_30 ?_
  refine za_callIN (rest := [.ref p0, .ref h0]) C hE (kX3_init l D ck p0) gX5_init_X3_init_n25 rfl rfl rfl (by decide +kernel) hE.2.2.1 (by decide +kernel) rfl (by decide +kernel) ⟨Nat.le_of_ble_eq_true rfl, Nat.le_of_ble_eq_true rfl⟩ (Nat.le_of_ble_eq_true rfl) ⟨Nat.le_of_ble_eq_true rfl, Nat.le_of_ble_eq_true rfl⟩ dX5_init_31 (fun w1 hw1 => ?_)
  obtain ⟨c1, rfl⟩ := hw1
  refine za_putF C hn2 in_X5_init_X5 tyX5 tyX5_ok nmX5 0 rfl rfl 2 (by decide) (show Cond.fieldLink RX5 26 "ThriceNets" "plainRun" "LThriceNets$PlainRun;" ∈ wsX5_init by decide +kernel) rfl rfl rfl rfl rfl (Nat.le_of_ble_eq_true rfl) (w' := ([(h0, .inr (5, [.ref n0, .ref s0, .ref p0, .null, .null, .int 0, .int 0]))] ++ nX2 ck n0 a1 a2 a3 a4 a5 a6 a7 a8 a9 a10 ++ nX4 ck s0 b1 b2 b3 f ++ nX3 ck p0 c1)) rfl dX5_init_34 ?_
  refine za_aload_n C 0 rfl rfl dX5_init_37 ?_
  refine za_new (ci := 0) (fs := [.null, .null, .null, .null, .null, .int 0, .int 0, .long 0, .long 0]) C in_X5_init_X0 tyX0 tyX0_ok (show Cond.classLink RX5 30 RX0 ∈ wsX5_init by decide +kernel) (by decide +kernel) (by decide +kernel) rfl (fun j hj => by rcases (show j = 0 ∨ j = 1 ∨ j = 2 ∨ j = 3 ∨ j = 4 ∨ j = 5 ∨ j = 6 ∨ j = 7 ∨ j = 8 by omega) with rfl | rfl | rfl | rfl | rfl | rfl | rfl | rfl | rfl <;> rfl) (Nat.le_of_ble_eq_true rfl) (Nat.le_of_ble_eq_true rfl) dX5_init_38 (fun l0 => ?_)
  refine za_dup C rfl dX5_init_41 ?_
  refine za_callIN (rest := [.ref l0, .ref h0]) C hE (kX0_init l D ck l0) gX5_init_X0_init_n32 rfl rfl rfl (by decide +kernel) hE.2.2.2.1 (by decide +kernel) rfl (by decide +kernel) ⟨Nat.le_of_ble_eq_true rfl, Nat.le_of_ble_eq_true rfl⟩ (Nat.le_of_ble_eq_true rfl) ⟨Nat.le_of_ble_eq_true rfl, Nat.le_of_ble_eq_true rfl⟩ dX5_init_42 (fun w1 hw1 => ?_)
  obtain ⟨d1, d2, d3, d4, d5, rfl⟩ := hw1
  refine za_putF C hn2 in_X5_init_X5 tyX5 tyX5_ok nmX5 0 rfl rfl 3 (by decide) (show Cond.fieldLink RX5 33 "ThriceNets" "lanes" "LThriceNets$Lanes;" ∈ wsX5_init by decide +kernel) rfl rfl rfl rfl rfl (Nat.le_of_ble_eq_true rfl) (w' := ([(h0, .inr (5, [.ref n0, .ref s0, .ref p0, .ref l0, .null, .int 0, .int 0]))] ++ nX2 ck n0 a1 a2 a3 a4 a5 a6 a7 a8 a9 a10 ++ nX4 ck s0 b1 b2 b3 f ++ nX3 ck p0 c1 ++ nX0 ck l0 d1 d2 d3 d4 d5)) rfl dX5_init_45 ?_
  refine za_aload_n C 0 rfl rfl dX5_init_48 ?_
  refine za_new (ci := 1) (fs := [.null, .null, .int 0]) C in_X5_init_X1 tyX1 tyX1_ok (show Cond.classLink RX5 37 RX1 ∈ wsX5_init by decide +kernel) (by decide +kernel) (by decide +kernel) rfl (fun j hj => by rcases (show j = 0 ∨ j = 1 ∨ j = 2 by omega) with rfl | rfl | rfl <;> rfl) (Nat.le_of_ble_eq_true rfl) (Nat.le_of_ble_eq_true rfl) dX5_init_49 (fun o0 => ?_)
  refine za_dup C rfl dX5_init_52 ?_
  refine za_callIN (rest := [.ref o0, .ref h0]) C hE (kX1_init l D ck o0) gX5_init_X1_init_n39 rfl rfl rfl (by decide +kernel) hE.2.2.2.2 (by decide +kernel) rfl (by decide +kernel) ⟨Nat.le_of_ble_eq_true rfl, Nat.le_of_ble_eq_true rfl⟩ (Nat.le_of_ble_eq_true rfl) ⟨Nat.le_of_ble_eq_true rfl, Nat.le_of_ble_eq_true rfl⟩ dX5_init_53 (fun w1 hw1 => ?_)
  obtain ⟨e1, e2, rfl⟩ := hw1
  refine za_putF C hn2 in_X5_init_X5 tyX5 tyX5_ok nmX5 0 rfl rfl 4 (by decide) (show Cond.fieldLink RX5 40 "ThriceNets" "loops" "LThriceNets$Loops;" ∈ wsX5_init by decide +kernel) rfl rfl rfl rfl rfl (Nat.le_of_ble_eq_true rfl) (w' := ([(h0, .inr (5, [.ref n0, .ref s0, .ref p0, .ref l0, .ref o0, .int 0, .int 0]))] ++ nX2 ck n0 a1 a2 a3 a4 a5 a6 a7 a8 a9 a10 ++ nX4 ck s0 b1 b2 b3 f ++ nX3 ck p0 c1 ++ nX0 ck l0 d1 d2 d3 d4 d5 ++ nX1 ck o0 e1 e2)) rfl dX5_init_56 ?_
  refine za_aload_n C 0 rfl rfl dX5_init_59 ?_
  refine za_bipush (v := (8 : Int32)) C (by decide) dX5_init_60 ?_
  refine za_put C in_X5_init_X5 tyX5 tyX5_ok nmX5 0 rfl rfl 5 (by decide) (show Cond.fieldLink RX5 44 "ThriceNets" "span" "I" ∈ wsX5_init by decide +kernel) rfl rfl rfl rfl (Nat.le_of_ble_eq_true rfl) (w' := ([(h0, .inr (5, [.ref n0, .ref s0, .ref p0, .ref l0, .ref o0, .int 8, .int 0]))] ++ nX2 ck n0 a1 a2 a3 a4 a5 a6 a7 a8 a9 a10 ++ nX4 ck s0 b1 b2 b3 f ++ nX3 ck p0 c1 ++ nX0 ck l0 d1 d2 d3 d4 d5 ++ nX1 ck o0 e1 e2)) rfl dX5_init_62 ?_
  refine za_aload_n C 0 rfl rfl dX5_init_65 ?_
  refine za_iconst (v := (1 : Int32)) C (by decide) dX5_init_66 ?_
  refine za_put C in_X5_init_X5 tyX5 tyX5_ok nmX5 0 rfl rfl 6 (by decide) (show Cond.fieldLink RX5 48 "ThriceNets" "voterPrice" "I" ∈ wsX5_init by decide +kernel) rfl rfl rfl rfl (Nat.le_of_ble_eq_true rfl) (w' := ([(h0, .inr (5, [.ref n0, .ref s0, .ref p0, .ref l0, .ref o0, .int 8, .int 1]))] ++ nX2 ck n0 a1 a2 a3 a4 a5 a6 a7 a8 a9 a10 ++ nX4 ck s0 b1 b2 b3 f ++ nX3 ck p0 c1 ++ nX0 ck l0 d1 d2 d3 d4 d5 ++ nX1 ck o0 e1 e2)) rfl dX5_init_67 ?_
  refine za_perm [0, 1, 12, 20, 22, 28, 2, 3, 4, 5, 6, 7, 8, 9, 10, 11, 13, 14, 15, 16, 17, 18, 19, 21, 23, 24, 25, 26, 27, 29, 30] (by decide) (wC0_eq ck h0 n0 s0 p0 l0 o0 a1 a2 a3 a4 a5 a6 a7 a8 a9 a10 b1 b2 b3 c1 d1 d2 d3 d4 d5 e1 e2 f) ?_
  exact za_nret C F ⟨_, f, hf, rfl, rfl⟩ dX5_init_70
