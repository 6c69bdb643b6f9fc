def K_X6_in_14 (x0 : Int32) (x1 : Int32) (x2 : Int32) (M0 : zM) : Option (Int32) :=
  some (0 : Int32)
def pX6_in (x0 : Int32) (x1 : Int32) (x2 : Int32) (M0 : zM) : Option (Int32) :=
  (if x0 < x1 then (K_X6_in_14 x0 x1 x2 M0) else (if x2 < x0 then (K_X6_in_14 x0 x1 x2 M0) else (some (1 : Int32))))
set_option maxHeartbeats 4000000 in
set_option maxRecDepth 100000 in
theorem cX6_in_ok (l : Launch) (D : va_G) (ck : Nat → ClassId) (ad : Nat → Nat) (x0 : Int32) (x1 : Int32) (x2 : Int32) (M0 : zM) (r9 : Int32) (hf : pX6_in x0 x1 x2 M0 = some r9) : zc l D ck (wR ad ck) yX6_in wsX6_in ({ frames := 0, cells := 0, slots := 0, locals := 0 }) [.int x0, .int x1, .int x2] M0 (some (.int r9)) M0 := by
  refine zc_of (cc := cX6_in) (maxL := 3) (ret := (some .boolean)) [(0, .int x0), (1, .int x1), (2, .int x2)] (by decide) rfl (Nat.le_of_ble_eq_true rfl) rfl ?_
  intro p e s m args below meth c A Q C F
  have j_14 : ∀ (x0 : Int32) (x1 : Int32) (x2 : Int32), K_X6_in_14 x0 x1 x2 M0 = some r9 → za_At p l e { frames := 0, cells := 0, slots := 0, locals := 0 } s m args below meth c D A 3 0 0 Q 14 [(0, .int x0), (1, .int x1), (2, .int x2)] [] (wR ad ck M0) := by
    intro x0 x1 x2 hf
    unfold K_X6_in_14 at hf
    refine za_iconst (v := (0 : Int32)) C (by decide) dX6_in_14 ?_
    obtain rfl := z_ret1 hf
    exact za_zret C F rfl dX6_in_15
  unfold pX6_in at hf
  refine za_iload_n C 0 rfl rfl dX6_in_0 ?_
  refine za_iload_n C 1 rfl rfl dX6_in_1 ?_
  refine za_icmp_lt C 14 (by decide) dX6_in_2 (fun q1 => ?_) (fun q1 => ?_)
  · have hf := z_pos q1 hf
    exact za_sub [0, 1, 2] rfl (j_14 x0 x1 x2 hf)
  · have hf := z_neg q1 hf
    refine za_iload_n C 0 rfl rfl dX6_in_5 ?_
    refine za_iload_n C 2 rfl rfl dX6_in_6 ?_
    refine za_icmp_gt C 14 (by decide) dX6_in_7 (fun q2 => ?_) (fun q2 => ?_)
    · have hf := z_pos q2 hf
      exact za_sub [0, 1, 2] rfl (j_14 x0 x1 x2 hf)
    · have hf := z_neg q2 hf
      refine za_iconst (v := (1 : Int32)) C (by decide) dX6_in_10 ?_
      refine za_goto C 15 (by decide) dX6_in_11 ?_
      obtain rfl := z_ret1 hf
      exact za_zret C F rfl dX6_in_15
theorem in_X6_isNode_X6 : ∀ w ∈ wsX60, w ∈ wsX6_isNode := by decide +kernel
theorem fl_X6_isNode_78 : Cond.fieldLink RX6 78 "ThriceNetsModel" "nodes" "I" ∈ wsX6_isNode := by decide +kernel
def pX6_isNode (x1 : Int32) (M0 : zM) : Option (Int32) :=
  (pX6_in x1 (0 : Int32) ((M0.1 0 0) - (1 : Int32)) M0).bind (fun v2 => zbl v2 (some v2))
set_option maxHeartbeats 4000000 in
set_option maxRecDepth 100000 in
theorem cX6_isNode_ok (l : Launch) (D : va_G) (ck : Nat → ClassId) (ad : Nat → Nat) (x1 : Int32) (M0 : zM) (r9 : Int32) (hf : pX6_isNode x1 M0 = some r9) : zc l D ck (wR ad ck) yX6_isNode wsX6_isNode ({ frames := 1, cells := 0, slots := 0, locals := 22 }) [.ref (ad 0), .int x1] M0 (some (.int r9)) M0 := by
  refine zc_of (cc := cX6_isNode) (maxL := 2) (ret := (some .boolean)) [(0, .ref (ad 0)), (1, .int x1)] (by decide) rfl (Nat.le_of_ble_eq_true rfl) rfl ?_
  intro p e s m args below meth c A Q C F
  unfold pX6_isNode at hf
  refine za_iload_n C 1 rfl rfl dX6_isNode_0 ?_
  refine za_iconst (v := (0 : Int32)) C (by decide) dX6_isNode_1 ?_
  refine za_aload_n C 0 rfl rfl dX6_isNode_2 ?_
  refine zg_R0_0 C in_X6_isNode_X6 fl_X6_isNode_78 dX6_isNode_3 ?_
  refine za_iconst (v := (1 : Int32)) C (by decide) dX6_isNode_6 ?_
  refine za_isub C dX6_isNode_7 ?_
  obtain ⟨v2, hc1, hf⟩ := z_bind hf
  refine za_callS (n := 3) (rest := []) C (cX6_in_ok l D ck ad x1 (0 : Int32) ((M0.1 0 0) - (1 : Int32)) M0 _ hc1) gX6_isNode_X6_in rfl rfl rfl (by decide +kernel) ⟨Nat.le_of_ble_eq_true rfl, Nat.le_of_ble_eq_true rfl⟩ rfl rfl (Nat.le_of_ble_eq_true rfl) ⟨Nat.zero_le _, Nat.zero_le _⟩ dX6_isNode_8 ?_
  obtain ⟨hb3, hf⟩ := z_bl hf
  obtain rfl := z_ret1 hf
  exact za_zret C F (z_nb hb3) dX6_isNode_11
theorem in_X6_isStore_X6 : ∀ w ∈ wsX60, w ∈ wsX6_isStore := by decide +kernel
theorem fl_X6_isStore_7 : Cond.fieldLink RX6 7 "ThriceNetsModel" "kinds" "[I" ∈ wsX6_isStore := by decide +kernel
def K_X6_isStore_22 (x1 : Int32) (M0 : zM) : Option (Int32) :=
  some (0 : Int32)
def pX6_isStore (x1 : Int32) (M0 : zM) : Option (Int32) :=
  (pX6_isNode x1 M0).bind (fun v2 => (if v2 = 0 then (K_X6_isStore_22 x1 M0) else (zchk x1 24 ((if (M0.1 10 x1.toNatClampNeg) = (5 : Int32) then (some (1 : Int32)) else (K_X6_isStore_22 x1 M0))))))
set_option maxHeartbeats 4000000 in
set_option maxRecDepth 100000 in
theorem cX6_isStore_ok (l : Launch) (D : va_G) (ck : Nat → ClassId) (ad : Nat → Nat) (x1 : Int32) (M0 : zM) (r9 : Int32) (hf : pX6_isStore x1 M0 = some r9) : zc l D ck (wR ad ck) yX6_isStore wsX6_isStore ({ frames := 2, cells := 0, slots := 0, locals := 43 }) [.ref (ad 0), .int x1] M0 (some (.int r9)) M0 := by
  refine zc_of (cc := cX6_isStore) (maxL := 2) (ret := (some .boolean)) [(0, .ref (ad 0)), (1, .int x1)] (by decide) rfl (Nat.le_of_ble_eq_true rfl) rfl ?_
  intro p e s m args below meth c A Q C F
  have j_22 : ∀ (x1 : Int32), K_X6_isStore_22 x1 M0 = some r9 → za_At p l e { frames := 2, cells := 0, slots := 0, locals := 43 } s m args below meth c D A 2 0 0 Q 22 [(0, .ref (ad 0)), (1, .int x1)] [] (wR ad ck M0) := by
    intro x1 hf
    unfold K_X6_isStore_22 at hf
    refine za_iconst (v := (0 : Int32)) C (by decide) dX6_isStore_22 ?_
    obtain rfl := z_ret1 hf
    exact za_zret C F rfl dX6_isStore_23
  unfold pX6_isStore at hf
  refine za_aload_n C 0 rfl rfl dX6_isStore_0 ?_
  refine za_iload_n C 1 rfl rfl dX6_isStore_1 ?_
  obtain ⟨v2, hc1, hf⟩ := z_bind hf
  refine za_callV (n := 1) (rest := []) C (cX6_isNode_ok l D ck ad x1 M0 _ hc1) gX6_isStore_X6_isNode rfl rfl rfl (by decide +kernel) ⟨Nat.le_of_ble_eq_true rfl, Nat.le_of_ble_eq_true rfl⟩ 0 rfl rfl rfl rfl rfl (Nat.le_of_ble_eq_true rfl) ⟨Nat.zero_le _, Nat.zero_le _⟩ dX6_isStore_2 ?_
  refine za_if_eq C 22 (by decide) dX6_isStore_5 (fun q3 => ?_) (fun q3 => ?_)
  · have hf := z_pos q3 hf
    exact za_sub [0, 1] rfl (j_22 x1 hf)
  · have hf := z_neg q3 hf
    refine za_aload_n C 0 rfl rfl dX6_isStore_8 ?_
    refine zg_R0_1 C in_X6_isStore_X6 fl_X6_isStore_7 dX6_isStore_9 ?_
    refine za_iload_n C 1 rfl rfl dX6_isStore_12 ?_
    obtain ⟨h4, hf⟩ := z_chk hf
    refine zl_R1 C h4 dX6_isStore_13 ?_
    refine za_iconst (v := (5 : Int32)) C (by decide) dX6_isStore_14 ?_
    refine za_icmp_ne C 22 (by decide) dX6_isStore_15 (fun q5 => ?_) (fun q5 => ?_)
    · have hf := z_neg q5 hf
      exact za_sub [0, 1] rfl (j_22 x1 hf)
    · have hf := z_pos q5 hf
      refine za_iconst (v := (1 : Int32)) C (by decide) dX6_isStore_18 ?_
      refine za_goto C 23 (by decide) dX6_isStore_19 ?_
      obtain rfl := z_ret1 hf
      exact za_zret C F rfl dX6_isStore_23
theorem in_X6_node_X6 : ∀ w ∈ wsX60, w ∈ wsX6_node := by decide +kernel
theorem fl_X6_node_92 : Cond.fieldLink RX6 92 "ThriceNetsModel" "stores" "I" ∈ wsX6_node := by decide +kernel
theorem fl_X6_node_78 : Cond.fieldLink RX6 78 "ThriceNetsModel" "nodes" "I" ∈ wsX6_node := by decide +kernel
theorem fl_X6_node_89 : Cond.fieldLink RX6 89 "ThriceNetsModel" "inputs" "I" ∈ wsX6_node := by decide +kernel
theorem fl_X6_node_16 : Cond.fieldLink RX6 16 "ThriceNetsModel" "second" "[I" ∈ wsX6_node := by decide +kernel
theorem fl_X6_node_29 : Cond.fieldLink RX6 29 "ThriceNetsModel" "prices" "[I" ∈ wsX6_node := by decide +kernel
theorem fl_X6_node_32 : Cond.fieldLink RX6 32 "ThriceNetsModel" "numbers" "[I" ∈ wsX6_node := by decide +kernel
theorem fl_X6_node_7 : Cond.fieldLink RX6 7 "ThriceNetsModel" "kinds" "[I" ∈ wsX6_node := by decide +kernel
theorem fl_X6_node_13 : Cond.fieldLink RX6 13 "ThriceNetsModel" "first" "[I" ∈ wsX6_node := by decide +kernel
def K_X6_node_200 (x1 : Int32) (x2 : Int32) (x3 : Int32) (x4 : Int32) (x5 : Int32) (y0 : Int32) (y1 : Int32) (M : zM) : Option (Int32 × zM) :=
  zst (zsI M 2 0 (y1 + y0)) (fun N1 => zst (zsI N1 0 0 ((N1.1 0 0) + (1 : Int32))) (fun N2 => some (((N2.1 0 0) - (1 : Int32)), N2)))
def K_X6_node_181 (x1 : Int32) (x2 : Int32) (x3 : Int32) (x4 : Int32) (x5 : Int32) (y0 : Int32) (y1 : Int32) (M : zM) : Option (Int32 × zM) :=
  zst (zsI M 1 0 (y1 + y0)) (fun N3 => (if x1 = (5 : Int32) then (K_X6_node_200 x1 x2 x3 x4 x5 (1 : Int32) (N3.1 2 0) N3) else (K_X6_node_200 x1 x2 x3 x4 x5 (0 : Int32) (N3.1 2 0) N3)))
def K_X6_node_166 (x1 : Int32) (x2 : Int32) (x3 : Int32) (x4 : Int32) (x5 : Int32) (y0 : Int32) (y1 : Int32) (M : zM) : Option (Int32 × zM) :=
  zchk y1 24 (zst (zsI M 17 y1.toNatClampNeg y0) (fun N6 => (if x1 = 0 then (K_X6_node_181 x1 x2 x3 x4 x5 (1 : Int32) (N6.1 1 0) N6) else (K_X6_node_181 x1 x2 x3 x4 x5 (0 : Int32) (N6.1 1 0) N6))))
def K_X6_node_113 (x1 : Int32) (x2 : Int32) (x3 : Int32) (x4 : Int32) (x5 : Int32) (y0 : Int32) (y1 : Int32) (M : zM) : Option (Int32 × zM) :=
  zchk y1 24 (zst (zsI M 11 y1.toNatClampNeg y0) (fun N9 => zchk (N9.1 0 0) 24 (zst (zsI N9 12 (N9.1 0 0).toNatClampNeg x3) (fun N11 => zchk (N11.1 0 0) 24 (zst (zsI N11 16 (N11.1 0 0).toNatClampNeg (1 : Int32)) (fun N13 => (if x1 = 0 then (K_X6_node_166 x1 x2 x3 x4 x5 (N13.1 1 0) (N13.1 0 0) N13) else (if x1 = (5 : Int32) then (K_X6_node_166 x1 x2 x3 x4 x5 (N13.1 2 0) (N13.1 0 0) N13) else (K_X6_node_166 x1 x2 x3 x4 x5 (-1 : Int32) (N13.1 0 0) N13)))))))))
def K_X6_node_70 (x1 : Int32) (x2 : Int32) (x3 : Int32) (x4 : Int32) (x5 : Int32) (M : zM) : Option (Int32 × zM) :=
  (if (M.1 0 0) = (24 : Int32) then (some ((-4 : Int32), M)) else (zchk (M.1 0 0) 24 (zst (zsI M 10 (M.1 0 0).toNatClampNeg x1) (fun N18 => (if x1 = (5 : Int32) then (K_X6_node_113 x1 x2 x3 x4 x5 (N18.1 0 0) (N18.1 0 0) N18) else (K_X6_node_113 x1 x2 x3 x4 x5 x2 (N18.1 0 0) N18))))))
def K_X6_node_67 (x1 : Int32) (x2 : Int32) (x3 : Int32) (x4 : Int32) (x5 : Int32) (M : zM) : Option (Int32 × zM) :=
  some ((-2 : Int32), M)
def K_X6_node_46 (x1 : Int32) (x2 : Int32) (x3 : Int32) (x4 : Int32) (x5 : Int32) (M : zM) : Option (Int32 × zM) :=
  (if x5 = 0 then (if x3 = (-1 : Int32) then (K_X6_node_70 x1 x2 x3 x4 x5 M) else (K_X6_node_67 x1 x2 x3 x4 x5 M)) else ((pX6_isNode x3 M).bind (fun v23 => (if v23 = 0 then (K_X6_node_67 x1 x2 x3 x4 x5 M) else (K_X6_node_70 x1 x2 x3 x4 x5 M)))))
def pX6_node (x1 : Int32) (x2 : Int32) (x3 : Int32) (M0 : zM) : Option (Int32 × zM) :=
  (pX6_in x1 (1 : Int32) (4 : Int32) M0).bind (fun v26 => zlt v26 (fun v27 => (pX6_in x1 (2 : Int32) (4 : Int32) M0).bind (fun v29 => zlt v29 (fun v30 => (pX6_in x1 (0 : Int32) (5 : Int32) M0).bind (fun v32 => (if v32 = 0 then (K_X6_node_67 x1 x2 x3 v27 v30 M0) else (if v27 = 0 then (if x2 = (-1 : Int32) then (K_X6_node_46 x1 x2 x3 v27 v30 M0) else (K_X6_node_67 x1 x2 x3 v27 v30 M0)) else ((pX6_isNode x2 M0).bind (fun v37 => (if v37 = 0 then (K_X6_node_67 x1 x2 x3 v27 v30 M0) else (K_X6_node_46 x1 x2 x3 v27 v30 M0)))))))))))
set_option maxHeartbeats 4000000 in
set_option maxRecDepth 100000 in
theorem cX6_node_ok (l : Launch) (D : va_G) (ck : Nat → ClassId) (ad : Nat → Nat) (x1 : Int32) (x2 : Int32) (x3 : Int32) (M0 : zM) (r9 : Int32) (M9 : zM) (hf : pX6_node x1 x2 x3 M0 = some (r9, M9)) : zc l D ck (wR ad ck) yX6_node wsX6_node ({ frames := 2, cells := 0, slots := 0, locals := 43 }) [.ref (ad 0), .int x1, .int x2, .int x3] M0 (some (.int r9)) M9 := by
  refine zc_of (cc := cX6_node) (maxL := 6) (ret := (some .int)) [(0, .ref (ad 0)), (1, .int x1), (2, .int x2), (3, .int x3)] (by decide) rfl (Nat.le_of_ble_eq_true rfl) rfl ?_
  intro p e s m args below meth c A Q C F
  have j_200 : ∀ (x1 : Int32) (x2 : Int32) (x3 : Int32) (x4 : Int32) (x5 : Int32) (y0 : Int32) (y1 : Int32) (M : zM), K_X6_node_200 x1 x2 x3 x4 x5 y0 y1 M = some (r9, M9) → za_At p l e { frames := 2, cells := 0, slots := 0, locals := 43 } s m args below meth c D A 6 0 0 Q 200 [(0, .ref (ad 0)), (1, .int x1), (2, .int x2), (3, .int x3), (4, .int x4), (5, .int x5)] [.int y0, .int y1, .ref (ad 0)] (wR ad ck M) := by
    intro x1 x2 x3 x4 x5 y0 y1 M hf
    unfold K_X6_node_200 at hf
    refine za_iadd C dX6_node_200 ?_
    obtain ⟨N1, eN1, hf⟩ := z_st hf
    refine zp_R0_10 C in_X6_node_X6 fl_X6_node_92 eN1 dX6_node_201 ?_
    refine za_aload_n C 0 rfl rfl dX6_node_204 ?_
    refine za_dup C rfl dX6_node_205 ?_
    refine zg_R0_0 C in_X6_node_X6 fl_X6_node_78 dX6_node_206 ?_
    refine za_iconst (v := (1 : Int32)) C (by decide) dX6_node_209 ?_
    refine za_iadd C dX6_node_210 ?_
    obtain ⟨N2, eN2, hf⟩ := z_st hf
    refine zp_R0_0 C in_X6_node_X6 fl_X6_node_78 eN2 dX6_node_211 ?_
    refine za_aload_n C 0 rfl rfl dX6_node_214 ?_
    refine zg_R0_0 C in_X6_node_X6 fl_X6_node_78 dX6_node_215 ?_
    refine za_iconst (v := (1 : Int32)) C (by decide) dX6_node_218 ?_
    refine za_isub C dX6_node_219 ?_
    obtain ⟨rfl, rfl⟩ := z_ret2 hf
    exact za_iret C F dX6_node_220
  have j_181 : ∀ (x1 : Int32) (x2 : Int32) (x3 : Int32) (x4 : Int32) (x5 : Int32) (y0 : Int32) (y1 : Int32) (M : zM), K_X6_node_181 x1 x2 x3 x4 x5 y0 y1 M = some (r9, M9) → za_At p l e { frames := 2, cells := 0, slots := 0, locals := 43 } s m args below meth c D A 6 0 0 Q 181 [(0, .ref (ad 0)), (1, .int x1), (2, .int x2), (3, .int x3), (4, .int x4), (5, .int x5)] [.int y0, .int y1, .ref (ad 0)] (wR ad ck M) := by
    intro x1 x2 x3 x4 x5 y0 y1 M hf
    unfold K_X6_node_181 at hf
    refine za_iadd C dX6_node_181 ?_
    obtain ⟨N3, eN3, hf⟩ := z_st hf
    refine zp_R0_9 C in_X6_node_X6 fl_X6_node_89 eN3 dX6_node_182 ?_
    refine za_aload_n C 0 rfl rfl dX6_node_185 ?_
    refine za_dup C rfl dX6_node_186 ?_
    refine zg_R0_10 C in_X6_node_X6 fl_X6_node_92 dX6_node_187 ?_
    refine za_iload_n C 1 rfl rfl dX6_node_190 ?_
    refine za_iconst (v := (5 : Int32)) C (by decide) dX6_node_191 ?_
    refine za_icmp_ne C 199 (by decide) dX6_node_192 (fun q4 => ?_) (fun q4 => ?_)
    · have hf := z_neg q4 hf
      refine za_iconst (v := (0 : Int32)) C (by decide) dX6_node_199 ?_
      exact za_sub [0, 1, 2, 3, 4, 5] rfl (j_200 x1 x2 x3 x4 x5 (0 : Int32) (N3.1 2 0) N3 hf)
    · have hf := z_pos q4 hf
      refine za_iconst (v := (1 : Int32)) C (by decide) dX6_node_195 ?_
      refine za_goto C 200 (by decide) dX6_node_196 ?_
      exact za_sub [0, 1, 2, 3, 4, 5] rfl (j_200 x1 x2 x3 x4 x5 (1 : Int32) (N3.1 2 0) N3 hf)
  have j_166 : ∀ (x1 : Int32) (x2 : Int32) (x3 : Int32) (x4 : Int32) (x5 : Int32) (y0 : Int32) (y1 : Int32) (M : zM), K_X6_node_166 x1 x2 x3 x4 x5 y0 y1 M = some (r9, M9) → za_At p l e { frames := 2, cells := 0, slots := 0, locals := 43 } s m args below meth c D A 6 0 0 Q 166 [(0, .ref (ad 0)), (1, .int x1), (2, .int x2), (3, .int x3), (4, .int x4), (5, .int x5)] [.int y0, .int y1, .ref (ad 8)] (wR ad ck M) := by
    intro x1 x2 x3 x4 x5 y0 y1 M hf
    unfold K_X6_node_166 at hf
    obtain ⟨h5, hf⟩ := z_chk hf
    obtain ⟨N6, eN6, hf⟩ := z_st hf
    refine zs_R8 C h5 eN6 dX6_node_166 ?_
    refine za_aload_n C 0 rfl rfl dX6_node_167 ?_
    refine za_dup C rfl dX6_node_168 ?_
    refine zg_R0_9 C in_X6_node_X6 fl_X6_node_89 dX6_node_169 ?_
    refine za_iload_n C 1 rfl rfl dX6_node_172 ?_
    refine za_if_ne C 180 (by decide) dX6_node_173 (fun q7 => ?_) (fun q7 => ?_)
    · have hf := z_neg q7 hf
      refine za_iconst (v := (0 : Int32)) C (by decide) dX6_node_180 ?_
      exact za_sub [0, 1, 2, 3, 4, 5] rfl (j_181 x1 x2 x3 x4 x5 (0 : Int32) (N6.1 1 0) N6 hf)
    · have hf := z_pos q7 hf
      refine za_iconst (v := (1 : Int32)) C (by decide) dX6_node_176 ?_
      refine za_goto C 181 (by decide) dX6_node_177 ?_
      exact za_sub [0, 1, 2, 3, 4, 5] rfl (j_181 x1 x2 x3 x4 x5 (1 : Int32) (N6.1 1 0) N6 hf)
  have j_113 : ∀ (x1 : Int32) (x2 : Int32) (x3 : Int32) (x4 : Int32) (x5 : Int32) (y0 : Int32) (y1 : Int32) (M : zM), K_X6_node_113 x1 x2 x3 x4 x5 y0 y1 M = some (r9, M9) → za_At p l e { frames := 2, cells := 0, slots := 0, locals := 43 } s m args below meth c D A 6 0 0 Q 113 [(0, .ref (ad 0)), (1, .int x1), (2, .int x2), (3, .int x3), (4, .int x4), (5, .int x5)] [.int y0, .int y1, .ref (ad 2)] (wR ad ck M) := by
    intro x1 x2 x3 x4 x5 y0 y1 M hf
    unfold K_X6_node_113 at hf
    obtain ⟨h8, hf⟩ := z_chk hf
    obtain ⟨N9, eN9, hf⟩ := z_st hf
    refine zs_R2 C h8 eN9 dX6_node_113 ?_
    refine za_aload_n C 0 rfl rfl dX6_node_114 ?_
    refine zg_R0_3 C in_X6_node_X6 fl_X6_node_16 dX6_node_115 ?_
    refine za_aload_n C 0 rfl rfl dX6_node_118 ?_
    refine zg_R0_0 C in_X6_node_X6 fl_X6_node_78 dX6_node_119 ?_
    refine za_iload_n C 3 rfl rfl dX6_node_122 ?_
    obtain ⟨h10, hf⟩ := z_chk hf
    obtain ⟨N11, eN11, hf⟩ := z_st hf
    refine zs_R3 C h10 eN11 dX6_node_123 ?_
    refine za_aload_n C 0 rfl rfl dX6_node_124 ?_
    refine zg_R0_7 C in_X6_node_X6 fl_X6_node_29 dX6_node_125 ?_
    refine za_aload_n C 0 rfl rfl dX6_node_128 ?_
    refine zg_R0_0 C in_X6_node_X6 fl_X6_node_78 dX6_node_129 ?_
    refine za_iconst (v := (1 : Int32)) C (by decide) dX6_node_132 ?_
    obtain ⟨h12, hf⟩ := z_chk hf
    obtain ⟨N13, eN13, hf⟩ := z_st hf
    refine zs_R7 C h12 eN13 dX6_node_133 ?_
    refine za_aload_n C 0 rfl rfl dX6_node_134 ?_
    refine zg_R0_8 C in_X6_node_X6 fl_X6_node_32 dX6_node_135 ?_
    refine za_aload_n C 0 rfl rfl dX6_node_138 ?_
    refine zg_R0_0 C in_X6_node_X6 fl_X6_node_78 dX6_node_139 ?_
    refine za_iload_n C 1 rfl rfl dX6_node_142 ?_
    refine za_if_ne C 153 (by decide) dX6_node_143 (fun q14 => ?_) (fun q14 => ?_)
    · have hf := z_neg q14 hf
      refine za_iload_n C 1 rfl rfl dX6_node_153 ?_
      refine za_iconst (v := (5 : Int32)) C (by decide) dX6_node_154 ?_
      refine za_icmp_ne C 165 (by decide) dX6_node_155 (fun q15 => ?_) (fun q15 => ?_)
      · have hf := z_neg q15 hf
        refine za_iconst (v := (-1 : Int32)) C (by decide) dX6_node_165 ?_
        exact za_sub [0, 1, 2, 3, 4, 5] rfl (j_166 x1 x2 x3 x4 x5 (-1 : Int32) (N13.1 0 0) N13 hf)
      · have hf := z_pos q15 hf
        refine za_aload_n C 0 rfl rfl dX6_node_158 ?_
        refine zg_R0_10 C in_X6_node_X6 fl_X6_node_92 dX6_node_159 ?_
        refine za_goto C 166 (by decide) dX6_node_162 ?_
        exact za_sub [0, 1, 2, 3, 4, 5] rfl (j_166 x1 x2 x3 x4 x5 (N13.1 2 0) (N13.1 0 0) N13 hf)
    · have hf := z_pos q14 hf
      refine za_aload_n C 0 rfl rfl dX6_node_146 ?_
      refine zg_R0_9 C in_X6_node_X6 fl_X6_node_89 dX6_node_147 ?_
      refine za_goto C 166 (by decide) dX6_node_150 ?_
      exact za_sub [0, 1, 2, 3, 4, 5] rfl (j_166 x1 x2 x3 x4 x5 (N13.1 1 0) (N13.1 0 0) N13 hf)
  have j_70 : ∀ (x1 : Int32) (x2 : Int32) (x3 : Int32) (x4 : Int32) (x5 : Int32) (M : zM), K_X6_node_70 x1 x2 x3 x4 x5 M = some (r9, M9) → za_At p l e { frames := 2, cells := 0, slots := 0, locals := 43 } s m args below meth c D A 6 0 0 Q 70 [(0, .ref (ad 0)), (1, .int x1), (2, .int x2), (3, .int x3), (4, .int x4), (5, .int x5)] [] (wR ad ck M) := by
    intro x1 x2 x3 x4 x5 M hf
    unfold K_X6_node_70 at hf
    refine za_aload_n C 0 rfl rfl dX6_node_70 ?_
    refine zg_R0_0 C in_X6_node_X6 fl_X6_node_78 dX6_node_71 ?_
    refine za_bipush (v := (24 : Int32)) C (by decide) dX6_node_74 ?_
    refine za_icmp_ne C 82 (by decide) dX6_node_76 (fun q16 => ?_) (fun q16 => ?_)
    · have hf := z_neg q16 hf
      refine za_aload_n C 0 rfl rfl dX6_node_82 ?_
      refine zg_R0_1 C in_X6_node_X6 fl_X6_node_7 dX6_node_83 ?_
      refine za_aload_n C 0 rfl rfl dX6_node_86 ?_
      refine zg_R0_0 C in_X6_node_X6 fl_X6_node_78 dX6_node_87 ?_
      refine za_iload_n C 1 rfl rfl dX6_node_90 ?_
      obtain ⟨h17, hf⟩ := z_chk hf
      obtain ⟨N18, eN18, hf⟩ := z_st hf
      refine zs_R1 C h17 eN18 dX6_node_91 ?_
      refine za_aload_n C 0 rfl rfl dX6_node_92 ?_
      refine zg_R0_2 C in_X6_node_X6 fl_X6_node_13 dX6_node_93 ?_
      refine za_aload_n C 0 rfl rfl dX6_node_96 ?_
      refine zg_R0_0 C in_X6_node_X6 fl_X6_node_78 dX6_node_97 ?_
      refine za_iload_n C 1 rfl rfl dX6_node_100 ?_
      refine za_iconst (v := (5 : Int32)) C (by decide) dX6_node_101 ?_
      refine za_icmp_ne C 112 (by decide) dX6_node_102 (fun q19 => ?_) (fun q19 => ?_)
      · have hf := z_neg q19 hf
        refine za_iload_n C 2 rfl rfl dX6_node_112 ?_
        exact za_sub [0, 1, 2, 3, 4, 5] rfl (j_113 x1 x2 x3 x4 x5 x2 (N18.1 0 0) N18 hf)
      · have hf := z_pos q19 hf
        refine za_aload_n C 0 rfl rfl dX6_node_105 ?_
        refine zg_R0_0 C in_X6_node_X6 fl_X6_node_78 dX6_node_106 ?_
        refine za_goto C 113 (by decide) dX6_node_109 ?_
        exact za_sub [0, 1, 2, 3, 4, 5] rfl (j_113 x1 x2 x3 x4 x5 (N18.1 0 0) (N18.1 0 0) N18 hf)
    · have hf := z_pos q16 hf
      refine za_bipush (v := (-4 : Int32)) C (by decide) dX6_node_79 ?_
      obtain ⟨rfl, rfl⟩ := z_ret2 hf
      exact za_iret C F dX6_node_81
  have j_67 : ∀ (x1 : Int32) (x2 : Int32) (x3 : Int32) (x4 : Int32) (x5 : Int32) (M : zM), K_X6_node_67 x1 x2 x3 x4 x5 M = some (r9, M9) → za_At p l e { frames := 2, cells := 0, slots := 0, locals := 43 } s m args below meth c D A 6 0 0 Q 67 [(0, .ref (ad 0)), (1, .int x1), (2, .int x2), (3, .int x3), (4, .int x4), (5, .int x5)] [] (wR ad ck M) := by
    intro x1 x2 x3 x4 x5 M hf
    unfold K_X6_node_67 at hf
    refine za_bipush (v := (-2 : Int32)) C (by decide) dX6_node_67 ?_
    obtain ⟨rfl, rfl⟩ := z_ret2 hf
    exact za_iret C F dX6_node_69
  have j_46 : ∀ (x1 : Int32) (x2 : Int32) (x3 : Int32) (x4 : Int32) (x5 : Int32) (M : zM), K_X6_node_46 x1 x2 x3 x4 x5 M = some (r9, M9) → za_At p l e { frames := 2, cells := 0, slots := 0, locals := 43 } s m args below meth c D A 6 0 0 Q 46 [(0, .ref (ad 0)), (1, .int x1), (2, .int x2), (3, .int x3), (4, .int x4), (5, .int x5)] [] (wR ad ck M) := by
    intro x1 x2 x3 x4 x5 M hf
    unfold K_X6_node_46 at hf
    refine za_iload C 5 rfl dX6_node_46 ?_
    refine za_if_eq C 62 (by decide) dX6_node_48 (fun q20 => ?_) (fun q20 => ?_)
    · have hf := z_pos q20 hf
      refine za_iload_n C 3 rfl rfl dX6_node_62 ?_
      refine za_iconst (v := (-1 : Int32)) C (by decide) dX6_node_63 ?_
      refine za_icmp_eq C 70 (by decide) dX6_node_64 (fun q21 => ?_) (fun q21 => ?_)
      · have hf := z_pos q21 hf
        exact za_sub [0, 1, 2, 3, 4, 5] rfl (j_70 x1 x2 x3 x4 x5 M hf)
      · have hf := z_neg q21 hf
        exact za_sub [0, 1, 2, 3, 4, 5] rfl (j_67 x1 x2 x3 x4 x5 M hf)
    · have hf := z_neg q20 hf
      refine za_aload_n C 0 rfl rfl dX6_node_51 ?_
      refine za_iload_n C 3 rfl rfl dX6_node_52 ?_
      obtain ⟨v23, hc22, hf⟩ := z_bind hf
      refine za_callV (n := 1) (rest := []) C (cX6_isNode_ok l D ck ad x3 M _ hc22) gX6_node_X6_isNode rfl rfl rfl (by decide +kernel) ⟨Nat.le_of_ble_eq_true rfl, Nat.le_of_ble_eq_true rfl⟩ 0 rfl rfl rfl rfl rfl (Nat.le_of_ble_eq_true rfl) ⟨Nat.zero_le _, Nat.zero_le _⟩ dX6_node_53 ?_
      refine za_if_ne C 70 (by decide) dX6_node_56 (fun q24 => ?_) (fun q24 => ?_)
      · have hf := z_neg q24 hf
        exact za_sub [0, 1, 2, 3, 4, 5] rfl (j_70 x1 x2 x3 x4 x5 M hf)
      · have hf := z_pos q24 hf
        refine za_goto C 67 (by decide) dX6_node_59 ?_
        exact za_sub [0, 1, 2, 3, 4, 5] rfl (j_67 x1 x2 x3 x4 x5 M hf)
  unfold pX6_node at hf
  refine za_iload_n C 1 rfl rfl dX6_node_0 ?_
  refine za_iconst (v := (1 : Int32)) C (by decide) dX6_node_1 ?_
  refine za_iconst (v := (4 : Int32)) C (by decide) dX6_node_2 ?_
  obtain ⟨v26, hc25, hf⟩ := z_bind hf
  refine za_callS (n := 3) (rest := []) C (cX6_in_ok l D ck ad x1 (1 : Int32) (4 : Int32) M0 _ hc25) gX6_node_X6_in rfl rfl rfl (by decide +kernel) ⟨Nat.le_of_ble_eq_true rfl, Nat.le_of_ble_eq_true rfl⟩ rfl rfl (Nat.le_of_ble_eq_true rfl) ⟨Nat.zero_le _, Nat.zero_le _⟩ dX6_node_3 ?_
  obtain ⟨v27, ev27, hf⟩ := z_lt hf
  refine za_istore C [(4, .int v27), (0, .ref (ad 0)), (1, .int x1), (2, .int x2), (3, .int x3)] ev27 (by decide) rfl dX6_node_6 ?_
  refine za_iload_n C 2 rfl rfl dX6_node_8 ?_
  refine za_iconst (v := (2 : Int32)) C (by decide) dX6_node_9 ?_
  refine za_iconst (v := (4 : Int32)) C (by decide) dX6_node_10 ?_
  obtain ⟨v29, hc28, hf⟩ := z_bind hf
  refine za_callS (n := 3) (rest := []) C (cX6_in_ok l D ck ad x1 (2 : Int32) (4 : Int32) M0 _ hc28) gX6_node_X6_in rfl rfl rfl (by decide +kernel) ⟨Nat.le_of_ble_eq_true rfl, Nat.le_of_ble_eq_true rfl⟩ rfl rfl (Nat.le_of_ble_eq_true rfl) ⟨Nat.zero_le _, Nat.zero_le _⟩ dX6_node_11 ?_
  obtain ⟨v30, ev30, hf⟩ := z_lt hf
  refine za_istore C [(5, .int v30), (4, .int v27), (0, .ref (ad 0)), (1, .int x1), (2, .int x2), (3, .int x3)] ev30 (by decide) rfl dX6_node_14 ?_
  refine za_iload_n C 3 rfl rfl dX6_node_16 ?_
  refine za_iconst (v := (0 : Int32)) C (by decide) dX6_node_17 ?_
  refine za_iconst (v := (5 : Int32)) C (by decide) dX6_node_18 ?_
  obtain ⟨v32, hc31, hf⟩ := z_bind hf
  refine za_callS (n := 3) (rest := []) C (cX6_in_ok l D ck ad x1 (0 : Int32) (5 : Int32) M0 _ hc31) gX6_node_X6_in rfl rfl rfl (by decide +kernel) ⟨Nat.le_of_ble_eq_true rfl, Nat.le_of_ble_eq_true rfl⟩ rfl rfl (Nat.le_of_ble_eq_true rfl) ⟨Nat.zero_le _, Nat.zero_le _⟩ dX6_node_19 ?_
  refine za_if_eq C 67 (by decide) dX6_node_22 (fun q33 => ?_) (fun q33 => ?_)
  · have hf := z_pos q33 hf
    exact za_sub [2, 3, 4, 5, 1, 0] rfl (j_67 x1 x2 x3 v27 v30 M0 hf)
  · have hf := z_neg q33 hf
    refine za_iload C 1 rfl dX6_node_25 ?_
    refine za_if_eq C 41 (by decide) dX6_node_27 (fun q34 => ?_) (fun q34 => ?_)
    · have hf := z_pos q34 hf
      refine za_iload_n C 4 rfl rfl dX6_node_41 ?_
      refine za_iconst (v := (-1 : Int32)) C (by decide) dX6_node_42 ?_
      refine za_icmp_ne C 67 (by decide) dX6_node_43 (fun q35 => ?_) (fun q35 => ?_)
      · have hf := z_neg q35 hf
        exact za_sub [2, 3, 4, 5, 1, 0] rfl (j_67 x1 x2 x3 v27 v30 M0 hf)
      · have hf := z_pos q35 hf
        exact za_sub [2, 3, 4, 5, 1, 0] rfl (j_46 x1 x2 x3 v27 v30 M0 hf)
    · have hf := z_neg q34 hf
      refine za_aload_n C 2 rfl rfl dX6_node_30 ?_
      refine za_iload_n C 4 rfl rfl dX6_node_31 ?_
      obtain ⟨v37, hc36, hf⟩ := z_bind hf
      refine za_callV (n := 1) (rest := []) C (cX6_isNode_ok l D ck ad x2 M0 _ hc36) gX6_node_X6_isNode rfl rfl rfl (by decide +kernel) ⟨Nat.le_of_ble_eq_true rfl, Nat.le_of_ble_eq_true rfl⟩ 0 rfl rfl rfl rfl rfl (Nat.le_of_ble_eq_true rfl) ⟨Nat.zero_le _, Nat.zero_le _⟩ dX6_node_32 ?_
      refine za_if_ne C 46 (by decide) dX6_node_35 (fun q38 => ?_) (fun q38 => ?_)
      · have hf := z_neg q38 hf
        exact za_sub [2, 3, 4, 5, 1, 0] rfl (j_46 x1 x2 x3 v27 v30 M0 hf)
      · have hf := z_pos q38 hf
        refine za_goto C 67 (by decide) dX6_node_38 ?_
        exact za_sub [2, 3, 4, 5, 1, 0] rfl (j_67 x1 x2 x3 v27 v30 M0 hf)
theorem in_X6_feed_X6 : ∀ w ∈ wsX60, w ∈ wsX6_feed := by decide +kernel
theorem fl_X6_feed_13 : Cond.fieldLink RX6 13 "ThriceNetsModel" "first" "[I" ∈ wsX6_feed := by decide +kernel
def K_X6_feed_16 (x1 : Int32) (x2 : Int32) (M : zM) : Option (Int32 × zM) :=
  some ((-2 : Int32), M)
def pX6_feed (x1 : Int32) (x2 : Int32) (M0 : zM) : Option (Int32 × zM) :=
  (pX6_isStore x1 M0).bind (fun v2 => (if v2 = 0 then (K_X6_feed_16 x1 x2 M0) else ((pX6_isNode x2 M0).bind (fun v5 => (if v5 = 0 then (K_X6_feed_16 x1 x2 M0) else (zchk x1 24 (zlt (M0.1 11 x1.toNatClampNeg) (fun v8 => zchk x1 24 (zst (zsI M0 11 x1.toNatClampNeg x2) (fun N10 => some (v8, N10)))))))))))
set_option maxHeartbeats 4000000 in
set_option maxRecDepth 100000 in
theorem cX6_feed_ok (l : Launch) (D : va_G) (ck : Nat → ClassId) (ad : Nat → Nat) (x1 : Int32) (x2 : Int32) (M0 : zM) (r9 : Int32) (M9 : zM) (hf : pX6_feed x1 x2 M0 = some (r9, M9)) : zc l D ck (wR ad ck) yX6_feed wsX6_feed ({ frames := 3, cells := 0, slots := 0, locals := 64 }) [.ref (ad 0), .int x1, .int x2] M0 (some (.int r9)) M9 := by
  refine zc_of (cc := cX6_feed) (maxL := 4) (ret := (some .int)) [(0, .ref (ad 0)), (1, .int x1), (2, .int x2)] (by decide) rfl (Nat.le_of_ble_eq_true rfl) rfl ?_
  intro p e s m args below meth c A Q C F
  have j_16 : ∀ (x1 : Int32) (x2 : Int32) (M : zM), K_X6_feed_16 x1 x2 M = some (r9, M9) → za_At p l e { frames := 3, cells := 0, slots := 0, locals := 64 } s m args below meth c D A 4 0 0 Q 16 [(0, .ref (ad 0)), (1, .int x1), (2, .int x2)] [] (wR ad ck M) := by
    intro x1 x2 M hf
    unfold K_X6_feed_16 at hf
    refine za_bipush (v := (-2 : Int32)) C (by decide) dX6_feed_16 ?_
    obtain ⟨rfl, rfl⟩ := z_ret2 hf
    exact za_iret C F dX6_feed_18
  unfold pX6_feed at hf
  refine za_aload_n C 0 rfl rfl dX6_feed_0 ?_
  refine za_iload_n C 1 rfl rfl dX6_feed_1 ?_
  obtain ⟨v2, hc1, hf⟩ := z_bind hf
  refine za_callV (n := 1) (rest := []) C (cX6_isStore_ok l D ck ad x1 M0 _ hc1) gX6_feed_X6_isStore rfl rfl rfl (by decide +kernel) ⟨Nat.le_of_ble_eq_true rfl, Nat.le_of_ble_eq_true rfl⟩ 0 rfl rfl rfl rfl rfl (Nat.le_of_ble_eq_true rfl) ⟨Nat.zero_le _, Nat.zero_le _⟩ dX6_feed_2 ?_
  refine za_if_eq C 16 (by decide) dX6_feed_5 (fun q3 => ?_) (fun q3 => ?_)
  · have hf := z_pos q3 hf
    exact za_sub [0, 1, 2] rfl (j_16 x1 x2 M0 hf)
  · have hf := z_neg q3 hf
    refine za_aload_n C 0 rfl rfl dX6_feed_8 ?_
    refine za_iload_n C 2 rfl rfl dX6_feed_9 ?_
    obtain ⟨v5, hc4, hf⟩ := z_bind hf
    refine za_callV (n := 1) (rest := []) C (cX6_isNode_ok l D ck ad x2 M0 _ hc4) gX6_feed_X6_isNode rfl rfl rfl (by decide +kernel) ⟨Nat.le_of_ble_eq_true rfl, Nat.le_of_ble_eq_true rfl⟩ 0 rfl rfl rfl rfl rfl (Nat.le_of_ble_eq_true rfl) ⟨Nat.zero_le _, Nat.zero_le _⟩ dX6_feed_10 ?_
    refine za_if_ne C 19 (by decide) dX6_feed_13 (fun q6 => ?_) (fun q6 => ?_)
    · have hf := z_neg q6 hf
      refine za_aload_n C 0 rfl rfl dX6_feed_19 ?_
      refine zg_R0_2 C in_X6_feed_X6 fl_X6_feed_13 dX6_feed_20 ?_
      refine za_iload_n C 1 rfl rfl dX6_feed_23 ?_
      obtain ⟨h7, hf⟩ := z_chk hf
      refine zl_R2 C h7 dX6_feed_24 ?_
      obtain ⟨v8, ev8, hf⟩ := z_lt hf
      refine za_istore_n C [(3, .int v8), (0, .ref (ad 0)), (1, .int x1), (2, .int x2)] ev8 (by decide) rfl rfl dX6_feed_25 ?_
      refine za_aload_n C 1 rfl rfl dX6_feed_26 ?_
      refine zg_R0_2 C in_X6_feed_X6 fl_X6_feed_13 dX6_feed_27 ?_
      refine za_iload_n C 2 rfl rfl dX6_feed_30 ?_
      refine za_iload_n C 3 rfl rfl dX6_feed_31 ?_
      obtain ⟨h9, hf⟩ := z_chk hf
      obtain ⟨N10, eN10, hf⟩ := z_st hf
      refine zs_R2 C h9 eN10 dX6_feed_32 ?_
      refine za_iload_n C 0 rfl rfl dX6_feed_33 ?_
      obtain ⟨rfl, rfl⟩ := z_ret2 hf
      exact za_iret C F dX6_feed_34
    · have hf := z_pos q6 hf
      exact za_sub [0, 1, 2] rfl (j_16 x1 x2 M0 hf)
theorem in_X6_output_X6 : ∀ w ∈ wsX60, w ∈ wsX6_output := by decide +kernel
theorem fl_X6_output_19 : Cond.fieldLink RX6 19 "ThriceNetsModel" "isOutput" "[Z" ∈ wsX6_output := by decide +kernel
def pX6_output (x1 : Int32) (x2 : Int32) (M0 : zM) : Option (Int32 × zM) :=
  (pX6_isNode x1 M0).bind (fun v2 => (if v2 = 0 then (some ((-2 : Int32), M0)) else (zchk x1 24 (zst (zsI M0 13 x1.toNatClampNeg (vp_nar .boolean x2)) (fun N5 => some ((1 : Int32), N5))))))
set_option maxHeartbeats 4000000 in
set_option maxRecDepth 100000 in
theorem cX6_output_ok (l : Launch) (D : va_G) (ck : Nat → ClassId) (ad : Nat → Nat) (x1 : Int32) (x2 : Int32) (M0 : zM) (r9 : Int32) (M9 : zM) (hf : pX6_output x1 x2 M0 = some (r9, M9)) : zc l D ck (wR ad ck) yX6_output wsX6_output ({ frames := 2, cells := 0, slots := 0, locals := 43 }) [.ref (ad 0), .int x1, .int x2] M0 (some (.int r9)) M9 := by
  refine zc_of (cc := cX6_output) (maxL := 3) (ret := (some .int)) [(0, .ref (ad 0)), (1, .int x1), (2, .int x2)] (by decide) rfl (Nat.le_of_ble_eq_true rfl) rfl ?_
  intro p e s m args below meth c A Q C F
  unfold pX6_output at hf
  refine za_aload_n C 0 rfl rfl dX6_output_0 ?_
  refine za_iload_n C 1 rfl rfl dX6_output_1 ?_
  obtain ⟨v2, hc1, hf⟩ := z_bind hf
  refine za_callV (n := 1) (rest := []) C (cX6_isNode_ok l D ck ad x1 M0 _ hc1) gX6_output_X6_isNode rfl rfl rfl (by decide +kernel) ⟨Nat.le_of_ble_eq_true rfl, Nat.le_of_ble_eq_true rfl⟩ 0 rfl rfl rfl rfl rfl (Nat.le_of_ble_eq_true rfl) ⟨Nat.zero_le _, Nat.zero_le _⟩ dX6_output_2 ?_
  refine za_if_ne C 11 (by decide) dX6_output_5 (fun q3 => ?_) (fun q3 => ?_)
  · have hf := z_neg q3 hf
    refine za_aload_n C 0 rfl rfl dX6_output_11 ?_
    refine zg_R0_4 C in_X6_output_X6 fl_X6_output_19 dX6_output_12 ?_
    refine za_iload_n C 1 rfl rfl dX6_output_15 ?_
    refine za_iload_n C 2 rfl rfl dX6_output_16 ?_
    obtain ⟨h4, hf⟩ := z_chk hf
    obtain ⟨N5, eN5, hf⟩ := z_st hf
    refine zs_R4 C h4 eN5 dX6_output_17 ?_
    refine za_iconst (v := (1 : Int32)) C (by decide) dX6_output_18 ?_
    obtain ⟨rfl, rfl⟩ := z_ret2 hf
    exact za_iret C F dX6_output_19
  · have hf := z_pos q3 hf
    refine za_bipush (v := (-2 : Int32)) C (by decide) dX6_output_8 ?_
    obtain ⟨rfl, rfl⟩ := z_ret2 hf
    exact za_iret C F dX6_output_10
theorem in_X6_price_X6 : ∀ w ∈ wsX60, w ∈ wsX6_price := by decide +kernel
theorem fl_X6_price_29 : Cond.fieldLink RX6 29 "ThriceNetsModel" "prices" "[I" ∈ wsX6_price := by decide +kernel
def K_X6_price_19 (x1 : Int32) (x2 : Int32) (M : zM) : Option (Int32 × zM) :=
  some ((-2 : Int32), M)
def pX6_price (x1 : Int32) (x2 : Int32) (M0 : zM) : Option (Int32 × zM) :=
  (pX6_isNode x1 M0).bind (fun v2 => (if v2 = 0 then (K_X6_price_19 x1 x2 M0) else ((pX6_in x2 (0 : Int32) (1000 : Int32) M0).bind (fun v5 => (if v5 = 0 then (K_X6_price_19 x1 x2 M0) else (zchk x1 24 (zlt (M0.1 16 x1.toNatClampNeg) (fun v8 => zchk x1 24 (zst (zsI M0 16 x1.toNatClampNeg x2) (fun N10 => some (v8, N10)))))))))))
set_option maxHeartbeats 4000000 in
set_option maxRecDepth 100000 in
theorem cX6_price_ok (l : Launch) (D : va_G) (ck : Nat → ClassId) (ad : Nat → Nat) (x1 : Int32) (x2 : Int32) (M0 : zM) (r9 : Int32) (M9 : zM) (hf : pX6_price x1 x2 M0 = some (r9, M9)) : zc l D ck (wR ad ck) yX6_price wsX6_price ({ frames := 2, cells := 0, slots := 0, locals := 43 }) [.ref (ad 0), .int x1, .int x2] M0 (some (.int r9)) M9 := by
  refine zc_of (cc := cX6_price) (maxL := 4) (ret := (some .int)) [(0, .ref (ad 0)), (1, .int x1), (2, .int x2)] (by decide) rfl (Nat.le_of_ble_eq_true rfl) rfl ?_
  intro p e s m args below meth c A Q C F
  have j_19 : ∀ (x1 : Int32) (x2 : Int32) (M : zM), K_X6_price_19 x1 x2 M = some (r9, M9) → za_At p l e { frames := 2, cells := 0, slots := 0, locals := 43 } s m args below meth c D A 4 0 0 Q 19 [(0, .ref (ad 0)), (1, .int x1), (2, .int x2)] [] (wR ad ck M) := by
    intro x1 x2 M hf
    unfold K_X6_price_19 at hf
    refine za_bipush (v := (-2 : Int32)) C (by decide) dX6_price_19 ?_
    obtain ⟨rfl, rfl⟩ := z_ret2 hf
    exact za_iret C F dX6_price_21
  unfold pX6_price at hf
  refine za_aload_n C 0 rfl rfl dX6_price_0 ?_
  refine za_iload_n C 1 rfl rfl dX6_price_1 ?_
  obtain ⟨v2, hc1, hf⟩ := z_bind hf
  refine za_callV (n := 1) (rest := []) C (cX6_isNode_ok l D ck ad x1 M0 _ hc1) gX6_price_X6_isNode rfl rfl rfl (by decide +kernel) ⟨Nat.le_of_ble_eq_true rfl, Nat.le_of_ble_eq_true rfl⟩ 0 rfl rfl rfl rfl rfl (Nat.le_of_ble_eq_true rfl) ⟨Nat.zero_le _, Nat.zero_le _⟩ dX6_price_2 ?_
  refine za_if_eq C 19 (by decide) dX6_price_5 (fun q3 => ?_) (fun q3 => ?_)
  · have hf := z_pos q3 hf
    exact za_sub [0, 1, 2] rfl (j_19 x1 x2 M0 hf)
  · have hf := z_neg q3 hf
    refine za_iload_n C 2 rfl rfl dX6_price_8 ?_
    refine za_iconst (v := (0 : Int32)) C (by decide) dX6_price_9 ?_
    refine za_sipush (v := (1000 : Int32)) C (by decide) dX6_price_10 ?_
    obtain ⟨v5, hc4, hf⟩ := z_bind hf
    refine za_callS (n := 3) (rest := []) C (cX6_in_ok l D ck ad x2 (0 : Int32) (1000 : Int32) M0 _ hc4) gX6_price_X6_in rfl rfl rfl (by decide +kernel) ⟨Nat.le_of_ble_eq_true rfl, Nat.le_of_ble_eq_true rfl⟩ rfl rfl (Nat.le_of_ble_eq_true rfl) ⟨Nat.zero_le _, Nat.zero_le _⟩ dX6_price_13 ?_
    refine za_if_ne C 22 (by decide) dX6_price_16 (fun q6 => ?_) (fun q6 => ?_)
    · have hf := z_neg q6 hf
      refine za_aload_n C 0 rfl rfl dX6_price_22 ?_
      refine zg_R0_7 C in_X6_price_X6 fl_X6_price_29 dX6_price_23 ?_
      refine za_iload_n C 1 rfl rfl dX6_price_26 ?_
      obtain ⟨h7, hf⟩ := z_chk hf
      refine zl_R7 C h7 dX6_price_27 ?_
      obtain ⟨v8, ev8, hf⟩ := z_lt hf
      refine za_istore_n C [(3, .int v8), (0, .ref (ad 0)), (1, .int x1), (2, .int x2)] ev8 (by decide) rfl rfl dX6_price_28 ?_
      refine za_aload_n C 1 rfl rfl dX6_price_29 ?_
      refine zg_R0_7 C in_X6_price_X6 fl_X6_price_29 dX6_price_30 ?_
      refine za_iload_n C 2 rfl rfl dX6_price_33 ?_
      refine za_iload_n C 3 rfl rfl dX6_price_34 ?_
      obtain ⟨h9, hf⟩ := z_chk hf
      obtain ⟨N10, eN10, hf⟩ := z_st hf
      refine zs_R7 C h9 eN10 dX6_price_35 ?_
      refine za_iload_n C 0 rfl rfl dX6_price_36 ?_
      obtain ⟨rfl, rfl⟩ := z_ret2 hf
      exact za_iret C F dX6_price_37
    · have hf := z_pos q6 hf
      exact za_sub [0, 1, 2] rfl (j_19 x1 x2 M0 hf)
theorem in_X6_about_X6 : ∀ w ∈ wsX60, w ∈ wsX6_about := by decide +kernel
theorem fl_X6_about_7 : Cond.fieldLink RX6 7 "ThriceNetsModel" "kinds" "[I" ∈ wsX6_about := by decide +kernel
theorem fl_X6_about_13 : Cond.fieldLink RX6 13 "ThriceNetsModel" "first" "[I" ∈ wsX6_about := by decide +kernel
theorem fl_X6_about_16 : Cond.fieldLink RX6 16 "ThriceNetsModel" "second" "[I" ∈ wsX6_about := by decide +kernel
theorem fl_X6_about_19 : Cond.fieldLink RX6 19 "ThriceNetsModel" "isOutput" "[Z" ∈ wsX6_about := by decide +kernel
theorem fl_X6_about_23 : Cond.fieldLink RX6 23 "ThriceNetsModel" "isThrice" "[Z" ∈ wsX6_about := by decide +kernel
theorem fl_X6_about_26 : Cond.fieldLink RX6 26 "ThriceNetsModel" "isVoted" "[Z" ∈ wsX6_about := by decide +kernel
theorem fl_X6_about_29 : Cond.fieldLink RX6 29 "ThriceNetsModel" "prices" "[I" ∈ wsX6_about := by decide +kernel
theorem fl_X6_about_32 : Cond.fieldLink RX6 32 "ThriceNetsModel" "numbers" "[I" ∈ wsX6_about := by decide +kernel
def pX6_about (x1 : Int32) (x2 : Int32) (M0 : zM) : Option (Int32) :=
  (pX6_isNode x1 M0).bind (fun v2 => (if v2 = 0 then (some (-2 : Int32)) else (if x2 = (0 : Int32) then (zchk x1 24 (some (M0.1 10 x1.toNatClampNeg))) else (if x2 = (1 : Int32) then (zchk x1 24 (some (M0.1 11 x1.toNatClampNeg))) else (if x2 = (2 : Int32) then (zchk x1 24 (some (M0.1 12 x1.toNatClampNeg))) else (if x2 = (3 : Int32) then (zchk x1 24 ((if (M0.1 13 x1.toNatClampNeg) = 0 then (some (0 : Int32)) else (some (1 : Int32))))) else (if x2 = (4 : Int32) then (zchk x1 24 ((if (M0.1 14 x1.toNatClampNeg) = 0 then (some (0 : Int32)) else (some (1 : Int32))))) else (if x2 = (5 : Int32) then (zchk x1 24 ((if (M0.1 15 x1.toNatClampNeg) = 0 then (some (0 : Int32)) else (some (1 : Int32))))) else (if x2 = (6 : Int32) then (zchk x1 24 (some (M0.1 16 x1.toNatClampNeg))) else (if x2 = (7 : Int32) then (zchk x1 24 (some (M0.1 17 x1.toNatClampNeg))) else (some (-2 : Int32))))))))))))
set_option maxHeartbeats 4000000 in
set_option maxRecDepth 100000 in
theorem cX6_about_ok (l : Launch) (D : va_G) (ck : Nat → ClassId) (ad : Nat → Nat) (x1 : Int32) (x2 : Int32) (M0 : zM) (r9 : Int32) (hf : pX6_about x1 x2 M0 = some r9) : zc l D ck (wR ad ck) yX6_about wsX6_about ({ frames := 2, cells := 0, slots := 0, locals := 43 }) [.ref (ad 0), .int x1, .int x2] M0 (some (.int r9)) M0 := by
  refine zc_of (cc := cX6_about) (maxL := 3) (ret := (some .int)) [(0, .ref (ad 0)), (1, .int x1), (2, .int x2)] (by decide) rfl (Nat.le_of_ble_eq_true rfl) rfl ?_
  intro p e s m args below meth c A Q C F
  unfold pX6_about at hf
  refine za_aload_n C 0 rfl rfl dX6_about_0 ?_
  refine za_iload_n C 1 rfl rfl dX6_about_1 ?_
  obtain ⟨v2, hc1, hf⟩ := z_bind hf
  refine za_callV (n := 1) (rest := []) C (cX6_isNode_ok l D ck ad x1 M0 _ hc1) gX6_about_X6_isNode rfl rfl rfl (by decide +kernel) ⟨Nat.le_of_ble_eq_true rfl, Nat.le_of_ble_eq_true rfl⟩ 0 rfl rfl rfl rfl rfl (Nat.le_of_ble_eq_true rfl) ⟨Nat.zero_le _, Nat.zero_le _⟩ dX6_about_2 ?_
  refine za_if_ne C 11 (by decide) dX6_about_5 (fun q3 => ?_) (fun q3 => ?_)
  · have hf := z_neg q3 hf
    refine za_iload_n C 2 rfl rfl dX6_about_11 ?_
    by_cases q4 : x2 = (0 : Int32)
    · have hf := z_pos q4 hf
      refine za_tsIn C 60 (0) q4 (by decide) (by decide) rfl (by decide) dX6_about_12 ?_
      refine za_aload_n C 0 rfl rfl dX6_about_60 ?_
      refine zg_R0_1 C in_X6_about_X6 fl_X6_about_7 dX6_about_61 ?_
      refine za_iload_n C 1 rfl rfl dX6_about_64 ?_
      obtain ⟨h5, hf⟩ := z_chk hf
      refine zl_R1 C h5 dX6_about_65 ?_
      obtain rfl := z_ret1 hf
      exact za_iret C F dX6_about_66
    · have hf := z_neg q4 hf
      by_cases q6 : x2 = (1 : Int32)
      · have hf := z_pos q6 hf
        refine za_tsIn C 67 (1) q6 (by decide) (by decide) rfl (by decide) dX6_about_12 ?_
        refine za_aload_n C 0 rfl rfl dX6_about_67 ?_
        refine zg_R0_2 C in_X6_about_X6 fl_X6_about_13 dX6_about_68 ?_
        refine za_iload_n C 1 rfl rfl dX6_about_71 ?_
        obtain ⟨h7, hf⟩ := z_chk hf
        refine zl_R2 C h7 dX6_about_72 ?_
        obtain rfl := z_ret1 hf
        exact za_iret C F dX6_about_73
      · have hf := z_neg q6 hf
        by_cases q8 : x2 = (2 : Int32)
        · have hf := z_pos q8 hf
          refine za_tsIn C 74 (2) q8 (by decide) (by decide) rfl (by decide) dX6_about_12 ?_
          refine za_aload_n C 0 rfl rfl dX6_about_74 ?_
          refine zg_R0_3 C in_X6_about_X6 fl_X6_about_16 dX6_about_75 ?_
          refine za_iload_n C 1 rfl rfl dX6_about_78 ?_
          obtain ⟨h9, hf⟩ := z_chk hf
          refine zl_R3 C h9 dX6_about_79 ?_
          obtain rfl := z_ret1 hf
          exact za_iret C F dX6_about_80
        · have hf := z_neg q8 hf
          by_cases q10 : x2 = (3 : Int32)
          · have hf := z_pos q10 hf
            refine za_tsIn C 81 (3) q10 (by decide) (by decide) rfl (by decide) dX6_about_12 ?_
            refine za_aload_n C 0 rfl rfl dX6_about_81 ?_
            refine zg_R0_4 C in_X6_about_X6 fl_X6_about_19 dX6_about_82 ?_
            refine za_iload_n C 1 rfl rfl dX6_about_85 ?_
            obtain ⟨h11, hf⟩ := z_chk hf
            refine zl_R4 C h11 dX6_about_86 ?_
            refine za_if_eq C 94 (by decide) dX6_about_87 (fun q12 => ?_) (fun q12 => ?_)
            · have hf := z_pos q12 hf
              refine za_iconst (v := (0 : Int32)) C (by decide) dX6_about_94 ?_
              obtain rfl := z_ret1 hf
              exact za_iret C F dX6_about_95
            · have hf := z_neg q12 hf
              refine za_iconst (v := (1 : Int32)) C (by decide) dX6_about_90 ?_
              refine za_goto C 95 (by decide) dX6_about_91 ?_
              obtain rfl := z_ret1 hf
              exact za_iret C F dX6_about_95
          · have hf := z_neg q10 hf
            by_cases q13 : x2 = (4 : Int32)
            · have hf := z_pos q13 hf
              refine za_tsIn C 96 (4) q13 (by decide) (by decide) rfl (by decide) dX6_about_12 ?_
              refine za_aload_n C 0 rfl rfl dX6_about_96 ?_
              refine zg_R0_5 C in_X6_about_X6 fl_X6_about_23 dX6_about_97 ?_
              refine za_iload_n C 1 rfl rfl dX6_about_100 ?_
              obtain ⟨h14, hf⟩ := z_chk hf
              refine zl_R5 C h14 dX6_about_101 ?_
              refine za_if_eq C 109 (by decide) dX6_about_102 (fun q15 => ?_) (fun q15 => ?_)
              · have hf := z_pos q15 hf
                refine za_iconst (v := (0 : Int32)) C (by decide) dX6_about_109 ?_
                obtain rfl := z_ret1 hf
                exact za_iret C F dX6_about_110
              · have hf := z_neg q15 hf
                refine za_iconst (v := (1 : Int32)) C (by decide) dX6_about_105 ?_
                refine za_goto C 110 (by decide) dX6_about_106 ?_
                obtain rfl := z_ret1 hf
                exact za_iret C F dX6_about_110
            · have hf := z_neg q13 hf
              by_cases q16 : x2 = (5 : Int32)
              · have hf := z_pos q16 hf
                refine za_tsIn C 111 (5) q16 (by decide) (by decide) rfl (by decide) dX6_about_12 ?_
                refine za_aload_n C 0 rfl rfl dX6_about_111 ?_
                refine zg_R0_6 C in_X6_about_X6 fl_X6_about_26 dX6_about_112 ?_
                refine za_iload_n C 1 rfl rfl dX6_about_115 ?_
                obtain ⟨h17, hf⟩ := z_chk hf
                refine zl_R6 C h17 dX6_about_116 ?_
                refine za_if_eq C 124 (by decide) dX6_about_117 (fun q18 => ?_) (fun q18 => ?_)
                · have hf := z_pos q18 hf
                  refine za_iconst (v := (0 : Int32)) C (by decide) dX6_about_124 ?_
                  obtain rfl := z_ret1 hf
                  exact za_iret C F dX6_about_125
                · have hf := z_neg q18 hf
                  refine za_iconst (v := (1 : Int32)) C (by decide) dX6_about_120 ?_
                  refine za_goto C 125 (by decide) dX6_about_121 ?_
                  obtain rfl := z_ret1 hf
                  exact za_iret C F dX6_about_125
              · have hf := z_neg q16 hf
                by_cases q19 : x2 = (6 : Int32)
                · have hf := z_pos q19 hf
                  refine za_tsIn C 126 (6) q19 (by decide) (by decide) rfl (by decide) dX6_about_12 ?_
                  refine za_aload_n C 0 rfl rfl dX6_about_126 ?_
                  refine zg_R0_7 C in_X6_about_X6 fl_X6_about_29 dX6_about_127 ?_
                  refine za_iload_n C 1 rfl rfl dX6_about_130 ?_
                  obtain ⟨h20, hf⟩ := z_chk hf
                  refine zl_R7 C h20 dX6_about_131 ?_
                  obtain rfl := z_ret1 hf
                  exact za_iret C F dX6_about_132
                · have hf := z_neg q19 hf
                  by_cases q21 : x2 = (7 : Int32)
                  · have hf := z_pos q21 hf
                    refine za_tsIn C 133 (7) q21 (by decide) (by decide) rfl (by decide) dX6_about_12 ?_
                    refine za_aload_n C 0 rfl rfl dX6_about_133 ?_
                    refine zg_R0_8 C in_X6_about_X6 fl_X6_about_32 dX6_about_134 ?_
                    refine za_iload_n C 1 rfl rfl dX6_about_137 ?_
                    obtain ⟨h22, hf⟩ := z_chk hf
                    refine zl_R8 C h22 dX6_about_138 ?_
                    obtain rfl := z_ret1 hf
                    exact za_iret C F dX6_about_139
                  · have hf := z_neg q21 hf
                    refine za_tsOut C 140 (by have u0 := lv_neT (a := 0) q4 (by decide); have u1 := lv_neT (a := 1) q6 (by decide); have u2 := lv_neT (a := 2) q8 (by decide); have u3 := lv_neT (a := 3) q10 (by decide); have u4 := lv_neT (a := 4) q13 (by decide); have u5 := lv_neT (a := 5) q16 (by decide); have u6 := lv_neT (a := 6) q19 (by decide); have u7 := lv_neT (a := 7) q21 (by decide); omega) (by decide) dX6_about_12 ?_
                    refine za_bipush (v := (-2 : Int32)) C (by decide) dX6_about_140 ?_
                    obtain rfl := z_ret1 hf
                    exact za_iret C F dX6_about_142
  · have hf := z_pos q3 hf
    refine za_bipush (v := (-2 : Int32)) C (by decide) dX6_about_8 ?_
    obtain rfl := z_ret1 hf
    exact za_iret C F dX6_about_10
theorem in_X6_thrice_X6 : ∀ w ∈ wsX60, w ∈ wsX6_thrice := by decide +kernel
theorem fl_X6_thrice_23 : Cond.fieldLink RX6 23 "ThriceNetsModel" "isThrice" "[Z" ∈ wsX6_thrice := by decide +kernel
theorem fl_X6_thrice_26 : Cond.fieldLink RX6 26 "ThriceNetsModel" "isVoted" "[Z" ∈ wsX6_thrice := by decide +kernel
def K_X6_thrice_26 (x1 : Int32) (x2 : Int32) (y0 : Int32) (M : zM) : Option (Int32 × zM) :=
  zlt y0 (fun v1 => zchk x1 24 (zst (zsI M 14 x1.toNatClampNeg (vp_nar .boolean x2)) (fun N3 => zchk x1 24 (zchk x1 24 (zst (zsI N3 15 x1.toNatClampNeg (vp_nar .boolean ((N3.1 15 x1.toNatClampNeg) &&& x2))) (fun N6 => (if v1 = 0 then (some ((1 : Int32), N6)) else (some ((0 : Int32), N6)))))))))
def pX6_thrice (x1 : Int32) (x2 : Int32) (M0 : zM) : Option (Int32 × zM) :=
  (pX6_isNode x1 M0).bind (fun v9 => (if v9 = 0 then (some ((-2 : Int32), M0)) else (zchk x1 24 ((if (M0.1 14 x1.toNatClampNeg) = x2 then (K_X6_thrice_26 x1 x2 (1 : Int32) M0) else (K_X6_thrice_26 x1 x2 (0 : Int32) M0))))))
set_option maxHeartbeats 4000000 in
set_option maxRecDepth 100000 in
theorem cX6_thrice_ok (l : Launch) (D : va_G) (ck : Nat → ClassId) (ad : Nat → Nat) (x1 : Int32) (x2 : Int32) (M0 : zM) (r9 : Int32) (M9 : zM) (hf : pX6_thrice x1 x2 M0 = some (r9, M9)) : zc l D ck (wR ad ck) yX6_thrice wsX6_thrice ({ frames := 2, cells := 0, slots := 0, locals := 43 }) [.ref (ad 0), .int x1, .int x2] M0 (some (.int r9)) M9 := by
  refine zc_of (cc := cX6_thrice) (maxL := 4) (ret := (some .int)) [(0, .ref (ad 0)), (1, .int x1), (2, .int x2)] (by decide) rfl (Nat.le_of_ble_eq_true rfl) rfl ?_
  intro p e s m args below meth c A Q C F
  have j_26 : ∀ (x1 : Int32) (x2 : Int32) (y0 : Int32) (M : zM), K_X6_thrice_26 x1 x2 y0 M = some (r9, M9) → za_At p l e { frames := 2, cells := 0, slots := 0, locals := 43 } s m args below meth c D A 4 0 0 Q 26 [(0, .ref (ad 0)), (1, .int x1), (2, .int x2)] [.int y0] (wR ad ck M) := by
    intro x1 x2 y0 M hf
    unfold K_X6_thrice_26 at hf
    obtain ⟨v1, ev1, hf⟩ := z_lt hf
    refine za_istore_n C [(3, .int v1), (0, .ref (ad 0)), (1, .int x1), (2, .int x2)] ev1 (by decide) rfl rfl dX6_thrice_26 ?_
    refine za_aload_n C 1 rfl rfl dX6_thrice_27 ?_
    refine zg_R0_5 C in_X6_thrice_X6 fl_X6_thrice_23 dX6_thrice_28 ?_
    refine za_iload_n C 2 rfl rfl dX6_thrice_31 ?_
    refine za_iload_n C 3 rfl rfl dX6_thrice_32 ?_
    obtain ⟨h2, hf⟩ := z_chk hf
    obtain ⟨N3, eN3, hf⟩ := z_st hf
    refine zs_R5 C h2 eN3 dX6_thrice_33 ?_
    refine za_aload_n C 1 rfl rfl dX6_thrice_34 ?_
    refine zg_R0_6 C in_X6_thrice_X6 fl_X6_thrice_26 dX6_thrice_35 ?_
    refine za_iload_n C 2 rfl rfl dX6_thrice_38 ?_
    refine za_dup2 C rfl rfl dX6_thrice_39 ?_
    obtain ⟨h4, hf⟩ := z_chk hf
    refine zl_R6 C h4 dX6_thrice_40 ?_
    refine za_iload_n C 3 rfl rfl dX6_thrice_41 ?_
    refine za_iand C dX6_thrice_42 ?_
    obtain ⟨h5, hf⟩ := z_chk hf
    obtain ⟨N6, eN6, hf⟩ := z_st hf
    refine zs_R6 C h5 eN6 dX6_thrice_43 ?_
    refine za_iload_n C 0 rfl rfl dX6_thrice_44 ?_
    refine za_if_eq C 52 (by decide) dX6_thrice_45 (fun q7 => ?_) (fun q7 => ?_)
    · have hf := z_pos q7 hf
      refine za_iconst (v := (1 : Int32)) C (by decide) dX6_thrice_52 ?_
      obtain ⟨rfl, rfl⟩ := z_ret2 hf
      exact za_iret C F dX6_thrice_53
    · have hf := z_neg q7 hf
      refine za_iconst (v := (0 : Int32)) C (by decide) dX6_thrice_48 ?_
      refine za_goto C 53 (by decide) dX6_thrice_49 ?_
      obtain ⟨rfl, rfl⟩ := z_ret2 hf
      exact za_iret C F dX6_thrice_53
  unfold pX6_thrice at hf
  refine za_aload_n C 0 rfl rfl dX6_thrice_0 ?_
  refine za_iload_n C 1 rfl rfl dX6_thrice_1 ?_
  obtain ⟨v9, hc8, hf⟩ := z_bind hf
  refine za_callV (n := 1) (rest := []) C (cX6_isNode_ok l D ck ad x1 M0 _ hc8) gX6_thrice_X6_isNode rfl rfl rfl (by decide +kernel) ⟨Nat.le_of_ble_eq_true rfl, Nat.le_of_ble_eq_true rfl⟩ 0 rfl rfl rfl rfl rfl (Nat.le_of_ble_eq_true rfl) ⟨Nat.zero_le _, Nat.zero_le _⟩ dX6_thrice_2 ?_
  refine za_if_ne C 11 (by decide) dX6_thrice_5 (fun q10 => ?_) (fun q10 => ?_)
  · have hf := z_neg q10 hf
    refine za_aload_n C 0 rfl rfl dX6_thrice_11 ?_
    refine zg_R0_5 C in_X6_thrice_X6 fl_X6_thrice_23 dX6_thrice_12 ?_
    refine za_iload_n C 1 rfl rfl dX6_thrice_15 ?_
    obtain ⟨h11, hf⟩ := z_chk hf
    refine zl_R5 C h11 dX6_thrice_16 ?_
    refine za_iload_n C 2 rfl rfl dX6_thrice_17 ?_
    refine za_icmp_ne C 25 (by decide) dX6_thrice_18 (fun q12 => ?_) (fun q12 => ?_)
    · have hf := z_neg q12 hf
      refine za_iconst (v := (0 : Int32)) C (by decide) dX6_thrice_25 ?_
      exact za_sub [0, 1, 2] rfl (j_26 x1 x2 (0 : Int32) M0 hf)
    · have hf := z_pos q12 hf
      refine za_iconst (v := (1 : Int32)) C (by decide) dX6_thrice_21 ?_
      refine za_goto C 26 (by decide) dX6_thrice_22 ?_
      exact za_sub [0, 1, 2] rfl (j_26 x1 x2 (1 : Int32) M0 hf)
  · have hf := z_pos q10 hf
    refine za_bipush (v := (-2 : Int32)) C (by decide) dX6_thrice_8 ?_
    obtain ⟨rfl, rfl⟩ := z_ret2 hf
    exact za_iret C F dX6_thrice_10
theorem in_X6_vote_X6 : ∀ w ∈ wsX60, w ∈ wsX6_vote := by decide +kernel
theorem fl_X6_vote_26 : Cond.fieldLink RX6 26 "ThriceNetsModel" "isVoted" "[Z" ∈ wsX6_vote := by decide +kernel
theorem fl_X6_vote_23 : Cond.fieldLink RX6 23 "ThriceNetsModel" "isThrice" "[Z" ∈ wsX6_vote := by decide +kernel
def K_X6_vote_38 (x1 : Int32) (x2 : Int32) (y0 : Int32) (M : zM) : Option (Int32 × zM) :=
  zlt y0 (fun v1 => zchk x1 24 (zst (zsI M 15 x1.toNatClampNeg (vp_nar .boolean x2)) (fun N3 => (if v1 = 0 then (some ((1 : Int32), N3)) else (some ((0 : Int32), N3))))))
def pX6_vote (x1 : Int32) (x2 : Int32) (M0 : zM) : Option (Int32 × zM) :=
  (pX6_isStore x1 M0).bind (fun v6 => (if v6 = 0 then (some ((-2 : Int32), M0)) else (zchk x1 24 ((if (M0.1 14 x1.toNatClampNeg) = 0 then (some ((-3 : Int32), M0)) else (zchk x1 24 ((if (M0.1 15 x1.toNatClampNeg) = x2 then (K_X6_vote_38 x1 x2 (1 : Int32) M0) else (K_X6_vote_38 x1 x2 (0 : Int32) M0)))))))))
set_option maxHeartbeats 4000000 in
set_option maxRecDepth 100000 in
theorem cX6_vote_ok (l : Launch) (D : va_G) (ck : Nat → ClassId) (ad : Nat → Nat) (x1 : Int32) (x2 : Int32) (M0 : zM) (r9 : Int32) (M9 : zM) (hf : pX6_vote x1 x2 M0 = some (r9, M9)) : zc l D ck (wR ad ck) yX6_vote wsX6_vote ({ frames := 3, cells := 0, slots := 0, locals := 64 }) [.ref (ad 0), .int x1, .int x2] M0 (some (.int r9)) M9 := by
  refine zc_of (cc := cX6_vote) (maxL := 4) (ret := (some .int)) [(0, .ref (ad 0)), (1, .int x1), (2, .int x2)] (by decide) rfl (Nat.le_of_ble_eq_true rfl) rfl ?_
  intro p e s m args below meth c A Q C F
  have j_38 : ∀ (x1 : Int32) (x2 : Int32) (y0 : Int32) (M : zM), K_X6_vote_38 x1 x2 y0 M = some (r9, M9) → za_At p l e { frames := 3, cells := 0, slots := 0, locals := 64 } s m args below meth c D A 4 0 0 Q 38 [(0, .ref (ad 0)), (1, .int x1), (2, .int x2)] [.int y0] (wR ad ck M) := by
    intro x1 x2 y0 M hf
    unfold K_X6_vote_38 at hf
    obtain ⟨v1, ev1, hf⟩ := z_lt hf
    refine za_istore_n C [(3, .int v1), (0, .ref (ad 0)), (1, .int x1), (2, .int x2)] ev1 (by decide) rfl rfl dX6_vote_38 ?_
    refine za_aload_n C 1 rfl rfl dX6_vote_39 ?_
    refine zg_R0_6 C in_X6_vote_X6 fl_X6_vote_26 dX6_vote_40 ?_
    refine za_iload_n C 2 rfl rfl dX6_vote_43 ?_
    refine za_iload_n C 3 rfl rfl dX6_vote_44 ?_
    obtain ⟨h2, hf⟩ := z_chk hf
    obtain ⟨N3, eN3, hf⟩ := z_st hf
    refine zs_R6 C h2 eN3 dX6_vote_45 ?_
    refine za_iload_n C 0 rfl rfl dX6_vote_46 ?_
    refine za_if_eq C 54 (by decide) dX6_vote_47 (fun q4 => ?_) (fun q4 => ?_)
    · have hf := z_pos q4 hf
      refine za_iconst (v := (1 : Int32)) C (by decide) dX6_vote_54 ?_
      obtain ⟨rfl, rfl⟩ := z_ret2 hf
      exact za_iret C F dX6_vote_55
    · have hf := z_neg q4 hf
      refine za_iconst (v := (0 : Int32)) C (by decide) dX6_vote_50 ?_
      refine za_goto C 55 (by decide) dX6_vote_51 ?_
      obtain ⟨rfl, rfl⟩ := z_ret2 hf
      exact za_iret C F dX6_vote_55
  unfold pX6_vote at hf
  refine za_aload_n C 0 rfl rfl dX6_vote_0 ?_
  refine za_iload_n C 1 rfl rfl dX6_vote_1 ?_
  obtain ⟨v6, hc5, hf⟩ := z_bind hf
  refine za_callV (n := 1) (rest := []) C (cX6_isStore_ok l D ck ad x1 M0 _ hc5) gX6_vote_X6_isStore rfl rfl rfl (by decide +kernel) ⟨Nat.le_of_ble_eq_true rfl, Nat.le_of_ble_eq_true rfl⟩ 0 rfl rfl rfl rfl rfl (Nat.le_of_ble_eq_true rfl) ⟨Nat.zero_le _, Nat.zero_le _⟩ dX6_vote_2 ?_
  refine za_if_ne C 11 (by decide) dX6_vote_5 (fun q7 => ?_) (fun q7 => ?_)
  · have hf := z_neg q7 hf
    refine za_aload_n C 0 rfl rfl dX6_vote_11 ?_
    refine zg_R0_5 C in_X6_vote_X6 fl_X6_vote_23 dX6_vote_12 ?_
    refine za_iload_n C 1 rfl rfl dX6_vote_15 ?_
    obtain ⟨h8, hf⟩ := z_chk hf
    refine zl_R5 C h8 dX6_vote_16 ?_
    refine za_if_ne C 23 (by decide) dX6_vote_17 (fun q9 => ?_) (fun q9 => ?_)
    · have hf := z_neg q9 hf
      refine za_aload_n C 0 rfl rfl dX6_vote_23 ?_
      refine zg_R0_6 C in_X6_vote_X6 fl_X6_vote_26 dX6_vote_24 ?_
      refine za_iload_n C 1 rfl rfl dX6_vote_27 ?_
      obtain ⟨h10, hf⟩ := z_chk hf
      refine zl_R6 C h10 dX6_vote_28 ?_
      refine za_iload_n C 2 rfl rfl dX6_vote_29 ?_
      refine za_icmp_ne C 37 (by decide) dX6_vote_30 (fun q11 => ?_) (fun q11 => ?_)
      · have hf := z_neg q11 hf
        refine za_iconst (v := (0 : Int32)) C (by decide) dX6_vote_37 ?_
        exact za_sub [0, 1, 2] rfl (j_38 x1 x2 (0 : Int32) M0 hf)
      · have hf := z_pos q11 hf
        refine za_iconst (v := (1 : Int32)) C (by decide) dX6_vote_33 ?_
        refine za_goto C 38 (by decide) dX6_vote_34 ?_
        exact za_sub [0, 1, 2] rfl (j_38 x1 x2 (1 : Int32) M0 hf)
    · have hf := z_pos q9 hf
      refine za_bipush (v := (-3 : Int32)) C (by decide) dX6_vote_20 ?_
      obtain ⟨rfl, rfl⟩ := z_ret2 hf
      exact za_iret C F dX6_vote_22
  · have hf := z_pos q7 hf
    refine za_bipush (v := (-2 : Int32)) C (by decide) dX6_vote_8 ?_
    obtain ⟨rfl, rfl⟩ := z_ret2 hf
    exact za_iret C F dX6_vote_10
theorem in_X6_inputAt_X6 : ∀ w ∈ wsX60, w ∈ wsX6_inputAt := by decide +kernel
theorem fl_X6_inputAt_63 : Cond.fieldLink RX6 63 "ThriceNetsModel" "isThere" "[Z" ∈ wsX6_inputAt := by decide +kernel
theorem fl_X6_inputAt_69 : Cond.fieldLink RX6 69 "ThriceNetsModel" "sizes" "[I" ∈ wsX6_inputAt := by decide +kernel
theorem fl_X6_inputAt_72 : Cond.fieldLink RX6 72 "ThriceNetsModel" "items" "[I" ∈ wsX6_inputAt := by decide +kernel
theorem fl_X6_inputAt_32 : Cond.fieldLink RX6 32 "ThriceNetsModel" "numbers" "[I" ∈ wsX6_inputAt := by decide +kernel
def K_X6_inputAt_37 (x1 : Int32) (x2 : Int32) (M0 : zM) : Option (Int32) :=
  some (0 : Int32)
def pX6_inputAt (x1 : Int32) (x2 : Int32) (M0 : zM) : Option (Int32) :=
  zchk (0 : Int32) 4 ((if (M0.1 25 (0 : Int32).toNatClampNeg) = 0 then (K_X6_inputAt_37 x1 x2 M0) else (zchk (0 : Int32) 4 ((if (M0.1 27 (0 : Int32).toNatClampNeg) ≤ x2 then (K_X6_inputAt_37 x1 x2 M0) else (zchk x2 240 (zchk x1 24 (some (((M0.1 28 x2.toNatClampNeg) >>> ((M0.1 17 x1.toNatClampNeg) &&& 31)) &&& (1 : Int32))))))))))
set_option maxHeartbeats 4000000 in
set_option maxRecDepth 100000 in
theorem cX6_inputAt_ok (l : Launch) (D : va_G) (ck : Nat → ClassId) (ad : Nat → Nat) (x1 : Int32) (x2 : Int32) (M0 : zM) (r9 : Int32) (hf : pX6_inputAt x1 x2 M0 = some r9) : zc l D ck (wR ad ck) yX6_inputAt wsX6_inputAt ({ frames := 0, cells := 0, slots := 0, locals := 0 }) [.ref (ad 0), .int x1, .int x2] M0 (some (.int r9)) M0 := by
  refine zc_of (cc := cX6_inputAt) (maxL := 3) (ret := (some .int)) [(0, .ref (ad 0)), (1, .int x1), (2, .int x2)] (by decide) rfl (Nat.le_of_ble_eq_true rfl) rfl ?_
  intro p e s m args below meth c A Q C F
  have j_37 : ∀ (x1 : Int32) (x2 : Int32), K_X6_inputAt_37 x1 x2 M0 = some r9 → za_At p l e { frames := 0, cells := 0, slots := 0, locals := 0 } s m args below meth c D A 3 0 0 Q 37 [(0, .ref (ad 0)), (1, .int x1), (2, .int x2)] [] (wR ad ck M0) := by
    intro x1 x2 hf
    unfold K_X6_inputAt_37 at hf
    refine za_iconst (v := (0 : Int32)) C (by decide) dX6_inputAt_37 ?_
    obtain rfl := z_ret1 hf
    exact za_iret C F dX6_inputAt_38
  unfold pX6_inputAt at hf
  refine za_aload_n C 0 rfl rfl dX6_inputAt_0 ?_
  refine zg_R0_20 C in_X6_inputAt_X6 fl_X6_inputAt_63 dX6_inputAt_1 ?_
  refine za_iconst (v := (0 : Int32)) C (by decide) dX6_inputAt_4 ?_
  obtain ⟨h1, hf⟩ := z_chk hf
  refine zl_R16 C h1 dX6_inputAt_5 ?_
  refine za_if_eq C 37 (by decide) dX6_inputAt_6 (fun q2 => ?_) (fun q2 => ?_)
  · have hf := z_pos q2 hf
    exact za_sub [0, 1, 2] rfl (j_37 x1 x2 hf)
  · have hf := z_neg q2 hf
    refine za_iload_n C 2 rfl rfl dX6_inputAt_9 ?_
    refine za_aload_n C 0 rfl rfl dX6_inputAt_10 ?_
    refine zg_R0_22 C in_X6_inputAt_X6 fl_X6_inputAt_69 dX6_inputAt_11 ?_
    refine za_iconst (v := (0 : Int32)) C (by decide) dX6_inputAt_14 ?_
    obtain ⟨h3, hf⟩ := z_chk hf
    refine zl_R18 C h3 dX6_inputAt_15 ?_
    refine za_icmp_ge C 37 (by decide) dX6_inputAt_16 (fun q4 => ?_) (fun q4 => ?_)
    · have hf := z_pos q4 hf
      exact za_sub [0, 1, 2] rfl (j_37 x1 x2 hf)
    · have hf := z_neg q4 hf
      refine za_aload_n C 0 rfl rfl dX6_inputAt_19 ?_
      refine zg_R0_23 C in_X6_inputAt_X6 fl_X6_inputAt_72 dX6_inputAt_20 ?_
      refine za_iload_n C 2 rfl rfl dX6_inputAt_23 ?_
      obtain ⟨h5, hf⟩ := z_chk hf
      refine zl_R19 C h5 dX6_inputAt_24 ?_
      refine za_aload_n C 0 rfl rfl dX6_inputAt_25 ?_
      refine zg_R0_8 C in_X6_inputAt_X6 fl_X6_inputAt_32 dX6_inputAt_26 ?_
      refine za_iload_n C 1 rfl rfl dX6_inputAt_29 ?_
      obtain ⟨h6, hf⟩ := z_chk hf
      refine zl_R8 C h6 dX6_inputAt_30 ?_
      refine za_ishr C dX6_inputAt_31 ?_
      refine za_iconst (v := (1 : Int32)) C (by decide) dX6_inputAt_32 ?_
      refine za_iand C dX6_inputAt_33 ?_
      refine za_goto C 38 (by decide) dX6_inputAt_34 ?_
      obtain rfl := z_ret1 hf
      exact za_iret C F dX6_inputAt_38
def pX6_gate (x0 : Int32) (x1 : Int32) (x2 : Int32) (M0 : zM) : Option (Int32) :=
  (if x0 = (1 : Int32) then (some ((1 : Int32) - x1)) else (if x0 = (2 : Int32) then (some (x1 &&& x2)) else (if x0 = (3 : Int32) then (some (x1 ||| x2)) else (some (x1 ^^^ x2)))))
set_option maxHeartbeats 4000000 in
set_option maxRecDepth 100000 in
theorem cX6_gate_ok (l : Launch) (D : va_G) (ck : Nat → ClassId) (ad : Nat → Nat) (x0 : Int32) (x1 : Int32) (x2 : Int32) (M0 : zM) (r9 : Int32) (hf : pX6_gate x0 x1 x2 M0 = some r9) : zc l D ck (wR ad ck) yX6_gate wsX6_gate ({ frames := 0, cells := 0, slots := 0, locals := 0 }) [.int x0, .int x1, .int x2] M0 (some (.int r9)) M0 := by
  refine zc_of (cc := cX6_gate) (maxL := 3) (ret := (some .int)) [(0, .int x0), (1, .int x1), (2, .int x2)] (by decide) rfl (Nat.le_of_ble_eq_true rfl) rfl ?_
  intro p e s m args below meth c A Q C F
  unfold pX6_gate at hf
  refine za_iload_n C 0 rfl rfl dX6_gate_0 ?_
  refine za_iconst (v := (1 : Int32)) C (by decide) dX6_gate_1 ?_
  refine za_icmp_ne C 11 (by decide) dX6_gate_2 (fun q1 => ?_) (fun q1 => ?_)
  · have hf := z_neg q1 hf
    refine za_iload_n C 0 rfl rfl dX6_gate_11 ?_
    refine za_iconst (v := (2 : Int32)) C (by decide) dX6_gate_12 ?_
    refine za_icmp_ne C 22 (by decide) dX6_gate_13 (fun q2 => ?_) (fun q2 => ?_)
    · have hf := z_neg q2 hf
      refine za_iload_n C 0 rfl rfl dX6_gate_22 ?_
      refine za_iconst (v := (3 : Int32)) C (by decide) dX6_gate_23 ?_
      refine za_icmp_ne C 33 (by decide) dX6_gate_24 (fun q3 => ?_) (fun q3 => ?_)
      · have hf := z_neg q3 hf
        refine za_iload_n C 1 rfl rfl dX6_gate_33 ?_
        refine za_iload_n C 2 rfl rfl dX6_gate_34 ?_
        refine za_ixor C dX6_gate_35 ?_
        obtain rfl := z_ret1 hf
        exact za_iret C F dX6_gate_36
      · have hf := z_pos q3 hf
        refine za_iload_n C 1 rfl rfl dX6_gate_27 ?_
        refine za_iload_n C 2 rfl rfl dX6_gate_28 ?_
        refine za_ior C dX6_gate_29 ?_
        refine za_goto C 36 (by decide) dX6_gate_30 ?_
        obtain rfl := z_ret1 hf
        exact za_iret C F dX6_gate_36
    · have hf := z_pos q2 hf
      refine za_iload_n C 1 rfl rfl dX6_gate_16 ?_
      refine za_iload_n C 2 rfl rfl dX6_gate_17 ?_
      refine za_iand C dX6_gate_18 ?_
      refine za_goto C 36 (by decide) dX6_gate_19 ?_
      obtain rfl := z_ret1 hf
      exact za_iret C F dX6_gate_36
  · have hf := z_pos q1 hf
    refine za_iconst (v := (1 : Int32)) C (by decide) dX6_gate_5 ?_
    refine za_iload_n C 1 rfl rfl dX6_gate_6 ?_
    refine za_isub C dX6_gate_7 ?_
    refine za_goto C 36 (by decide) dX6_gate_8 ?_
    obtain rfl := z_ret1 hf
    exact za_iret C F dX6_gate_36
theorem in_X6_runsBare_X6 : ∀ w ∈ wsX60, w ∈ wsX6_runsBare := by decide +kernel
theorem fl_X6_runsBare_78 : Cond.fieldLink RX6 78 "ThriceNetsModel" "nodes" "I" ∈ wsX6_runsBare := by decide +kernel
theorem fl_X6_runsBare_42 : Cond.fieldLink RX6 42 "ThriceNetsModel" "plain" "[I" ∈ wsX6_runsBare := by decide +kernel
theorem fl_X6_runsBare_7 : Cond.fieldLink RX6 7 "ThriceNetsModel" "kinds" "[I" ∈ wsX6_runsBare := by decide +kernel
theorem fl_X6_runsBare_13 : Cond.fieldLink RX6 13 "ThriceNetsModel" "first" "[I" ∈ wsX6_runsBare := by decide +kernel
theorem fl_X6_runsBare_16 : Cond.fieldLink RX6 16 "ThriceNetsModel" "second" "[I" ∈ wsX6_runsBare := by decide +kernel
def B_X6_runsBare_2 (n : Nat) (x1 : Int32) (x2 : Int32) (M : zM) : Option ((Int32 × zM) ⊕ (Int32 × zM)) :=
  (if (M.1 0 0) ≤ x2 then (some (.inr (x2, M))) else (zchk x2 408 (zst (zsI M 18 x2.toNatClampNeg (0 : Int32)) (fun N4 => zlt (x2 + (1 : Int32)) (fun v5 => some (.inl (v5, N4)))))))
def K_X6_runsBare_149 (n : Nat) (x1 : Int32) (x2 : Int32) (v10 : Int32) (x4 : Int32) (M : zM) : Option ((Int32 × zM) ⊕ (Int32 × zM)) :=
  zlt (x4 + (1 : Int32)) (fun v12 => some (.inl (v12, M)))
def K_X6_runsBare_145 (n : Nat) (x1 : Int32) (x2 : Int32) (v10 : Int32) (x4 : Int32) (y0 : Int32) (y1 : Int32) (y2 : Int32) (y3 : Int32) (M : zM) : Option ((Int32 × zM) ⊕ (Int32 × zM)) :=
  (pX6_gate y2 y1 y0 M).bind (fun v14 => zchk y3 408 (zst (zsI M 18 y3.toNatClampNeg v14) (fun N16 => K_X6_runsBare_149 n x1 x2 v10 x4 N16)))
def B_X6_runsBare_38 (n : Nat) (x1 : Int32) (x2 : Int32) (v10 : Int32) (x4 : Int32) (M : zM) : Option ((Int32 × zM) ⊕ (Int32 × zM)) :=
  (if (M.1 0 0) ≤ x4 then (some (.inr (x4, M))) else (zchk x4 24 ((if (M.1 10 x4.toNatClampNeg) = 0 then ((pX6_inputAt x4 x2 M).bind (fun v30 => zchk (v10 + x4) 408 (zst (zsI M 18 (v10 + x4).toNatClampNeg v30) (fun N32 => K_X6_runsBare_149 n x1 x2 v10 x4 N32)))) else (zchk x4 24 ((if (M.1 10 x4.toNatClampNeg) = (5 : Int32) then (K_X6_runsBare_149 n x1 x2 v10 x4 M) else (zchk x4 24 (zchk x4 24 (zchk (v10 + (M.1 11 x4.toNatClampNeg)) 408 (zchk x4 24 ((if (M.1 12 x4.toNatClampNeg) = (-1 : Int32) then (K_X6_runsBare_145 n x1 x2 v10 x4 (0 : Int32) (M.1 18 (v10 + (M.1 11 x4.toNatClampNeg)).toNatClampNeg) (M.1 10 x4.toNatClampNeg) (v10 + x4) M) else (zchk x4 24 (zchk (v10 + (M.1 12 x4.toNatClampNeg)) 408 (K_X6_runsBare_145 n x1 x2 v10 x4 (M.1 18 (v10 + (M.1 12 x4.toNatClampNeg)).toNatClampNeg) (M.1 18 (v10 + (M.1 11 x4.toNatClampNeg)).toNatClampNeg) (M.1 10 x4.toNatClampNeg) (v10 + x4) M))))))))))))))))
def K_X6_runsBare_204 (n : Nat) (x1 : Int32) (x2 : Int32) (v10 : Int32) (x4 : Int32) (M : zM) : Option ((Int32 × zM) ⊕ (Int32 × zM)) :=
  zlt (x4 + (1 : Int32)) (fun v36 => some (.inl (v36, M)))
def B_X6_runsBare_158 (n : Nat) (x1 : Int32) (x2 : Int32) (v10 : Int32) (x4 : Int32) (M : zM) : Option ((Int32 × zM) ⊕ (Int32 × zM)) :=
  (if (M.1 0 0) ≤ x4 then (some (.inr (x4, M))) else (zchk x4 24 ((if (M.1 10 x4.toNatClampNeg) = (5 : Int32) then (zchk x4 24 (zchk (v10 + (M.1 11 x4.toNatClampNeg)) 408 (zchk ((v10 + (24 : Int32)) + x4) 408 (zst (zsI M 18 ((v10 + (24 : Int32)) + x4).toNatClampNeg (M.1 18 (v10 + (M.1 11 x4.toNatClampNeg)).toNatClampNeg)) (fun N43 => K_X6_runsBare_204 n x1 x2 v10 x4 N43))))) else (K_X6_runsBare_204 n x1 x2 v10 x4 M)))))
def B_X6_runsBare_25 (n : Nat) (x1 : Int32) (x2 : Int32) (M : zM) : Option ((Int32 × zM) ⊕ (Int32 × zM)) :=
  (if x1 ≤ x2 then (some (.inr (x2, M))) else (zlt ((24 : Int32) * x2) (fun v10 => zlt (0 : Int32) (fun v11 => zb2 (zwl (fun q => B_X6_runsBare_38 n x1 x2 v10 q.1 q.2) n (v11, M)) (fun v33 N34 => zlt (0 : Int32) (fun v35 => zb2 (zwl (fun q => B_X6_runsBare_158 n x1 x2 v10 q.1 q.2) n (v35, N34)) (fun v44 N45 => zlt (x2 + (1 : Int32)) (fun v46 => some (.inl (v46, N45))))))))))
def pX6_runsBare (n : Nat) (x1 : Int32) (M0 : zM) : Option (zM) :=
  zlt (0 : Int32) (fun v1 => zb2 (zwl (fun q => B_X6_runsBare_2 n x1 q.1 q.2) n (v1, M0)) (fun v6 N7 => zlt (0 : Int32) (fun v8 => zb2 (zwl (fun q => B_X6_runsBare_25 n x1 q.1 q.2) n (v8, N7)) (fun v49 N50 => some N50))))
set_option maxHeartbeats 4000000 in
set_option maxRecDepth 100000 in
theorem cX6_runsBare_ok (l : Launch) (D : va_G) (ck : Nat → ClassId) (ad : Nat → Nat) (n : Nat) (x1 : Int32) (M0 : zM) (M9 : zM) (hf : pX6_runsBare n x1 M0 = some M9) : zc l D ck (wR ad ck) yX6_runsBare wsX6_runsBare ({ frames := 1, cells := 0, slots := 0, locals := 22 }) [.ref (ad 0), .int x1] M0 none M9 := by
  refine zc_of (cc := cX6_runsBare) (maxL := 5) (ret := none) [(0, .ref (ad 0)), (1, .int x1)] (by decide) rfl (Nat.le_of_ble_eq_true rfl) rfl ?_
  intro p e s m args below meth c A Q C F
  unfold pX6_runsBare at hf
  refine za_iconst (v := (0 : Int32)) C (by decide) dX6_runsBare_0 ?_
  obtain ⟨v1, ev1, hf⟩ := z_lt hf
  refine za_istore_n C [(2, .int v1), (0, .ref (ad 0)), (1, .int x1)] ev1 (by decide) rfl rfl dX6_runsBare_1 ?_
  obtain ⟨v6, N7, hw52, hf⟩ := z_b2 hf
  refine za_sub [1, 2, 0] rfl ?_
  refine z_wl (P := fun q => za_At p l e { frames := 1, cells := 0, slots := 0, locals := 22 } s m args below meth c D A 5 0 0 Q 2 [(0, .ref (ad 0)), (1, .int x1), (2, .int q.1)] [] (wR ad ck q.2)) (E := fun q => za_At p l e { frames := 1, cells := 0, slots := 0, locals := 22 } s m args below meth c D A 5 0 0 Q 23 [(0, .ref (ad 0)), (1, .int x1), (2, .int q.1)] [] (wR ad ck q.2)) ?_ ?_ _ _ hw52
  · intro q o hf hN hE
    obtain ⟨x2, M⟩ := q
    have hf : B_X6_runsBare_2 n x1 x2 M = some o := hf
    unfold B_X6_runsBare_2 at hf
    refine za_iload_n C 2 rfl rfl dX6_runsBare_2 ?_
    refine za_aload_n C 0 rfl rfl dX6_runsBare_3 ?_
    refine zg_R0_0 C in_X6_runsBare_X6 fl_X6_runsBare_78 dX6_runsBare_4 ?_
    refine za_icmp_ge C 23 (by decide) dX6_runsBare_7 (fun q2 => ?_) (fun q2 => ?_)
    · have hf := z_pos q2 hf
      exact za_sub [0, 1, 2] rfl (hE _ (z_inj hf))
    · have hf := z_neg q2 hf
      refine za_aload_n C 0 rfl rfl dX6_runsBare_10 ?_
      refine zg_R0_13 C in_X6_runsBare_X6 fl_X6_runsBare_42 dX6_runsBare_11 ?_
      refine za_iload_n C 2 rfl rfl dX6_runsBare_14 ?_
      refine za_iconst (v := (0 : Int32)) C (by decide) dX6_runsBare_15 ?_
      obtain ⟨h3, hf⟩ := z_chk hf
      obtain ⟨N4, eN4, hf⟩ := z_st hf
      refine zs_R9 C h3 eN4 dX6_runsBare_16 ?_
      obtain ⟨v5, ev5, hf⟩ := z_lt hf
      refine za_iinc (k9 := (1 : Int32)) C [(2, .int v5), (0, .ref (ad 0)), (1, .int x1)] 2 rfl (by decide) ev5 (by decide) rfl dX6_runsBare_17 ?_
      refine za_goto C 2 (by decide) dX6_runsBare_20 ?_
      exact za_sub [1, 2, 0] rfl (hN _ (z_inj hf))
  · show za_At p l e { frames := 1, cells := 0, slots := 0, locals := 22 } s m args below meth c D A 5 0 0 Q 23 [(0, .ref (ad 0)), (1, .int x1), (2, .int v6)] [] (wR ad ck N7)
    refine za_iconst (v := (0 : Int32)) C (by decide) dX6_runsBare_23 ?_
    obtain ⟨v8, ev8, hf⟩ := z_lt hf
    refine za_istore_n C [(2, .int v8), (0, .ref (ad 0)), (1, .int x1)] ev8 (by decide) rfl rfl dX6_runsBare_24 ?_
    obtain ⟨v49, N50, hw51, hf⟩ := z_b2 hf
    refine za_sub [1, 2, 0] rfl ?_
    refine z_wl (P := fun q => za_At p l e { frames := 1, cells := 0, slots := 0, locals := 22 } s m args below meth c D A 5 0 0 Q 25 [(0, .ref (ad 0)), (1, .int x1), (2, .int q.1)] [] (wR ad ck q.2)) (E := fun q => za_At p l e { frames := 1, cells := 0, slots := 0, locals := 22 } s m args below meth c D A 5 0 0 Q 216 [(0, .ref (ad 0)), (1, .int x1), (2, .int q.1)] [] (wR ad ck q.2)) ?_ ?_ _ _ hw51
    · intro q o hf hN hE
      obtain ⟨x2, M⟩ := q
      have hf : B_X6_runsBare_25 n x1 x2 M = some o := hf
      unfold B_X6_runsBare_25 at hf
      refine za_iload_n C 2 rfl rfl dX6_runsBare_25 ?_
      refine za_iload_n C 1 rfl rfl dX6_runsBare_26 ?_
      refine za_icmp_ge C 216 (by decide) dX6_runsBare_27 (fun q9 => ?_) (fun q9 => ?_)
      · have hf := z_pos q9 hf
        exact za_sub [0, 1, 2] rfl (hE _ (z_inj hf))
      · have hf := z_neg q9 hf
        refine za_bipush (v := (24 : Int32)) C (by decide) dX6_runsBare_30 ?_
        refine za_iload_n C 2 rfl rfl dX6_runsBare_32 ?_
        refine za_imul C dX6_runsBare_33 ?_
        obtain ⟨v10, ev10, hf⟩ := z_lt hf
        refine za_istore_n C [(3, .int v10), (0, .ref (ad 0)), (1, .int x1), (2, .int x2)] ev10 (by decide) rfl rfl dX6_runsBare_34 ?_
        refine za_iconst (v := (0 : Int32)) C (by decide) dX6_runsBare_35 ?_
        obtain ⟨v11, ev11, hf⟩ := z_lt hf
        refine za_istore C [(4, .int v11), (3, .int v10), (0, .ref (ad 0)), (1, .int x1), (2, .int x2)] ev11 (by decide) rfl dX6_runsBare_36 ?_
        obtain ⟨v33, N34, hw48, hf⟩ := z_b2 hf
        refine za_sub [2, 3, 4, 1, 0] rfl ?_
        refine z_wl (P := fun q => za_At p l e { frames := 1, cells := 0, slots := 0, locals := 22 } s m args below meth c D A 5 0 0 Q 38 [(0, .ref (ad 0)), (1, .int x1), (2, .int x2), (3, .int v10), (4, .int q.1)] [] (wR ad ck q.2)) (E := fun q => za_At p l e { frames := 1, cells := 0, slots := 0, locals := 22 } s m args below meth c D A 5 0 0 Q 155 [(0, .ref (ad 0)), (1, .int x1), (2, .int x2), (3, .int v10), (4, .int q.1)] [] (wR ad ck q.2)) ?_ ?_ _ _ hw48
        · intro q o hf hN hE
          obtain ⟨x4, M⟩ := q
          have hf : B_X6_runsBare_38 n x1 x2 v10 x4 M = some o := hf
          unfold B_X6_runsBare_38 at hf
          have j_149 : ∀ (x4 : Int32) (M : zM), K_X6_runsBare_149 n x1 x2 v10 x4 M = some o → za_At p l e { frames := 1, cells := 0, slots := 0, locals := 22 } s m args below meth c D A 5 0 0 Q 149 [(0, .ref (ad 0)), (1, .int x1), (2, .int x2), (3, .int v10), (4, .int x4)] [] (wR ad ck M) := by
            intro x4 M hf
            unfold K_X6_runsBare_149 at hf
            obtain ⟨v12, ev12, hf⟩ := z_lt hf
            refine za_iinc (k9 := (1 : Int32)) C [(4, .int v12), (0, .ref (ad 0)), (1, .int x1), (2, .int x2), (3, .int v10)] 4 rfl (by decide) ev12 (by decide) rfl dX6_runsBare_149 ?_
            refine za_goto C 38 (by decide) dX6_runsBare_152 ?_
            exact za_sub [1, 2, 3, 4, 0] rfl (hN _ (z_inj hf))
          have j_145 : ∀ (x4 : Int32) (y0 : Int32) (y1 : Int32) (y2 : Int32) (y3 : Int32) (M : zM), K_X6_runsBare_145 n x1 x2 v10 x4 y0 y1 y2 y3 M = some o → za_At p l e { frames := 1, cells := 0, slots := 0, locals := 22 } s m args below meth c D A 5 0 0 Q 145 [(0, .ref (ad 0)), (1, .int x1), (2, .int x2), (3, .int v10), (4, .int x4)] [.int y0, .int y1, .int y2, .int y3, .ref (ad 9)] (wR ad ck M) := by
            intro x4 y0 y1 y2 y3 M hf
            unfold K_X6_runsBare_145 at hf
            obtain ⟨v14, hc13, hf⟩ := z_bind hf
            refine za_callS (n := 3) (rest := [.int y3, .ref (ad 9)]) C (cX6_gate_ok l D ck ad y2 y1 y0 M _ hc13) gX6_runsBare_X6_gate rfl rfl rfl (by decide +kernel) ⟨Nat.le_of_ble_eq_true rfl, Nat.le_of_ble_eq_true rfl⟩ rfl rfl (Nat.le_of_ble_eq_true rfl) ⟨Nat.zero_le _, Nat.zero_le _⟩ dX6_runsBare_145 ?_
            obtain ⟨h15, hf⟩ := z_chk hf
            obtain ⟨N16, eN16, hf⟩ := z_st hf
            refine zs_R9 C h15 eN16 dX6_runsBare_148 ?_
            exact za_sub [0, 1, 2, 3, 4] rfl (j_149 x4 N16 hf)
          refine za_iload C 4 rfl dX6_runsBare_38 ?_
          refine za_aload_n C 0 rfl rfl dX6_runsBare_40 ?_
          refine zg_R0_0 C in_X6_runsBare_X6 fl_X6_runsBare_78 dX6_runsBare_41 ?_
          refine za_icmp_ge C 155 (by decide) dX6_runsBare_44 (fun q17 => ?_) (fun q17 => ?_)
          · have hf := z_pos q17 hf
            exact za_sub [0, 1, 2, 3, 4] rfl (hE _ (z_inj hf))
          · have hf := z_neg q17 hf
            refine za_aload_n C 0 rfl rfl dX6_runsBare_47 ?_
            refine zg_R0_1 C in_X6_runsBare_X6 fl_X6_runsBare_7 dX6_runsBare_48 ?_
            refine za_iload C 4 rfl dX6_runsBare_51 ?_
            obtain ⟨h18, hf⟩ := z_chk hf
            refine zl_R1 C h18 dX6_runsBare_53 ?_
            refine za_if_ne C 76 (by decide) dX6_runsBare_54 (fun q19 => ?_) (fun q19 => ?_)
            · have hf := z_neg q19 hf
              refine za_aload_n C 0 rfl rfl dX6_runsBare_76 ?_
              refine zg_R0_1 C in_X6_runsBare_X6 fl_X6_runsBare_7 dX6_runsBare_77 ?_
              refine za_iload C 4 rfl dX6_runsBare_80 ?_
              obtain ⟨h20, hf⟩ := z_chk hf
              refine zl_R1 C h20 dX6_runsBare_82 ?_
              refine za_iconst (v := (5 : Int32)) C (by decide) dX6_runsBare_83 ?_
              refine za_icmp_eq C 149 (by decide) dX6_runsBare_84 (fun q21 => ?_) (fun q21 => ?_)
              · have hf := z_pos q21 hf
                exact za_sub [0, 1, 2, 3, 4] rfl (j_149 x4 M hf)
              · have hf := z_neg q21 hf
                refine za_aload_n C 0 rfl rfl dX6_runsBare_87 ?_
                refine zg_R0_13 C in_X6_runsBare_X6 fl_X6_runsBare_42 dX6_runsBare_88 ?_
                refine za_iload_n C 3 rfl rfl dX6_runsBare_91 ?_
                refine za_iload C 4 rfl dX6_runsBare_92 ?_
                refine za_iadd C dX6_runsBare_94 ?_
                refine za_aload_n C 0 rfl rfl dX6_runsBare_95 ?_
                refine zg_R0_1 C in_X6_runsBare_X6 fl_X6_runsBare_7 dX6_runsBare_96 ?_
                refine za_iload C 4 rfl dX6_runsBare_99 ?_
                obtain ⟨h22, hf⟩ := z_chk hf
                refine zl_R1 C h22 dX6_runsBare_101 ?_
                refine za_aload_n C 0 rfl rfl dX6_runsBare_102 ?_
                refine zg_R0_13 C in_X6_runsBare_X6 fl_X6_runsBare_42 dX6_runsBare_103 ?_
                refine za_iload_n C 3 rfl rfl dX6_runsBare_106 ?_
                refine za_aload_n C 0 rfl rfl dX6_runsBare_107 ?_
                refine zg_R0_2 C in_X6_runsBare_X6 fl_X6_runsBare_13 dX6_runsBare_108 ?_
                refine za_iload C 4 rfl dX6_runsBare_111 ?_
                obtain ⟨h23, hf⟩ := z_chk hf
                refine zl_R2 C h23 dX6_runsBare_113 ?_
                refine za_iadd C dX6_runsBare_114 ?_
                obtain ⟨h24, hf⟩ := z_chk hf
                refine zl_R9 C h24 dX6_runsBare_115 ?_
                refine za_aload_n C 0 rfl rfl dX6_runsBare_116 ?_
                refine zg_R0_3 C in_X6_runsBare_X6 fl_X6_runsBare_16 dX6_runsBare_117 ?_
                refine za_iload C 4 rfl dX6_runsBare_120 ?_
                obtain ⟨h25, hf⟩ := z_chk hf
                refine zl_R3 C h25 dX6_runsBare_122 ?_
                refine za_iconst (v := (-1 : Int32)) C (by decide) dX6_runsBare_123 ?_
                refine za_icmp_ne C 131 (by decide) dX6_runsBare_124 (fun q26 => ?_) (fun q26 => ?_)
                · have hf := z_neg q26 hf
                  refine za_aload_n C 0 rfl rfl dX6_runsBare_131 ?_
                  refine zg_R0_13 C in_X6_runsBare_X6 fl_X6_runsBare_42 dX6_runsBare_132 ?_
                  refine za_iload_n C 3 rfl rfl dX6_runsBare_135 ?_
                  refine za_aload_n C 0 rfl rfl dX6_runsBare_136 ?_
                  refine zg_R0_3 C in_X6_runsBare_X6 fl_X6_runsBare_16 dX6_runsBare_137 ?_
                  refine za_iload C 4 rfl dX6_runsBare_140 ?_
                  obtain ⟨h27, hf⟩ := z_chk hf
                  refine zl_R3 C h27 dX6_runsBare_142 ?_
                  refine za_iadd C dX6_runsBare_143 ?_
                  obtain ⟨h28, hf⟩ := z_chk hf
                  refine zl_R9 C h28 dX6_runsBare_144 ?_
                  exact za_sub [0, 1, 2, 3, 4] rfl (j_145 x4 (M.1 18 (v10 + (M.1 12 x4.toNatClampNeg)).toNatClampNeg) (M.1 18 (v10 + (M.1 11 x4.toNatClampNeg)).toNatClampNeg) (M.1 10 x4.toNatClampNeg) (v10 + x4) M hf)
                · have hf := z_pos q26 hf
                  refine za_iconst (v := (0 : Int32)) C (by decide) dX6_runsBare_127 ?_
                  refine za_goto C 145 (by decide) dX6_runsBare_128 ?_
                  exact za_sub [0, 1, 2, 3, 4] rfl (j_145 x4 (0 : Int32) (M.1 18 (v10 + (M.1 11 x4.toNatClampNeg)).toNatClampNeg) (M.1 10 x4.toNatClampNeg) (v10 + x4) M hf)
            · have hf := z_pos q19 hf
              refine za_aload_n C 0 rfl rfl dX6_runsBare_57 ?_
              refine zg_R0_13 C in_X6_runsBare_X6 fl_X6_runsBare_42 dX6_runsBare_58 ?_
              refine za_iload_n C 3 rfl rfl dX6_runsBare_61 ?_
              refine za_iload C 4 rfl dX6_runsBare_62 ?_
              refine za_iadd C dX6_runsBare_64 ?_
              refine za_aload_n C 0 rfl rfl dX6_runsBare_65 ?_
              refine za_iload C 4 rfl dX6_runsBare_66 ?_
              refine za_iload_n C 2 rfl rfl dX6_runsBare_68 ?_
              obtain ⟨v30, hc29, hf⟩ := z_bind hf
              refine za_callV (n := 2) (rest := [.int (v10 + x4), .ref (ad 9)]) C (cX6_inputAt_ok l D ck ad x4 x2 M _ hc29) gX6_runsBare_X6_inputAt rfl rfl rfl (by decide +kernel) ⟨Nat.le_of_ble_eq_true rfl, Nat.le_of_ble_eq_true rfl⟩ 0 rfl rfl rfl rfl rfl (Nat.le_of_ble_eq_true rfl) ⟨Nat.zero_le _, Nat.zero_le _⟩ dX6_runsBare_69 ?_
              obtain ⟨h31, hf⟩ := z_chk hf
              obtain ⟨N32, eN32, hf⟩ := z_st hf
              refine zs_R9 C h31 eN32 dX6_runsBare_72 ?_
              refine za_goto C 149 (by decide) dX6_runsBare_73 ?_
              exact za_sub [0, 1, 2, 3, 4] rfl (j_149 x4 N32 hf)
        · show za_At p l e { frames := 1, cells := 0, slots := 0, locals := 22 } s m args below meth c D A 5 0 0 Q 155 [(0, .ref (ad 0)), (1, .int x1), (2, .int x2), (3, .int v10), (4, .int v33)] [] (wR ad ck N34)
          refine za_iconst (v := (0 : Int32)) C (by decide) dX6_runsBare_155 ?_
          obtain ⟨v35, ev35, hf⟩ := z_lt hf
          refine za_istore C [(4, .int v35), (0, .ref (ad 0)), (1, .int x1), (2, .int x2), (3, .int v10)] ev35 (by decide) rfl dX6_runsBare_156 ?_
          obtain ⟨v44, N45, hw47, hf⟩ := z_b2 hf
          refine za_sub [1, 2, 3, 4, 0] rfl ?_
          refine z_wl (P := fun q => za_At p l e { frames := 1, cells := 0, slots := 0, locals := 22 } s m args below meth c D A 5 0 0 Q 158 [(0, .ref (ad 0)), (1, .int x1), (2, .int x2), (3, .int v10), (4, .int q.1)] [] (wR ad ck q.2)) (E := fun q => za_At p l e { frames := 1, cells := 0, slots := 0, locals := 22 } s m args below meth c D A 5 0 0 Q 210 [(0, .ref (ad 0)), (1, .int x1), (2, .int x2), (3, .int v10), (4, .int q.1)] [] (wR ad ck q.2)) ?_ ?_ _ _ hw47
          · intro q o hf hN hE
            obtain ⟨x4, M⟩ := q
            have hf : B_X6_runsBare_158 n x1 x2 v10 x4 M = some o := hf
            unfold B_X6_runsBare_158 at hf
            have j_204 : ∀ (x4 : Int32) (M : zM), K_X6_runsBare_204 n x1 x2 v10 x4 M = some o → za_At p l e { frames := 1, cells := 0, slots := 0, locals := 22 } s m args below meth c D A 5 0 0 Q 204 [(0, .ref (ad 0)), (1, .int x1), (2, .int x2), (3, .int v10), (4, .int x4)] [] (wR ad ck M) := by
              intro x4 M hf
              unfold K_X6_runsBare_204 at hf
              obtain ⟨v36, ev36, hf⟩ := z_lt hf
              refine za_iinc (k9 := (1 : Int32)) C [(4, .int v36), (0, .ref (ad 0)), (1, .int x1), (2, .int x2), (3, .int v10)] 4 rfl (by decide) ev36 (by decide) rfl dX6_runsBare_204 ?_
              refine za_goto C 158 (by decide) dX6_runsBare_207 ?_
              exact za_sub [1, 2, 3, 4, 0] rfl (hN _ (z_inj hf))
            refine za_iload C 4 rfl dX6_runsBare_158 ?_
            refine za_aload_n C 0 rfl rfl dX6_runsBare_160 ?_
            refine zg_R0_0 C in_X6_runsBare_X6 fl_X6_runsBare_78 dX6_runsBare_161 ?_
            refine za_icmp_ge C 210 (by decide) dX6_runsBare_164 (fun q37 => ?_) (fun q37 => ?_)
            · have hf := z_pos q37 hf
              exact za_sub [0, 1, 2, 3, 4] rfl (hE _ (z_inj hf))
            · have hf := z_neg q37 hf
              refine za_aload_n C 0 rfl rfl dX6_runsBare_167 ?_
              refine zg_R0_1 C in_X6_runsBare_X6 fl_X6_runsBare_7 dX6_runsBare_168 ?_
              refine za_iload C 4 rfl dX6_runsBare_171 ?_
              obtain ⟨h38, hf⟩ := z_chk hf
              refine zl_R1 C h38 dX6_runsBare_173 ?_
              refine za_iconst (v := (5 : Int32)) C (by decide) dX6_runsBare_174 ?_
              refine za_icmp_ne C 204 (by decide) dX6_runsBare_175 (fun q39 => ?_) (fun q39 => ?_)
              · have hf := z_neg q39 hf
                exact za_sub [0, 1, 2, 3, 4] rfl (j_204 x4 M hf)
              · have hf := z_pos q39 hf
                refine za_aload_n C 0 rfl rfl dX6_runsBare_178 ?_
                refine zg_R0_13 C in_X6_runsBare_X6 fl_X6_runsBare_42 dX6_runsBare_179 ?_
                refine za_iload_n C 3 rfl rfl dX6_runsBare_182 ?_
                refine za_bipush (v := (24 : Int32)) C (by decide) dX6_runsBare_183 ?_
                refine za_iadd C dX6_runsBare_185 ?_
                refine za_iload C 4 rfl dX6_runsBare_186 ?_
                refine za_iadd C dX6_runsBare_188 ?_
                refine za_aload_n C 0 rfl rfl dX6_runsBare_189 ?_
                refine zg_R0_13 C in_X6_runsBare_X6 fl_X6_runsBare_42 dX6_runsBare_190 ?_
                refine za_iload_n C 3 rfl rfl dX6_runsBare_193 ?_
                refine za_aload_n C 0 rfl rfl dX6_runsBare_194 ?_
                refine zg_R0_2 C in_X6_runsBare_X6 fl_X6_runsBare_13 dX6_runsBare_195 ?_
                refine za_iload C 4 rfl dX6_runsBare_198 ?_
                obtain ⟨h40, hf⟩ := z_chk hf
                refine zl_R2 C h40 dX6_runsBare_200 ?_
                refine za_iadd C dX6_runsBare_201 ?_
                obtain ⟨h41, hf⟩ := z_chk hf
                refine zl_R9 C h41 dX6_runsBare_202 ?_
                obtain ⟨h42, hf⟩ := z_chk hf
                obtain ⟨N43, eN43, hf⟩ := z_st hf
                refine zs_R9 C h42 eN43 dX6_runsBare_203 ?_
                exact za_sub [0, 1, 2, 3, 4] rfl (j_204 x4 N43 hf)
          · show za_At p l e { frames := 1, cells := 0, slots := 0, locals := 22 } s m args below meth c D A 5 0 0 Q 210 [(0, .ref (ad 0)), (1, .int x1), (2, .int x2), (3, .int v10), (4, .int v44)] [] (wR ad ck N45)
            obtain ⟨v46, ev46, hf⟩ := z_lt hf
            refine za_iinc (k9 := (1 : Int32)) C [(2, .int v46), (0, .ref (ad 0)), (1, .int x1), (3, .int v10), (4, .int v44)] 2 rfl (by decide) ev46 (by decide) rfl dX6_runsBare_210 ?_
            refine za_goto C 25 (by decide) dX6_runsBare_213 ?_
            exact za_sub [1, 2, 0] rfl (hN _ (z_inj hf))
    · show za_At p l e { frames := 1, cells := 0, slots := 0, locals := 22 } s m args below meth c D A 5 0 0 Q 216 [(0, .ref (ad 0)), (1, .int x1), (2, .int v49)] [] (wR ad ck N50)
      obtain rfl := z_ret1 hf
      exact za_vret C F dX6_runsBare_216
theorem in_X6_ticks_X6 : ∀ w ∈ wsX60, w ∈ wsX6_ticks := by decide +kernel
theorem fl_X6_ticks_35 : Cond.fieldLink RX6 35 "ThriceNetsModel" "span" "I" ∈ wsX6_ticks := by decide +kernel
def pX6_ticks (x1 : Int32) (M0 : zM) : Option (Int32 × zM) :=
  (pX6_in x1 (1 : Int32) (16 : Int32) M0).bind (fun v2 => (if v2 = 0 then (some ((-2 : Int32), M0)) else (zlt (M0.1 3 0) (fun v4 => zst (zsI M0 3 0 x1) (fun N5 => some (v4, N5))))))
set_option maxHeartbeats 4000000 in
set_option maxRecDepth 100000 in
theorem cX6_ticks_ok (l : Launch) (D : va_G) (ck : Nat → ClassId) (ad : Nat → Nat) (x1 : Int32) (M0 : zM) (r9 : Int32) (M9 : zM) (hf : pX6_ticks x1 M0 = some (r9, M9)) : zc l D ck (wR ad ck) yX6_ticks wsX6_ticks ({ frames := 1, cells := 0, slots := 0, locals := 22 }) [.ref (ad 0), .int x1] M0 (some (.int r9)) M9 := by
  refine zc_of (cc := cX6_ticks) (maxL := 3) (ret := (some .int)) [(0, .ref (ad 0)), (1, .int x1)] (by decide) rfl (Nat.le_of_ble_eq_true rfl) rfl ?_
  intro p e s m args below meth c A Q C F
  unfold pX6_ticks at hf
  refine za_iload_n C 1 rfl rfl dX6_ticks_0 ?_
  refine za_iconst (v := (1 : Int32)) C (by decide) dX6_ticks_1 ?_
  refine za_bipush (v := (16 : Int32)) C (by decide) dX6_ticks_2 ?_
  obtain ⟨v2, hc1, hf⟩ := z_bind hf
  refine za_callS (n := 3) (rest := []) C (cX6_in_ok l D ck ad x1 (1 : Int32) (16 : Int32) M0 _ hc1) gX6_ticks_X6_in rfl rfl rfl (by decide +kernel) ⟨Nat.le_of_ble_eq_true rfl, Nat.le_of_ble_eq_true rfl⟩ rfl rfl (Nat.le_of_ble_eq_true rfl) ⟨Nat.zero_le _, Nat.zero_le _⟩ dX6_ticks_4 ?_
  refine za_if_ne C 13 (by decide) dX6_ticks_7 (fun q3 => ?_) (fun q3 => ?_)
  · have hf := z_neg q3 hf
    refine za_aload_n C 0 rfl rfl dX6_ticks_13 ?_
    refine zg_R0_11 C in_X6_ticks_X6 fl_X6_ticks_35 dX6_ticks_14 ?_
    obtain ⟨v4, ev4, hf⟩ := z_lt hf
    refine za_istore_n C [(2, .int v4), (0, .ref (ad 0)), (1, .int x1)] ev4 (by decide) rfl rfl dX6_ticks_17 ?_
    refine za_aload_n C 1 rfl rfl dX6_ticks_18 ?_
    refine za_iload_n C 2 rfl rfl dX6_ticks_19 ?_
    obtain ⟨N5, eN5, hf⟩ := z_st hf
    refine zp_R0_11 C in_X6_ticks_X6 fl_X6_ticks_35 eN5 dX6_ticks_20 ?_
    refine za_iload_n C 0 rfl rfl dX6_ticks_23 ?_
    obtain ⟨rfl, rfl⟩ := z_ret2 hf
    exact za_iret C F dX6_ticks_24
  · have hf := z_pos q3 hf
    refine za_bipush (v := (-2 : Int32)) C (by decide) dX6_ticks_10 ?_
    obtain ⟨rfl, rfl⟩ := z_ret2 hf
    exact za_iret C F dX6_ticks_12
theorem in_X6_plain_X6 : ∀ w ∈ wsX60, w ∈ wsX6_plain := by decide +kernel
theorem fl_X6_plain_42 : Cond.fieldLink RX6 42 "ThriceNetsModel" "plain" "[I" ∈ wsX6_plain := by decide +kernel
def K_X6_plain_18 (n : Nat) (x1 : Int32) (x2 : Int32) (M : zM) : Option (Int32 × zM) :=
  some ((-2 : Int32), M)
def pX6_plain (n : Nat) (x1 : Int32) (x2 : Int32) (M0 : zM) : Option (Int32 × zM) :=
  (pX6_isNode x1 M0).bind (fun v2 => (if v2 = 0 then (K_X6_plain_18 n x1 x2 M0) else ((pX6_in x2 (0 : Int32) (15 : Int32) M0).bind (fun v5 => (if v5 = 0 then (K_X6_plain_18 n x1 x2 M0) else ((pX6_runsBare n (x2 + (1 : Int32)) M0).bind (fun N8 => zchk (((24 : Int32) * x2) + x1) 408 (some ((N8.1 18 (((24 : Int32) * x2) + x1).toNatClampNeg), N8)))))))))
set_option maxHeartbeats 4000000 in
set_option maxRecDepth 100000 in
theorem cX6_plain_ok (l : Launch) (D : va_G) (ck : Nat → ClassId) (ad : Nat → Nat) (n : Nat) (x1 : Int32) (x2 : Int32) (M0 : zM) (r9 : Int32) (M9 : zM) (hf : pX6_plain n x1 x2 M0 = some (r9, M9)) : zc l D ck (wR ad ck) yX6_plain wsX6_plain ({ frames := 2, cells := 0, slots := 0, locals := 46 }) [.ref (ad 0), .int x1, .int x2] M0 (some (.int r9)) M9 := by
  refine zc_of (cc := cX6_plain) (maxL := 3) (ret := (some .int)) [(0, .ref (ad 0)), (1, .int x1), (2, .int x2)] (by decide) rfl (Nat.le_of_ble_eq_true rfl) rfl ?_
  intro p e s m args below meth c A Q C F
  have j_18 : ∀ (x1 : Int32) (x2 : Int32) (M : zM), K_X6_plain_18 n x1 x2 M = some (r9, M9) → za_At p l e { frames := 2, cells := 0, slots := 0, locals := 46 } s m args below meth c D A 3 0 0 Q 18 [(0, .ref (ad 0)), (1, .int x1), (2, .int x2)] [] (wR ad ck M) := by
    intro x1 x2 M hf
    unfold K_X6_plain_18 at hf
    refine za_bipush (v := (-2 : Int32)) C (by decide) dX6_plain_18 ?_
    obtain ⟨rfl, rfl⟩ := z_ret2 hf
    exact za_iret C F dX6_plain_20
  unfold pX6_plain at hf
  refine za_aload_n C 0 rfl rfl dX6_plain_0 ?_
  refine za_iload_n C 1 rfl rfl dX6_plain_1 ?_
  obtain ⟨v2, hc1, hf⟩ := z_bind hf
  refine za_callV (n := 1) (rest := []) C (cX6_isNode_ok l D ck ad x1 M0 _ hc1) gX6_plain_X6_isNode rfl rfl rfl (by decide +kernel) ⟨Nat.le_of_ble_eq_true rfl, Nat.le_of_ble_eq_true rfl⟩ 0 rfl rfl rfl rfl rfl (Nat.le_of_ble_eq_true rfl) ⟨Nat.zero_le _, Nat.zero_le _⟩ dX6_plain_2 ?_
  refine za_if_eq C 18 (by decide) dX6_plain_5 (fun q3 => ?_) (fun q3 => ?_)
  · have hf := z_pos q3 hf
    exact za_sub [0, 1, 2] rfl (j_18 x1 x2 M0 hf)
  · have hf := z_neg q3 hf
    refine za_iload_n C 2 rfl rfl dX6_plain_8 ?_
    refine za_iconst (v := (0 : Int32)) C (by decide) dX6_plain_9 ?_
    refine za_bipush (v := (15 : Int32)) C (by decide) dX6_plain_10 ?_
    obtain ⟨v5, hc4, hf⟩ := z_bind hf
    refine za_callS (n := 3) (rest := []) C (cX6_in_ok l D ck ad x2 (0 : Int32) (15 : Int32) M0 _ hc4) gX6_plain_X6_in rfl rfl rfl (by decide +kernel) ⟨Nat.le_of_ble_eq_true rfl, Nat.le_of_ble_eq_true rfl⟩ rfl rfl (Nat.le_of_ble_eq_true rfl) ⟨Nat.zero_le _, Nat.zero_le _⟩ dX6_plain_12 ?_
    refine za_if_ne C 21 (by decide) dX6_plain_15 (fun q6 => ?_) (fun q6 => ?_)
    · have hf := z_neg q6 hf
      refine za_aload_n C 0 rfl rfl dX6_plain_21 ?_
      refine za_iload_n C 2 rfl rfl dX6_plain_22 ?_
      refine za_iconst (v := (1 : Int32)) C (by decide) dX6_plain_23 ?_
      refine za_iadd C dX6_plain_24 ?_
      obtain ⟨N8, hc7, hf⟩ := z_bind hf
      refine za_callV (n := 1) (rest := []) C (cX6_runsBare_ok l D ck ad n (x2 + (1 : Int32)) M0 _ hc7) gX6_plain_X6_runsBare rfl rfl rfl (by decide +kernel) ⟨Nat.le_of_ble_eq_true rfl, Nat.le_of_ble_eq_true rfl⟩ 0 rfl rfl rfl rfl rfl (Nat.le_of_ble_eq_true rfl) ⟨Nat.zero_le _, Nat.zero_le _⟩ dX6_plain_25 ?_
      refine za_aload_n C 0 rfl rfl dX6_plain_28 ?_
      refine zg_R0_13 C in_X6_plain_X6 fl_X6_plain_42 dX6_plain_29 ?_
      refine za_bipush (v := (24 : Int32)) C (by decide) dX6_plain_32 ?_
      refine za_iload_n C 2 rfl rfl dX6_plain_34 ?_
      refine za_imul C dX6_plain_35 ?_
      refine za_iload_n C 1 rfl rfl dX6_plain_36 ?_
      refine za_iadd C dX6_plain_37 ?_
      obtain ⟨h9, hf⟩ := z_chk hf
      refine zl_R9 C h9 dX6_plain_38 ?_
      obtain ⟨rfl, rfl⟩ := z_ret2 hf
      exact za_iret C F dX6_plain_39
    · have hf := z_pos q6 hf
      exact za_sub [0, 1, 2] rfl (j_18 x1 x2 M0 hf)
theorem in_X6_copiesOf_X6 : ∀ w ∈ wsX60, w ∈ wsX6_copiesOf := by decide +kernel
theorem fl_X6_copiesOf_23 : Cond.fieldLink RX6 23 "ThriceNetsModel" "isThrice" "[Z" ∈ wsX6_copiesOf := by decide +kernel
def pX6_copiesOf (x1 : Int32) (M0 : zM) : Option (Int32) :=
  zchk x1 24 ((if (M0.1 14 x1.toNatClampNeg) = 0 then (some (1 : Int32)) else (some (3 : Int32))))
set_option maxHeartbeats 4000000 in
set_option maxRecDepth 100000 in
theorem cX6_copiesOf_ok (l : Launch) (D : va_G) (ck : Nat → ClassId) (ad : Nat → Nat) (x1 : Int32) (M0 : zM) (r9 : Int32) (hf : pX6_copiesOf x1 M0 = some r9) : zc l D ck (wR ad ck) yX6_copiesOf wsX6_copiesOf ({ frames := 0, cells := 0, slots := 0, locals := 0 }) [.ref (ad 0), .int x1] M0 (some (.int r9)) M0 := by
  refine zc_of (cc := cX6_copiesOf) (maxL := 2) (ret := (some .int)) [(0, .ref (ad 0)), (1, .int x1)] (by decide) rfl (Nat.le_of_ble_eq_true rfl) rfl ?_
  intro p e s m args below meth c A Q C F
  unfold pX6_copiesOf at hf
  refine za_aload_n C 0 rfl rfl dX6_copiesOf_0 ?_
  refine zg_R0_5 C in_X6_copiesOf_X6 fl_X6_copiesOf_23 dX6_copiesOf_1 ?_
  refine za_iload_n C 1 rfl rfl dX6_copiesOf_4 ?_
  obtain ⟨h1, hf⟩ := z_chk hf
  refine zl_R5 C h1 dX6_copiesOf_5 ?_
  refine za_if_eq C 13 (by decide) dX6_copiesOf_6 (fun q2 => ?_) (fun q2 => ?_)
  · have hf := z_pos q2 hf
    refine za_iconst (v := (1 : Int32)) C (by decide) dX6_copiesOf_13 ?_
    obtain rfl := z_ret1 hf
    exact za_iret C F dX6_copiesOf_14
  · have hf := z_neg q2 hf
    refine za_iconst (v := (3 : Int32)) C (by decide) dX6_copiesOf_9 ?_
    refine za_goto C 14 (by decide) dX6_copiesOf_10 ?_
    obtain rfl := z_ret1 hf
    exact za_iret C F dX6_copiesOf_14
theorem in_X6_majority_X6 : ∀ w ∈ wsX60, w ∈ wsX6_majority := by decide +kernel
theorem fl_X6_majority_45 : Cond.fieldLink RX6 45 "ThriceNetsModel" "bits" "[I" ∈ wsX6_majority := by decide +kernel
def pX6_majority (x1 : Int32) (M0 : zM) : Option (Int32) :=
  zchk ((3 : Int32) * x1) 72 (zchk (((3 : Int32) * x1) + (1 : Int32)) 72 (zchk (((3 : Int32) * x1) + (2 : Int32)) 72 ((if (((M0.1 19 ((3 : Int32) * x1).toNatClampNeg) + (M0.1 19 (((3 : Int32) * x1) + (1 : Int32)).toNatClampNeg)) + (M0.1 19 (((3 : Int32) * x1) + (2 : Int32)).toNatClampNeg)) ≤ (1 : Int32) then (some (0 : Int32)) else (some (1 : Int32))))))
set_option maxHeartbeats 4000000 in
set_option maxRecDepth 100000 in
theorem cX6_majority_ok (l : Launch) (D : va_G) (ck : Nat → ClassId) (ad : Nat → Nat) (x1 : Int32) (M0 : zM) (r9 : Int32) (hf : pX6_majority x1 M0 = some r9) : zc l D ck (wR ad ck) yX6_majority wsX6_majority ({ frames := 0, cells := 0, slots := 0, locals := 0 }) [.ref (ad 0), .int x1] M0 (some (.int r9)) M0 := by
  refine zc_of (cc := cX6_majority) (maxL := 2) (ret := (some .int)) [(0, .ref (ad 0)), (1, .int x1)] (by decide) rfl (Nat.le_of_ble_eq_true rfl) rfl ?_
  intro p e s m args below meth c A Q C F
  unfold pX6_majority at hf
  refine za_aload_n C 0 rfl rfl dX6_majority_0 ?_
  refine zg_R0_14 C in_X6_majority_X6 fl_X6_majority_45 dX6_majority_1 ?_
  refine za_iconst (v := (3 : Int32)) C (by decide) dX6_majority_4 ?_
  refine za_iload_n C 1 rfl rfl dX6_majority_5 ?_
  refine za_imul C dX6_majority_6 ?_
  obtain ⟨h1, hf⟩ := z_chk hf
  refine zl_R10 C h1 dX6_majority_7 ?_
  refine za_aload_n C 0 rfl rfl dX6_majority_8 ?_
  refine zg_R0_14 C in_X6_majority_X6 fl_X6_majority_45 dX6_majority_9 ?_
  refine za_iconst (v := (3 : Int32)) C (by decide) dX6_majority_12 ?_
  refine za_iload_n C 1 rfl rfl dX6_majority_13 ?_
  refine za_imul C dX6_majority_14 ?_
  refine za_iconst (v := (1 : Int32)) C (by decide) dX6_majority_15 ?_
  refine za_iadd C dX6_majority_16 ?_
  obtain ⟨h2, hf⟩ := z_chk hf
  refine zl_R10 C h2 dX6_majority_17 ?_
  refine za_iadd C dX6_majority_18 ?_
  refine za_aload_n C 0 rfl rfl dX6_majority_19 ?_
  refine zg_R0_14 C in_X6_majority_X6 fl_X6_majority_45 dX6_majority_20 ?_
  refine za_iconst (v := (3 : Int32)) C (by decide) dX6_majority_23 ?_
  refine za_iload_n C 1 rfl rfl dX6_majority_24 ?_
  refine za_imul C dX6_majority_25 ?_
  refine za_iconst (v := (2 : Int32)) C (by decide) dX6_majority_26 ?_
  refine za_iadd C dX6_majority_27 ?_
  obtain ⟨h3, hf⟩ := z_chk hf
  refine zl_R10 C h3 dX6_majority_28 ?_
  refine za_iadd C dX6_majority_29 ?_
  refine za_iconst (v := (1 : Int32)) C (by decide) dX6_majority_30 ?_
  refine za_icmp_le C 38 (by decide) dX6_majority_31 (fun q4 => ?_) (fun q4 => ?_)
  · have hf := z_pos q4 hf
    refine za_iconst (v := (0 : Int32)) C (by decide) dX6_majority_38 ?_
    obtain rfl := z_ret1 hf
    exact za_iret C F dX6_majority_39
  · have hf := z_neg q4 hf
    refine za_iconst (v := (1 : Int32)) C (by decide) dX6_majority_34 ?_
    refine za_goto C 39 (by decide) dX6_majority_35 ?_
    obtain rfl := z_ret1 hf
    exact za_iret C F dX6_majority_39
theorem in_X6_takes_X6 : ∀ w ∈ wsX60, w ∈ wsX6_takes := by decide +kernel
theorem fl_X6_takes_23 : Cond.fieldLink RX6 23 "ThriceNetsModel" "isThrice" "[Z" ∈ wsX6_takes := by decide +kernel
theorem fl_X6_takes_45 : Cond.fieldLink RX6 45 "ThriceNetsModel" "bits" "[I" ∈ wsX6_takes := by decide +kernel
def pX6_takes (x1 : Int32) (x2 : Int32) (x3 : Int32) (M0 : zM) : Option (Int32) :=
  (if x3 = (-1 : Int32) then (some (0 : Int32)) else (zchk x3 24 ((if (M0.1 14 x3.toNatClampNeg) = 0 then (zchk ((3 : Int32) * x3) 72 (some (M0.1 19 ((3 : Int32) * x3).toNatClampNeg))) else (zchk x1 24 ((if (M0.1 14 x1.toNatClampNeg) = 0 then ((pX6_majority x3 M0).bind (fun v7 => some v7)) else (zchk (((3 : Int32) * x3) + x2) 72 (some (M0.1 19 (((3 : Int32) * x3) + x2).toNatClampNeg))))))))))
set_option maxHeartbeats 4000000 in
set_option maxRecDepth 100000 in
theorem cX6_takes_ok (l : Launch) (D : va_G) (ck : Nat → ClassId) (ad : Nat → Nat) (x1 : Int32) (x2 : Int32) (x3 : Int32) (M0 : zM) (r9 : Int32) (hf : pX6_takes x1 x2 x3 M0 = some r9) : zc l D ck (wR ad ck) yX6_takes wsX6_takes ({ frames := 1, cells := 0, slots := 0, locals := 21 }) [.ref (ad 0), .int x1, .int x2, .int x3] M0 (some (.int r9)) M0 := by
  refine zc_of (cc := cX6_takes) (maxL := 4) (ret := (some .int)) [(0, .ref (ad 0)), (1, .int x1), (2, .int x2), (3, .int x3)] (by decide) rfl (Nat.le_of_ble_eq_true rfl) rfl ?_
  intro p e s m args below meth c A Q C F
  unfold pX6_takes at hf
  refine za_iload_n C 3 rfl rfl dX6_takes_0 ?_
  refine za_iconst (v := (-1 : Int32)) C (by decide) dX6_takes_1 ?_
  refine za_icmp_ne C 7 (by decide) dX6_takes_2 (fun q1 => ?_) (fun q1 => ?_)
  · have hf := z_neg q1 hf
    refine za_aload_n C 0 rfl rfl dX6_takes_7 ?_
    refine zg_R0_5 C in_X6_takes_X6 fl_X6_takes_23 dX6_takes_8 ?_
    refine za_iload_n C 3 rfl rfl dX6_takes_11 ?_
    obtain ⟨h2, hf⟩ := z_chk hf
    refine zl_R5 C h2 dX6_takes_12 ?_
    refine za_if_ne C 27 (by decide) dX6_takes_13 (fun q3 => ?_) (fun q3 => ?_)
    · have hf := z_neg q3 hf
      refine za_aload_n C 0 rfl rfl dX6_takes_27 ?_
      refine zg_R0_5 C in_X6_takes_X6 fl_X6_takes_23 dX6_takes_28 ?_
      refine za_iload_n C 1 rfl rfl dX6_takes_31 ?_
      obtain ⟨h4, hf⟩ := z_chk hf
      refine zl_R5 C h4 dX6_takes_32 ?_
      refine za_if_eq C 49 (by decide) dX6_takes_33 (fun q5 => ?_) (fun q5 => ?_)
      · have hf := z_pos q5 hf
        refine za_aload_n C 0 rfl rfl dX6_takes_49 ?_
        refine za_iload_n C 3 rfl rfl dX6_takes_50 ?_
        obtain ⟨v7, hc6, hf⟩ := z_bind hf
        refine za_callV (n := 1) (rest := []) C (cX6_majority_ok l D ck ad x3 M0 _ hc6) gX6_takes_X6_majority rfl rfl rfl (by decide +kernel) ⟨Nat.le_of_ble_eq_true rfl, Nat.le_of_ble_eq_true rfl⟩ 0 rfl rfl rfl rfl rfl (Nat.le_of_ble_eq_true rfl) ⟨Nat.zero_le _, Nat.zero_le _⟩ dX6_takes_51 ?_
        obtain rfl := z_ret1 hf
        exact za_iret C F dX6_takes_54
      · have hf := z_neg q5 hf
        refine za_aload_n C 0 rfl rfl dX6_takes_36 ?_
        refine zg_R0_14 C in_X6_takes_X6 fl_X6_takes_45 dX6_takes_37 ?_
        refine za_iconst (v := (3 : Int32)) C (by decide) dX6_takes_40 ?_
        refine za_iload_n C 3 rfl rfl dX6_takes_41 ?_
        refine za_imul C dX6_takes_42 ?_
        refine za_iload_n C 2 rfl rfl dX6_takes_43 ?_
        refine za_iadd C dX6_takes_44 ?_
        obtain ⟨h8, hf⟩ := z_chk hf
        refine zl_R10 C h8 dX6_takes_45 ?_
        refine za_goto C 54 (by decide) dX6_takes_46 ?_
        obtain rfl := z_ret1 hf
        exact za_iret C F dX6_takes_54
    · have hf := z_pos q3 hf
      refine za_aload_n C 0 rfl rfl dX6_takes_16 ?_
      refine zg_R0_14 C in_X6_takes_X6 fl_X6_takes_45 dX6_takes_17 ?_
      refine za_iconst (v := (3 : Int32)) C (by decide) dX6_takes_20 ?_
      refine za_iload_n C 3 rfl rfl dX6_takes_21 ?_
      refine za_imul C dX6_takes_22 ?_
      obtain ⟨h9, hf⟩ := z_chk hf
      refine zl_R10 C h9 dX6_takes_23 ?_
      refine za_goto C 54 (by decide) dX6_takes_24 ?_
      obtain rfl := z_ret1 hf
      exact za_iret C F dX6_takes_54
  · have hf := z_pos q1 hf
    refine za_iconst (v := (0 : Int32)) C (by decide) dX6_takes_5 ?_
    obtain rfl := z_ret1 hf
    exact za_iret C F dX6_takes_6
theorem in_X6_tells_X6 : ∀ w ∈ wsX60, w ∈ wsX6_tells := by decide +kernel
theorem fl_X6_tells_23 : Cond.fieldLink RX6 23 "ThriceNetsModel" "isThrice" "[Z" ∈ wsX6_tells := by decide +kernel
theorem fl_X6_tells_45 : Cond.fieldLink RX6 45 "ThriceNetsModel" "bits" "[I" ∈ wsX6_tells := by decide +kernel
def pX6_tells (x1 : Int32) (M0 : zM) : Option (Int32) :=
  zchk x1 24 ((if (M0.1 14 x1.toNatClampNeg) = 0 then (zchk ((3 : Int32) * x1) 72 (some (M0.1 19 ((3 : Int32) * x1).toNatClampNeg))) else ((pX6_majority x1 M0).bind (fun v5 => some v5))))
set_option maxHeartbeats 4000000 in
set_option maxRecDepth 100000 in
theorem cX6_tells_ok (l : Launch) (D : va_G) (ck : Nat → ClassId) (ad : Nat → Nat) (x1 : Int32) (M0 : zM) (r9 : Int32) (hf : pX6_tells x1 M0 = some r9) : zc l D ck (wR ad ck) yX6_tells wsX6_tells ({ frames := 1, cells := 0, slots := 0, locals := 21 }) [.ref (ad 0), .int x1] M0 (some (.int r9)) M0 := by
  refine zc_of (cc := cX6_tells) (maxL := 2) (ret := (some .int)) [(0, .ref (ad 0)), (1, .int x1)] (by decide) rfl (Nat.le_of_ble_eq_true rfl) rfl ?_
  intro p e s m args below meth c A Q C F
  unfold pX6_tells at hf
  refine za_aload_n C 0 rfl rfl dX6_tells_0 ?_
  refine zg_R0_5 C in_X6_tells_X6 fl_X6_tells_23 dX6_tells_1 ?_
  refine za_iload_n C 1 rfl rfl dX6_tells_4 ?_
  obtain ⟨h1, hf⟩ := z_chk hf
  refine zl_R5 C h1 dX6_tells_5 ?_
  refine za_if_eq C 17 (by decide) dX6_tells_6 (fun q2 => ?_) (fun q2 => ?_)
  · have hf := z_pos q2 hf
    refine za_aload_n C 0 rfl rfl dX6_tells_17 ?_
    refine zg_R0_14 C in_X6_tells_X6 fl_X6_tells_45 dX6_tells_18 ?_
    refine za_iconst (v := (3 : Int32)) C (by decide) dX6_tells_21 ?_
    refine za_iload_n C 1 rfl rfl dX6_tells_22 ?_
    refine za_imul C dX6_tells_23 ?_
    obtain ⟨h3, hf⟩ := z_chk hf
    refine zl_R10 C h3 dX6_tells_24 ?_
    obtain rfl := z_ret1 hf
    exact za_iret C F dX6_tells_25
  · have hf := z_neg q2 hf
    refine za_aload_n C 0 rfl rfl dX6_tells_9 ?_
    refine za_iload_n C 1 rfl rfl dX6_tells_10 ?_
    obtain ⟨v5, hc4, hf⟩ := z_bind hf
    refine za_callV (n := 1) (rest := []) C (cX6_majority_ok l D ck ad x1 M0 _ hc4) gX6_tells_X6_majority rfl rfl rfl (by decide +kernel) ⟨Nat.le_of_ble_eq_true rfl, Nat.le_of_ble_eq_true rfl⟩ 0 rfl rfl rfl rfl rfl (Nat.le_of_ble_eq_true rfl) ⟨Nat.zero_le _, Nat.zero_le _⟩ dX6_tells_11 ?_
    refine za_goto C 25 (by decide) dX6_tells_14 ?_
    obtain rfl := z_ret1 hf
    exact za_iret C F dX6_tells_25
def K_X6_isCopy_27 (x1 : Int32) (x2 : Int32) (M0 : zM) : Option (Int32) :=
  some (0 : Int32)
def pX6_isCopy (x1 : Int32) (x2 : Int32) (M0 : zM) : Option (Int32) :=
  (pX6_isNode x1 M0).bind (fun v2 => (if v2 = 0 then (K_X6_isCopy_27 x1 x2 M0) else ((pX6_copiesOf x1 M0).bind (fun v5 => (pX6_in x2 (0 : Int32) (v5 - (1 : Int32)) M0).bind (fun v7 => (if v7 = 0 then (K_X6_isCopy_27 x1 x2 M0) else (some (1 : Int32))))))))
set_option maxHeartbeats 4000000 in
set_option maxRecDepth 100000 in
theorem cX6_isCopy_ok (l : Launch) (D : va_G) (ck : Nat → ClassId) (ad : Nat → Nat) (x1 : Int32) (x2 : Int32) (M0 : zM) (r9 : Int32) (hf : pX6_isCopy x1 x2 M0 = some r9) : zc l D ck (wR ad ck) yX6_isCopy wsX6_isCopy ({ frames := 2, cells := 0, slots := 0, locals := 43 }) [.ref (ad 0), .int x1, .int x2] M0 (some (.int r9)) M0 := by
  refine zc_of (cc := cX6_isCopy) (maxL := 3) (ret := (some .boolean)) [(0, .ref (ad 0)), (1, .int x1), (2, .int x2)] (by decide) rfl (Nat.le_of_ble_eq_true rfl) rfl ?_
  intro p e s m args below meth c A Q C F
  have j_27 : ∀ (x1 : Int32) (x2 : Int32), K_X6_isCopy_27 x1 x2 M0 = some r9 → za_At p l e { frames := 2, cells := 0, slots := 0, locals := 43 } s m args below meth c D A 3 0 0 Q 27 [(0, .ref (ad 0)), (1, .int x1), (2, .int x2)] [] (wR ad ck M0) := by
    intro x1 x2 hf
    unfold K_X6_isCopy_27 at hf
    refine za_iconst (v := (0 : Int32)) C (by decide) dX6_isCopy_27 ?_
    obtain rfl := z_ret1 hf
    exact za_zret C F rfl dX6_isCopy_28
  unfold pX6_isCopy at hf
  refine za_aload_n C 0 rfl rfl dX6_isCopy_0 ?_
  refine za_iload_n C 1 rfl rfl dX6_isCopy_1 ?_
  obtain ⟨v2, hc1, hf⟩ := z_bind hf
  refine za_callV (n := 1) (rest := []) C (cX6_isNode_ok l D ck ad x1 M0 _ hc1) gX6_isCopy_X6_isNode rfl rfl rfl (by decide +kernel) ⟨Nat.le_of_ble_eq_true rfl, Nat.le_of_ble_eq_true rfl⟩ 0 rfl rfl rfl rfl rfl (Nat.le_of_ble_eq_true rfl) ⟨Nat.zero_le _, Nat.zero_le _⟩ dX6_isCopy_2 ?_
  refine za_if_eq C 27 (by decide) dX6_isCopy_5 (fun q3 => ?_) (fun q3 => ?_)
  · have hf := z_pos q3 hf
    exact za_sub [0, 1, 2] rfl (j_27 x1 x2 hf)
  · have hf := z_neg q3 hf
    refine za_iload_n C 2 rfl rfl dX6_isCopy_8 ?_
    refine za_iconst (v := (0 : Int32)) C (by decide) dX6_isCopy_9 ?_
    refine za_aload_n C 0 rfl rfl dX6_isCopy_10 ?_
    refine za_iload_n C 1 rfl rfl dX6_isCopy_11 ?_
    obtain ⟨v5, hc4, hf⟩ := z_bind hf
    refine za_callV (n := 1) (rest := [.int (0 : Int32), .int x2]) C (cX6_copiesOf_ok l D ck ad x1 M0 _ hc4) gX6_isCopy_X6_copiesOf rfl rfl rfl (by decide +kernel) ⟨Nat.le_of_ble_eq_true rfl, Nat.le_of_ble_eq_true rfl⟩ 0 rfl rfl rfl rfl rfl (Nat.le_of_ble_eq_true rfl) ⟨Nat.zero_le _, Nat.zero_le _⟩ dX6_isCopy_12 ?_
    refine za_iconst (v := (1 : Int32)) C (by decide) dX6_isCopy_15 ?_
    refine za_isub C dX6_isCopy_16 ?_
    obtain ⟨v7, hc6, hf⟩ := z_bind hf
    refine za_callS (n := 3) (rest := []) C (cX6_in_ok l D ck ad x2 (0 : Int32) (v5 - (1 : Int32)) M0 _ hc6) gX6_isCopy_X6_in rfl rfl rfl (by decide +kernel) ⟨Nat.le_of_ble_eq_true rfl, Nat.le_of_ble_eq_true rfl⟩ rfl rfl (Nat.le_of_ble_eq_true rfl) ⟨Nat.zero_le _, Nat.zero_le _⟩ dX6_isCopy_17 ?_
    refine za_if_eq C 27 (by decide) dX6_isCopy_20 (fun q8 => ?_) (fun q8 => ?_)
    · have hf := z_pos q8 hf
      exact za_sub [0, 1, 2] rfl (j_27 x1 x2 hf)
    · have hf := z_neg q8 hf
      refine za_iconst (v := (1 : Int32)) C (by decide) dX6_isCopy_23 ?_
      refine za_goto C 28 (by decide) dX6_isCopy_24 ?_
      obtain rfl := z_ret1 hf
      exact za_zret C F rfl dX6_isCopy_28
theorem in_X6_flipAt_X6 : ∀ w ∈ wsX60, w ∈ wsX6_flipAt := by decide +kernel
theorem fl_X6_flipAt_51 : Cond.fieldLink RX6 51 "ThriceNetsModel" "flips" "[I" ∈ wsX6_flipAt := by decide +kernel
def K_X6_flipAt_84 (x1 : Int32) (x2 : Int32) (x3 : Int32) (x4 : Int32) (x5 : Int32) (M0 : zM) : Option (Int32) :=
  some (1 : Int32)
def K_X6_flipAt_72 (x1 : Int32) (x2 : Int32) (x3 : Int32) (x4 : Int32) (y0 : Int32) (M0 : zM) : Option (Int32) :=
  zlt y0 (fun v1 => (if x4 = 0 then (if v1 = 0 then (some (0 : Int32)) else (K_X6_flipAt_84 x1 x2 x3 x4 v1 M0)) else (K_X6_flipAt_84 x1 x2 x3 x4 v1 M0)))
def K_X6_flipAt_71 (x1 : Int32) (x2 : Int32) (x3 : Int32) (x4 : Int32) (M0 : zM) : Option (Int32) :=
  K_X6_flipAt_72 x1 x2 x3 x4 (0 : Int32) M0
def K_X6_flipAt_35 (x1 : Int32) (x2 : Int32) (x3 : Int32) (y0 : Int32) (M0 : zM) : Option (Int32) :=
  zlt y0 (fun v4 => zchk (3 : Int32) 6 ((if (M0.1 21 (3 : Int32).toNatClampNeg) = x1 then (zchk (4 : Int32) 6 ((if (M0.1 21 (4 : Int32).toNatClampNeg) = x2 then (zchk (5 : Int32) 6 ((if (M0.1 21 (5 : Int32).toNatClampNeg) = x3 then (K_X6_flipAt_72 x1 x2 x3 v4 (1 : Int32) M0) else (K_X6_flipAt_71 x1 x2 x3 v4 M0)))) else (K_X6_flipAt_71 x1 x2 x3 v4 M0)))) else (K_X6_flipAt_71 x1 x2 x3 v4 M0))))
def K_X6_flipAt_34 (x1 : Int32) (x2 : Int32) (x3 : Int32) (M0 : zM) : Option (Int32) :=
  K_X6_flipAt_35 x1 x2 x3 (0 : Int32) M0
def pX6_flipAt (x1 : Int32) (x2 : Int32) (x3 : Int32) (M0 : zM) : Option (Int32) :=
  zchk (0 : Int32) 6 ((if (M0.1 21 (0 : Int32).toNatClampNeg) = x1 then (zchk (1 : Int32) 6 ((if (M0.1 21 (1 : Int32).toNatClampNeg) = x2 then (zchk (2 : Int32) 6 ((if (M0.1 21 (2 : Int32).toNatClampNeg) = x3 then (K_X6_flipAt_35 x1 x2 x3 (1 : Int32) M0) else (K_X6_flipAt_34 x1 x2 x3 M0)))) else (K_X6_flipAt_34 x1 x2 x3 M0)))) else (K_X6_flipAt_34 x1 x2 x3 M0)))
set_option maxHeartbeats 4000000 in
set_option maxRecDepth 100000 in
theorem cX6_flipAt_ok (l : Launch) (D : va_G) (ck : Nat → ClassId) (ad : Nat → Nat) (x1 : Int32) (x2 : Int32) (x3 : Int32) (M0 : zM) (r9 : Int32) (hf : pX6_flipAt x1 x2 x3 M0 = some r9) : zc l D ck (wR ad ck) yX6_flipAt wsX6_flipAt ({ frames := 0, cells := 0, slots := 0, locals := 0 }) [.ref (ad 0), .int x1, .int x2, .int x3] M0 (some (.int r9)) M0 := by
  refine zc_of (cc := cX6_flipAt) (maxL := 6) (ret := (some .int)) [(0, .ref (ad 0)), (1, .int x1), (2, .int x2), (3, .int x3)] (by decide) rfl (Nat.le_of_ble_eq_true rfl) rfl ?_
  intro p e s m args below meth c A Q C F
  have j_84 : ∀ (x1 : Int32) (x2 : Int32) (x3 : Int32) (x4 : Int32) (x5 : Int32), K_X6_flipAt_84 x1 x2 x3 x4 x5 M0 = some r9 → za_At p l e { frames := 0, cells := 0, slots := 0, locals := 0 } s m args below meth c D A 6 0 0 Q 84 [(0, .ref (ad 0)), (1, .int x1), (2, .int x2), (3, .int x3), (4, .int x4), (5, .int x5)] [] (wR ad ck M0) := by
    intro x1 x2 x3 x4 x5 hf
    unfold K_X6_flipAt_84 at hf
    refine za_iconst (v := (1 : Int32)) C (by decide) dX6_flipAt_84 ?_
    refine za_goto C 89 (by decide) dX6_flipAt_85 ?_
    obtain rfl := z_ret1 hf
    exact za_iret C F dX6_flipAt_89
  have j_72 : ∀ (x1 : Int32) (x2 : Int32) (x3 : Int32) (x4 : Int32) (y0 : Int32), K_X6_flipAt_72 x1 x2 x3 x4 y0 M0 = some r9 → za_At p l e { frames := 0, cells := 0, slots := 0, locals := 0 } s m args below meth c D A 6 0 0 Q 72 [(0, .ref (ad 0)), (1, .int x1), (2, .int x2), (3, .int x3), (4, .int x4)] [.int y0] (wR ad ck M0) := by
    intro x1 x2 x3 x4 y0 hf
    unfold K_X6_flipAt_72 at hf
    obtain ⟨v1, ev1, hf⟩ := z_lt hf
    refine za_istore C [(5, .int v1), (0, .ref (ad 0)), (1, .int x1), (2, .int x2), (3, .int x3), (4, .int x4)] ev1 (by decide) rfl dX6_flipAt_72 ?_
    refine za_iload C 5 rfl dX6_flipAt_74 ?_
    refine za_if_ne C 84 (by decide) dX6_flipAt_76 (fun q2 => ?_) (fun q2 => ?_)
    · have hf := z_neg q2 hf
      exact za_sub [1, 2, 3, 4, 5, 0] rfl (j_84 x1 x2 x3 x4 v1 hf)
    · have hf := z_pos q2 hf
      refine za_iload C 0 rfl dX6_flipAt_79 ?_
      refine za_if_eq C 88 (by decide) dX6_flipAt_81 (fun q3 => ?_) (fun q3 => ?_)
      · have hf := z_pos q3 hf
        refine za_iconst (v := (0 : Int32)) C (by decide) dX6_flipAt_88 ?_
        obtain rfl := z_ret1 hf
        exact za_iret C F dX6_flipAt_89
      · have hf := z_neg q3 hf
        exact za_sub [1, 2, 3, 4, 5, 0] rfl (j_84 x1 x2 x3 x4 v1 hf)
  have j_71 : ∀ (x1 : Int32) (x2 : Int32) (x3 : Int32) (x4 : Int32), K_X6_flipAt_71 x1 x2 x3 x4 M0 = some r9 → za_At p l e { frames := 0, cells := 0, slots := 0, locals := 0 } s m args below meth c D A 6 0 0 Q 71 [(0, .ref (ad 0)), (1, .int x1), (2, .int x2), (3, .int x3), (4, .int x4)] [] (wR ad ck M0) := by
    intro x1 x2 x3 x4 hf
    unfold K_X6_flipAt_71 at hf
    refine za_iconst (v := (0 : Int32)) C (by decide) dX6_flipAt_71 ?_
    exact za_sub [0, 1, 2, 3, 4] rfl (j_72 x1 x2 x3 x4 (0 : Int32) hf)
  have j_35 : ∀ (x1 : Int32) (x2 : Int32) (x3 : Int32) (y0 : Int32), K_X6_flipAt_35 x1 x2 x3 y0 M0 = some r9 → za_At p l e { frames := 0, cells := 0, slots := 0, locals := 0 } s m args below meth c D A 6 0 0 Q 35 [(0, .ref (ad 0)), (1, .int x1), (2, .int x2), (3, .int x3)] [.int y0] (wR ad ck M0) := by
    intro x1 x2 x3 y0 hf
    unfold K_X6_flipAt_35 at hf
    obtain ⟨v4, ev4, hf⟩ := z_lt hf
    refine za_istore C [(4, .int v4), (0, .ref (ad 0)), (1, .int x1), (2, .int x2), (3, .int x3)] ev4 (by decide) rfl dX6_flipAt_35 ?_
    refine za_aload_n C 1 rfl rfl dX6_flipAt_37 ?_
    refine zg_R0_16 C in_X6_flipAt_X6 fl_X6_flipAt_51 dX6_flipAt_38 ?_
    refine za_iconst (v := (3 : Int32)) C (by decide) dX6_flipAt_41 ?_
    obtain ⟨h5, hf⟩ := z_chk hf
    refine zl_R12 C h5 dX6_flipAt_42 ?_
    refine za_iload_n C 2 rfl rfl dX6_flipAt_43 ?_
    refine za_icmp_ne C 71 (by decide) dX6_flipAt_44 (fun q6 => ?_) (fun q6 => ?_)
    · have hf := z_neg q6 hf
      exact za_sub [1, 2, 3, 4, 0] rfl (j_71 x1 x2 x3 v4 hf)
    · have hf := z_pos q6 hf
      refine za_aload_n C 1 rfl rfl dX6_flipAt_47 ?_
      refine zg_R0_16 C in_X6_flipAt_X6 fl_X6_flipAt_51 dX6_flipAt_48 ?_
      refine za_iconst (v := (4 : Int32)) C (by decide) dX6_flipAt_51 ?_
      obtain ⟨h7, hf⟩ := z_chk hf
      refine zl_R12 C h7 dX6_flipAt_52 ?_
      refine za_iload_n C 3 rfl rfl dX6_flipAt_53 ?_
      refine za_icmp_ne C 71 (by decide) dX6_flipAt_54 (fun q8 => ?_) (fun q8 => ?_)
      · have hf := z_neg q8 hf
        exact za_sub [1, 2, 3, 4, 0] rfl (j_71 x1 x2 x3 v4 hf)
      · have hf := z_pos q8 hf
        refine za_aload_n C 1 rfl rfl dX6_flipAt_57 ?_
        refine zg_R0_16 C in_X6_flipAt_X6 fl_X6_flipAt_51 dX6_flipAt_58 ?_
        refine za_iconst (v := (5 : Int32)) C (by decide) dX6_flipAt_61 ?_
        obtain ⟨h9, hf⟩ := z_chk hf
        refine zl_R12 C h9 dX6_flipAt_62 ?_
        refine za_iload_n C 4 rfl rfl dX6_flipAt_63 ?_
        refine za_icmp_ne C 71 (by decide) dX6_flipAt_64 (fun q10 => ?_) (fun q10 => ?_)
        · have hf := z_neg q10 hf
          exact za_sub [1, 2, 3, 4, 0] rfl (j_71 x1 x2 x3 v4 hf)
        · have hf := z_pos q10 hf
          refine za_iconst (v := (1 : Int32)) C (by decide) dX6_flipAt_67 ?_
          refine za_goto C 72 (by decide) dX6_flipAt_68 ?_
          exact za_sub [1, 2, 3, 4, 0] rfl (j_72 x1 x2 x3 v4 (1 : Int32) hf)
  have j_34 : ∀ (x1 : Int32) (x2 : Int32) (x3 : Int32), K_X6_flipAt_34 x1 x2 x3 M0 = some r9 → za_At p l e { frames := 0, cells := 0, slots := 0, locals := 0 } s m args below meth c D A 6 0 0 Q 34 [(0, .ref (ad 0)), (1, .int x1), (2, .int x2), (3, .int x3)] [] (wR ad ck M0) := by
    intro x1 x2 x3 hf
    unfold K_X6_flipAt_34 at hf
    refine za_iconst (v := (0 : Int32)) C (by decide) dX6_flipAt_34 ?_
    exact za_sub [0, 1, 2, 3] rfl (j_35 x1 x2 x3 (0 : Int32) hf)
  unfold pX6_flipAt at hf
  refine za_aload_n C 0 rfl rfl dX6_flipAt_0 ?_
  refine zg_R0_16 C in_X6_flipAt_X6 fl_X6_flipAt_51 dX6_flipAt_1 ?_
  refine za_iconst (v := (0 : Int32)) C (by decide) dX6_flipAt_4 ?_
  obtain ⟨h11, hf⟩ := z_chk hf
  refine zl_R12 C h11 dX6_flipAt_5 ?_
  refine za_iload_n C 1 rfl rfl dX6_flipAt_6 ?_
  refine za_icmp_ne C 34 (by decide) dX6_flipAt_7 (fun q12 => ?_) (fun q12 => ?_)
  · have hf := z_neg q12 hf
    exact za_sub [0, 1, 2, 3] rfl (j_34 x1 x2 x3 hf)
  · have hf := z_pos q12 hf
    refine za_aload_n C 0 rfl rfl dX6_flipAt_10 ?_
    refine zg_R0_16 C in_X6_flipAt_X6 fl_X6_flipAt_51 dX6_flipAt_11 ?_
    refine za_iconst (v := (1 : Int32)) C (by decide) dX6_flipAt_14 ?_
    obtain ⟨h13, hf⟩ := z_chk hf
    refine zl_R12 C h13 dX6_flipAt_15 ?_
    refine za_iload_n C 2 rfl rfl dX6_flipAt_16 ?_
    refine za_icmp_ne C 34 (by decide) dX6_flipAt_17 (fun q14 => ?_) (fun q14 => ?_)
    · have hf := z_neg q14 hf
      exact za_sub [0, 1, 2, 3] rfl (j_34 x1 x2 x3 hf)
    · have hf := z_pos q14 hf
      refine za_aload_n C 0 rfl rfl dX6_flipAt_20 ?_
      refine zg_R0_16 C in_X6_flipAt_X6 fl_X6_flipAt_51 dX6_flipAt_21 ?_
      refine za_iconst (v := (2 : Int32)) C (by decide) dX6_flipAt_24 ?_
      obtain ⟨h15, hf⟩ := z_chk hf
      refine zl_R12 C h15 dX6_flipAt_25 ?_
      refine za_iload_n C 3 rfl rfl dX6_flipAt_26 ?_
      refine za_icmp_ne C 34 (by decide) dX6_flipAt_27 (fun q16 => ?_) (fun q16 => ?_)
      · have hf := z_neg q16 hf
        exact za_sub [0, 1, 2, 3] rfl (j_34 x1 x2 x3 hf)
      · have hf := z_pos q16 hf
        refine za_iconst (v := (1 : Int32)) C (by decide) dX6_flipAt_30 ?_
        refine za_goto C 35 (by decide) dX6_flipAt_31 ?_
        exact za_sub [0, 1, 2, 3] rfl (j_35 x1 x2 x3 (1 : Int32) hf)
theorem in_X6_passes_X6 : ∀ w ∈ wsX60, w ∈ wsX6_passes := by decide +kernel
theorem fl_X6_passes_78 : Cond.fieldLink RX6 78 "ThriceNetsModel" "nodes" "I" ∈ wsX6_passes := by decide +kernel
theorem fl_X6_passes_7 : Cond.fieldLink RX6 7 "ThriceNetsModel" "kinds" "[I" ∈ wsX6_passes := by decide +kernel
theorem fl_X6_passes_45 : Cond.fieldLink RX6 45 "ThriceNetsModel" "bits" "[I" ∈ wsX6_passes := by decide +kernel
theorem fl_X6_passes_13 : Cond.fieldLink RX6 13 "ThriceNetsModel" "first" "[I" ∈ wsX6_passes := by decide +kernel
theorem fl_X6_passes_16 : Cond.fieldLink RX6 16 "ThriceNetsModel" "second" "[I" ∈ wsX6_passes := by decide +kernel
def B_X6_passes_12 (n : Nat) (x1 : Int32) (x2 : Int32) (x3 : Int32) (M : zM) : Option ((Int32 × zM) ⊕ (Int32 × zM)) :=
  (pX6_copiesOf x2 M).bind (fun v5 => (if v5 ≤ x3 then (some (.inr (x3, M))) else (zchk x2 24 ((if (M.1 10 x2.toNatClampNeg) = (5 : Int32) then (zchk (((3 : Int32) * x2) + x3) 72 ((pX6_flipAt x1 x2 x3 M).bind (fun v11 => zchk (((3 : Int32) * x2) + x3) 72 (zst (zsI M 19 (((3 : Int32) * x2) + x3).toNatClampNeg ((M.1 19 (((3 : Int32) * x2) + x3).toNatClampNeg) ^^^ v11)) (fun N13 => zlt (x3 + (1 : Int32)) (fun v14 => some (.inl (v14, N13)))))))) else (some (.inr (x3, M))))))))
def B_X6_passes_2 (n : Nat) (x1 : Int32) (x2 : Int32) (M : zM) : Option ((Int32 × zM) ⊕ (Int32 × zM)) :=
  (if (M.1 0 0) ≤ x2 then (some (.inr (x2, M))) else (zlt (0 : Int32) (fun v3 => zb2 (zwl (fun q => B_X6_passes_12 n x1 x2 q.1 q.2) n (v3, M)) (fun v15 N16 => zlt (x2 + (1 : Int32)) (fun v17 => some (.inl (v17, N16)))))))
def K_X6_passes_145 (n : Nat) (x1 : Int32) (x2 : Int32) (x3 : Int32) (y0 : Int32) (M : zM) : Option ((Int32 × zM) ⊕ (Int32 × zM)) :=
  zlt y0 (fun v24 => (pX6_flipAt x1 x2 x3 M).bind (fun v26 => zchk (((3 : Int32) * x2) + x3) 72 (zst (zsI M 19 (((3 : Int32) * x2) + x3).toNatClampNeg (v24 ^^^ v26)) (fun N28 => zlt (x3 + (1 : Int32)) (fun v29 => some (.inl (v29, N28)))))))
def B_X6_passes_75 (n : Nat) (x1 : Int32) (x2 : Int32) (x3 : Int32) (M : zM) : Option ((Int32 × zM) ⊕ (Int32 × zM)) :=
  (pX6_copiesOf x2 M).bind (fun v31 => (if v31 ≤ x3 then (some (.inr (x3, M))) else (zchk x2 24 ((if (M.1 10 x2.toNatClampNeg) = (5 : Int32) then (some (.inr (x3, M))) else (zchk x2 24 ((if (M.1 10 x2.toNatClampNeg) = 0 then ((pX6_inputAt x2 x1 M).bind (fun v47 => K_X6_passes_145 n x1 x2 x3 v47 M)) else (zchk x2 24 (zchk x2 24 ((pX6_takes x2 x3 (M.1 11 x2.toNatClampNeg) M).bind (fun v40 => zchk x2 24 ((pX6_takes x2 x3 (M.1 12 x2.toNatClampNeg) M).bind (fun v43 => (pX6_gate (M.1 10 x2.toNatClampNeg) v40 v43 M).bind (fun v45 => K_X6_passes_145 n x1 x2 x3 v45 M)))))))))))))))
def B_X6_passes_65 (n : Nat) (x1 : Int32) (x2 : Int32) (M : zM) : Option ((Int32 × zM) ⊕ (Int32 × zM)) :=
  (if (M.1 0 0) ≤ x2 then (some (.inr (x2, M))) else (zlt (0 : Int32) (fun v23 => zb2 (zwl (fun q => B_X6_passes_75 n x1 x2 q.1 q.2) n (v23, M)) (fun v48 N49 => zlt (x2 + (1 : Int32)) (fun v50 => some (.inl (v50, N49)))))))
def pX6_passes (n : Nat) (x1 : Int32) (M0 : zM) : Option (zM) :=
  zlt (0 : Int32) (fun v1 => zb2 (zwl (fun q => B_X6_passes_2 n x1 q.1 q.2) n (v1, M0)) (fun v19 N20 => zlt (0 : Int32) (fun v21 => zb2 (zwl (fun q => B_X6_passes_65 n x1 q.1 q.2) n (v21, N20)) (fun v52 N53 => some N53))))
set_option maxHeartbeats 4000000 in
set_option maxRecDepth 100000 in
theorem cX6_passes_ok (l : Launch) (D : va_G) (ck : Nat → ClassId) (ad : Nat → Nat) (n : Nat) (x1 : Int32) (M0 : zM) (M9 : zM) (hf : pX6_passes n x1 M0 = some M9) : zc l D ck (wR ad ck) yX6_passes wsX6_passes ({ frames := 2, cells := 0, slots := 0, locals := 44 }) [.ref (ad 0), .int x1] M0 none M9 := by
  refine zc_of (cc := cX6_passes) (maxL := 5) (ret := none) [(0, .ref (ad 0)), (1, .int x1)] (by decide) rfl (Nat.le_of_ble_eq_true rfl) rfl ?_
  intro p e s m args below meth c A Q C F
  unfold pX6_passes at hf
  refine za_iconst (v := (0 : Int32)) C (by decide) dX6_passes_0 ?_
  obtain ⟨v1, ev1, hf⟩ := z_lt hf
  refine za_istore_n C [(2, .int v1), (0, .ref (ad 0)), (1, .int x1)] ev1 (by decide) rfl rfl dX6_passes_1 ?_
  obtain ⟨v19, N20, hw55, hf⟩ := z_b2 hf
  refine za_sub [1, 2, 0] rfl ?_
  refine z_wl (P := fun q => za_At p l e { frames := 2, cells := 0, slots := 0, locals := 44 } s m args below meth c D A 5 0 0 Q 2 [(0, .ref (ad 0)), (1, .int x1), (2, .int q.1)] [] (wR ad ck q.2)) (E := fun q => za_At p l e { frames := 2, cells := 0, slots := 0, locals := 44 } s m args below meth c D A 5 0 0 Q 63 [(0, .ref (ad 0)), (1, .int x1), (2, .int q.1)] [] (wR ad ck q.2)) ?_ ?_ _ _ hw55
  · intro q o hf hN hE
    obtain ⟨x2, M⟩ := q
    have hf : B_X6_passes_2 n x1 x2 M = some o := hf
    unfold B_X6_passes_2 at hf
    refine za_iload_n C 2 rfl rfl dX6_passes_2 ?_
    refine za_aload_n C 0 rfl rfl dX6_passes_3 ?_
    refine zg_R0_0 C in_X6_passes_X6 fl_X6_passes_78 dX6_passes_4 ?_
    refine za_icmp_ge C 63 (by decide) dX6_passes_7 (fun q2 => ?_) (fun q2 => ?_)
    · have hf := z_pos q2 hf
      exact za_sub [0, 1, 2] rfl (hE _ (z_inj hf))
    · have hf := z_neg q2 hf
      refine za_iconst (v := (0 : Int32)) C (by decide) dX6_passes_10 ?_
      obtain ⟨v3, ev3, hf⟩ := z_lt hf
      refine za_istore_n C [(3, .int v3), (0, .ref (ad 0)), (1, .int x1), (2, .int x2)] ev3 (by decide) rfl rfl dX6_passes_11 ?_
      obtain ⟨v15, N16, hw18, hf⟩ := z_b2 hf
      refine za_sub [1, 2, 3, 0] rfl ?_
      refine z_wl (P := fun q => za_At p l e { frames := 2, cells := 0, slots := 0, locals := 44 } s m args below meth c D A 5 0 0 Q 12 [(0, .ref (ad 0)), (1, .int x1), (2, .int x2), (3, .int q.1)] [] (wR ad ck q.2)) (E := fun q => za_At p l e { frames := 2, cells := 0, slots := 0, locals := 44 } s m args below meth c D A 5 0 0 Q 57 [(0, .ref (ad 0)), (1, .int x1), (2, .int x2), (3, .int q.1)] [] (wR ad ck q.2)) ?_ ?_ _ _ hw18
      · intro q o hf hN hE
        obtain ⟨x3, M⟩ := q
        have hf : B_X6_passes_12 n x1 x2 x3 M = some o := hf
        unfold B_X6_passes_12 at hf
        refine za_iload_n C 3 rfl rfl dX6_passes_12 ?_
        refine za_aload_n C 0 rfl rfl dX6_passes_13 ?_
        refine za_iload_n C 2 rfl rfl dX6_passes_14 ?_
        obtain ⟨v5, hc4, hf⟩ := z_bind hf
        refine za_callV (n := 1) (rest := [.int x3]) C (cX6_copiesOf_ok l D ck ad x2 M _ hc4) gX6_passes_X6_copiesOf rfl rfl rfl (by decide +kernel) ⟨Nat.le_of_ble_eq_true rfl, Nat.le_of_ble_eq_true rfl⟩ 0 rfl rfl rfl rfl rfl (Nat.le_of_ble_eq_true rfl) ⟨Nat.zero_le _, Nat.zero_le _⟩ dX6_passes_15 ?_
        refine za_icmp_ge C 57 (by decide) dX6_passes_18 (fun q6 => ?_) (fun q6 => ?_)
        · have hf := z_pos q6 hf
          exact za_sub [0, 1, 2, 3] rfl (hE _ (z_inj hf))
        · have hf := z_neg q6 hf
          refine za_aload_n C 0 rfl rfl dX6_passes_21 ?_
          refine zg_R0_1 C in_X6_passes_X6 fl_X6_passes_7 dX6_passes_22 ?_
          refine za_iload_n C 2 rfl rfl dX6_passes_25 ?_
          obtain ⟨h7, hf⟩ := z_chk hf
          refine zl_R1 C h7 dX6_passes_26 ?_
          refine za_iconst (v := (5 : Int32)) C (by decide) dX6_passes_27 ?_
          refine za_icmp_ne C 57 (by decide) dX6_passes_28 (fun q8 => ?_) (fun q8 => ?_)
          · have hf := z_neg q8 hf
            exact za_sub [0, 1, 2, 3] rfl (hE _ (z_inj hf))
          · have hf := z_pos q8 hf
            refine za_aload_n C 0 rfl rfl dX6_passes_31 ?_
            refine zg_R0_14 C in_X6_passes_X6 fl_X6_passes_45 dX6_passes_32 ?_
            refine za_iconst (v := (3 : Int32)) C (by decide) dX6_passes_35 ?_
            refine za_iload_n C 2 rfl rfl dX6_passes_36 ?_
            refine za_imul C dX6_passes_37 ?_
            refine za_iload_n C 3 rfl rfl dX6_passes_38 ?_
            refine za_iadd C dX6_passes_39 ?_
            refine za_dup2 C rfl rfl dX6_passes_40 ?_
            obtain ⟨h9, hf⟩ := z_chk hf
            refine zl_R10 C h9 dX6_passes_41 ?_
            refine za_aload_n C 0 rfl rfl dX6_passes_42 ?_
            refine za_iload_n C 1 rfl rfl dX6_passes_43 ?_
            refine za_iload_n C 2 rfl rfl dX6_passes_44 ?_
            refine za_iload_n C 3 rfl rfl dX6_passes_45 ?_
            obtain ⟨v11, hc10, hf⟩ := z_bind hf
            refine za_callV (n := 3) (rest := [.int (M.1 19 (((3 : Int32) * x2) + x3).toNatClampNeg), .int (((3 : Int32) * x2) + x3), .ref (ad 10)]) C (cX6_flipAt_ok l D ck ad x1 x2 x3 M _ hc10) gX6_passes_X6_flipAt rfl rfl rfl (by decide +kernel) ⟨Nat.le_of_ble_eq_true rfl, Nat.le_of_ble_eq_true rfl⟩ 0 rfl rfl rfl rfl rfl (Nat.le_of_ble_eq_true rfl) ⟨Nat.zero_le _, Nat.zero_le _⟩ dX6_passes_46 ?_
            refine za_ixor C dX6_passes_49 ?_
            obtain ⟨h12, hf⟩ := z_chk hf
            obtain ⟨N13, eN13, hf⟩ := z_st hf
            refine zs_R10 C h12 eN13 dX6_passes_50 ?_
            obtain ⟨v14, ev14, hf⟩ := z_lt hf
            refine za_iinc (k9 := (1 : Int32)) C [(3, .int v14), (0, .ref (ad 0)), (1, .int x1), (2, .int x2)] 3 rfl (by decide) ev14 (by decide) rfl dX6_passes_51 ?_
            refine za_goto C 12 (by decide) dX6_passes_54 ?_
            exact za_sub [1, 2, 3, 0] rfl (hN _ (z_inj hf))
      · show za_At p l e { frames := 2, cells := 0, slots := 0, locals := 44 } s m args below meth c D A 5 0 0 Q 57 [(0, .ref (ad 0)), (1, .int x1), (2, .int x2), (3, .int v15)] [] (wR ad ck N16)
        obtain ⟨v17, ev17, hf⟩ := z_lt hf
        refine za_iinc (k9 := (1 : Int32)) C [(2, .int v17), (0, .ref (ad 0)), (1, .int x1), (3, .int v15)] 2 rfl (by decide) ev17 (by decide) rfl dX6_passes_57 ?_
        refine za_goto C 2 (by decide) dX6_passes_60 ?_
        exact za_sub [1, 2, 0] rfl (hN _ (z_inj hf))
  · show za_At p l e { frames := 2, cells := 0, slots := 0, locals := 44 } s m args below meth c D A 5 0 0 Q 63 [(0, .ref (ad 0)), (1, .int x1), (2, .int v19)] [] (wR ad ck N20)
    refine za_iconst (v := (0 : Int32)) C (by decide) dX6_passes_63 ?_
    obtain ⟨v21, ev21, hf⟩ := z_lt hf
    refine za_istore_n C [(2, .int v21), (0, .ref (ad 0)), (1, .int x1)] ev21 (by decide) rfl rfl dX6_passes_64 ?_
    obtain ⟨v52, N53, hw54, hf⟩ := z_b2 hf
    refine za_sub [1, 2, 0] rfl ?_
    refine z_wl (P := fun q => za_At p l e { frames := 2, cells := 0, slots := 0, locals := 44 } s m args below meth c D A 5 0 0 Q 65 [(0, .ref (ad 0)), (1, .int x1), (2, .int q.1)] [] (wR ad ck q.2)) (E := fun q => za_At p l e { frames := 2, cells := 0, slots := 0, locals := 44 } s m args below meth c D A 5 0 0 Q 179 [(0, .ref (ad 0)), (1, .int x1), (2, .int q.1)] [] (wR ad ck q.2)) ?_ ?_ _ _ hw54
    · intro q o hf hN hE
      obtain ⟨x2, M⟩ := q
      have hf : B_X6_passes_65 n x1 x2 M = some o := hf
      unfold B_X6_passes_65 at hf
      refine za_iload_n C 2 rfl rfl dX6_passes_65 ?_
      refine za_aload_n C 0 rfl rfl dX6_passes_66 ?_
      refine zg_R0_0 C in_X6_passes_X6 fl_X6_passes_78 dX6_passes_67 ?_
      refine za_icmp_ge C 179 (by decide) dX6_passes_70 (fun q22 => ?_) (fun q22 => ?_)
      · have hf := z_pos q22 hf
        exact za_sub [0, 1, 2] rfl (hE _ (z_inj hf))
      · have hf := z_neg q22 hf
        refine za_iconst (v := (0 : Int32)) C (by decide) dX6_passes_73 ?_
        obtain ⟨v23, ev23, hf⟩ := z_lt hf
        refine za_istore_n C [(3, .int v23), (0, .ref (ad 0)), (1, .int x1), (2, .int x2)] ev23 (by decide) rfl rfl dX6_passes_74 ?_
        obtain ⟨v48, N49, hw51, hf⟩ := z_b2 hf
        refine za_sub [1, 2, 3, 0] rfl ?_
        refine z_wl (P := fun q => za_At p l e { frames := 2, cells := 0, slots := 0, locals := 44 } s m args below meth c D A 5 0 0 Q 75 [(0, .ref (ad 0)), (1, .int x1), (2, .int x2), (3, .int q.1)] [] (wR ad ck q.2)) (E := fun q => za_At p l e { frames := 2, cells := 0, slots := 0, locals := 44 } s m args below meth c D A 5 0 0 Q 173 [(0, .ref (ad 0)), (1, .int x1), (2, .int x2), (3, .int q.1)] [] (wR ad ck q.2)) ?_ ?_ _ _ hw51
        · intro q o hf hN hE
          obtain ⟨x3, M⟩ := q
          have hf : B_X6_passes_75 n x1 x2 x3 M = some o := hf
          unfold B_X6_passes_75 at hf
          have j_145 : ∀ (x3 : Int32) (y0 : Int32) (M : zM), K_X6_passes_145 n x1 x2 x3 y0 M = some o → za_At p l e { frames := 2, cells := 0, slots := 0, locals := 44 } s m args below meth c D A 5 0 0 Q 145 [(0, .ref (ad 0)), (1, .int x1), (2, .int x2), (3, .int x3)] [.int y0] (wR ad ck M) := by
            intro x3 y0 M hf
            unfold K_X6_passes_145 at hf
            obtain ⟨v24, ev24, hf⟩ := z_lt hf
            refine za_istore C [(4, .int v24), (0, .ref (ad 0)), (1, .int x1), (2, .int x2), (3, .int x3)] ev24 (by decide) rfl dX6_passes_145 ?_
            refine za_aload_n C 1 rfl rfl dX6_passes_147 ?_
            refine zg_R0_14 C in_X6_passes_X6 fl_X6_passes_45 dX6_passes_148 ?_
            refine za_iconst (v := (3 : Int32)) C (by decide) dX6_passes_151 ?_
            refine za_iload_n C 3 rfl rfl dX6_passes_152 ?_
            refine za_imul C dX6_passes_153 ?_
            refine za_iload_n C 4 rfl rfl dX6_passes_154 ?_
            refine za_iadd C dX6_passes_155 ?_
            refine za_iload C 0 rfl dX6_passes_156 ?_
            refine za_aload_n C 1 rfl rfl dX6_passes_158 ?_
            refine za_iload_n C 2 rfl rfl dX6_passes_159 ?_
            refine za_iload_n C 3 rfl rfl dX6_passes_160 ?_
            refine za_iload_n C 4 rfl rfl dX6_passes_161 ?_
            obtain ⟨v26, hc25, hf⟩ := z_bind hf
            refine za_callV (n := 3) (rest := [.int v24, .int (((3 : Int32) * x2) + x3), .ref (ad 10)]) C (cX6_flipAt_ok l D ck ad x1 x2 x3 M _ hc25) gX6_passes_X6_flipAt rfl rfl rfl (by decide +kernel) ⟨Nat.le_of_ble_eq_true rfl, Nat.le_of_ble_eq_true rfl⟩ 0 rfl rfl rfl rfl rfl (Nat.le_of_ble_eq_true rfl) ⟨Nat.zero_le _, Nat.zero_le _⟩ dX6_passes_162 ?_
            refine za_ixor C dX6_passes_165 ?_
            obtain ⟨h27, hf⟩ := z_chk hf
            obtain ⟨N28, eN28, hf⟩ := z_st hf
            refine zs_R10 C h27 eN28 dX6_passes_166 ?_
            obtain ⟨v29, ev29, hf⟩ := z_lt hf
            refine za_iinc (k9 := (1 : Int32)) C [(3, .int v29), (4, .int v24), (0, .ref (ad 0)), (1, .int x1), (2, .int x2)] 4 rfl (by decide) ev29 (by decide) rfl dX6_passes_167 ?_
            refine za_goto C 75 (by decide) dX6_passes_170 ?_
            exact za_sub [2, 3, 4, 0] rfl (hN _ (z_inj hf))
          refine za_iload_n C 3 rfl rfl dX6_passes_75 ?_
          refine za_aload_n C 0 rfl rfl dX6_passes_76 ?_
          refine za_iload_n C 2 rfl rfl dX6_passes_77 ?_
          obtain ⟨v31, hc30, hf⟩ := z_bind hf
          refine za_callV (n := 1) (rest := [.int x3]) C (cX6_copiesOf_ok l D ck ad x2 M _ hc30) gX6_passes_X6_copiesOf rfl rfl rfl (by decide +kernel) ⟨Nat.le_of_ble_eq_true rfl, Nat.le_of_ble_eq_true rfl⟩ 0 rfl rfl rfl rfl rfl (Nat.le_of_ble_eq_true rfl) ⟨Nat.zero_le _, Nat.zero_le _⟩ dX6_passes_78 ?_
          refine za_icmp_ge C 173 (by decide) dX6_passes_81 (fun q32 => ?_) (fun q32 => ?_)
          · have hf := z_pos q32 hf
            exact za_sub [0, 1, 2, 3] rfl (hE _ (z_inj hf))
          · have hf := z_neg q32 hf
            refine za_aload_n C 0 rfl rfl dX6_passes_84 ?_
            refine zg_R0_1 C in_X6_passes_X6 fl_X6_passes_7 dX6_passes_85 ?_
            refine za_iload_n C 2 rfl rfl dX6_passes_88 ?_
            obtain ⟨h33, hf⟩ := z_chk hf
            refine zl_R1 C h33 dX6_passes_89 ?_
            refine za_iconst (v := (5 : Int32)) C (by decide) dX6_passes_90 ?_
            refine za_icmp_eq C 173 (by decide) dX6_passes_91 (fun q34 => ?_) (fun q34 => ?_)
            · have hf := z_pos q34 hf
              exact za_sub [0, 1, 2, 3] rfl (hE _ (z_inj hf))
            · have hf := z_neg q34 hf
              refine za_aload_n C 0 rfl rfl dX6_passes_94 ?_
              refine zg_R0_1 C in_X6_passes_X6 fl_X6_passes_7 dX6_passes_95 ?_
              refine za_iload_n C 2 rfl rfl dX6_passes_98 ?_
              obtain ⟨h35, hf⟩ := z_chk hf
              refine zl_R1 C h35 dX6_passes_99 ?_
              refine za_if_ne C 112 (by decide) dX6_passes_100 (fun q36 => ?_) (fun q36 => ?_)
              · have hf := z_neg q36 hf
                refine za_aload_n C 0 rfl rfl dX6_passes_112 ?_
                refine zg_R0_1 C in_X6_passes_X6 fl_X6_passes_7 dX6_passes_113 ?_
                refine za_iload_n C 2 rfl rfl dX6_passes_116 ?_
                obtain ⟨h37, hf⟩ := z_chk hf
                refine zl_R1 C h37 dX6_passes_117 ?_
                refine za_aload_n C 0 rfl rfl dX6_passes_118 ?_
                refine za_iload_n C 2 rfl rfl dX6_passes_119 ?_
                refine za_iload_n C 3 rfl rfl dX6_passes_120 ?_
                refine za_aload_n C 0 rfl rfl dX6_passes_121 ?_
                refine zg_R0_2 C in_X6_passes_X6 fl_X6_passes_13 dX6_passes_122 ?_
                refine za_iload_n C 2 rfl rfl dX6_passes_125 ?_
                obtain ⟨h38, hf⟩ := z_chk hf
                refine zl_R2 C h38 dX6_passes_126 ?_
                obtain ⟨v40, hc39, hf⟩ := z_bind hf
                refine za_callV (n := 3) (rest := [.int (M.1 10 x2.toNatClampNeg)]) C (cX6_takes_ok l D ck ad x2 x3 (M.1 11 x2.toNatClampNeg) M _ hc39) gX6_passes_X6_takes rfl rfl rfl (by decide +kernel) ⟨Nat.le_of_ble_eq_true rfl, Nat.le_of_ble_eq_true rfl⟩ 0 rfl rfl rfl rfl rfl (Nat.le_of_ble_eq_true rfl) ⟨Nat.zero_le _, Nat.zero_le _⟩ dX6_passes_127 ?_
                refine za_aload_n C 0 rfl rfl dX6_passes_130 ?_
                refine za_iload_n C 2 rfl rfl dX6_passes_131 ?_
                refine za_iload_n C 3 rfl rfl dX6_passes_132 ?_
                refine za_aload_n C 0 rfl rfl dX6_passes_133 ?_
                refine zg_R0_3 C in_X6_passes_X6 fl_X6_passes_16 dX6_passes_134 ?_
                refine za_iload_n C 2 rfl rfl dX6_passes_137 ?_
                obtain ⟨h41, hf⟩ := z_chk hf
                refine zl_R3 C h41 dX6_passes_138 ?_
                obtain ⟨v43, hc42, hf⟩ := z_bind hf
                refine za_callV (n := 3) (rest := [.int v40, .int (M.1 10 x2.toNatClampNeg)]) C (cX6_takes_ok l D ck ad x2 x3 (M.1 12 x2.toNatClampNeg) M _ hc42) gX6_passes_X6_takes rfl rfl rfl (by decide +kernel) ⟨Nat.le_of_ble_eq_true rfl, Nat.le_of_ble_eq_true rfl⟩ 0 rfl rfl rfl rfl rfl (Nat.le_of_ble_eq_true rfl) ⟨Nat.zero_le _, Nat.zero_le _⟩ dX6_passes_139 ?_
                obtain ⟨v45, hc44, hf⟩ := z_bind hf
                refine za_callS (n := 3) (rest := []) C (cX6_gate_ok l D ck ad (M.1 10 x2.toNatClampNeg) v40 v43 M _ hc44) gX6_passes_X6_gate rfl rfl rfl (by decide +kernel) ⟨Nat.le_of_ble_eq_true rfl, Nat.le_of_ble_eq_true rfl⟩ rfl rfl (Nat.le_of_ble_eq_true rfl) ⟨Nat.zero_le _, Nat.zero_le _⟩ dX6_passes_142 ?_
                exact za_sub [0, 1, 2, 3] rfl (j_145 x3 v45 M hf)
              · have hf := z_pos q36 hf
                refine za_aload_n C 0 rfl rfl dX6_passes_103 ?_
                refine za_iload_n C 2 rfl rfl dX6_passes_104 ?_
                refine za_iload_n C 1 rfl rfl dX6_passes_105 ?_
                obtain ⟨v47, hc46, hf⟩ := z_bind hf
                refine za_callV (n := 2) (rest := []) C (cX6_inputAt_ok l D ck ad x2 x1 M _ hc46) gX6_passes_X6_inputAt rfl rfl rfl (by decide +kernel) ⟨Nat.le_of_ble_eq_true rfl, Nat.le_of_ble_eq_true rfl⟩ 0 rfl rfl rfl rfl rfl (Nat.le_of_ble_eq_true rfl) ⟨Nat.zero_le _, Nat.zero_le _⟩ dX6_passes_106 ?_
                refine za_goto C 145 (by decide) dX6_passes_109 ?_
                exact za_sub [0, 1, 2, 3] rfl (j_145 x3 v47 M hf)
        · show za_At p l e { frames := 2, cells := 0, slots := 0, locals := 44 } s m args below meth c D A 5 0 0 Q 173 [(0, .ref (ad 0)), (1, .int x1), (2, .int x2), (3, .int v48)] [] (wR ad ck N49)
          obtain ⟨v50, ev50, hf⟩ := z_lt hf
          refine za_iinc (k9 := (1 : Int32)) C [(2, .int v50), (0, .ref (ad 0)), (1, .int x1), (3, .int v48)] 2 rfl (by decide) ev50 (by decide) rfl dX6_passes_173 ?_
          refine za_goto C 65 (by decide) dX6_passes_176 ?_
          exact za_sub [1, 2, 0] rfl (hN _ (z_inj hf))
    · show za_At p l e { frames := 2, cells := 0, slots := 0, locals := 44 } s m args below meth c D A 5 0 0 Q 179 [(0, .ref (ad 0)), (1, .int x1), (2, .int v52)] [] (wR ad ck N53)
      obtain rfl := z_ret1 hf
      exact za_vret C F dX6_passes_179
theorem in_X6_takesOver_X6 : ∀ w ∈ wsX60, w ∈ wsX6_takesOver := by decide +kernel
theorem fl_X6_takesOver_78 : Cond.fieldLink RX6 78 "ThriceNetsModel" "nodes" "I" ∈ wsX6_takesOver := by decide +kernel
theorem fl_X6_takesOver_7 : Cond.fieldLink RX6 7 "ThriceNetsModel" "kinds" "[I" ∈ wsX6_takesOver := by decide +kernel
theorem fl_X6_takesOver_48 : Cond.fieldLink RX6 48 "ThriceNetsModel" "taken" "[I" ∈ wsX6_takesOver := by decide +kernel
theorem fl_X6_takesOver_13 : Cond.fieldLink RX6 13 "ThriceNetsModel" "first" "[I" ∈ wsX6_takesOver := by decide +kernel
theorem fl_X6_takesOver_26 : Cond.fieldLink RX6 26 "ThriceNetsModel" "isVoted" "[Z" ∈ wsX6_takesOver := by decide +kernel
theorem fl_X6_takesOver_45 : Cond.fieldLink RX6 45 "ThriceNetsModel" "bits" "[I" ∈ wsX6_takesOver := by decide +kernel
def B_X6_takesOver_14 (n : Nat) (x1 : Int32) (x2 : Int32) (x3 : Int32) (M : zM) : Option ((Int32 × Int32 × zM) ⊕ (Int32 × Int32 × zM)) :=
  (pX6_copiesOf x1 M).bind (fun v6 => (if v6 ≤ x3 then (some (.inr (x2, x3, M))) else (zchk x1 24 ((if (M.1 10 x1.toNatClampNeg) = (5 : Int32) then (zchk x1 24 ((pX6_takes x1 x3 (M.1 11 x1.toNatClampNeg) M).bind (fun v12 => zchk (((3 : Int32) * x1) + x3) 72 (zst (zsI M 20 (((3 : Int32) * x1) + x3).toNatClampNeg v12) (fun N14 => zchk (((3 : Int32) * x1) + x3) 72 (zlt (x2 + (N14.1 20 (((3 : Int32) * x1) + x3).toNatClampNeg)) (fun v16 => zlt (x3 + (1 : Int32)) (fun v17 => some (.inl (v16, v17, N14)))))))))) else (some (.inr (x2, x3, M))))))))
def K_X6_takesOver_109 (n : Nat) (x1 : Int32) (v18 : Int32) (x3 : Int32) (y0 : Int32) (y1 : Int32) (M : zM) : Option ((Int32 × zM) ⊕ (Int32 × zM)) :=
  zchk y1 72 (zst (zsI M 20 y1.toNatClampNeg y0) (fun N23 => zlt (x3 + (1 : Int32)) (fun v24 => some (.inl (v24, N23)))))
def B_X6_takesOver_76 (n : Nat) (x1 : Int32) (v18 : Int32) (x3 : Int32) (M : zM) : Option ((Int32 × zM) ⊕ (Int32 × zM)) :=
  (if (3 : Int32) ≤ x3 then (some (.inr (x3, M))) else (zchk x1 24 ((if (M.1 15 x1.toNatClampNeg) = 0 then (some (.inr (x3, M))) else (if v18 ≤ (1 : Int32) then (K_X6_takesOver_109 n x1 v18 x3 (0 : Int32) (((3 : Int32) * x1) + x3) M) else (K_X6_takesOver_109 n x1 v18 x3 (1 : Int32) (((3 : Int32) * x1) + x3) M))))))
def B_X6_takesOver_2 (n : Nat) (x1 : Int32) (M : zM) : Option ((Int32 × zM) ⊕ (Int32 × zM)) :=
  (if (M.1 0 0) ≤ x1 then (some (.inr (x1, M))) else (zlt (0 : Int32) (fun v3 => zlt (0 : Int32) (fun v4 => zb3 (zwl (fun q => B_X6_takesOver_14 n x1 q.1 q.2.1 q.2.2) n (v3, v4, M)) (fun v18 v19 N20 => zlt (0 : Int32) (fun v21 => zb2 (zwl (fun q => B_X6_takesOver_76 n x1 v18 q.1 q.2) n (v21, N20)) (fun v29 N30 => zlt (x1 + (1 : Int32)) (fun v31 => some (.inl (v31, N30))))))))))
def B_X6_takesOver_134 (n : Nat) (x1 : Int32) (x2 : Int32) (M : zM) : Option ((Int32 × zM) ⊕ (Int32 × zM)) :=
  (pX6_copiesOf x1 M).bind (fun v40 => (if v40 ≤ x2 then (some (.inr (x2, M))) else (zchk x1 24 ((if (M.1 10 x1.toNatClampNeg) = (5 : Int32) then (zchk (((3 : Int32) * x1) + x2) 72 (zchk (((3 : Int32) * x1) + x2) 72 (zst (zsI M 19 (((3 : Int32) * x1) + x2).toNatClampNeg (M.1 20 (((3 : Int32) * x1) + x2).toNatClampNeg)) (fun N46 => zlt (x2 + (1 : Int32)) (fun v47 => some (.inl (v47, N46))))))) else (some (.inr (x2, M))))))))
def B_X6_takesOver_124 (n : Nat) (x1 : Int32) (M : zM) : Option ((Int32 × zM) ⊕ (Int32 × zM)) :=
  (if (M.1 0 0) ≤ x1 then (some (.inr (x1, M))) else (zlt (0 : Int32) (fun v38 => zb2 (zwl (fun q => B_X6_takesOver_134 n x1 q.1 q.2) n (v38, M)) (fun v48 N49 => zlt (x1 + (1 : Int32)) (fun v50 => some (.inl (v50, N49)))))))
def pX6_takesOver (n : Nat) (M0 : zM) : Option (zM) :=
  zlt (0 : Int32) (fun v1 => zb2 (zwl (fun q => B_X6_takesOver_2 n q.1 q.2) n (v1, M0)) (fun v34 N35 => zlt (0 : Int32) (fun v36 => zb2 (zwl (fun q => B_X6_takesOver_124 n q.1 q.2) n (v36, N35)) (fun v52 N53 => some N53))))
set_option maxHeartbeats 4000000 in
set_option maxRecDepth 100000 in
theorem cX6_takesOver_ok (l : Launch) (D : va_G) (ck : Nat → ClassId) (ad : Nat → Nat) (n : Nat) (M0 : zM) (M9 : zM) (hf : pX6_takesOver n M0 = some M9) : zc l D ck (wR ad ck) yX6_takesOver wsX6_takesOver ({ frames := 2, cells := 0, slots := 0, locals := 44 }) [.ref (ad 0)] M0 none M9 := by
  refine zc_of (cc := cX6_takesOver) (maxL := 4) (ret := none) [(0, .ref (ad 0))] (by decide) rfl (Nat.le_of_ble_eq_true rfl) rfl ?_
  intro p e s m args below meth c A Q C F
  unfold pX6_takesOver at hf
  refine za_iconst (v := (0 : Int32)) C (by decide) dX6_takesOver_0 ?_
  obtain ⟨v1, ev1, hf⟩ := z_lt hf
  refine za_istore_n C [(1, .int v1), (0, .ref (ad 0))] ev1 (by decide) rfl rfl dX6_takesOver_1 ?_
  obtain ⟨v34, N35, hw55, hf⟩ := z_b2 hf
  refine za_sub [1, 0] rfl ?_
  refine z_wl (P := fun q => za_At p l e { frames := 2, cells := 0, slots := 0, locals := 44 } s m args below meth c D A 4 0 0 Q 2 [(0, .ref (ad 0)), (1, .int q.1)] [] (wR ad ck q.2)) (E := fun q => za_At p l e { frames := 2, cells := 0, slots := 0, locals := 44 } s m args below meth c D A 4 0 0 Q 122 [(0, .ref (ad 0)), (1, .int q.1)] [] (wR ad ck q.2)) ?_ ?_ _ _ hw55
  · intro q o hf hN hE
    obtain ⟨x1, M⟩ := q
    have hf : B_X6_takesOver_2 n x1 M = some o := hf
    unfold B_X6_takesOver_2 at hf
    refine za_iload_n C 1 rfl rfl dX6_takesOver_2 ?_
    refine za_aload_n C 0 rfl rfl dX6_takesOver_3 ?_
    refine zg_R0_0 C in_X6_takesOver_X6 fl_X6_takesOver_78 dX6_takesOver_4 ?_
    refine za_icmp_ge C 122 (by decide) dX6_takesOver_7 (fun q2 => ?_) (fun q2 => ?_)
    · have hf := z_pos q2 hf
      exact za_sub [0, 1] rfl (hE _ (z_inj hf))
    · have hf := z_neg q2 hf
      refine za_iconst (v := (0 : Int32)) C (by decide) dX6_takesOver_10 ?_
      obtain ⟨v3, ev3, hf⟩ := z_lt hf
      refine za_istore_n C [(2, .int v3), (0, .ref (ad 0)), (1, .int x1)] ev3 (by decide) rfl rfl dX6_takesOver_11 ?_
      refine za_iconst (v := (0 : Int32)) C (by decide) dX6_takesOver_12 ?_
      obtain ⟨v4, ev4, hf⟩ := z_lt hf
      refine za_istore_n C [(3, .int v4), (2, .int v3), (0, .ref (ad 0)), (1, .int x1)] ev4 (by decide) rfl rfl dX6_takesOver_13 ?_
      obtain ⟨v18, v19, N20, hw33, hf⟩ := z_b3 hf
      refine za_sub [2, 3, 1, 0] rfl ?_
      refine z_wl (P := fun q => za_At p l e { frames := 2, cells := 0, slots := 0, locals := 44 } s m args below meth c D A 4 0 0 Q 14 [(0, .ref (ad 0)), (1, .int x1), (2, .int q.1), (3, .int q.2.1)] [] (wR ad ck q.2.2)) (E := fun q => za_At p l e { frames := 2, cells := 0, slots := 0, locals := 44 } s m args below meth c D A 4 0 0 Q 74 [(0, .ref (ad 0)), (1, .int x1), (2, .int q.1), (3, .int q.2.1)] [] (wR ad ck q.2.2)) ?_ ?_ _ _ hw33
      · intro q o hf hN hE
        obtain ⟨x2, x3, M⟩ := q
        have hf : B_X6_takesOver_14 n x1 x2 x3 M = some o := hf
        unfold B_X6_takesOver_14 at hf
        refine za_iload_n C 3 rfl rfl dX6_takesOver_14 ?_
        refine za_aload_n C 0 rfl rfl dX6_takesOver_15 ?_
        refine za_iload_n C 1 rfl rfl dX6_takesOver_16 ?_
        obtain ⟨v6, hc5, hf⟩ := z_bind hf
        refine za_callV (n := 1) (rest := [.int x3]) C (cX6_copiesOf_ok l D ck ad x1 M _ hc5) gX6_takesOver_X6_copiesOf rfl rfl rfl (by decide +kernel) ⟨Nat.le_of_ble_eq_true rfl, Nat.le_of_ble_eq_true rfl⟩ 0 rfl rfl rfl rfl rfl (Nat.le_of_ble_eq_true rfl) ⟨Nat.zero_le _, Nat.zero_le _⟩ dX6_takesOver_17 ?_
        refine za_icmp_ge C 74 (by decide) dX6_takesOver_20 (fun q7 => ?_) (fun q7 => ?_)
        · have hf := z_pos q7 hf
          exact za_sub [0, 1, 2, 3] rfl (hE _ (z_inj hf))
        · have hf := z_neg q7 hf
          refine za_aload_n C 0 rfl rfl dX6_takesOver_23 ?_
          refine zg_R0_1 C in_X6_takesOver_X6 fl_X6_takesOver_7 dX6_takesOver_24 ?_
          refine za_iload_n C 1 rfl rfl dX6_takesOver_27 ?_
          obtain ⟨h8, hf⟩ := z_chk hf
          refine zl_R1 C h8 dX6_takesOver_28 ?_
          refine za_iconst (v := (5 : Int32)) C (by decide) dX6_takesOver_29 ?_
          refine za_icmp_ne C 74 (by decide) dX6_takesOver_30 (fun q9 => ?_) (fun q9 => ?_)
          · have hf := z_neg q9 hf
            exact za_sub [0, 1, 2, 3] rfl (hE _ (z_inj hf))
          · have hf := z_pos q9 hf
            refine za_aload_n C 0 rfl rfl dX6_takesOver_33 ?_
            refine zg_R0_15 C in_X6_takesOver_X6 fl_X6_takesOver_48 dX6_takesOver_34 ?_
            refine za_iconst (v := (3 : Int32)) C (by decide) dX6_takesOver_37 ?_
            refine za_iload_n C 1 rfl rfl dX6_takesOver_38 ?_
            refine za_imul C dX6_takesOver_39 ?_
            refine za_iload_n C 3 rfl rfl dX6_takesOver_40 ?_
            refine za_iadd C dX6_takesOver_41 ?_
            refine za_aload_n C 0 rfl rfl dX6_takesOver_42 ?_
            refine za_iload_n C 1 rfl rfl dX6_takesOver_43 ?_
            refine za_iload_n C 3 rfl rfl dX6_takesOver_44 ?_
            refine za_aload_n C 0 rfl rfl dX6_takesOver_45 ?_
            refine zg_R0_2 C in_X6_takesOver_X6 fl_X6_takesOver_13 dX6_takesOver_46 ?_
            refine za_iload_n C 1 rfl rfl dX6_takesOver_49 ?_
            obtain ⟨h10, hf⟩ := z_chk hf
            refine zl_R2 C h10 dX6_takesOver_50 ?_
            obtain ⟨v12, hc11, hf⟩ := z_bind hf
            refine za_callV (n := 3) (rest := [.int (((3 : Int32) * x1) + x3), .ref (ad 11)]) C (cX6_takes_ok l D ck ad x1 x3 (M.1 11 x1.toNatClampNeg) M _ hc11) gX6_takesOver_X6_takes rfl rfl rfl (by decide +kernel) ⟨Nat.le_of_ble_eq_true rfl, Nat.le_of_ble_eq_true rfl⟩ 0 rfl rfl rfl rfl rfl (Nat.le_of_ble_eq_true rfl) ⟨Nat.zero_le _, Nat.zero_le _⟩ dX6_takesOver_51 ?_
            obtain ⟨h13, hf⟩ := z_chk hf
            obtain ⟨N14, eN14, hf⟩ := z_st hf
            refine zs_R11 C h13 eN14 dX6_takesOver_54 ?_
            refine za_iload_n C 2 rfl rfl dX6_takesOver_55 ?_
            refine za_aload_n C 0 rfl rfl dX6_takesOver_56 ?_
            refine zg_R0_15 C in_X6_takesOver_X6 fl_X6_takesOver_48 dX6_takesOver_57 ?_
            refine za_iconst (v := (3 : Int32)) C (by decide) dX6_takesOver_60 ?_
            refine za_iload_n C 1 rfl rfl dX6_takesOver_61 ?_
            refine za_imul C dX6_takesOver_62 ?_
            refine za_iload_n C 3 rfl rfl dX6_takesOver_63 ?_
            refine za_iadd C dX6_takesOver_64 ?_
            obtain ⟨h15, hf⟩ := z_chk hf
            refine zl_R11 C h15 dX6_takesOver_65 ?_
            refine za_iadd C dX6_takesOver_66 ?_
            obtain ⟨v16, ev16, hf⟩ := z_lt hf
            refine za_istore_n C [(2, .int v16), (0, .ref (ad 0)), (1, .int x1), (3, .int x3)] ev16 (by decide) rfl rfl dX6_takesOver_67 ?_
            obtain ⟨v17, ev17, hf⟩ := z_lt hf
            refine za_iinc (k9 := (1 : Int32)) C [(3, .int v17), (2, .int v16), (0, .ref (ad 0)), (1, .int x1)] 3 rfl (by decide) ev17 (by decide) rfl dX6_takesOver_68 ?_
            refine za_goto C 14 (by decide) dX6_takesOver_71 ?_
            exact za_sub [2, 3, 1, 0] rfl (hN _ (z_inj hf))
      · show za_At p l e { frames := 2, cells := 0, slots := 0, locals := 44 } s m args below meth c D A 4 0 0 Q 74 [(0, .ref (ad 0)), (1, .int x1), (2, .int v18), (3, .int v19)] [] (wR ad ck N20)
        refine za_iconst (v := (0 : Int32)) C (by decide) dX6_takesOver_74 ?_
        obtain ⟨v21, ev21, hf⟩ := z_lt hf
        refine za_istore_n C [(3, .int v21), (0, .ref (ad 0)), (1, .int x1), (2, .int v18)] ev21 (by decide) rfl rfl dX6_takesOver_75 ?_
        obtain ⟨v29, N30, hw32, hf⟩ := z_b2 hf
        refine za_sub [1, 2, 3, 0] rfl ?_
        refine z_wl (P := fun q => za_At p l e { frames := 2, cells := 0, slots := 0, locals := 44 } s m args below meth c D A 4 0 0 Q 76 [(0, .ref (ad 0)), (1, .int x1), (2, .int v18), (3, .int q.1)] [] (wR ad ck q.2)) (E := fun q => za_At p l e { frames := 2, cells := 0, slots := 0, locals := 44 } s m args below meth c D A 4 0 0 Q 116 [(0, .ref (ad 0)), (1, .int x1), (2, .int v18), (3, .int q.1)] [] (wR ad ck q.2)) ?_ ?_ _ _ hw32
        · intro q o hf hN hE
          obtain ⟨x3, M⟩ := q
          have hf : B_X6_takesOver_76 n x1 v18 x3 M = some o := hf
          unfold B_X6_takesOver_76 at hf
          have j_109 : ∀ (x3 : Int32) (y0 : Int32) (y1 : Int32) (M : zM), K_X6_takesOver_109 n x1 v18 x3 y0 y1 M = some o → za_At p l e { frames := 2, cells := 0, slots := 0, locals := 44 } s m args below meth c D A 4 0 0 Q 109 [(0, .ref (ad 0)), (1, .int x1), (2, .int v18), (3, .int x3)] [.int y0, .int y1, .ref (ad 11)] (wR ad ck M) := by
            intro x3 y0 y1 M hf
            unfold K_X6_takesOver_109 at hf
            obtain ⟨h22, hf⟩ := z_chk hf
            obtain ⟨N23, eN23, hf⟩ := z_st hf
            refine zs_R11 C h22 eN23 dX6_takesOver_109 ?_
            obtain ⟨v24, ev24, hf⟩ := z_lt hf
            refine za_iinc (k9 := (1 : Int32)) C [(3, .int v24), (0, .ref (ad 0)), (1, .int x1), (2, .int v18)] 3 rfl (by decide) ev24 (by decide) rfl dX6_takesOver_110 ?_
            refine za_goto C 76 (by decide) dX6_takesOver_113 ?_
            exact za_sub [1, 2, 3, 0] rfl (hN _ (z_inj hf))
          refine za_iload_n C 3 rfl rfl dX6_takesOver_76 ?_
          refine za_iconst (v := (3 : Int32)) C (by decide) dX6_takesOver_77 ?_
          refine za_icmp_ge C 116 (by decide) dX6_takesOver_78 (fun q25 => ?_) (fun q25 => ?_)
          · have hf := z_pos q25 hf
            exact za_sub [0, 1, 2, 3] rfl (hE _ (z_inj hf))
          · have hf := z_neg q25 hf
            refine za_aload_n C 0 rfl rfl dX6_takesOver_81 ?_
            refine zg_R0_6 C in_X6_takesOver_X6 fl_X6_takesOver_26 dX6_takesOver_82 ?_
            refine za_iload_n C 1 rfl rfl dX6_takesOver_85 ?_
            obtain ⟨h26, hf⟩ := z_chk hf
            refine zl_R6 C h26 dX6_takesOver_86 ?_
            refine za_if_eq C 116 (by decide) dX6_takesOver_87 (fun q27 => ?_) (fun q27 => ?_)
            · have hf := z_pos q27 hf
              exact za_sub [0, 1, 2, 3] rfl (hE _ (z_inj hf))
            · have hf := z_neg q27 hf
              refine za_aload_n C 0 rfl rfl dX6_takesOver_90 ?_
              refine zg_R0_15 C in_X6_takesOver_X6 fl_X6_takesOver_48 dX6_takesOver_91 ?_
              refine za_iconst (v := (3 : Int32)) C (by decide) dX6_takesOver_94 ?_
              refine za_iload_n C 1 rfl rfl dX6_takesOver_95 ?_
              refine za_imul C dX6_takesOver_96 ?_
              refine za_iload_n C 3 rfl rfl dX6_takesOver_97 ?_
              refine za_iadd C dX6_takesOver_98 ?_
              refine za_iload_n C 2 rfl rfl dX6_takesOver_99 ?_
              refine za_iconst (v := (1 : Int32)) C (by decide) dX6_takesOver_100 ?_
              refine za_icmp_le C 108 (by decide) dX6_takesOver_101 (fun q28 => ?_) (fun q28 => ?_)
              · have hf := z_pos q28 hf
                refine za_iconst (v := (0 : Int32)) C (by decide) dX6_takesOver_108 ?_
                exact za_sub [0, 1, 2, 3] rfl (j_109 x3 (0 : Int32) (((3 : Int32) * x1) + x3) M hf)
              · have hf := z_neg q28 hf
                refine za_iconst (v := (1 : Int32)) C (by decide) dX6_takesOver_104 ?_
                refine za_goto C 109 (by decide) dX6_takesOver_105 ?_
                exact za_sub [0, 1, 2, 3] rfl (j_109 x3 (1 : Int32) (((3 : Int32) * x1) + x3) M hf)
        · show za_At p l e { frames := 2, cells := 0, slots := 0, locals := 44 } s m args below meth c D A 4 0 0 Q 116 [(0, .ref (ad 0)), (1, .int x1), (2, .int v18), (3, .int v29)] [] (wR ad ck N30)
          obtain ⟨v31, ev31, hf⟩ := z_lt hf
          refine za_iinc (k9 := (1 : Int32)) C [(1, .int v31), (0, .ref (ad 0)), (2, .int v18), (3, .int v29)] 1 rfl (by decide) ev31 (by decide) rfl dX6_takesOver_116 ?_
          refine za_goto C 2 (by decide) dX6_takesOver_119 ?_
          exact za_sub [1, 0] rfl (hN _ (z_inj hf))
  · show za_At p l e { frames := 2, cells := 0, slots := 0, locals := 44 } s m args below meth c D A 4 0 0 Q 122 [(0, .ref (ad 0)), (1, .int v34)] [] (wR ad ck N35)
    refine za_iconst (v := (0 : Int32)) C (by decide) dX6_takesOver_122 ?_
    obtain ⟨v36, ev36, hf⟩ := z_lt hf
    refine za_istore_n C [(1, .int v36), (0, .ref (ad 0))] ev36 (by decide) rfl rfl dX6_takesOver_123 ?_
    obtain ⟨v52, N53, hw54, hf⟩ := z_b2 hf
    refine za_sub [1, 0] rfl ?_
    refine z_wl (P := fun q => za_At p l e { frames := 2, cells := 0, slots := 0, locals := 44 } s m args below meth c D A 4 0 0 Q 124 [(0, .ref (ad 0)), (1, .int q.1)] [] (wR ad ck q.2)) (E := fun q => za_At p l e { frames := 2, cells := 0, slots := 0, locals := 44 } s m args below meth c D A 4 0 0 Q 185 [(0, .ref (ad 0)), (1, .int q.1)] [] (wR ad ck q.2)) ?_ ?_ _ _ hw54
    · intro q o hf hN hE
      obtain ⟨x1, M⟩ := q
      have hf : B_X6_takesOver_124 n x1 M = some o := hf
      unfold B_X6_takesOver_124 at hf
      refine za_iload_n C 1 rfl rfl dX6_takesOver_124 ?_
      refine za_aload_n C 0 rfl rfl dX6_takesOver_125 ?_
      refine zg_R0_0 C in_X6_takesOver_X6 fl_X6_takesOver_78 dX6_takesOver_126 ?_
      refine za_icmp_ge C 185 (by decide) dX6_takesOver_129 (fun q37 => ?_) (fun q37 => ?_)
      · have hf := z_pos q37 hf
        exact za_sub [0, 1] rfl (hE _ (z_inj hf))
      · have hf := z_neg q37 hf
        refine za_iconst (v := (0 : Int32)) C (by decide) dX6_takesOver_132 ?_
        obtain ⟨v38, ev38, hf⟩ := z_lt hf
        refine za_istore_n C [(2, .int v38), (0, .ref (ad 0)), (1, .int x1)] ev38 (by decide) rfl rfl dX6_takesOver_133 ?_
        obtain ⟨v48, N49, hw51, hf⟩ := z_b2 hf
        refine za_sub [1, 2, 0] rfl ?_
        refine z_wl (P := fun q => za_At p l e { frames := 2, cells := 0, slots := 0, locals := 44 } s m args below meth c D A 4 0 0 Q 134 [(0, .ref (ad 0)), (1, .int x1), (2, .int q.1)] [] (wR ad ck q.2)) (E := fun q => za_At p l e { frames := 2, cells := 0, slots := 0, locals := 44 } s m args below meth c D A 4 0 0 Q 179 [(0, .ref (ad 0)), (1, .int x1), (2, .int q.1)] [] (wR ad ck q.2)) ?_ ?_ _ _ hw51
        · intro q o hf hN hE
          obtain ⟨x2, M⟩ := q
          have hf : B_X6_takesOver_134 n x1 x2 M = some o := hf
          unfold B_X6_takesOver_134 at hf
          refine za_iload_n C 2 rfl rfl dX6_takesOver_134 ?_
          refine za_aload_n C 0 rfl rfl dX6_takesOver_135 ?_
          refine za_iload_n C 1 rfl rfl dX6_takesOver_136 ?_
          obtain ⟨v40, hc39, hf⟩ := z_bind hf
          refine za_callV (n := 1) (rest := [.int x2]) C (cX6_copiesOf_ok l D ck ad x1 M _ hc39) gX6_takesOver_X6_copiesOf rfl rfl rfl (by decide +kernel) ⟨Nat.le_of_ble_eq_true rfl, Nat.le_of_ble_eq_true rfl⟩ 0 rfl rfl rfl rfl rfl (Nat.le_of_ble_eq_true rfl) ⟨Nat.zero_le _, Nat.zero_le _⟩ dX6_takesOver_137 ?_
          refine za_icmp_ge C 179 (by decide) dX6_takesOver_140 (fun q41 => ?_) (fun q41 => ?_)
          · have hf := z_pos q41 hf
            exact za_sub [0, 1, 2] rfl (hE _ (z_inj hf))
          · have hf := z_neg q41 hf
            refine za_aload_n C 0 rfl rfl dX6_takesOver_143 ?_
            refine zg_R0_1 C in_X6_takesOver_X6 fl_X6_takesOver_7 dX6_takesOver_144 ?_
            refine za_iload_n C 1 rfl rfl dX6_takesOver_147 ?_
            obtain ⟨h42, hf⟩ := z_chk hf
            refine zl_R1 C h42 dX6_takesOver_148 ?_
            refine za_iconst (v := (5 : Int32)) C (by decide) dX6_takesOver_149 ?_
            refine za_icmp_ne C 179 (by decide) dX6_takesOver_150 (fun q43 => ?_) (fun q43 => ?_)
            · have hf := z_neg q43 hf
              exact za_sub [0, 1, 2] rfl (hE _ (z_inj hf))
            · have hf := z_pos q43 hf
              refine za_aload_n C 0 rfl rfl dX6_takesOver_153 ?_
              refine zg_R0_14 C in_X6_takesOver_X6 fl_X6_takesOver_45 dX6_takesOver_154 ?_
              refine za_iconst (v := (3 : Int32)) C (by decide) dX6_takesOver_157 ?_
              refine za_iload_n C 1 rfl rfl dX6_takesOver_158 ?_
              refine za_imul C dX6_takesOver_159 ?_
              refine za_iload_n C 2 rfl rfl dX6_takesOver_160 ?_
              refine za_iadd C dX6_takesOver_161 ?_
              refine za_aload_n C 0 rfl rfl dX6_takesOver_162 ?_
              refine zg_R0_15 C in_X6_takesOver_X6 fl_X6_takesOver_48 dX6_takesOver_163 ?_
              refine za_iconst (v := (3 : Int32)) C (by decide) dX6_takesOver_166 ?_
              refine za_iload_n C 1 rfl rfl dX6_takesOver_167 ?_
              refine za_imul C dX6_takesOver_168 ?_
              refine za_iload_n C 2 rfl rfl dX6_takesOver_169 ?_
              refine za_iadd C dX6_takesOver_170 ?_
              obtain ⟨h44, hf⟩ := z_chk hf
              refine zl_R11 C h44 dX6_takesOver_171 ?_
              obtain ⟨h45, hf⟩ := z_chk hf
              obtain ⟨N46, eN46, hf⟩ := z_st hf
              refine zs_R10 C h45 eN46 dX6_takesOver_172 ?_
              obtain ⟨v47, ev47, hf⟩ := z_lt hf
              refine za_iinc (k9 := (1 : Int32)) C [(2, .int v47), (0, .ref (ad 0)), (1, .int x1)] 2 rfl (by decide) ev47 (by decide) rfl dX6_takesOver_173 ?_
              refine za_goto C 134 (by decide) dX6_takesOver_176 ?_
              exact za_sub [1, 2, 0] rfl (hN _ (z_inj hf))
        · show za_At p l e { frames := 2, cells := 0, slots := 0, locals := 44 } s m args below meth c D A 4 0 0 Q 179 [(0, .ref (ad 0)), (1, .int x1), (2, .int v48)] [] (wR ad ck N49)
          obtain ⟨v50, ev50, hf⟩ := z_lt hf
          refine za_iinc (k9 := (1 : Int32)) C [(1, .int v50), (0, .ref (ad 0)), (2, .int v48)] 1 rfl (by decide) ev50 (by decide) rfl dX6_takesOver_179 ?_
          refine za_goto C 124 (by decide) dX6_takesOver_182 ?_
          exact za_sub [1, 0] rfl (hN _ (z_inj hf))
    · show za_At p l e { frames := 2, cells := 0, slots := 0, locals := 44 } s m args below meth c D A 4 0 0 Q 185 [(0, .ref (ad 0)), (1, .int v52)] [] (wR ad ck N53)
      obtain rfl := z_ret1 hf
      exact za_vret C F dX6_takesOver_185
theorem in_X6_runs_X6 : ∀ w ∈ wsX60, w ∈ wsX6_runs := by decide +kernel
theorem fl_X6_runs_78 : Cond.fieldLink RX6 78 "ThriceNetsModel" "nodes" "I" ∈ wsX6_runs := by decide +kernel
theorem fl_X6_runs_45 : Cond.fieldLink RX6 45 "ThriceNetsModel" "bits" "[I" ∈ wsX6_runs := by decide +kernel
theorem fl_X6_runs_42 : Cond.fieldLink RX6 42 "ThriceNetsModel" "plain" "[I" ∈ wsX6_runs := by decide +kernel
theorem fl_X6_runs_35 : Cond.fieldLink RX6 35 "ThriceNetsModel" "span" "I" ∈ wsX6_runs := by decide +kernel
theorem fl_X6_runs_19 : Cond.fieldLink RX6 19 "ThriceNetsModel" "isOutput" "[Z" ∈ wsX6_runs := by decide +kernel
theorem fl_X6_runs_7 : Cond.fieldLink RX6 7 "ThriceNetsModel" "kinds" "[I" ∈ wsX6_runs := by decide +kernel
theorem fl_X6_runs_51 : Cond.fieldLink RX6 51 "ThriceNetsModel" "flips" "[I" ∈ wsX6_runs := by decide +kernel
def B_X6_runs_55 (n : Nat) (v1 : Int32) (v2 : Int32) (x3 : Int32) (x4 : Int32) (M : zM) : Option ((Int32 × zM) ⊕ (Int32 × zM)) :=
  (if (3 : Int32) ≤ x4 then (some (.inr (x4, M))) else (zchk (((24 : Int32) * v1) + x3) 408 (zchk (((3 : Int32) * x3) + x4) 72 (zst (zsI M 19 (((3 : Int32) * x3) + x4).toNatClampNeg (M.1 18 (((24 : Int32) * v1) + x3).toNatClampNeg)) (fun N9 => zlt (x4 + (1 : Int32)) (fun v10 => some (.inl (v10, N9))))))))
def B_X6_runs_44 (n : Nat) (v1 : Int32) (v2 : Int32) (x3 : Int32) (M : zM) : Option ((Int32 × zM) ⊕ (Int32 × zM)) :=
  (if (M.1 0 0) ≤ x3 then (some (.inr (x3, M))) else (zlt (0 : Int32) (fun v5 => zb2 (zwl (fun q => B_X6_runs_55 n v1 v2 x3 q.1 q.2) n (v5, M)) (fun v11 N12 => zlt (x3 + (1 : Int32)) (fun v13 => some (.inl (v13, N12)))))))
def K_X6_runs_159 (n : Nat) (v1 : Int32) (x2 : Int32) (x3 : Int32) (x4 : Int32) (y0 : Int32) (y1 : Int32) (N20 : zM) : Option ((Int32 × Int32) ⊕ (Int32 × Int32)) :=
  zlt (y1 ||| y0) (fun v22 => zlt (x4 + (1 : Int32)) (fun v23 => some (.inl (v22, v23))))
def K_X6_runs_158 (n : Nat) (v1 : Int32) (x2 : Int32) (x3 : Int32) (x4 : Int32) (y0 : Int32) (N20 : zM) : Option ((Int32 × Int32) ⊕ (Int32 × Int32)) :=
  K_X6_runs_159 n v1 x2 x3 x4 (0 : Int32) y0 N20
def B_X6_runs_113 (n : Nat) (v1 : Int32) (x2 : Int32) (x3 : Int32) (x4 : Int32) (N20 : zM) : Option ((Int32 × Int32) ⊕ (Int32 × Int32)) :=
  (if (N20.1 0 0) ≤ x4 then (some (.inr (x2, x4))) else (zchk x4 24 ((if (N20.1 13 x4.toNatClampNeg) = 0 then (K_X6_runs_158 n v1 x2 x3 x4 x2 N20) else ((pX6_tells x4 N20).bind (fun v28 => zchk (((24 : Int32) * x3) + x4) 408 ((if v28 = (N20.1 18 (((24 : Int32) * x3) + x4).toNatClampNeg) then (K_X6_runs_158 n v1 x2 x3 x4 x2 N20) else (K_X6_runs_159 n v1 x2 x3 x4 (1 : Int32) x2 N20)))))))))
def B_X6_runs_97 (n : Nat) (v1 : Int32) (x2 : Int32) (x3 : Int32) (M : zM) : Option ((Int32 × Int32 × zM) ⊕ (Int32 × Int32 × zM)) :=
  (if (M.1 3 0) ≤ x3 then (some (.inr (x2, x3, M))) else ((pX6_passes n x3 M).bind (fun N20 => zlt (0 : Int32) (fun v21 => zb2 (zwl (fun q => B_X6_runs_113 n v1 q.1 x3 q.2 N20) n (x2, v21)) (fun v31 v32 => (pX6_takesOver n N20).bind (fun N34 => zlt (x3 + (1 : Int32)) (fun v35 => some (.inl (v31, v35, N34)))))))))
def K_X6_runs_244 (n : Nat) (v1 : Int32) (x2 : Int32) (x3 : Int32) (x4 : Int32) (y0 : Int32) (y1 : Int32) (N39 : zM) : Option ((Int32 × Int32) ⊕ (Int32 × Int32)) :=
  zlt (y1 ||| y0) (fun v43 => zlt (x4 + (1 : Int32)) (fun v44 => some (.inl (v43, v44))))
def K_X6_runs_243 (n : Nat) (v1 : Int32) (x2 : Int32) (x3 : Int32) (x4 : Int32) (y0 : Int32) (N39 : zM) : Option ((Int32 × Int32) ⊕ (Int32 × Int32)) :=
  K_X6_runs_244 n v1 x2 x3 x4 (0 : Int32) y0 N39
def B_X6_runs_190 (n : Nat) (v1 : Int32) (x2 : Int32) (x3 : Int32) (x4 : Int32) (N39 : zM) : Option ((Int32 × Int32) ⊕ (Int32 × Int32)) :=
  (pX6_copiesOf x3 N39).bind (fun v46 => (if v46 ≤ x4 then (some (.inr (x2, x4))) else (zchk x3 24 ((if (N39.1 10 x3.toNatClampNeg) = (5 : Int32) then (zchk (((3 : Int32) * x3) + x4) 72 (zchk (((24 : Int32) * (N39.1 3 0)) + x3) 408 ((if (N39.1 19 (((3 : Int32) * x3) + x4).toNatClampNeg) = (N39.1 18 (((24 : Int32) * (N39.1 3 0)) + x3).toNatClampNeg) then (K_X6_runs_243 n v1 x2 x3 x4 x2 N39) else (K_X6_runs_244 n v1 x2 x3 x4 (2 : Int32) x2 N39))))) else (K_X6_runs_243 n v1 x2 x3 x4 x2 N39))))))
def B_X6_runs_179 (n : Nat) (v1 : Int32) (x2 : Int32) (x3 : Int32) (N39 : zM) : Option ((Int32 × Int32) ⊕ (Int32 × Int32)) :=
  (if (N39.1 0 0) ≤ x3 then (some (.inr (x2, x3))) else (zlt (0 : Int32) (fun v42 => zb2 (zwl (fun q => B_X6_runs_190 n v1 q.1 x3 q.2 N39) n (x2, v42)) (fun v53 v54 => zlt (x3 + (1 : Int32)) (fun v55 => some (.inl (v53, v55)))))))
def K_X6_runs_39 (n : Nat) (y0 : Int32) (M : zM) : Option (Int32 × zM) :=
  zlt y0 (fun v1 => zlt (0 : Int32) (fun v2 => zlt (0 : Int32) (fun v3 => zb2 (zwl (fun q => B_X6_runs_44 n v1 v2 q.1 q.2) n (v3, M)) (fun v15 N16 => zlt v1 (fun v17 => zb3 (zwl (fun q => B_X6_runs_97 n v1 q.1 q.2.1 q.2.2) n (v2, v17, N16)) (fun v37 v38 N39 => zlt (0 : Int32) (fun v40 => zb2 (zwl (fun q => B_X6_runs_179 n v1 q.1 q.2 N39) n (v37, v40)) (fun v57 v58 => some (v57, N39)))))))))
def K_X6_runs_33 (n : Nat) (M : zM) : Option (Int32 × zM) :=
  zchk (0 : Int32) 6 (K_X6_runs_39 n (M.1 21 (0 : Int32).toNatClampNeg) M)
def pX6_runs (n : Nat) (M0 : zM) : Option (Int32 × zM) :=
  zchk (3 : Int32) 6 ((if (M0.1 21 (3 : Int32).toNatClampNeg) < 0 then (K_X6_runs_33 n M0) else (zchk (3 : Int32) 6 (zchk (0 : Int32) 6 ((if (M0.1 21 (0 : Int32).toNatClampNeg) ≤ (M0.1 21 (3 : Int32).toNatClampNeg) then (K_X6_runs_33 n M0) else (zchk (3 : Int32) 6 (K_X6_runs_39 n (M0.1 21 (3 : Int32).toNatClampNeg) M0))))))))
set_option maxHeartbeats 4000000 in
set_option maxRecDepth 100000 in
theorem cX6_runs_ok (l : Launch) (D : va_G) (ck : Nat → ClassId) (ad : Nat → Nat) (n : Nat) (M0 : zM) (r9 : Int32) (M9 : zM) (hf : pX6_runs n M0 = some (r9, M9)) : zc l D ck (wR ad ck) yX6_runs wsX6_runs ({ frames := 3, cells := 0, slots := 0, locals := 68 }) [.ref (ad 0)] M0 (some (.int r9)) M9 := by
  refine zc_of (cc := cX6_runs) (maxL := 5) (ret := (some .int)) [(0, .ref (ad 0))] (by decide) rfl (Nat.le_of_ble_eq_true rfl) rfl ?_
  intro p e s m args below meth c A Q C F
  have j_39 : ∀ (y0 : Int32) (M : zM), K_X6_runs_39 n y0 M = some (r9, M9) → za_At p l e { frames := 3, cells := 0, slots := 0, locals := 68 } s m args below meth c D A 5 0 0 Q 39 [(0, .ref (ad 0))] [.int y0] (wR ad ck M) := by
    intro y0 M hf
    unfold K_X6_runs_39 at hf
    obtain ⟨v1, ev1, hf⟩ := z_lt hf
    refine za_istore_n C [(1, .int v1), (0, .ref (ad 0))] ev1 (by decide) rfl rfl dX6_runs_39 ?_
    refine za_iconst (v := (0 : Int32)) C (by decide) dX6_runs_40 ?_
    obtain ⟨v2, ev2, hf⟩ := z_lt hf
    refine za_istore_n C [(2, .int v2), (1, .int v1), (0, .ref (ad 0))] ev2 (by decide) rfl rfl dX6_runs_41 ?_
    refine za_iconst (v := (0 : Int32)) C (by decide) dX6_runs_42 ?_
    obtain ⟨v3, ev3, hf⟩ := z_lt hf
    refine za_istore_n C [(3, .int v3), (2, .int v2), (1, .int v1), (0, .ref (ad 0))] ev3 (by decide) rfl rfl dX6_runs_43 ?_
    obtain ⟨v15, N16, hw61, hf⟩ := z_b2 hf
    refine za_sub [3, 2, 1, 0] rfl ?_
    refine z_wl (P := fun q => za_At p l e { frames := 3, cells := 0, slots := 0, locals := 68 } s m args below meth c D A 5 0 0 Q 44 [(0, .ref (ad 0)), (1, .int v1), (2, .int v2), (3, .int q.1)] [] (wR ad ck q.2)) (E := fun q => za_At p l e { frames := 3, cells := 0, slots := 0, locals := 68 } s m args below meth c D A 5 0 0 Q 95 [(0, .ref (ad 0)), (1, .int v1), (2, .int v2), (3, .int q.1)] [] (wR ad ck q.2)) ?_ ?_ _ _ hw61
    · intro q o hf hN hE
      obtain ⟨x3, M⟩ := q
      have hf : B_X6_runs_44 n v1 v2 x3 M = some o := hf
      unfold B_X6_runs_44 at hf
      refine za_iload_n C 3 rfl rfl dX6_runs_44 ?_
      refine za_aload_n C 0 rfl rfl dX6_runs_45 ?_
      refine zg_R0_0 C in_X6_runs_X6 fl_X6_runs_78 dX6_runs_46 ?_
      refine za_icmp_ge C 95 (by decide) dX6_runs_49 (fun q4 => ?_) (fun q4 => ?_)
      · have hf := z_pos q4 hf
        exact za_sub [0, 1, 2, 3] rfl (hE _ (z_inj hf))
      · have hf := z_neg q4 hf
        refine za_iconst (v := (0 : Int32)) C (by decide) dX6_runs_52 ?_
        obtain ⟨v5, ev5, hf⟩ := z_lt hf
        refine za_istore C [(4, .int v5), (0, .ref (ad 0)), (1, .int v1), (2, .int v2), (3, .int x3)] ev5 (by decide) rfl dX6_runs_53 ?_
        obtain ⟨v11, N12, hw14, hf⟩ := z_b2 hf
        refine za_sub [1, 2, 3, 4, 0] rfl ?_
        refine z_wl (P := fun q => za_At p l e { frames := 3, cells := 0, slots := 0, locals := 68 } s m args below meth c D A 5 0 0 Q 55 [(0, .ref (ad 0)), (1, .int v1), (2, .int v2), (3, .int x3), (4, .int q.1)] [] (wR ad ck q.2)) (E := fun q => za_At p l e { frames := 3, cells := 0, slots := 0, locals := 68 } s m args below meth c D A 5 0 0 Q 89 [(0, .ref (ad 0)), (1, .int v1), (2, .int v2), (3, .int x3), (4, .int q.1)] [] (wR ad ck q.2)) ?_ ?_ _ _ hw14
        · intro q o hf hN hE
          obtain ⟨x4, M⟩ := q
          have hf : B_X6_runs_55 n v1 v2 x3 x4 M = some o := hf
          unfold B_X6_runs_55 at hf
          refine za_iload C 4 rfl dX6_runs_55 ?_
          refine za_iconst (v := (3 : Int32)) C (by decide) dX6_runs_57 ?_
          refine za_icmp_ge C 89 (by decide) dX6_runs_58 (fun q6 => ?_) (fun q6 => ?_)
          · have hf := z_pos q6 hf
            exact za_sub [0, 1, 2, 3, 4] rfl (hE _ (z_inj hf))
          · have hf := z_neg q6 hf
            refine za_aload_n C 0 rfl rfl dX6_runs_61 ?_
            refine zg_R0_14 C in_X6_runs_X6 fl_X6_runs_45 dX6_runs_62 ?_
            refine za_iconst (v := (3 : Int32)) C (by decide) dX6_runs_65 ?_
            refine za_iload_n C 3 rfl rfl dX6_runs_66 ?_
            refine za_imul C dX6_runs_67 ?_
            refine za_iload C 4 rfl dX6_runs_68 ?_
            refine za_iadd C dX6_runs_70 ?_
            refine za_aload_n C 0 rfl rfl dX6_runs_71 ?_
            refine zg_R0_13 C in_X6_runs_X6 fl_X6_runs_42 dX6_runs_72 ?_
            refine za_bipush (v := (24 : Int32)) C (by decide) dX6_runs_75 ?_
            refine za_iload_n C 1 rfl rfl dX6_runs_77 ?_
            refine za_imul C dX6_runs_78 ?_
            refine za_iload_n C 3 rfl rfl dX6_runs_79 ?_
            refine za_iadd C dX6_runs_80 ?_
            obtain ⟨h7, hf⟩ := z_chk hf
            refine zl_R9 C h7 dX6_runs_81 ?_
            obtain ⟨h8, hf⟩ := z_chk hf
            obtain ⟨N9, eN9, hf⟩ := z_st hf
            refine zs_R10 C h8 eN9 dX6_runs_82 ?_
            obtain ⟨v10, ev10, hf⟩ := z_lt hf
            refine za_iinc (k9 := (1 : Int32)) C [(4, .int v10), (0, .ref (ad 0)), (1, .int v1), (2, .int v2), (3, .int x3)] 4 rfl (by decide) ev10 (by decide) rfl dX6_runs_83 ?_
            refine za_goto C 55 (by decide) dX6_runs_86 ?_
            exact za_sub [1, 2, 3, 4, 0] rfl (hN _ (z_inj hf))
        · show za_At p l e { frames := 3, cells := 0, slots := 0, locals := 68 } s m args below meth c D A 5 0 0 Q 89 [(0, .ref (ad 0)), (1, .int v1), (2, .int v2), (3, .int x3), (4, .int v11)] [] (wR ad ck N12)
          obtain ⟨v13, ev13, hf⟩ := z_lt hf
          refine za_iinc (k9 := (1 : Int32)) C [(3, .int v13), (0, .ref (ad 0)), (1, .int v1), (2, .int v2), (4, .int v11)] 3 rfl (by decide) ev13 (by decide) rfl dX6_runs_89 ?_
          refine za_goto C 44 (by decide) dX6_runs_92 ?_
          exact za_sub [1, 2, 3, 0] rfl (hN _ (z_inj hf))
    · show za_At p l e { frames := 3, cells := 0, slots := 0, locals := 68 } s m args below meth c D A 5 0 0 Q 95 [(0, .ref (ad 0)), (1, .int v1), (2, .int v2), (3, .int v15)] [] (wR ad ck N16)
      refine za_iload_n C 1 rfl rfl dX6_runs_95 ?_
      obtain ⟨v17, ev17, hf⟩ := z_lt hf
      refine za_istore_n C [(3, .int v17), (0, .ref (ad 0)), (1, .int v1), (2, .int v2)] ev17 (by decide) rfl rfl dX6_runs_96 ?_
      obtain ⟨v37, v38, N39, hw60, hf⟩ := z_b3 hf
      refine za_sub [1, 2, 3, 0] rfl ?_
      refine z_wl (P := fun q => za_At p l e { frames := 3, cells := 0, slots := 0, locals := 68 } s m args below meth c D A 5 0 0 Q 97 [(0, .ref (ad 0)), (1, .int v1), (2, .int q.1), (3, .int q.2.1)] [] (wR ad ck q.2.2)) (E := fun q => za_At p l e { frames := 3, cells := 0, slots := 0, locals := 68 } s m args below meth c D A 5 0 0 Q 177 [(0, .ref (ad 0)), (1, .int v1), (2, .int q.1), (3, .int q.2.1)] [] (wR ad ck q.2.2)) ?_ ?_ _ _ hw60
      · intro q o hf hN hE
        obtain ⟨x2, x3, M⟩ := q
        have hf : B_X6_runs_97 n v1 x2 x3 M = some o := hf
        unfold B_X6_runs_97 at hf
        refine za_iload_n C 3 rfl rfl dX6_runs_97 ?_
        refine za_aload_n C 0 rfl rfl dX6_runs_98 ?_
        refine zg_R0_11 C in_X6_runs_X6 fl_X6_runs_35 dX6_runs_99 ?_
        refine za_icmp_ge C 177 (by decide) dX6_runs_102 (fun q18 => ?_) (fun q18 => ?_)
        · have hf := z_pos q18 hf
          exact za_sub [0, 1, 2, 3] rfl (hE _ (z_inj hf))
        · have hf := z_neg q18 hf
          refine za_aload_n C 0 rfl rfl dX6_runs_105 ?_
          refine za_iload_n C 3 rfl rfl dX6_runs_106 ?_
          obtain ⟨N20, hc19, hf⟩ := z_bind hf
          refine za_callV (n := 1) (rest := []) C (cX6_passes_ok l D ck ad n x3 M _ hc19) gX6_runs_X6_passes rfl rfl rfl (by decide +kernel) ⟨Nat.le_of_ble_eq_true rfl, Nat.le_of_ble_eq_true rfl⟩ 0 rfl rfl rfl rfl rfl (Nat.le_of_ble_eq_true rfl) ⟨Nat.zero_le _, Nat.zero_le _⟩ dX6_runs_107 ?_
          refine za_iconst (v := (0 : Int32)) C (by decide) dX6_runs_110 ?_
          obtain ⟨v21, ev21, hf⟩ := z_lt hf
          refine za_istore C [(4, .int v21), (0, .ref (ad 0)), (1, .int v1), (2, .int x2), (3, .int x3)] ev21 (by decide) rfl dX6_runs_111 ?_
          obtain ⟨v31, v32, hw36, hf⟩ := z_b2 hf
          refine za_sub [1, 2, 3, 4, 0] rfl ?_
          refine z_wl (P := fun q => za_At p l e { frames := 3, cells := 0, slots := 0, locals := 68 } s m args below meth c D A 5 0 0 Q 113 [(0, .ref (ad 0)), (1, .int v1), (2, .int q.1), (3, .int x3), (4, .int q.2)] [] (wR ad ck N20)) (E := fun q => za_At p l e { frames := 3, cells := 0, slots := 0, locals := 68 } s m args below meth c D A 5 0 0 Q 167 [(0, .ref (ad 0)), (1, .int v1), (2, .int q.1), (3, .int x3), (4, .int q.2)] [] (wR ad ck N20)) ?_ ?_ _ _ hw36
          · intro q o hf hN hE
            obtain ⟨x2, x4⟩ := q
            have hf : B_X6_runs_113 n v1 x2 x3 x4 N20 = some o := hf
            unfold B_X6_runs_113 at hf
            have j_159 : ∀ (x2 : Int32) (x4 : Int32) (y0 : Int32) (y1 : Int32), K_X6_runs_159 n v1 x2 x3 x4 y0 y1 N20 = some o → za_At p l e { frames := 3, cells := 0, slots := 0, locals := 68 } s m args below meth c D A 5 0 0 Q 159 [(0, .ref (ad 0)), (1, .int v1), (2, .int x2), (3, .int x3), (4, .int x4)] [.int y0, .int y1] (wR ad ck N20) := by
              intro x2 x4 y0 y1 hf
              unfold K_X6_runs_159 at hf
              refine za_ior C dX6_runs_159 ?_
              obtain ⟨v22, ev22, hf⟩ := z_lt hf
              refine za_istore_n C [(2, .int v22), (0, .ref (ad 0)), (1, .int v1), (3, .int x3), (4, .int x4)] ev22 (by decide) rfl rfl dX6_runs_160 ?_
              obtain ⟨v23, ev23, hf⟩ := z_lt hf
              refine za_iinc (k9 := (1 : Int32)) C [(4, .int v23), (2, .int v22), (0, .ref (ad 0)), (1, .int v1), (3, .int x3)] 4 rfl (by decide) ev23 (by decide) rfl dX6_runs_161 ?_
              refine za_goto C 113 (by decide) dX6_runs_164 ?_
              exact za_sub [2, 3, 1, 4, 0] rfl (hN _ (z_inj hf))
            have j_158 : ∀ (x2 : Int32) (x4 : Int32) (y0 : Int32), K_X6_runs_158 n v1 x2 x3 x4 y0 N20 = some o → za_At p l e { frames := 3, cells := 0, slots := 0, locals := 68 } s m args below meth c D A 5 0 0 Q 158 [(0, .ref (ad 0)), (1, .int v1), (2, .int x2), (3, .int x3), (4, .int x4)] [.int y0] (wR ad ck N20) := by
              intro x2 x4 y0 hf
              unfold K_X6_runs_158 at hf
              refine za_iconst (v := (0 : Int32)) C (by decide) dX6_runs_158 ?_
              exact za_sub [0, 1, 2, 3, 4] rfl (j_159 x2 x4 (0 : Int32) y0 hf)
            refine za_iload C 4 rfl dX6_runs_113 ?_
            refine za_aload_n C 0 rfl rfl dX6_runs_115 ?_
            refine zg_R0_0 C in_X6_runs_X6 fl_X6_runs_78 dX6_runs_116 ?_
            refine za_icmp_ge C 167 (by decide) dX6_runs_119 (fun q24 => ?_) (fun q24 => ?_)
            · have hf := z_pos q24 hf
              exact za_sub [0, 1, 2, 3, 4] rfl (hE _ (z_inj hf))
            · have hf := z_neg q24 hf
              refine za_iload_n C 2 rfl rfl dX6_runs_122 ?_
              refine za_aload_n C 0 rfl rfl dX6_runs_123 ?_
              refine zg_R0_4 C in_X6_runs_X6 fl_X6_runs_19 dX6_runs_124 ?_
              refine za_iload C 4 rfl dX6_runs_127 ?_
              obtain ⟨h25, hf⟩ := z_chk hf
              refine zl_R4 C h25 dX6_runs_129 ?_
              refine za_if_eq C 158 (by decide) dX6_runs_130 (fun q26 => ?_) (fun q26 => ?_)
              · have hf := z_pos q26 hf
                exact za_sub [0, 1, 2, 3, 4] rfl (j_158 x2 x4 x2 hf)
              · have hf := z_neg q26 hf
                refine za_aload_n C 0 rfl rfl dX6_runs_133 ?_
                refine za_iload C 4 rfl dX6_runs_134 ?_
                obtain ⟨v28, hc27, hf⟩ := z_bind hf
                refine za_callV (n := 1) (rest := [.int x2]) C (cX6_tells_ok l D ck ad x4 N20 _ hc27) gX6_runs_X6_tells rfl rfl rfl (by decide +kernel) ⟨Nat.le_of_ble_eq_true rfl, Nat.le_of_ble_eq_true rfl⟩ 0 rfl rfl rfl rfl rfl (Nat.le_of_ble_eq_true rfl) ⟨Nat.zero_le _, Nat.zero_le _⟩ dX6_runs_136 ?_
                refine za_aload_n C 0 rfl rfl dX6_runs_139 ?_
                refine zg_R0_13 C in_X6_runs_X6 fl_X6_runs_42 dX6_runs_140 ?_
                refine za_bipush (v := (24 : Int32)) C (by decide) dX6_runs_143 ?_
                refine za_iload_n C 3 rfl rfl dX6_runs_145 ?_
                refine za_imul C dX6_runs_146 ?_
                refine za_iload C 4 rfl dX6_runs_147 ?_
                refine za_iadd C dX6_runs_149 ?_
                obtain ⟨h29, hf⟩ := z_chk hf
                refine zl_R9 C h29 dX6_runs_150 ?_
                refine za_icmp_eq C 158 (by decide) dX6_runs_151 (fun q30 => ?_) (fun q30 => ?_)
                · have hf := z_pos q30 hf
                  exact za_sub [0, 1, 2, 3, 4] rfl (j_158 x2 x4 x2 hf)
                · have hf := z_neg q30 hf
                  refine za_iconst (v := (1 : Int32)) C (by decide) dX6_runs_154 ?_
                  refine za_goto C 159 (by decide) dX6_runs_155 ?_
                  exact za_sub [0, 1, 2, 3, 4] rfl (j_159 x2 x4 (1 : Int32) x2 hf)
          · show za_At p l e { frames := 3, cells := 0, slots := 0, locals := 68 } s m args below meth c D A 5 0 0 Q 167 [(0, .ref (ad 0)), (1, .int v1), (2, .int v31), (3, .int x3), (4, .int v32)] [] (wR ad ck N20)
            refine za_aload_n C 0 rfl rfl dX6_runs_167 ?_
            obtain ⟨N34, hc33, hf⟩ := z_bind hf
            refine za_callV (n := 0) (rest := []) C (cX6_takesOver_ok l D ck ad n  N20 _ hc33) gX6_runs_X6_takesOver rfl rfl rfl (by decide +kernel) ⟨Nat.le_of_ble_eq_true rfl, Nat.le_of_ble_eq_true rfl⟩ 0 rfl rfl rfl rfl rfl (Nat.le_of_ble_eq_true rfl) ⟨Nat.zero_le _, Nat.zero_le _⟩ dX6_runs_168 ?_
            obtain ⟨v35, ev35, hf⟩ := z_lt hf
            refine za_iinc (k9 := (1 : Int32)) C [(3, .int v35), (0, .ref (ad 0)), (1, .int v1), (2, .int v31), (4, .int v32)] 3 rfl (by decide) ev35 (by decide) rfl dX6_runs_171 ?_
            refine za_goto C 97 (by decide) dX6_runs_174 ?_
            exact za_sub [1, 2, 3, 0] rfl (hN _ (z_inj hf))
      · show za_At p l e { frames := 3, cells := 0, slots := 0, locals := 68 } s m args below meth c D A 5 0 0 Q 177 [(0, .ref (ad 0)), (1, .int v1), (2, .int v37), (3, .int v38)] [] (wR ad ck N39)
        refine za_iconst (v := (0 : Int32)) C (by decide) dX6_runs_177 ?_
        obtain ⟨v40, ev40, hf⟩ := z_lt hf
        refine za_istore_n C [(3, .int v40), (0, .ref (ad 0)), (1, .int v1), (2, .int v37)] ev40 (by decide) rfl rfl dX6_runs_178 ?_
        obtain ⟨v57, v58, hw59, hf⟩ := z_b2 hf
        refine za_sub [1, 2, 3, 0] rfl ?_
        refine z_wl (P := fun q => za_At p l e { frames := 3, cells := 0, slots := 0, locals := 68 } s m args below meth c D A 5 0 0 Q 179 [(0, .ref (ad 0)), (1, .int v1), (2, .int q.1), (3, .int q.2)] [] (wR ad ck N39)) (E := fun q => za_At p l e { frames := 3, cells := 0, slots := 0, locals := 68 } s m args below meth c D A 5 0 0 Q 258 [(0, .ref (ad 0)), (1, .int v1), (2, .int q.1), (3, .int q.2)] [] (wR ad ck N39)) ?_ ?_ _ _ hw59
        · intro q o hf hN hE
          obtain ⟨x2, x3⟩ := q
          have hf : B_X6_runs_179 n v1 x2 x3 N39 = some o := hf
          unfold B_X6_runs_179 at hf
          refine za_iload_n C 3 rfl rfl dX6_runs_179 ?_
          refine za_aload_n C 0 rfl rfl dX6_runs_180 ?_
          refine zg_R0_0 C in_X6_runs_X6 fl_X6_runs_78 dX6_runs_181 ?_
          refine za_icmp_ge C 258 (by decide) dX6_runs_184 (fun q41 => ?_) (fun q41 => ?_)
          · have hf := z_pos q41 hf
            exact za_sub [0, 1, 2, 3] rfl (hE _ (z_inj hf))
          · have hf := z_neg q41 hf
            refine za_iconst (v := (0 : Int32)) C (by decide) dX6_runs_187 ?_
            obtain ⟨v42, ev42, hf⟩ := z_lt hf
            refine za_istore C [(4, .int v42), (0, .ref (ad 0)), (1, .int v1), (2, .int x2), (3, .int x3)] ev42 (by decide) rfl dX6_runs_188 ?_
            obtain ⟨v53, v54, hw56, hf⟩ := z_b2 hf
            refine za_sub [1, 2, 3, 4, 0] rfl ?_
            refine z_wl (P := fun q => za_At p l e { frames := 3, cells := 0, slots := 0, locals := 68 } s m args below meth c D A 5 0 0 Q 190 [(0, .ref (ad 0)), (1, .int v1), (2, .int q.1), (3, .int x3), (4, .int q.2)] [] (wR ad ck N39)) (E := fun q => za_At p l e { frames := 3, cells := 0, slots := 0, locals := 68 } s m args below meth c D A 5 0 0 Q 252 [(0, .ref (ad 0)), (1, .int v1), (2, .int q.1), (3, .int x3), (4, .int q.2)] [] (wR ad ck N39)) ?_ ?_ _ _ hw56
            · intro q o hf hN hE
              obtain ⟨x2, x4⟩ := q
              have hf : B_X6_runs_190 n v1 x2 x3 x4 N39 = some o := hf
              unfold B_X6_runs_190 at hf
              have j_244 : ∀ (x2 : Int32) (x4 : Int32) (y0 : Int32) (y1 : Int32), K_X6_runs_244 n v1 x2 x3 x4 y0 y1 N39 = some o → za_At p l e { frames := 3, cells := 0, slots := 0, locals := 68 } s m args below meth c D A 5 0 0 Q 244 [(0, .ref (ad 0)), (1, .int v1), (2, .int x2), (3, .int x3), (4, .int x4)] [.int y0, .int y1] (wR ad ck N39) := by
                intro x2 x4 y0 y1 hf
                unfold K_X6_runs_244 at hf
                refine za_ior C dX6_runs_244 ?_
                obtain ⟨v43, ev43, hf⟩ := z_lt hf
                refine za_istore_n C [(2, .int v43), (0, .ref (ad 0)), (1, .int v1), (3, .int x3), (4, .int x4)] ev43 (by decide) rfl rfl dX6_runs_245 ?_
                obtain ⟨v44, ev44, hf⟩ := z_lt hf
                refine za_iinc (k9 := (1 : Int32)) C [(4, .int v44), (2, .int v43), (0, .ref (ad 0)), (1, .int v1), (3, .int x3)] 4 rfl (by decide) ev44 (by decide) rfl dX6_runs_246 ?_
                refine za_goto C 190 (by decide) dX6_runs_249 ?_
                exact za_sub [2, 3, 1, 4, 0] rfl (hN _ (z_inj hf))
              have j_243 : ∀ (x2 : Int32) (x4 : Int32) (y0 : Int32), K_X6_runs_243 n v1 x2 x3 x4 y0 N39 = some o → za_At p l e { frames := 3, cells := 0, slots := 0, locals := 68 } s m args below meth c D A 5 0 0 Q 243 [(0, .ref (ad 0)), (1, .int v1), (2, .int x2), (3, .int x3), (4, .int x4)] [.int y0] (wR ad ck N39) := by
                intro x2 x4 y0 hf
                unfold K_X6_runs_243 at hf
                refine za_iconst (v := (0 : Int32)) C (by decide) dX6_runs_243 ?_
                exact za_sub [0, 1, 2, 3, 4] rfl (j_244 x2 x4 (0 : Int32) y0 hf)
              refine za_iload C 4 rfl dX6_runs_190 ?_
              refine za_aload_n C 0 rfl rfl dX6_runs_192 ?_
              refine za_iload_n C 3 rfl rfl dX6_runs_193 ?_
              obtain ⟨v46, hc45, hf⟩ := z_bind hf
              refine za_callV (n := 1) (rest := [.int x4]) C (cX6_copiesOf_ok l D ck ad x3 N39 _ hc45) gX6_runs_X6_copiesOf rfl rfl rfl (by decide +kernel) ⟨Nat.le_of_ble_eq_true rfl, Nat.le_of_ble_eq_true rfl⟩ 0 rfl rfl rfl rfl rfl (Nat.le_of_ble_eq_true rfl) ⟨Nat.zero_le _, Nat.zero_le _⟩ dX6_runs_194 ?_
              refine za_icmp_ge C 252 (by decide) dX6_runs_197 (fun q47 => ?_) (fun q47 => ?_)
              · have hf := z_pos q47 hf
                exact za_sub [0, 1, 2, 3, 4] rfl (hE _ (z_inj hf))
              · have hf := z_neg q47 hf
                refine za_iload_n C 2 rfl rfl dX6_runs_200 ?_
                refine za_aload_n C 0 rfl rfl dX6_runs_201 ?_
                refine zg_R0_1 C in_X6_runs_X6 fl_X6_runs_7 dX6_runs_202 ?_
                refine za_iload_n C 3 rfl rfl dX6_runs_205 ?_
                obtain ⟨h48, hf⟩ := z_chk hf
                refine zl_R1 C h48 dX6_runs_206 ?_
                refine za_iconst (v := (5 : Int32)) C (by decide) dX6_runs_207 ?_
                refine za_icmp_ne C 243 (by decide) dX6_runs_208 (fun q49 => ?_) (fun q49 => ?_)
                · have hf := z_neg q49 hf
                  exact za_sub [0, 1, 2, 3, 4] rfl (j_243 x2 x4 x2 hf)
                · have hf := z_pos q49 hf
                  refine za_aload_n C 0 rfl rfl dX6_runs_211 ?_
                  refine zg_R0_14 C in_X6_runs_X6 fl_X6_runs_45 dX6_runs_212 ?_
                  refine za_iconst (v := (3 : Int32)) C (by decide) dX6_runs_215 ?_
                  refine za_iload_n C 3 rfl rfl dX6_runs_216 ?_
                  refine za_imul C dX6_runs_217 ?_
                  refine za_iload C 4 rfl dX6_runs_218 ?_
                  refine za_iadd C dX6_runs_220 ?_
                  obtain ⟨h50, hf⟩ := z_chk hf
                  refine zl_R10 C h50 dX6_runs_221 ?_
                  refine za_aload_n C 0 rfl rfl dX6_runs_222 ?_
                  refine zg_R0_13 C in_X6_runs_X6 fl_X6_runs_42 dX6_runs_223 ?_
                  refine za_bipush (v := (24 : Int32)) C (by decide) dX6_runs_226 ?_
                  refine za_aload_n C 0 rfl rfl dX6_runs_228 ?_
                  refine zg_R0_11 C in_X6_runs_X6 fl_X6_runs_35 dX6_runs_229 ?_
                  refine za_imul C dX6_runs_232 ?_
                  refine za_iload_n C 3 rfl rfl dX6_runs_233 ?_
                  refine za_iadd C dX6_runs_234 ?_
                  obtain ⟨h51, hf⟩ := z_chk hf
                  refine zl_R9 C h51 dX6_runs_235 ?_
                  refine za_icmp_eq C 243 (by decide) dX6_runs_236 (fun q52 => ?_) (fun q52 => ?_)
                  · have hf := z_pos q52 hf
                    exact za_sub [0, 1, 2, 3, 4] rfl (j_243 x2 x4 x2 hf)
                  · have hf := z_neg q52 hf
                    refine za_iconst (v := (2 : Int32)) C (by decide) dX6_runs_239 ?_
                    refine za_goto C 244 (by decide) dX6_runs_240 ?_
                    exact za_sub [0, 1, 2, 3, 4] rfl (j_244 x2 x4 (2 : Int32) x2 hf)
            · show za_At p l e { frames := 3, cells := 0, slots := 0, locals := 68 } s m args below meth c D A 5 0 0 Q 252 [(0, .ref (ad 0)), (1, .int v1), (2, .int v53), (3, .int x3), (4, .int v54)] [] (wR ad ck N39)
              obtain ⟨v55, ev55, hf⟩ := z_lt hf
              refine za_iinc (k9 := (1 : Int32)) C [(3, .int v55), (0, .ref (ad 0)), (1, .int v1), (2, .int v53), (4, .int v54)] 3 rfl (by decide) ev55 (by decide) rfl dX6_runs_252 ?_
              refine za_goto C 179 (by decide) dX6_runs_255 ?_
              exact za_sub [1, 2, 3, 0] rfl (hN _ (z_inj hf))
        · show za_At p l e { frames := 3, cells := 0, slots := 0, locals := 68 } s m args below meth c D A 5 0 0 Q 258 [(0, .ref (ad 0)), (1, .int v1), (2, .int v57), (3, .int v58)] [] (wR ad ck N39)
          refine za_iload_n C 2 rfl rfl dX6_runs_258 ?_
          obtain ⟨rfl, rfl⟩ := z_ret2 hf
          exact za_iret C F dX6_runs_259
  have j_33 : ∀ (M : zM), K_X6_runs_33 n M = some (r9, M9) → za_At p l e { frames := 3, cells := 0, slots := 0, locals := 68 } s m args below meth c D A 5 0 0 Q 33 [(0, .ref (ad 0))] [] (wR ad ck M) := by
    intro M hf
    unfold K_X6_runs_33 at hf
    refine za_aload_n C 0 rfl rfl dX6_runs_33 ?_
    refine zg_R0_16 C in_X6_runs_X6 fl_X6_runs_51 dX6_runs_34 ?_
    refine za_iconst (v := (0 : Int32)) C (by decide) dX6_runs_37 ?_
    obtain ⟨h62, hf⟩ := z_chk hf
    refine zl_R12 C h62 dX6_runs_38 ?_
    exact za_sub [0] rfl (j_39 (M.1 21 (0 : Int32).toNatClampNeg) M hf)
  unfold pX6_runs at hf
  refine za_aload_n C 0 rfl rfl dX6_runs_0 ?_
  refine zg_R0_16 C in_X6_runs_X6 fl_X6_runs_51 dX6_runs_1 ?_
  refine za_iconst (v := (3 : Int32)) C (by decide) dX6_runs_4 ?_
  obtain ⟨h63, hf⟩ := z_chk hf
  refine zl_R12 C h63 dX6_runs_5 ?_
  refine za_if_lt C 33 (by decide) dX6_runs_6 (fun q64 => ?_) (fun q64 => ?_)
  · have hf := z_pos q64 hf
    exact za_sub [0] rfl (j_33 M0 hf)
  · have hf := z_neg q64 hf
    refine za_aload_n C 0 rfl rfl dX6_runs_9 ?_
    refine zg_R0_16 C in_X6_runs_X6 fl_X6_runs_51 dX6_runs_10 ?_
    refine za_iconst (v := (3 : Int32)) C (by decide) dX6_runs_13 ?_
    obtain ⟨h65, hf⟩ := z_chk hf
    refine zl_R12 C h65 dX6_runs_14 ?_
    refine za_aload_n C 0 rfl rfl dX6_runs_15 ?_
    refine zg_R0_16 C in_X6_runs_X6 fl_X6_runs_51 dX6_runs_16 ?_
    refine za_iconst (v := (0 : Int32)) C (by decide) dX6_runs_19 ?_
    obtain ⟨h66, hf⟩ := z_chk hf
    refine zl_R12 C h66 dX6_runs_20 ?_
    refine za_icmp_ge C 33 (by decide) dX6_runs_21 (fun q67 => ?_) (fun q67 => ?_)
    · have hf := z_pos q67 hf
      exact za_sub [0] rfl (j_33 M0 hf)
    · have hf := z_neg q67 hf
      refine za_aload_n C 0 rfl rfl dX6_runs_24 ?_
      refine zg_R0_16 C in_X6_runs_X6 fl_X6_runs_51 dX6_runs_25 ?_
      refine za_iconst (v := (3 : Int32)) C (by decide) dX6_runs_28 ?_
      obtain ⟨h68, hf⟩ := z_chk hf
      refine zl_R12 C h68 dX6_runs_29 ?_
      refine za_goto C 39 (by decide) dX6_runs_30 ?_
      exact za_sub [0] rfl (j_39 (M0.1 21 (3 : Int32).toNatClampNeg) M0 hf)
theorem in_X6_copy_X6 : ∀ w ∈ wsX60, w ∈ wsX6_copy := by decide +kernel
theorem fl_X6_copy_45 : Cond.fieldLink RX6 45 "ThriceNetsModel" "bits" "[I" ∈ wsX6_copy := by decide +kernel
theorem fl_X6_copy_51 : Cond.fieldLink RX6 51 "ThriceNetsModel" "flips" "[I" ∈ wsX6_copy := by decide +kernel
def K_X6_copy_19 (n : Nat) (x1 : Int32) (x2 : Int32) (x3 : Int32) (M : zM) : Option (Int32 × zM) :=
  some ((-2 : Int32), M)
def B_X6_copy_25 (n : Nat) (x1 : Int32) (x2 : Int32) (x3 : Int32) (x4 : Int32) (M : zM) : Option ((Int32 × zM) ⊕ (Int32 × zM)) :=
  (if (72 : Int32) ≤ x4 then (some (.inr (x4, M))) else (zchk x4 72 (zst (zsI M 19 x4.toNatClampNeg (0 : Int32)) (fun N10 => zlt (x4 + (1 : Int32)) (fun v11 => some (.inl (v11, N10)))))))
def B_X6_copy_63 (n : Nat) (x1 : Int32) (x2 : Int32) (x3 : Int32) (x4 : Int32) (M : zM) : Option ((Int32 × zM) ⊕ (Int32 × zM)) :=
  (if x3 ≤ x4 then (some (.inr (x4, M))) else ((pX6_passes n x4 M).bind (fun N21 => (pX6_takesOver n N21).bind (fun N23 => zlt (x4 + (1 : Int32)) (fun v24 => some (.inl (v24, N23)))))))
def pX6_copy (n : Nat) (x1 : Int32) (x2 : Int32) (x3 : Int32) (M0 : zM) : Option (Int32 × zM) :=
  (pX6_isCopy x1 x2 M0).bind (fun v2 => (if v2 = 0 then (K_X6_copy_19 n x1 x2 x3 M0) else ((pX6_in x3 (0 : Int32) (15 : Int32) M0).bind (fun v5 => (if v5 = 0 then (K_X6_copy_19 n x1 x2 x3 M0) else (zlt (0 : Int32) (fun v7 => zb2 (zwl (fun q => B_X6_copy_25 n x1 x2 x3 q.1 q.2) n (v7, M0)) (fun v12 N13 => zchk (0 : Int32) 6 (zst (zsI N13 21 (0 : Int32).toNatClampNeg (-1 : Int32)) (fun N15 => zchk (3 : Int32) 6 (zst (zsI N15 21 (3 : Int32).toNatClampNeg (-1 : Int32)) (fun N17 => zlt (0 : Int32) (fun v18 => zb2 (zwl (fun q => B_X6_copy_63 n x1 x2 x3 q.1 q.2) n (v18, N17)) (fun v25 N26 => (pX6_passes n x3 N26).bind (fun N28 => zchk (((3 : Int32) * x1) + x2) 72 (some ((N28.1 19 (((3 : Int32) * x1) + x2).toNatClampNeg), N28)))))))))))))))))
set_option maxHeartbeats 4000000 in
set_option maxRecDepth 100000 in
theorem cX6_copy_ok (l : Launch) (D : va_G) (ck : Nat → ClassId) (ad : Nat → Nat) (n : Nat) (x1 : Int32) (x2 : Int32) (x3 : Int32) (M0 : zM) (r9 : Int32) (M9 : zM) (hf : pX6_copy n x1 x2 x3 M0 = some (r9, M9)) : zc l D ck (wR ad ck) yX6_copy wsX6_copy ({ frames := 3, cells := 0, slots := 0, locals := 68 }) [.ref (ad 0), .int x1, .int x2, .int x3] M0 (some (.int r9)) M9 := by
  refine zc_of (cc := cX6_copy) (maxL := 5) (ret := (some .int)) [(0, .ref (ad 0)), (1, .int x1), (2, .int x2), (3, .int x3)] (by decide) rfl (Nat.le_of_ble_eq_true rfl) rfl ?_
  intro p e s m args below meth c A Q C F
  have j_19 : ∀ (x1 : Int32) (x2 : Int32) (x3 : Int32) (M : zM), K_X6_copy_19 n x1 x2 x3 M = some (r9, M9) → za_At p l e { frames := 3, cells := 0, slots := 0, locals := 68 } s m args below meth c D A 5 0 0 Q 19 [(0, .ref (ad 0)), (1, .int x1), (2, .int x2), (3, .int x3)] [] (wR ad ck M) := by
    intro x1 x2 x3 M hf
    unfold K_X6_copy_19 at hf
    refine za_bipush (v := (-2 : Int32)) C (by decide) dX6_copy_19 ?_
    obtain ⟨rfl, rfl⟩ := z_ret2 hf
    exact za_iret C F dX6_copy_21
  unfold pX6_copy at hf
  refine za_aload_n C 0 rfl rfl dX6_copy_0 ?_
  refine za_iload_n C 1 rfl rfl dX6_copy_1 ?_
  refine za_iload_n C 2 rfl rfl dX6_copy_2 ?_
  obtain ⟨v2, hc1, hf⟩ := z_bind hf
  refine za_callV (n := 2) (rest := []) C (cX6_isCopy_ok l D ck ad x1 x2 M0 _ hc1) gX6_copy_X6_isCopy rfl rfl rfl (by decide +kernel) ⟨Nat.le_of_ble_eq_true rfl, Nat.le_of_ble_eq_true rfl⟩ 0 rfl rfl rfl rfl rfl (Nat.le_of_ble_eq_true rfl) ⟨Nat.zero_le _, Nat.zero_le _⟩ dX6_copy_3 ?_
  refine za_if_eq C 19 (by decide) dX6_copy_6 (fun q3 => ?_) (fun q3 => ?_)
  · have hf := z_pos q3 hf
    exact za_sub [0, 1, 2, 3] rfl (j_19 x1 x2 x3 M0 hf)
  · have hf := z_neg q3 hf
    refine za_iload_n C 3 rfl rfl dX6_copy_9 ?_
    refine za_iconst (v := (0 : Int32)) C (by decide) dX6_copy_10 ?_
    refine za_bipush (v := (15 : Int32)) C (by decide) dX6_copy_11 ?_
    obtain ⟨v5, hc4, hf⟩ := z_bind hf
    refine za_callS (n := 3) (rest := []) C (cX6_in_ok l D ck ad x3 (0 : Int32) (15 : Int32) M0 _ hc4) gX6_copy_X6_in rfl rfl rfl (by decide +kernel) ⟨Nat.le_of_ble_eq_true rfl, Nat.le_of_ble_eq_true rfl⟩ rfl rfl (Nat.le_of_ble_eq_true rfl) ⟨Nat.zero_le _, Nat.zero_le _⟩ dX6_copy_13 ?_
    refine za_if_ne C 22 (by decide) dX6_copy_16 (fun q6 => ?_) (fun q6 => ?_)
    · have hf := z_neg q6 hf
      refine za_iconst (v := (0 : Int32)) C (by decide) dX6_copy_22 ?_
      obtain ⟨v7, ev7, hf⟩ := z_lt hf
      refine za_istore C [(4, .int v7), (0, .ref (ad 0)), (1, .int x1), (2, .int x2), (3, .int x3)] ev7 (by decide) rfl dX6_copy_23 ?_
      obtain ⟨v12, N13, hw31, hf⟩ := z_b2 hf
      refine za_sub [1, 2, 3, 4, 0] rfl ?_
      refine z_wl (P := fun q => za_At p l e { frames := 3, cells := 0, slots := 0, locals := 68 } s m args below meth c D A 5 0 0 Q 25 [(0, .ref (ad 0)), (1, .int x1), (2, .int x2), (3, .int x3), (4, .int q.1)] [] (wR ad ck q.2)) (E := fun q => za_At p l e { frames := 3, cells := 0, slots := 0, locals := 68 } s m args below meth c D A 5 0 0 Q 46 [(0, .ref (ad 0)), (1, .int x1), (2, .int x2), (3, .int x3), (4, .int q.1)] [] (wR ad ck q.2)) ?_ ?_ _ _ hw31
      · intro q o hf hN hE
        obtain ⟨x4, M⟩ := q
        have hf : B_X6_copy_25 n x1 x2 x3 x4 M = some o := hf
        unfold B_X6_copy_25 at hf
        refine za_iload C 4 rfl dX6_copy_25 ?_
        refine za_bipush (v := (72 : Int32)) C (by decide) dX6_copy_27 ?_
        refine za_icmp_ge C 46 (by decide) dX6_copy_29 (fun q8 => ?_) (fun q8 => ?_)
        · have hf := z_pos q8 hf
          exact za_sub [0, 1, 2, 3, 4] rfl (hE _ (z_inj hf))
        · have hf := z_neg q8 hf
          refine za_aload_n C 0 rfl rfl dX6_copy_32 ?_
          refine zg_R0_14 C in_X6_copy_X6 fl_X6_copy_45 dX6_copy_33 ?_
          refine za_iload C 4 rfl dX6_copy_36 ?_
          refine za_iconst (v := (0 : Int32)) C (by decide) dX6_copy_38 ?_
          obtain ⟨h9, hf⟩ := z_chk hf
          obtain ⟨N10, eN10, hf⟩ := z_st hf
          refine zs_R10 C h9 eN10 dX6_copy_39 ?_
          obtain ⟨v11, ev11, hf⟩ := z_lt hf
          refine za_iinc (k9 := (1 : Int32)) C [(4, .int v11), (0, .ref (ad 0)), (1, .int x1), (2, .int x2), (3, .int x3)] 4 rfl (by decide) ev11 (by decide) rfl dX6_copy_40 ?_
          refine za_goto C 25 (by decide) dX6_copy_43 ?_
          exact za_sub [1, 2, 3, 4, 0] rfl (hN _ (z_inj hf))
      · show za_At p l e { frames := 3, cells := 0, slots := 0, locals := 68 } s m args below meth c D A 5 0 0 Q 46 [(0, .ref (ad 0)), (1, .int x1), (2, .int x2), (3, .int x3), (4, .int v12)] [] (wR ad ck N13)
        refine za_aload_n C 0 rfl rfl dX6_copy_46 ?_
        refine zg_R0_16 C in_X6_copy_X6 fl_X6_copy_51 dX6_copy_47 ?_
        refine za_iconst (v := (0 : Int32)) C (by decide) dX6_copy_50 ?_
        refine za_iconst (v := (-1 : Int32)) C (by decide) dX6_copy_51 ?_
        obtain ⟨h14, hf⟩ := z_chk hf
        obtain ⟨N15, eN15, hf⟩ := z_st hf
        refine zs_R12 C h14 eN15 dX6_copy_52 ?_
        refine za_aload_n C 0 rfl rfl dX6_copy_53 ?_
        refine zg_R0_16 C in_X6_copy_X6 fl_X6_copy_51 dX6_copy_54 ?_
        refine za_iconst (v := (3 : Int32)) C (by decide) dX6_copy_57 ?_
        refine za_iconst (v := (-1 : Int32)) C (by decide) dX6_copy_58 ?_
        obtain ⟨h16, hf⟩ := z_chk hf
        obtain ⟨N17, eN17, hf⟩ := z_st hf
        refine zs_R12 C h16 eN17 dX6_copy_59 ?_
        refine za_iconst (v := (0 : Int32)) C (by decide) dX6_copy_60 ?_
        obtain ⟨v18, ev18, hf⟩ := z_lt hf
        refine za_istore C [(4, .int v18), (0, .ref (ad 0)), (1, .int x1), (2, .int x2), (3, .int x3)] ev18 (by decide) rfl dX6_copy_61 ?_
        obtain ⟨v25, N26, hw30, hf⟩ := z_b2 hf
        refine za_sub [1, 2, 3, 4, 0] rfl ?_
        refine z_wl (P := fun q => za_At p l e { frames := 3, cells := 0, slots := 0, locals := 68 } s m args below meth c D A 5 0 0 Q 63 [(0, .ref (ad 0)), (1, .int x1), (2, .int x2), (3, .int x3), (4, .int q.1)] [] (wR ad ck q.2)) (E := fun q => za_At p l e { frames := 3, cells := 0, slots := 0, locals := 68 } s m args below meth c D A 5 0 0 Q 85 [(0, .ref (ad 0)), (1, .int x1), (2, .int x2), (3, .int x3), (4, .int q.1)] [] (wR ad ck q.2)) ?_ ?_ _ _ hw30
        · intro q o hf hN hE
          obtain ⟨x4, M⟩ := q
          have hf : B_X6_copy_63 n x1 x2 x3 x4 M = some o := hf
          unfold B_X6_copy_63 at hf
          refine za_iload C 4 rfl dX6_copy_63 ?_
          refine za_iload_n C 3 rfl rfl dX6_copy_65 ?_
          refine za_icmp_ge C 85 (by decide) dX6_copy_66 (fun q19 => ?_) (fun q19 => ?_)
          · have hf := z_pos q19 hf
            exact za_sub [0, 1, 2, 3, 4] rfl (hE _ (z_inj hf))
          · have hf := z_neg q19 hf
            refine za_aload_n C 0 rfl rfl dX6_copy_69 ?_
            refine za_iload C 4 rfl dX6_copy_70 ?_
            obtain ⟨N21, hc20, hf⟩ := z_bind hf
            refine za_callV (n := 1) (rest := []) C (cX6_passes_ok l D ck ad n x4 M _ hc20) gX6_copy_X6_passes rfl rfl rfl (by decide +kernel) ⟨Nat.le_of_ble_eq_true rfl, Nat.le_of_ble_eq_true rfl⟩ 0 rfl rfl rfl rfl rfl (Nat.le_of_ble_eq_true rfl) ⟨Nat.zero_le _, Nat.zero_le _⟩ dX6_copy_72 ?_
            refine za_aload_n C 0 rfl rfl dX6_copy_75 ?_
            obtain ⟨N23, hc22, hf⟩ := z_bind hf
            refine za_callV (n := 0) (rest := []) C (cX6_takesOver_ok l D ck ad n  N21 _ hc22) gX6_copy_X6_takesOver rfl rfl rfl (by decide +kernel) ⟨Nat.le_of_ble_eq_true rfl, Nat.le_of_ble_eq_true rfl⟩ 0 rfl rfl rfl rfl rfl (Nat.le_of_ble_eq_true rfl) ⟨Nat.zero_le _, Nat.zero_le _⟩ dX6_copy_76 ?_
            obtain ⟨v24, ev24, hf⟩ := z_lt hf
            refine za_iinc (k9 := (1 : Int32)) C [(4, .int v24), (0, .ref (ad 0)), (1, .int x1), (2, .int x2), (3, .int x3)] 4 rfl (by decide) ev24 (by decide) rfl dX6_copy_79 ?_
            refine za_goto C 63 (by decide) dX6_copy_82 ?_
            exact za_sub [1, 2, 3, 4, 0] rfl (hN _ (z_inj hf))
        · show za_At p l e { frames := 3, cells := 0, slots := 0, locals := 68 } s m args below meth c D A 5 0 0 Q 85 [(0, .ref (ad 0)), (1, .int x1), (2, .int x2), (3, .int x3), (4, .int v25)] [] (wR ad ck N26)
          refine za_aload_n C 0 rfl rfl dX6_copy_85 ?_
          refine za_iload_n C 3 rfl rfl dX6_copy_86 ?_
          obtain ⟨N28, hc27, hf⟩ := z_bind hf
          refine za_callV (n := 1) (rest := []) C (cX6_passes_ok l D ck ad n x3 N26 _ hc27) gX6_copy_X6_passes rfl rfl rfl (by decide +kernel) ⟨Nat.le_of_ble_eq_true rfl, Nat.le_of_ble_eq_true rfl⟩ 0 rfl rfl rfl rfl rfl (Nat.le_of_ble_eq_true rfl) ⟨Nat.zero_le _, Nat.zero_le _⟩ dX6_copy_87 ?_
          refine za_aload_n C 0 rfl rfl dX6_copy_90 ?_
          refine zg_R0_14 C in_X6_copy_X6 fl_X6_copy_45 dX6_copy_91 ?_
          refine za_iconst (v := (3 : Int32)) C (by decide) dX6_copy_94 ?_
          refine za_iload_n C 1 rfl rfl dX6_copy_95 ?_
          refine za_imul C dX6_copy_96 ?_
          refine za_iload_n C 2 rfl rfl dX6_copy_97 ?_
          refine za_iadd C dX6_copy_98 ?_
          obtain ⟨h29, hf⟩ := z_chk hf
          refine zl_R10 C h29 dX6_copy_99 ?_
          obtain ⟨rfl, rfl⟩ := z_ret2 hf
          exact za_iret C F dX6_copy_100
    · have hf := z_pos q6 hf
      exact za_sub [0, 1, 2, 3] rfl (j_19 x1 x2 x3 M0 hf)
theorem in_X6_runsOne_X6 : ∀ w ∈ wsX60, w ∈ wsX6_runsOne := by decide +kernel
theorem fl_X6_runsOne_51 : Cond.fieldLink RX6 51 "ThriceNetsModel" "flips" "[I" ∈ wsX6_runsOne := by decide +kernel
def pX6_runsOne (n : Nat) (x1 : Int32) (x2 : Int32) (x3 : Int32) (M0 : zM) : Option (Int32 × zM) :=
  zchk (0 : Int32) 6 (zst (zsI M0 21 (0 : Int32).toNatClampNeg x1) (fun N2 => zchk (1 : Int32) 6 (zst (zsI N2 21 (1 : Int32).toNatClampNeg x2) (fun N4 => zchk (2 : Int32) 6 (zst (zsI N4 21 (2 : Int32).toNatClampNeg x3) (fun N6 => zchk (3 : Int32) 6 (zst (zsI N6 21 (3 : Int32).toNatClampNeg (-1 : Int32)) (fun N8 => zb2 (pX6_runs n N8) (fun v10 N11 => some (v10, N11))))))))))
set_option maxHeartbeats 4000000 in
set_option maxRecDepth 100000 in
theorem cX6_runsOne_ok (l : Launch) (D : va_G) (ck : Nat → ClassId) (ad : Nat → Nat) (n : Nat) (x1 : Int32) (x2 : Int32) (x3 : Int32) (M0 : zM) (r9 : Int32) (M9 : zM) (hf : pX6_runsOne n x1 x2 x3 M0 = some (r9, M9)) : zc l D ck (wR ad ck) yX6_runsOne wsX6_runsOne ({ frames := 4, cells := 0, slots := 0, locals := 92 }) [.ref (ad 0), .int x1, .int x2, .int x3] M0 (some (.int r9)) M9 := by
  refine zc_of (cc := cX6_runsOne) (maxL := 4) (ret := (some .int)) [(0, .ref (ad 0)), (1, .int x1), (2, .int x2), (3, .int x3)] (by decide) rfl (Nat.le_of_ble_eq_true rfl) rfl ?_
  intro p e s m args below meth c A Q C F
  unfold pX6_runsOne at hf
  refine za_aload_n C 0 rfl rfl dX6_runsOne_0 ?_
  refine zg_R0_16 C in_X6_runsOne_X6 fl_X6_runsOne_51 dX6_runsOne_1 ?_
  refine za_iconst (v := (0 : Int32)) C (by decide) dX6_runsOne_4 ?_
  refine za_iload_n C 1 rfl rfl dX6_runsOne_5 ?_
  obtain ⟨h1, hf⟩ := z_chk hf
  obtain ⟨N2, eN2, hf⟩ := z_st hf
  refine zs_R12 C h1 eN2 dX6_runsOne_6 ?_
  refine za_aload_n C 0 rfl rfl dX6_runsOne_7 ?_
  refine zg_R0_16 C in_X6_runsOne_X6 fl_X6_runsOne_51 dX6_runsOne_8 ?_
  refine za_iconst (v := (1 : Int32)) C (by decide) dX6_runsOne_11 ?_
  refine za_iload_n C 2 rfl rfl dX6_runsOne_12 ?_
  obtain ⟨h3, hf⟩ := z_chk hf
  obtain ⟨N4, eN4, hf⟩ := z_st hf
  refine zs_R12 C h3 eN4 dX6_runsOne_13 ?_
  refine za_aload_n C 0 rfl rfl dX6_runsOne_14 ?_
  refine zg_R0_16 C in_X6_runsOne_X6 fl_X6_runsOne_51 dX6_runsOne_15 ?_
  refine za_iconst (v := (2 : Int32)) C (by decide) dX6_runsOne_18 ?_
  refine za_iload_n C 3 rfl rfl dX6_runsOne_19 ?_
  obtain ⟨h5, hf⟩ := z_chk hf
  obtain ⟨N6, eN6, hf⟩ := z_st hf
  refine zs_R12 C h5 eN6 dX6_runsOne_20 ?_
  refine za_aload_n C 0 rfl rfl dX6_runsOne_21 ?_
  refine zg_R0_16 C in_X6_runsOne_X6 fl_X6_runsOne_51 dX6_runsOne_22 ?_
  refine za_iconst (v := (3 : Int32)) C (by decide) dX6_runsOne_25 ?_
  refine za_iconst (v := (-1 : Int32)) C (by decide) dX6_runsOne_26 ?_
  obtain ⟨h7, hf⟩ := z_chk hf
  obtain ⟨N8, eN8, hf⟩ := z_st hf
  refine zs_R12 C h7 eN8 dX6_runsOne_27 ?_
  refine za_aload_n C 0 rfl rfl dX6_runsOne_28 ?_
  obtain ⟨v10, N11, hc9, hf⟩ := z_b2 hf
  refine za_callV (n := 0) (rest := []) C (cX6_runs_ok l D ck ad n  N8 _ _ hc9) gX6_runsOne_X6_runs rfl rfl rfl (by decide +kernel) ⟨Nat.le_of_ble_eq_true rfl, Nat.le_of_ble_eq_true rfl⟩ 0 rfl rfl rfl rfl rfl (Nat.le_of_ble_eq_true rfl) ⟨Nat.zero_le _, Nat.zero_le _⟩ dX6_runsOne_29 ?_
  obtain ⟨rfl, rfl⟩ := z_ret2 hf
  exact za_iret C F dX6_runsOne_32
theorem in_X6_runsTwo_X6 : ∀ w ∈ wsX60, w ∈ wsX6_runsTwo := by decide +kernel
theorem fl_X6_runsTwo_51 : Cond.fieldLink RX6 51 "ThriceNetsModel" "flips" "[I" ∈ wsX6_runsTwo := by decide +kernel
def pX6_runsTwo (n : Nat) (x1 : Int32) (x2 : Int32) (x3 : Int32) (x4 : Int32) (x5 : Int32) (x6 : Int32) (M0 : zM) : Option (Int32 × zM) :=
  zchk (0 : Int32) 6 (zst (zsI M0 21 (0 : Int32).toNatClampNeg x3) (fun N2 => zchk (1 : Int32) 6 (zst (zsI N2 21 (1 : Int32).toNatClampNeg x1) (fun N4 => zchk (2 : Int32) 6 (zst (zsI N4 21 (2 : Int32).toNatClampNeg x2) (fun N6 => zchk (3 : Int32) 6 (zst (zsI N6 21 (3 : Int32).toNatClampNeg x6) (fun N8 => zchk (4 : Int32) 6 (zst (zsI N8 21 (4 : Int32).toNatClampNeg x4) (fun N10 => zchk (5 : Int32) 6 (zst (zsI N10 21 (5 : Int32).toNatClampNeg x5) (fun N12 => zb2 (pX6_runs n N12) (fun v14 N15 => some (v14, N15))))))))))))))
set_option maxHeartbeats 4000000 in
set_option maxRecDepth 100000 in
theorem cX6_runsTwo_ok (l : Launch) (D : va_G) (ck : Nat → ClassId) (ad : Nat → Nat) (n : Nat) (x1 : Int32) (x2 : Int32) (x3 : Int32) (x4 : Int32) (x5 : Int32) (x6 : Int32) (M0 : zM) (r9 : Int32) (M9 : zM) (hf : pX6_runsTwo n x1 x2 x3 x4 x5 x6 M0 = some (r9, M9)) : zc l D ck (wR ad ck) yX6_runsTwo wsX6_runsTwo ({ frames := 4, cells := 0, slots := 0, locals := 92 }) [.ref (ad 0), .int x1, .int x2, .int x3, .int x4, .int x5, .int x6] M0 (some (.int r9)) M9 := by
  refine zc_of (cc := cX6_runsTwo) (maxL := 7) (ret := (some .int)) [(0, .ref (ad 0)), (1, .int x1), (2, .int x2), (3, .int x3), (4, .int x4), (5, .int x5), (6, .int x6)] (by decide) rfl (Nat.le_of_ble_eq_true rfl) rfl ?_
  intro p e s m args below meth c A Q C F
  unfold pX6_runsTwo at hf
  refine za_aload_n C 0 rfl rfl dX6_runsTwo_0 ?_
  refine zg_R0_16 C in_X6_runsTwo_X6 fl_X6_runsTwo_51 dX6_runsTwo_1 ?_
  refine za_iconst (v := (0 : Int32)) C (by decide) dX6_runsTwo_4 ?_
  refine za_iload_n C 3 rfl rfl dX6_runsTwo_5 ?_
  obtain ⟨h1, hf⟩ := z_chk hf
  obtain ⟨N2, eN2, hf⟩ := z_st hf
  refine zs_R12 C h1 eN2 dX6_runsTwo_6 ?_
  refine za_aload_n C 0 rfl rfl dX6_runsTwo_7 ?_
  refine zg_R0_16 C in_X6_runsTwo_X6 fl_X6_runsTwo_51 dX6_runsTwo_8 ?_
  refine za_iconst (v := (1 : Int32)) C (by decide) dX6_runsTwo_11 ?_
  refine za_iload_n C 1 rfl rfl dX6_runsTwo_12 ?_
  obtain ⟨h3, hf⟩ := z_chk hf
  obtain ⟨N4, eN4, hf⟩ := z_st hf
  refine zs_R12 C h3 eN4 dX6_runsTwo_13 ?_
  refine za_aload_n C 0 rfl rfl dX6_runsTwo_14 ?_
  refine zg_R0_16 C in_X6_runsTwo_X6 fl_X6_runsTwo_51 dX6_runsTwo_15 ?_
  refine za_iconst (v := (2 : Int32)) C (by decide) dX6_runsTwo_18 ?_
  refine za_iload_n C 2 rfl rfl dX6_runsTwo_19 ?_
  obtain ⟨h5, hf⟩ := z_chk hf
  obtain ⟨N6, eN6, hf⟩ := z_st hf
  refine zs_R12 C h5 eN6 dX6_runsTwo_20 ?_
  refine za_aload_n C 0 rfl rfl dX6_runsTwo_21 ?_
  refine zg_R0_16 C in_X6_runsTwo_X6 fl_X6_runsTwo_51 dX6_runsTwo_22 ?_
  refine za_iconst (v := (3 : Int32)) C (by decide) dX6_runsTwo_25 ?_
  refine za_iload C 6 rfl dX6_runsTwo_26 ?_
  obtain ⟨h7, hf⟩ := z_chk hf
  obtain ⟨N8, eN8, hf⟩ := z_st hf
  refine zs_R12 C h7 eN8 dX6_runsTwo_28 ?_
  refine za_aload_n C 0 rfl rfl dX6_runsTwo_29 ?_
  refine zg_R0_16 C in_X6_runsTwo_X6 fl_X6_runsTwo_51 dX6_runsTwo_30 ?_
  refine za_iconst (v := (4 : Int32)) C (by decide) dX6_runsTwo_33 ?_
  refine za_iload C 4 rfl dX6_runsTwo_34 ?_
  obtain ⟨h9, hf⟩ := z_chk hf
  obtain ⟨N10, eN10, hf⟩ := z_st hf
  refine zs_R12 C h9 eN10 dX6_runsTwo_36 ?_
  refine za_aload_n C 0 rfl rfl dX6_runsTwo_37 ?_
  refine zg_R0_16 C in_X6_runsTwo_X6 fl_X6_runsTwo_51 dX6_runsTwo_38 ?_
  refine za_iconst (v := (5 : Int32)) C (by decide) dX6_runsTwo_41 ?_
  refine za_iload C 5 rfl dX6_runsTwo_42 ?_
  obtain ⟨h11, hf⟩ := z_chk hf
  obtain ⟨N12, eN12, hf⟩ := z_st hf
  refine zs_R12 C h11 eN12 dX6_runsTwo_44 ?_
  refine za_aload_n C 0 rfl rfl dX6_runsTwo_45 ?_
  obtain ⟨v14, N15, hc13, hf⟩ := z_b2 hf
  refine za_callV (n := 0) (rest := []) C (cX6_runs_ok l D ck ad n  N12 _ _ hc13) gX6_runsTwo_X6_runs rfl rfl rfl (by decide +kernel) ⟨Nat.le_of_ble_eq_true rfl, Nat.le_of_ble_eq_true rfl⟩ 0 rfl rfl rfl rfl rfl (Nat.le_of_ble_eq_true rfl) ⟨Nat.zero_le _, Nat.zero_le _⟩ dX6_runsTwo_46 ?_
  obtain ⟨rfl, rfl⟩ := z_ret2 hf
  exact za_iret C F dX6_runsTwo_49
theorem in_X6_flip_X6 : ∀ w ∈ wsX60, w ∈ wsX6_flip := by decide +kernel
theorem fl_X6_flip_35 : Cond.fieldLink RX6 35 "ThriceNetsModel" "span" "I" ∈ wsX6_flip := by decide +kernel
def K_X6_flip_23 (n : Nat) (x1 : Int32) (x2 : Int32) (x3 : Int32) (M : zM) : Option (Int32 × zM) :=
  some ((-2 : Int32), M)
def pX6_flip (n : Nat) (x1 : Int32) (x2 : Int32) (x3 : Int32) (M0 : zM) : Option (Int32 × zM) :=
  (pX6_in x1 (0 : Int32) ((M0.1 3 0) - (1 : Int32)) M0).bind (fun v2 => (if v2 = 0 then (K_X6_flip_23 n x1 x2 x3 M0) else ((pX6_isCopy x2 x3 M0).bind (fun v5 => (if v5 = 0 then (K_X6_flip_23 n x1 x2 x3 M0) else ((pX6_runsBare n (M0.1 3 0) M0).bind (fun N8 => zb2 (pX6_runsOne n x1 x2 x3 N8) (fun v10 N11 => some (v10, N11)))))))))
set_option maxHeartbeats 4000000 in
set_option maxRecDepth 100000 in
theorem cX6_flip_ok (l : Launch) (D : va_G) (ck : Nat → ClassId) (ad : Nat → Nat) (n : Nat) (x1 : Int32) (x2 : Int32) (x3 : Int32) (M0 : zM) (r9 : Int32) (M9 : zM) (hf : pX6_flip n x1 x2 x3 M0 = some (r9, M9)) : zc l D ck (wR ad ck) yX6_flip wsX6_flip ({ frames := 5, cells := 0, slots := 0, locals := 115 }) [.ref (ad 0), .int x1, .int x2, .int x3] M0 (some (.int r9)) M9 := by
  refine zc_of (cc := cX6_flip) (maxL := 4) (ret := (some .int)) [(0, .ref (ad 0)), (1, .int x1), (2, .int x2), (3, .int x3)] (by decide) rfl (Nat.le_of_ble_eq_true rfl) rfl ?_
  intro p e s m args below meth c A Q C F
  have j_23 : ∀ (x1 : Int32) (x2 : Int32) (x3 : Int32) (M : zM), K_X6_flip_23 n x1 x2 x3 M = some (r9, M9) → za_At p l e { frames := 5, cells := 0, slots := 0, locals := 115 } s m args below meth c D A 4 0 0 Q 23 [(0, .ref (ad 0)), (1, .int x1), (2, .int x2), (3, .int x3)] [] (wR ad ck M) := by
    intro x1 x2 x3 M hf
    unfold K_X6_flip_23 at hf
    refine za_bipush (v := (-2 : Int32)) C (by decide) dX6_flip_23 ?_
    obtain ⟨rfl, rfl⟩ := z_ret2 hf
    exact za_iret C F dX6_flip_25
  unfold pX6_flip at hf
  refine za_iload_n C 1 rfl rfl dX6_flip_0 ?_
  refine za_iconst (v := (0 : Int32)) C (by decide) dX6_flip_1 ?_
  refine za_aload_n C 0 rfl rfl dX6_flip_2 ?_
  refine zg_R0_11 C in_X6_flip_X6 fl_X6_flip_35 dX6_flip_3 ?_
  refine za_iconst (v := (1 : Int32)) C (by decide) dX6_flip_6 ?_
  refine za_isub C dX6_flip_7 ?_
  obtain ⟨v2, hc1, hf⟩ := z_bind hf
  refine za_callS (n := 3) (rest := []) C (cX6_in_ok l D ck ad x1 (0 : Int32) ((M0.1 3 0) - (1 : Int32)) M0 _ hc1) gX6_flip_X6_in rfl rfl rfl (by decide +kernel) ⟨Nat.le_of_ble_eq_true rfl, Nat.le_of_ble_eq_true rfl⟩ rfl rfl (Nat.le_of_ble_eq_true rfl) ⟨Nat.zero_le _, Nat.zero_le _⟩ dX6_flip_8 ?_
  refine za_if_eq C 23 (by decide) dX6_flip_11 (fun q3 => ?_) (fun q3 => ?_)
  · have hf := z_pos q3 hf
    exact za_sub [0, 1, 2, 3] rfl (j_23 x1 x2 x3 M0 hf)
  · have hf := z_neg q3 hf
    refine za_aload_n C 0 rfl rfl dX6_flip_14 ?_
    refine za_iload_n C 2 rfl rfl dX6_flip_15 ?_
    refine za_iload_n C 3 rfl rfl dX6_flip_16 ?_
    obtain ⟨v5, hc4, hf⟩ := z_bind hf
    refine za_callV (n := 2) (rest := []) C (cX6_isCopy_ok l D ck ad x2 x3 M0 _ hc4) gX6_flip_X6_isCopy rfl rfl rfl (by decide +kernel) ⟨Nat.le_of_ble_eq_true rfl, Nat.le_of_ble_eq_true rfl⟩ 0 rfl rfl rfl rfl rfl (Nat.le_of_ble_eq_true rfl) ⟨Nat.zero_le _, Nat.zero_le _⟩ dX6_flip_17 ?_
    refine za_if_ne C 26 (by decide) dX6_flip_20 (fun q6 => ?_) (fun q6 => ?_)
    · have hf := z_neg q6 hf
      refine za_aload_n C 0 rfl rfl dX6_flip_26 ?_
      refine za_aload_n C 0 rfl rfl dX6_flip_27 ?_
      refine zg_R0_11 C in_X6_flip_X6 fl_X6_flip_35 dX6_flip_28 ?_
      obtain ⟨N8, hc7, hf⟩ := z_bind hf
      refine za_callV (n := 1) (rest := []) C (cX6_runsBare_ok l D ck ad n (M0.1 3 0) M0 _ hc7) gX6_flip_X6_runsBare rfl rfl rfl (by decide +kernel) ⟨Nat.le_of_ble_eq_true rfl, Nat.le_of_ble_eq_true rfl⟩ 0 rfl rfl rfl rfl rfl (Nat.le_of_ble_eq_true rfl) ⟨Nat.zero_le _, Nat.zero_le _⟩ dX6_flip_31 ?_
      refine za_aload_n C 0 rfl rfl dX6_flip_34 ?_
      refine za_iload_n C 1 rfl rfl dX6_flip_35 ?_
      refine za_iload_n C 2 rfl rfl dX6_flip_36 ?_
      refine za_iload_n C 3 rfl rfl dX6_flip_37 ?_
      obtain ⟨v10, N11, hc9, hf⟩ := z_b2 hf
      refine za_callV (n := 3) (rest := []) C (cX6_runsOne_ok l D ck ad n x1 x2 x3 N8 _ _ hc9) gX6_flip_X6_runsOne rfl rfl rfl (by decide +kernel) ⟨Nat.le_of_ble_eq_true rfl, Nat.le_of_ble_eq_true rfl⟩ 0 rfl rfl rfl rfl rfl (Nat.le_of_ble_eq_true rfl) ⟨Nat.zero_le _, Nat.zero_le _⟩ dX6_flip_38 ?_
      obtain ⟨rfl, rfl⟩ := z_ret2 hf
      exact za_iret C F dX6_flip_41
    · have hf := z_pos q6 hf
      exact za_sub [0, 1, 2, 3] rfl (j_23 x1 x2 x3 M0 hf)
theorem in_X6_flips_X6 : ∀ w ∈ wsX60, w ∈ wsX6_flips := by decide +kernel
theorem fl_X6_flips_35 : Cond.fieldLink RX6 35 "ThriceNetsModel" "span" "I" ∈ wsX6_flips := by decide +kernel
def K_X6_flips_70 (n : Nat) (x1 : Int32) (x2 : Int32) (x3 : Int32) (x4 : Int32) (x5 : Int32) (x6 : Int32) (M : zM) : Option (Int32 × zM) :=
  (pX6_runsBare n (M.1 3 0) M).bind (fun N2 => zb2 (pX6_runsTwo n x2 x3 x1 x5 x6 x4 N2) (fun v4 N5 => some (v4, N5)))
def K_X6_flips_67 (n : Nat) (x1 : Int32) (x2 : Int32) (x3 : Int32) (x4 : Int32) (x5 : Int32) (x6 : Int32) (M : zM) : Option (Int32 × zM) :=
  some ((-2 : Int32), M)
def pX6_flips (n : Nat) (x1 : Int32) (x2 : Int32) (x3 : Int32) (x4 : Int32) (x5 : Int32) (x6 : Int32) (M0 : zM) : Option (Int32 × zM) :=
  (pX6_in x1 (0 : Int32) ((M0.1 3 0) - (1 : Int32)) M0).bind (fun v7 => (if v7 = 0 then (K_X6_flips_67 n x1 x2 x3 x4 x5 x6 M0) else ((pX6_isCopy x2 x3 M0).bind (fun v10 => (if v10 = 0 then (K_X6_flips_67 n x1 x2 x3 x4 x5 x6 M0) else ((pX6_in x4 (0 : Int32) ((M0.1 3 0) - (1 : Int32)) M0).bind (fun v13 => (if v13 = 0 then (K_X6_flips_67 n x1 x2 x3 x4 x5 x6 M0) else ((pX6_isCopy x5 x6 M0).bind (fun v16 => (if v16 = 0 then (K_X6_flips_67 n x1 x2 x3 x4 x5 x6 M0) else (if x1 = x4 then (if x2 = x5 then (if x3 = x6 then (K_X6_flips_67 n x1 x2 x3 x4 x5 x6 M0) else (K_X6_flips_70 n x1 x2 x3 x4 x5 x6 M0)) else (K_X6_flips_70 n x1 x2 x3 x4 x5 x6 M0)) else (K_X6_flips_70 n x1 x2 x3 x4 x5 x6 M0)))))))))))))
set_option maxHeartbeats 4000000 in
set_option maxRecDepth 100000 in
theorem cX6_flips_ok (l : Launch) (D : va_G) (ck : Nat → ClassId) (ad : Nat → Nat) (n : Nat) (x1 : Int32) (x2 : Int32) (x3 : Int32) (x4 : Int32) (x5 : Int32) (x6 : Int32) (M0 : zM) (r9 : Int32) (M9 : zM) (hf : pX6_flips n x1 x2 x3 x4 x5 x6 M0 = some (r9, M9)) : zc l D ck (wR ad ck) yX6_flips wsX6_flips ({ frames := 5, cells := 0, slots := 0, locals := 118 }) [.ref (ad 0), .int x1, .int x2, .int x3, .int x4, .int x5, .int x6] M0 (some (.int r9)) M9 := by
  refine zc_of (cc := cX6_flips) (maxL := 7) (ret := (some .int)) [(0, .ref (ad 0)), (1, .int x1), (2, .int x2), (3, .int x3), (4, .int x4), (5, .int x5), (6, .int x6)] (by decide) rfl (Nat.le_of_ble_eq_true rfl) rfl ?_
  intro p e s m args below meth c A Q C F
  have j_70 : ∀ (x1 : Int32) (x2 : Int32) (x3 : Int32) (x4 : Int32) (x5 : Int32) (x6 : Int32) (M : zM), K_X6_flips_70 n x1 x2 x3 x4 x5 x6 M = some (r9, M9) → za_At p l e { frames := 5, cells := 0, slots := 0, locals := 118 } s m args below meth c D A 7 0 0 Q 70 [(0, .ref (ad 0)), (1, .int x1), (2, .int x2), (3, .int x3), (4, .int x4), (5, .int x5), (6, .int x6)] [] (wR ad ck M) := by
    intro x1 x2 x3 x4 x5 x6 M hf
    unfold K_X6_flips_70 at hf
    refine za_aload_n C 0 rfl rfl dX6_flips_70 ?_
    refine za_aload_n C 0 rfl rfl dX6_flips_71 ?_
    refine zg_R0_11 C in_X6_flips_X6 fl_X6_flips_35 dX6_flips_72 ?_
    obtain ⟨N2, hc1, hf⟩ := z_bind hf
    refine za_callV (n := 1) (rest := []) C (cX6_runsBare_ok l D ck ad n (M.1 3 0) M _ hc1) gX6_flips_X6_runsBare rfl rfl rfl (by decide +kernel) ⟨Nat.le_of_ble_eq_true rfl, Nat.le_of_ble_eq_true rfl⟩ 0 rfl rfl rfl rfl rfl (Nat.le_of_ble_eq_true rfl) ⟨Nat.zero_le _, Nat.zero_le _⟩ dX6_flips_75 ?_
    refine za_aload_n C 0 rfl rfl dX6_flips_78 ?_
    refine za_iload_n C 2 rfl rfl dX6_flips_79 ?_
    refine za_iload_n C 3 rfl rfl dX6_flips_80 ?_
    refine za_iload_n C 1 rfl rfl dX6_flips_81 ?_
    refine za_iload C 5 rfl dX6_flips_82 ?_
    refine za_iload C 6 rfl dX6_flips_84 ?_
    refine za_iload C 4 rfl dX6_flips_86 ?_
    obtain ⟨v4, N5, hc3, hf⟩ := z_b2 hf
    refine za_callV (n := 6) (rest := []) C (cX6_runsTwo_ok l D ck ad n x2 x3 x1 x5 x6 x4 N2 _ _ hc3) gX6_flips_X6_runsTwo rfl rfl rfl (by decide +kernel) ⟨Nat.le_of_ble_eq_true rfl, Nat.le_of_ble_eq_true rfl⟩ 0 rfl rfl rfl rfl rfl (Nat.le_of_ble_eq_true rfl) ⟨Nat.zero_le _, Nat.zero_le _⟩ dX6_flips_88 ?_
    obtain ⟨rfl, rfl⟩ := z_ret2 hf
    exact za_iret C F dX6_flips_91
  have j_67 : ∀ (x1 : Int32) (x2 : Int32) (x3 : Int32) (x4 : Int32) (x5 : Int32) (x6 : Int32) (M : zM), K_X6_flips_67 n x1 x2 x3 x4 x5 x6 M = some (r9, M9) → za_At p l e { frames := 5, cells := 0, slots := 0, locals := 118 } s m args below meth c D A 7 0 0 Q 67 [(0, .ref (ad 0)), (1, .int x1), (2, .int x2), (3, .int x3), (4, .int x4), (5, .int x5), (6, .int x6)] [] (wR ad ck M) := by
    intro x1 x2 x3 x4 x5 x6 M hf
    unfold K_X6_flips_67 at hf
    refine za_bipush (v := (-2 : Int32)) C (by decide) dX6_flips_67 ?_
    obtain ⟨rfl, rfl⟩ := z_ret2 hf
    exact za_iret C F dX6_flips_69
  unfold pX6_flips at hf
  refine za_iload_n C 1 rfl rfl dX6_flips_0 ?_
  refine za_iconst (v := (0 : Int32)) C (by decide) dX6_flips_1 ?_
  refine za_aload_n C 0 rfl rfl dX6_flips_2 ?_
  refine zg_R0_11 C in_X6_flips_X6 fl_X6_flips_35 dX6_flips_3 ?_
  refine za_iconst (v := (1 : Int32)) C (by decide) dX6_flips_6 ?_
  refine za_isub C dX6_flips_7 ?_
  obtain ⟨v7, hc6, hf⟩ := z_bind hf
  refine za_callS (n := 3) (rest := []) C (cX6_in_ok l D ck ad x1 (0 : Int32) ((M0.1 3 0) - (1 : Int32)) M0 _ hc6) gX6_flips_X6_in rfl rfl rfl (by decide +kernel) ⟨Nat.le_of_ble_eq_true rfl, Nat.le_of_ble_eq_true rfl⟩ rfl rfl (Nat.le_of_ble_eq_true rfl) ⟨Nat.zero_le _, Nat.zero_le _⟩ dX6_flips_8 ?_
  refine za_if_eq C 67 (by decide) dX6_flips_11 (fun q8 => ?_) (fun q8 => ?_)
  · have hf := z_pos q8 hf
    exact za_sub [0, 1, 2, 3, 4, 5, 6] rfl (j_67 x1 x2 x3 x4 x5 x6 M0 hf)
  · have hf := z_neg q8 hf
    refine za_aload_n C 0 rfl rfl dX6_flips_14 ?_
    refine za_iload_n C 2 rfl rfl dX6_flips_15 ?_
    refine za_iload_n C 3 rfl rfl dX6_flips_16 ?_
    obtain ⟨v10, hc9, hf⟩ := z_bind hf
    refine za_callV (n := 2) (rest := []) C (cX6_isCopy_ok l D ck ad x2 x3 M0 _ hc9) gX6_flips_X6_isCopy rfl rfl rfl (by decide +kernel) ⟨Nat.le_of_ble_eq_true rfl, Nat.le_of_ble_eq_true rfl⟩ 0 rfl rfl rfl rfl rfl (Nat.le_of_ble_eq_true rfl) ⟨Nat.zero_le _, Nat.zero_le _⟩ dX6_flips_17 ?_
    refine za_if_eq C 67 (by decide) dX6_flips_20 (fun q11 => ?_) (fun q11 => ?_)
    · have hf := z_pos q11 hf
      exact za_sub [0, 1, 2, 3, 4, 5, 6] rfl (j_67 x1 x2 x3 x4 x5 x6 M0 hf)
    · have hf := z_neg q11 hf
      refine za_iload C 4 rfl dX6_flips_23 ?_
      refine za_iconst (v := (0 : Int32)) C (by decide) dX6_flips_25 ?_
      refine za_aload_n C 0 rfl rfl dX6_flips_26 ?_
      refine zg_R0_11 C in_X6_flips_X6 fl_X6_flips_35 dX6_flips_27 ?_
      refine za_iconst (v := (1 : Int32)) C (by decide) dX6_flips_30 ?_
      refine za_isub C dX6_flips_31 ?_
      obtain ⟨v13, hc12, hf⟩ := z_bind hf
      refine za_callS (n := 3) (rest := []) C (cX6_in_ok l D ck ad x4 (0 : Int32) ((M0.1 3 0) - (1 : Int32)) M0 _ hc12) gX6_flips_X6_in rfl rfl rfl (by decide +kernel) ⟨Nat.le_of_ble_eq_true rfl, Nat.le_of_ble_eq_true rfl⟩ rfl rfl (Nat.le_of_ble_eq_true rfl) ⟨Nat.zero_le _, Nat.zero_le _⟩ dX6_flips_32 ?_
      refine za_if_eq C 67 (by decide) dX6_flips_35 (fun q14 => ?_) (fun q14 => ?_)
      · have hf := z_pos q14 hf
        exact za_sub [0, 1, 2, 3, 4, 5, 6] rfl (j_67 x1 x2 x3 x4 x5 x6 M0 hf)
      · have hf := z_neg q14 hf
        refine za_aload_n C 0 rfl rfl dX6_flips_38 ?_
        refine za_iload C 5 rfl dX6_flips_39 ?_
        refine za_iload C 6 rfl dX6_flips_41 ?_
        obtain ⟨v16, hc15, hf⟩ := z_bind hf
        refine za_callV (n := 2) (rest := []) C (cX6_isCopy_ok l D ck ad x5 x6 M0 _ hc15) gX6_flips_X6_isCopy rfl rfl rfl (by decide +kernel) ⟨Nat.le_of_ble_eq_true rfl, Nat.le_of_ble_eq_true rfl⟩ 0 rfl rfl rfl rfl rfl (Nat.le_of_ble_eq_true rfl) ⟨Nat.zero_le _, Nat.zero_le _⟩ dX6_flips_43 ?_
        refine za_if_eq C 67 (by decide) dX6_flips_46 (fun q17 => ?_) (fun q17 => ?_)
        · have hf := z_pos q17 hf
          exact za_sub [0, 1, 2, 3, 4, 5, 6] rfl (j_67 x1 x2 x3 x4 x5 x6 M0 hf)
        · have hf := z_neg q17 hf
          refine za_iload_n C 1 rfl rfl dX6_flips_49 ?_
          refine za_iload C 4 rfl dX6_flips_50 ?_
          refine za_icmp_ne C 70 (by decide) dX6_flips_52 (fun q18 => ?_) (fun q18 => ?_)
          · have hf := z_neg q18 hf
            exact za_sub [0, 1, 2, 3, 4, 5, 6] rfl (j_70 x1 x2 x3 x4 x5 x6 M0 hf)
          · have hf := z_pos q18 hf
            refine za_iload_n C 2 rfl rfl dX6_flips_55 ?_
            refine za_iload C 5 rfl dX6_flips_56 ?_
            refine za_icmp_ne C 70 (by decide) dX6_flips_58 (fun q19 => ?_) (fun q19 => ?_)
            · have hf := z_neg q19 hf
              exact za_sub [0, 1, 2, 3, 4, 5, 6] rfl (j_70 x1 x2 x3 x4 x5 x6 M0 hf)
            · have hf := z_pos q19 hf
              refine za_iload_n C 3 rfl rfl dX6_flips_61 ?_
              refine za_iload C 6 rfl dX6_flips_62 ?_
              refine za_icmp_ne C 70 (by decide) dX6_flips_64 (fun q20 => ?_) (fun q20 => ?_)
              · have hf := z_neg q20 hf
                exact za_sub [0, 1, 2, 3, 4, 5, 6] rfl (j_70 x1 x2 x3 x4 x5 x6 M0 hf)
              · have hf := z_pos q20 hf
                exact za_sub [0, 1, 2, 3, 4, 5, 6] rfl (j_67 x1 x2 x3 x4 x5 x6 M0 hf)
theorem in_X6_many_X6 : ∀ w ∈ wsX60, w ∈ wsX6_many := by decide +kernel
theorem fl_X6_many_35 : Cond.fieldLink RX6 35 "ThriceNetsModel" "span" "I" ∈ wsX6_many := by decide +kernel
theorem fl_X6_many_78 : Cond.fieldLink RX6 78 "ThriceNetsModel" "nodes" "I" ∈ wsX6_many := by decide +kernel
def K_X6_many_77 (n : Nat) (x1 : Int32) (x2 : Int32) (x3 : Int32) (x4 : Int32) (x5 : Int32) (y0 : Int32) (y1 : Int32) (M : zM) : Option ((Int32 × Int32 × zM) ⊕ (Int32 × Int32 × zM)) :=
  zlt (y1 + y0) (fun v12 => zlt (x5 + (1 : Int32)) (fun v13 => some (.inl (v12, v13, M))))
def B_X6_many_47 (n : Nat) (x1 : Int32) (x2 : Int32) (x3 : Int32) (x4 : Int32) (x5 : Int32) (M : zM) : Option ((Int32 × Int32 × zM) ⊕ (Int32 × Int32 × zM)) :=
  (pX6_copiesOf x4 M).bind (fun v15 => (if v15 ≤ x5 then (some (.inr (x2, x5, M))) else (zb2 (pX6_runsOne n x3 x4 x5 M) (fun v18 N19 => (if v18 = x1 then (K_X6_many_77 n x1 x2 x3 x4 x5 (1 : Int32) x2 N19) else (K_X6_many_77 n x1 x2 x3 x4 x5 (0 : Int32) x2 N19))))))
def B_X6_many_35 (n : Nat) (x1 : Int32) (x2 : Int32) (x3 : Int32) (x4 : Int32) (M : zM) : Option ((Int32 × Int32 × zM) ⊕ (Int32 × Int32 × zM)) :=
  (if (M.1 0 0) ≤ x4 then (some (.inr (x2, x4, M))) else (zlt (0 : Int32) (fun v11 => zb3 (zwl (fun q => B_X6_many_47 n x1 q.1 x3 x4 q.2.1 q.2.2) n (x2, v11, M)) (fun v21 v22 N23 => zlt (x4 + (1 : Int32)) (fun v24 => some (.inl (v21, v24, N23)))))))
def B_X6_many_24 (n : Nat) (x1 : Int32) (x2 : Int32) (x3 : Int32) (M : zM) : Option ((Int32 × Int32 × zM) ⊕ (Int32 × Int32 × zM)) :=
  (if (M.1 3 0) ≤ x3 then (some (.inr (x2, x3, M))) else (zlt (0 : Int32) (fun v9 => zb3 (zwl (fun q => B_X6_many_35 n x1 q.1 x3 q.2.1 q.2.2) n (x2, v9, M)) (fun v26 v27 N28 => zlt (x3 + (1 : Int32)) (fun v29 => some (.inl (v26, v29, N28)))))))
def pX6_many (n : Nat) (x1 : Int32) (M0 : zM) : Option (Int32 × zM) :=
  (pX6_in x1 (0 : Int32) (3 : Int32) M0).bind (fun v2 => (if v2 = 0 then (some ((-2 : Int32), M0)) else ((pX6_runsBare n (M0.1 3 0) M0).bind (fun N5 => zlt (0 : Int32) (fun v6 => zlt (0 : Int32) (fun v7 => zb3 (zwl (fun q => B_X6_many_24 n x1 q.1 q.2.1 q.2.2) n (v6, v7, N5)) (fun v31 v32 N33 => some (v31, N33))))))))
set_option maxHeartbeats 4000000 in
set_option maxRecDepth 100000 in
theorem cX6_many_ok (l : Launch) (D : va_G) (ck : Nat → ClassId) (ad : Nat → Nat) (n : Nat) (x1 : Int32) (M0 : zM) (r9 : Int32) (M9 : zM) (hf : pX6_many n x1 M0 = some (r9, M9)) : zc l D ck (wR ad ck) yX6_many wsX6_many ({ frames := 5, cells := 0, slots := 0, locals := 115 }) [.ref (ad 0), .int x1] M0 (some (.int r9)) M9 := by
  refine zc_of (cc := cX6_many) (maxL := 6) (ret := (some .int)) [(0, .ref (ad 0)), (1, .int x1)] (by decide) rfl (Nat.le_of_ble_eq_true rfl) rfl ?_
  intro p e s m args below meth c A Q C F
  unfold pX6_many at hf
  refine za_iload_n C 1 rfl rfl dX6_many_0 ?_
  refine za_iconst (v := (0 : Int32)) C (by decide) dX6_many_1 ?_
  refine za_iconst (v := (3 : Int32)) C (by decide) dX6_many_2 ?_
  obtain ⟨v2, hc1, hf⟩ := z_bind hf
  refine za_callS (n := 3) (rest := []) C (cX6_in_ok l D ck ad x1 (0 : Int32) (3 : Int32) M0 _ hc1) gX6_many_X6_in rfl rfl rfl (by decide +kernel) ⟨Nat.le_of_ble_eq_true rfl, Nat.le_of_ble_eq_true rfl⟩ rfl rfl (Nat.le_of_ble_eq_true rfl) ⟨Nat.zero_le _, Nat.zero_le _⟩ dX6_many_3 ?_
  refine za_if_ne C 12 (by decide) dX6_many_6 (fun q3 => ?_) (fun q3 => ?_)
  · have hf := z_neg q3 hf
    refine za_aload_n C 0 rfl rfl dX6_many_12 ?_
    refine za_aload_n C 0 rfl rfl dX6_many_13 ?_
    refine zg_R0_11 C in_X6_many_X6 fl_X6_many_35 dX6_many_14 ?_
    obtain ⟨N5, hc4, hf⟩ := z_bind hf
    refine za_callV (n := 1) (rest := []) C (cX6_runsBare_ok l D ck ad n (M0.1 3 0) M0 _ hc4) gX6_many_X6_runsBare rfl rfl rfl (by decide +kernel) ⟨Nat.le_of_ble_eq_true rfl, Nat.le_of_ble_eq_true rfl⟩ 0 rfl rfl rfl rfl rfl (Nat.le_of_ble_eq_true rfl) ⟨Nat.zero_le _, Nat.zero_le _⟩ dX6_many_17 ?_
    refine za_iconst (v := (0 : Int32)) C (by decide) dX6_many_20 ?_
    obtain ⟨v6, ev6, hf⟩ := z_lt hf
    refine za_istore_n C [(2, .int v6), (0, .ref (ad 0)), (1, .int x1)] ev6 (by decide) rfl rfl dX6_many_21 ?_
    refine za_iconst (v := (0 : Int32)) C (by decide) dX6_many_22 ?_
    obtain ⟨v7, ev7, hf⟩ := z_lt hf
    refine za_istore_n C [(3, .int v7), (2, .int v6), (0, .ref (ad 0)), (1, .int x1)] ev7 (by decide) rfl rfl dX6_many_23 ?_
    obtain ⟨v31, v32, N33, hw34, hf⟩ := z_b3 hf
    refine za_sub [2, 3, 1, 0] rfl ?_
    refine z_wl (P := fun q => za_At p l e { frames := 5, cells := 0, slots := 0, locals := 115 } s m args below meth c D A 6 0 0 Q 24 [(0, .ref (ad 0)), (1, .int x1), (2, .int q.1), (3, .int q.2.1)] [] (wR ad ck q.2.2)) (E := fun q => za_At p l e { frames := 5, cells := 0, slots := 0, locals := 115 } s m args below meth c D A 6 0 0 Q 97 [(0, .ref (ad 0)), (1, .int x1), (2, .int q.1), (3, .int q.2.1)] [] (wR ad ck q.2.2)) ?_ ?_ _ _ hw34
    · intro q o hf hN hE
      obtain ⟨x2, x3, M⟩ := q
      have hf : B_X6_many_24 n x1 x2 x3 M = some o := hf
      unfold B_X6_many_24 at hf
      refine za_iload_n C 3 rfl rfl dX6_many_24 ?_
      refine za_aload_n C 0 rfl rfl dX6_many_25 ?_
      refine zg_R0_11 C in_X6_many_X6 fl_X6_many_35 dX6_many_26 ?_
      refine za_icmp_ge C 97 (by decide) dX6_many_29 (fun q8 => ?_) (fun q8 => ?_)
      · have hf := z_pos q8 hf
        exact za_sub [0, 1, 2, 3] rfl (hE _ (z_inj hf))
      · have hf := z_neg q8 hf
        refine za_iconst (v := (0 : Int32)) C (by decide) dX6_many_32 ?_
        obtain ⟨v9, ev9, hf⟩ := z_lt hf
        refine za_istore C [(4, .int v9), (0, .ref (ad 0)), (1, .int x1), (2, .int x2), (3, .int x3)] ev9 (by decide) rfl dX6_many_33 ?_
        obtain ⟨v26, v27, N28, hw30, hf⟩ := z_b3 hf
        refine za_sub [1, 2, 3, 4, 0] rfl ?_
        refine z_wl (P := fun q => za_At p l e { frames := 5, cells := 0, slots := 0, locals := 115 } s m args below meth c D A 6 0 0 Q 35 [(0, .ref (ad 0)), (1, .int x1), (2, .int q.1), (3, .int x3), (4, .int q.2.1)] [] (wR ad ck q.2.2)) (E := fun q => za_At p l e { frames := 5, cells := 0, slots := 0, locals := 115 } s m args below meth c D A 6 0 0 Q 91 [(0, .ref (ad 0)), (1, .int x1), (2, .int q.1), (3, .int x3), (4, .int q.2.1)] [] (wR ad ck q.2.2)) ?_ ?_ _ _ hw30
        · intro q o hf hN hE
          obtain ⟨x2, x4, M⟩ := q
          have hf : B_X6_many_35 n x1 x2 x3 x4 M = some o := hf
          unfold B_X6_many_35 at hf
          refine za_iload C 4 rfl dX6_many_35 ?_
          refine za_aload_n C 0 rfl rfl dX6_many_37 ?_
          refine zg_R0_0 C in_X6_many_X6 fl_X6_many_78 dX6_many_38 ?_
          refine za_icmp_ge C 91 (by decide) dX6_many_41 (fun q10 => ?_) (fun q10 => ?_)
          · have hf := z_pos q10 hf
            exact za_sub [0, 1, 2, 3, 4] rfl (hE _ (z_inj hf))
          · have hf := z_neg q10 hf
            refine za_iconst (v := (0 : Int32)) C (by decide) dX6_many_44 ?_
            obtain ⟨v11, ev11, hf⟩ := z_lt hf
            refine za_istore C [(5, .int v11), (0, .ref (ad 0)), (1, .int x1), (2, .int x2), (3, .int x3), (4, .int x4)] ev11 (by decide) rfl dX6_many_45 ?_
            obtain ⟨v21, v22, N23, hw25, hf⟩ := z_b3 hf
            refine za_sub [1, 2, 3, 4, 5, 0] rfl ?_
            refine z_wl (P := fun q => za_At p l e { frames := 5, cells := 0, slots := 0, locals := 115 } s m args below meth c D A 6 0 0 Q 47 [(0, .ref (ad 0)), (1, .int x1), (2, .int q.1), (3, .int x3), (4, .int x4), (5, .int q.2.1)] [] (wR ad ck q.2.2)) (E := fun q => za_At p l e { frames := 5, cells := 0, slots := 0, locals := 115 } s m args below meth c D A 6 0 0 Q 85 [(0, .ref (ad 0)), (1, .int x1), (2, .int q.1), (3, .int x3), (4, .int x4), (5, .int q.2.1)] [] (wR ad ck q.2.2)) ?_ ?_ _ _ hw25
            · intro q o hf hN hE
              obtain ⟨x2, x5, M⟩ := q
              have hf : B_X6_many_47 n x1 x2 x3 x4 x5 M = some o := hf
              unfold B_X6_many_47 at hf
              have j_77 : ∀ (x2 : Int32) (x5 : Int32) (y0 : Int32) (y1 : Int32) (M : zM), K_X6_many_77 n x1 x2 x3 x4 x5 y0 y1 M = some o → za_At p l e { frames := 5, cells := 0, slots := 0, locals := 115 } s m args below meth c D A 6 0 0 Q 77 [(0, .ref (ad 0)), (1, .int x1), (2, .int x2), (3, .int x3), (4, .int x4), (5, .int x5)] [.int y0, .int y1] (wR ad ck M) := by
                intro x2 x5 y0 y1 M hf
                unfold K_X6_many_77 at hf
                refine za_iadd C dX6_many_77 ?_
                obtain ⟨v12, ev12, hf⟩ := z_lt hf
                refine za_istore_n C [(2, .int v12), (0, .ref (ad 0)), (1, .int x1), (3, .int x3), (4, .int x4), (5, .int x5)] ev12 (by decide) rfl rfl dX6_many_78 ?_
                obtain ⟨v13, ev13, hf⟩ := z_lt hf
                refine za_iinc (k9 := (1 : Int32)) C [(5, .int v13), (2, .int v12), (0, .ref (ad 0)), (1, .int x1), (3, .int x3), (4, .int x4)] 5 rfl (by decide) ev13 (by decide) rfl dX6_many_79 ?_
                refine za_goto C 47 (by decide) dX6_many_82 ?_
                exact za_sub [2, 3, 1, 4, 5, 0] rfl (hN _ (z_inj hf))
              refine za_iload C 5 rfl dX6_many_47 ?_
              refine za_aload_n C 0 rfl rfl dX6_many_49 ?_
              refine za_iload C 4 rfl dX6_many_50 ?_
              obtain ⟨v15, hc14, hf⟩ := z_bind hf
              refine za_callV (n := 1) (rest := [.int x5]) C (cX6_copiesOf_ok l D ck ad x4 M _ hc14) gX6_many_X6_copiesOf rfl rfl rfl (by decide +kernel) ⟨Nat.le_of_ble_eq_true rfl, Nat.le_of_ble_eq_true rfl⟩ 0 rfl rfl rfl rfl rfl (Nat.le_of_ble_eq_true rfl) ⟨Nat.zero_le _, Nat.zero_le _⟩ dX6_many_52 ?_
              refine za_icmp_ge C 85 (by decide) dX6_many_55 (fun q16 => ?_) (fun q16 => ?_)
              · have hf := z_pos q16 hf
                exact za_sub [0, 1, 2, 3, 4, 5] rfl (hE _ (z_inj hf))
              · have hf := z_neg q16 hf
                refine za_iload_n C 2 rfl rfl dX6_many_58 ?_
                refine za_aload_n C 0 rfl rfl dX6_many_59 ?_
                refine za_iload_n C 3 rfl rfl dX6_many_60 ?_
                refine za_iload C 4 rfl dX6_many_61 ?_
                refine za_iload C 5 rfl dX6_many_63 ?_
                obtain ⟨v18, N19, hc17, hf⟩ := z_b2 hf
                refine za_callV (n := 3) (rest := [.int x2]) C (cX6_runsOne_ok l D ck ad n x3 x4 x5 M _ _ hc17) gX6_many_X6_runsOne rfl rfl rfl (by decide +kernel) ⟨Nat.le_of_ble_eq_true rfl, Nat.le_of_ble_eq_true rfl⟩ 0 rfl rfl rfl rfl rfl (Nat.le_of_ble_eq_true rfl) ⟨Nat.zero_le _, Nat.zero_le _⟩ dX6_many_65 ?_
                refine za_iload_n C 1 rfl rfl dX6_many_68 ?_
                refine za_icmp_ne C 76 (by decide) dX6_many_69 (fun q20 => ?_) (fun q20 => ?_)
                · have hf := z_neg q20 hf
                  refine za_iconst (v := (0 : Int32)) C (by decide) dX6_many_76 ?_
                  exact za_sub [0, 1, 2, 3, 4, 5] rfl (j_77 x2 x5 (0 : Int32) x2 N19 hf)
                · have hf := z_pos q20 hf
                  refine za_iconst (v := (1 : Int32)) C (by decide) dX6_many_72 ?_
                  refine za_goto C 77 (by decide) dX6_many_73 ?_
                  exact za_sub [0, 1, 2, 3, 4, 5] rfl (j_77 x2 x5 (1 : Int32) x2 N19 hf)
            · show za_At p l e { frames := 5, cells := 0, slots := 0, locals := 115 } s m args below meth c D A 6 0 0 Q 85 [(0, .ref (ad 0)), (1, .int x1), (2, .int v21), (3, .int x3), (4, .int x4), (5, .int v22)] [] (wR ad ck N23)
              obtain ⟨v24, ev24, hf⟩ := z_lt hf
              refine za_iinc (k9 := (1 : Int32)) C [(4, .int v24), (0, .ref (ad 0)), (1, .int x1), (2, .int v21), (3, .int x3), (5, .int v22)] 4 rfl (by decide) ev24 (by decide) rfl dX6_many_85 ?_
              refine za_goto C 35 (by decide) dX6_many_88 ?_
              exact za_sub [1, 2, 3, 4, 0] rfl (hN _ (z_inj hf))
        · show za_At p l e { frames := 5, cells := 0, slots := 0, locals := 115 } s m args below meth c D A 6 0 0 Q 91 [(0, .ref (ad 0)), (1, .int x1), (2, .int v26), (3, .int x3), (4, .int v27)] [] (wR ad ck N28)
          obtain ⟨v29, ev29, hf⟩ := z_lt hf
          refine za_iinc (k9 := (1 : Int32)) C [(3, .int v29), (0, .ref (ad 0)), (1, .int x1), (2, .int v26), (4, .int v27)] 3 rfl (by decide) ev29 (by decide) rfl dX6_many_91 ?_
          refine za_goto C 24 (by decide) dX6_many_94 ?_
          exact za_sub [1, 2, 3, 0] rfl (hN _ (z_inj hf))
    · show za_At p l e { frames := 5, cells := 0, slots := 0, locals := 115 } s m args below meth c D A 6 0 0 Q 97 [(0, .ref (ad 0)), (1, .int x1), (2, .int v31), (3, .int v32)] [] (wR ad ck N33)
      refine za_iload_n C 2 rfl rfl dX6_many_97 ?_
      obtain ⟨rfl, rfl⟩ := z_ret2 hf
      exact za_iret C F dX6_many_98
  · have hf := z_pos q3 hf
    refine za_bipush (v := (-2 : Int32)) C (by decide) dX6_many_9 ?_
    obtain ⟨rfl, rfl⟩ := z_ret2 hf
    exact za_iret C F dX6_many_11
theorem in_X6_first_X6 : ∀ w ∈ wsX60, w ∈ wsX6_first := by decide +kernel
theorem fl_X6_first_35 : Cond.fieldLink RX6 35 "ThriceNetsModel" "span" "I" ∈ wsX6_first := by decide +kernel
theorem fl_X6_first_78 : Cond.fieldLink RX6 78 "ThriceNetsModel" "nodes" "I" ∈ wsX6_first := by decide +kernel
def B_X6_first_30 (n : Nat) (x1 : Int32) (x2 : Int32) (x3 : Int32) (M : zM) : Option ((Int32 × zM) ⊕ ((Int32 × zM) ⊕ (Int32 × zM))) :=
  (pX6_copiesOf x2 M).bind (fun v9 => (if v9 ≤ x3 then (some (.inr (.inl (x3, M)))) else (zb2 (pX6_runsOne n x1 x2 x3 M) (fun v12 N13 => (if (v12 - v12 / (2 : Int32) * (2 : Int32)) = (1 : Int32) then (some (.inr (.inr (((((10000 : Int32) * x1) + ((10 : Int32) * x2)) + x3), N13)))) else (zlt (x3 + (1 : Int32)) (fun v15 => some (.inl (v15, N13)))))))))
def B_X6_first_20 (n : Nat) (x1 : Int32) (x2 : Int32) (M : zM) : Option ((Int32 × zM) ⊕ ((Int32 × zM) ⊕ (Int32 × zM))) :=
  (if (M.1 0 0) ≤ x2 then (some (.inr (.inl (x2, M)))) else (zlt (0 : Int32) (fun v7 => (zwl (fun q => B_X6_first_30 n x1 x2 q.1 q.2) n (v7, M)).bind (fun q20 => Sum.elim (fun q => zlt (x2 + (1 : Int32)) (fun v18 => some (.inl (v18, q.2)))) (fun x => some (.inr (.inr x))) q20))))
def B_X6_first_10 (n : Nat) (x1 : Int32) (M : zM) : Option ((Int32 × zM) ⊕ ((Int32 × zM) ⊕ (Int32 × zM))) :=
  (if (M.1 3 0) ≤ x1 then (some (.inr (.inl (x1, M)))) else (zlt (0 : Int32) (fun v5 => (zwl (fun q => B_X6_first_20 n x1 q.1 q.2) n (v5, M)).bind (fun q25 => Sum.elim (fun q => zlt (x1 + (1 : Int32)) (fun v23 => some (.inl (v23, q.2)))) (fun x => some (.inr (.inr x))) q25))))
def pX6_first (n : Nat) (M0 : zM) : Option (Int32 × zM) :=
  (pX6_runsBare n (M0.1 3 0) M0).bind (fun N2 => zlt (0 : Int32) (fun v3 => (zwl (fun q => B_X6_first_10 n q.1 q.2) n (v3, N2)).bind (fun q29 => Sum.elim (fun q => some ((-1 : Int32), q.2)) (fun x => some x) q29)))
set_option maxHeartbeats 4000000 in
set_option maxRecDepth 100000 in
theorem cX6_first_ok (l : Launch) (D : va_G) (ck : Nat → ClassId) (ad : Nat → Nat) (n : Nat) (M0 : zM) (r9 : Int32) (M9 : zM) (hf : pX6_first n M0 = some (r9, M9)) : zc l D ck (wR ad ck) yX6_first wsX6_first ({ frames := 5, cells := 0, slots := 0, locals := 115 }) [.ref (ad 0)] M0 (some (.int r9)) M9 := by
  refine zc_of (cc := cX6_first) (maxL := 4) (ret := (some .int)) [(0, .ref (ad 0))] (by decide) rfl (Nat.le_of_ble_eq_true rfl) rfl ?_
  intro p e s m args below meth c A Q C F
  unfold pX6_first at hf
  refine za_aload_n C 0 rfl rfl dX6_first_0 ?_
  refine za_aload_n C 0 rfl rfl dX6_first_1 ?_
  refine zg_R0_11 C in_X6_first_X6 fl_X6_first_35 dX6_first_2 ?_
  obtain ⟨N2, hc1, hf⟩ := z_bind hf
  refine za_callV (n := 1) (rest := []) C (cX6_runsBare_ok l D ck ad n (M0.1 3 0) M0 _ hc1) gX6_first_X6_runsBare rfl rfl rfl (by decide +kernel) ⟨Nat.le_of_ble_eq_true rfl, Nat.le_of_ble_eq_true rfl⟩ 0 rfl rfl rfl rfl rfl (Nat.le_of_ble_eq_true rfl) ⟨Nat.zero_le _, Nat.zero_le _⟩ dX6_first_5 ?_
  refine za_iconst (v := (0 : Int32)) C (by decide) dX6_first_8 ?_
  obtain ⟨v3, ev3, hf⟩ := z_lt hf
  refine za_istore_n C [(1, .int v3), (0, .ref (ad 0))] ev3 (by decide) rfl rfl dX6_first_9 ?_
  obtain ⟨q29, hw28, hf⟩ := z_bind hf
  refine za_sub [1, 0] rfl ?_
  refine z_wl (P := fun q => za_At p l e { frames := 5, cells := 0, slots := 0, locals := 115 } s m args below meth c D A 4 0 0 Q 10 [(0, .ref (ad 0)), (1, .int q.1)] [] (wR ad ck q.2)) (E := fun q => Sum.elim (fun q => za_At p l e { frames := 5, cells := 0, slots := 0, locals := 115 } s m args below meth c D A 4 0 0 Q 83 [(0, .ref (ad 0)), (1, .int q.1)] [] (wR ad ck q.2)) (fun x => za_Fin s meth below args D ck (wR ad ck) A Q M0 (some .int) (some (.int x.1)) x.2) q) ?_ ?_ _ _ hw28
  · intro q o hf hN hE
    obtain ⟨x1, M⟩ := q
    have hf : B_X6_first_10 n x1 M = some o := hf
    unfold B_X6_first_10 at hf
    refine za_iload_n C 1 rfl rfl dX6_first_10 ?_
    refine za_aload_n C 0 rfl rfl dX6_first_11 ?_
    refine zg_R0_11 C in_X6_first_X6 fl_X6_first_35 dX6_first_12 ?_
    refine za_icmp_ge C 83 (by decide) dX6_first_15 (fun q4 => ?_) (fun q4 => ?_)
    · have hf := z_pos q4 hf
      exact za_sub [0, 1] rfl (hE _ (z_inj hf))
    · have hf := z_neg q4 hf
      refine za_iconst (v := (0 : Int32)) C (by decide) dX6_first_18 ?_
      obtain ⟨v5, ev5, hf⟩ := z_lt hf
      refine za_istore_n C [(2, .int v5), (0, .ref (ad 0)), (1, .int x1)] ev5 (by decide) rfl rfl dX6_first_19 ?_
      obtain ⟨q25, hw24, hf⟩ := z_bind hf
      refine za_sub [1, 2, 0] rfl ?_
      refine z_wl (P := fun q => za_At p l e { frames := 5, cells := 0, slots := 0, locals := 115 } s m args below meth c D A 4 0 0 Q 20 [(0, .ref (ad 0)), (1, .int x1), (2, .int q.1)] [] (wR ad ck q.2)) (E := fun q => Sum.elim (fun q => za_At p l e { frames := 5, cells := 0, slots := 0, locals := 115 } s m args below meth c D A 4 0 0 Q 77 [(0, .ref (ad 0)), (1, .int x1), (2, .int q.1)] [] (wR ad ck q.2)) (fun x => za_Fin s meth below args D ck (wR ad ck) A Q M0 (some .int) (some (.int x.1)) x.2) q) ?_ ?_ _ _ hw24
      · intro q o hf hN hE
        obtain ⟨x2, M⟩ := q
        have hf : B_X6_first_20 n x1 x2 M = some o := hf
        unfold B_X6_first_20 at hf
        refine za_iload_n C 2 rfl rfl dX6_first_20 ?_
        refine za_aload_n C 0 rfl rfl dX6_first_21 ?_
        refine zg_R0_0 C in_X6_first_X6 fl_X6_first_78 dX6_first_22 ?_
        refine za_icmp_ge C 77 (by decide) dX6_first_25 (fun q6 => ?_) (fun q6 => ?_)
        · have hf := z_pos q6 hf
          exact za_sub [0, 1, 2] rfl (hE _ (z_inj hf))
        · have hf := z_neg q6 hf
          refine za_iconst (v := (0 : Int32)) C (by decide) dX6_first_28 ?_
          obtain ⟨v7, ev7, hf⟩ := z_lt hf
          refine za_istore_n C [(3, .int v7), (0, .ref (ad 0)), (1, .int x1), (2, .int x2)] ev7 (by decide) rfl rfl dX6_first_29 ?_
          obtain ⟨q20, hw19, hf⟩ := z_bind hf
          refine za_sub [1, 2, 3, 0] rfl ?_
          refine z_wl (P := fun q => za_At p l e { frames := 5, cells := 0, slots := 0, locals := 115 } s m args below meth c D A 4 0 0 Q 30 [(0, .ref (ad 0)), (1, .int x1), (2, .int x2), (3, .int q.1)] [] (wR ad ck q.2)) (E := fun q => Sum.elim (fun q => za_At p l e { frames := 5, cells := 0, slots := 0, locals := 115 } s m args below meth c D A 4 0 0 Q 71 [(0, .ref (ad 0)), (1, .int x1), (2, .int x2), (3, .int q.1)] [] (wR ad ck q.2)) (fun x => za_Fin s meth below args D ck (wR ad ck) A Q M0 (some .int) (some (.int x.1)) x.2) q) ?_ ?_ _ _ hw19
          · intro q o hf hN hE
            obtain ⟨x3, M⟩ := q
            have hf : B_X6_first_30 n x1 x2 x3 M = some o := hf
            unfold B_X6_first_30 at hf
            refine za_iload_n C 3 rfl rfl dX6_first_30 ?_
            refine za_aload_n C 0 rfl rfl dX6_first_31 ?_
            refine za_iload_n C 2 rfl rfl dX6_first_32 ?_
            obtain ⟨v9, hc8, hf⟩ := z_bind hf
            refine za_callV (n := 1) (rest := [.int x3]) C (cX6_copiesOf_ok l D ck ad x2 M _ hc8) gX6_first_X6_copiesOf rfl rfl rfl (by decide +kernel) ⟨Nat.le_of_ble_eq_true rfl, Nat.le_of_ble_eq_true rfl⟩ 0 rfl rfl rfl rfl rfl (Nat.le_of_ble_eq_true rfl) ⟨Nat.zero_le _, Nat.zero_le _⟩ dX6_first_33 ?_
            refine za_icmp_ge C 71 (by decide) dX6_first_36 (fun q10 => ?_) (fun q10 => ?_)
            · have hf := z_pos q10 hf
              exact za_sub [0, 1, 2, 3] rfl (hE _ (z_inj hf))
            · have hf := z_neg q10 hf
              refine za_aload_n C 0 rfl rfl dX6_first_39 ?_
              refine za_iload_n C 1 rfl rfl dX6_first_40 ?_
              refine za_iload_n C 2 rfl rfl dX6_first_41 ?_
              refine za_iload_n C 3 rfl rfl dX6_first_42 ?_
              obtain ⟨v12, N13, hc11, hf⟩ := z_b2 hf
              refine za_callV (n := 3) (rest := []) C (cX6_runsOne_ok l D ck ad n x1 x2 x3 M _ _ hc11) gX6_first_X6_runsOne rfl rfl rfl (by decide +kernel) ⟨Nat.le_of_ble_eq_true rfl, Nat.le_of_ble_eq_true rfl⟩ 0 rfl rfl rfl rfl rfl (Nat.le_of_ble_eq_true rfl) ⟨Nat.zero_le _, Nat.zero_le _⟩ dX6_first_43 ?_
              refine za_iconst (v := (2 : Int32)) C (by decide) dX6_first_46 ?_
              refine za_irem C (by decide) dX6_first_47 ?_
              refine za_iconst (v := (1 : Int32)) C (by decide) dX6_first_48 ?_
              refine za_icmp_ne C 65 (by decide) dX6_first_49 (fun q14 => ?_) (fun q14 => ?_)
              · have hf := z_neg q14 hf
                obtain ⟨v15, ev15, hf⟩ := z_lt hf
                refine za_iinc (k9 := (1 : Int32)) C [(3, .int v15), (0, .ref (ad 0)), (1, .int x1), (2, .int x2)] 3 rfl (by decide) ev15 (by decide) rfl dX6_first_65 ?_
                refine za_goto C 30 (by decide) dX6_first_68 ?_
                exact za_sub [1, 2, 3, 0] rfl (hN _ (z_inj hf))
              · have hf := z_pos q14 hf
                refine za_sipush (v := (10000 : Int32)) C (by decide) dX6_first_52 ?_
                refine za_iload_n C 1 rfl rfl dX6_first_55 ?_
                refine za_imul C dX6_first_56 ?_
                refine za_bipush (v := (10 : Int32)) C (by decide) dX6_first_57 ?_
                refine za_iload_n C 2 rfl rfl dX6_first_59 ?_
                refine za_imul C dX6_first_60 ?_
                refine za_iadd C dX6_first_61 ?_
                refine za_iload_n C 3 rfl rfl dX6_first_62 ?_
                refine za_iadd C dX6_first_63 ?_
                exact za_iret C (hE _ (z_inj hf)) dX6_first_64
          · cases q20 with
            | inl q =>
              obtain ⟨v16, N17⟩ := q
              have hf := z_inl hf
              try dsimp only at hf
              show za_At p l e { frames := 5, cells := 0, slots := 0, locals := 115 } s m args below meth c D A 4 0 0 Q 71 [(0, .ref (ad 0)), (1, .int x1), (2, .int x2), (3, .int v16)] [] (wR ad ck N17)
              obtain ⟨v18, ev18, hf⟩ := z_lt hf
              refine za_iinc (k9 := (1 : Int32)) C [(2, .int v18), (0, .ref (ad 0)), (1, .int x1), (3, .int v16)] 2 rfl (by decide) ev18 (by decide) rfl dX6_first_71 ?_
              refine za_goto C 20 (by decide) dX6_first_74 ?_
              exact za_sub [1, 2, 0] rfl (hN _ (z_inj hf))
            | inr x =>
              have hf := z_inr hf
              exact hE _ (z_inj hf)
      · cases q25 with
        | inl q =>
          obtain ⟨v21, N22⟩ := q
          have hf := z_inl hf
          try dsimp only at hf
          show za_At p l e { frames := 5, cells := 0, slots := 0, locals := 115 } s m args below meth c D A 4 0 0 Q 77 [(0, .ref (ad 0)), (1, .int x1), (2, .int v21)] [] (wR ad ck N22)
          obtain ⟨v23, ev23, hf⟩ := z_lt hf
          refine za_iinc (k9 := (1 : Int32)) C [(1, .int v23), (0, .ref (ad 0)), (2, .int v21)] 1 rfl (by decide) ev23 (by decide) rfl dX6_first_77 ?_
          refine za_goto C 10 (by decide) dX6_first_80 ?_
          exact za_sub [1, 0] rfl (hN _ (z_inj hf))
        | inr x =>
          have hf := z_inr hf
          exact hE _ (z_inj hf)
  · cases q29 with
    | inl q =>
      obtain ⟨v26, N27⟩ := q
      have hf := z_inl hf
      try dsimp only at hf
      show za_At p l e { frames := 5, cells := 0, slots := 0, locals := 115 } s m args below meth c D A 4 0 0 Q 83 [(0, .ref (ad 0)), (1, .int v26)] [] (wR ad ck N27)
      refine za_iconst (v := (-1 : Int32)) C (by decide) dX6_first_83 ?_
      obtain ⟨rfl, rfl⟩ := z_ret2 hf
      exact za_iret C F dX6_first_84
    | inr x =>
      have hf := z_inr hf
      cases hf
      exact F
theorem in_X6_masked_X6 : ∀ w ∈ wsX60, w ∈ wsX6_masked := by decide +kernel
theorem fl_X6_masked_35 : Cond.fieldLink RX6 35 "ThriceNetsModel" "span" "I" ∈ wsX6_masked := by decide +kernel
def B_X6_masked_31 (n : Nat) (x1 : Int32) (x2 : Int32) (x3 : Int32) (M : zM) : Option ((Int32 × zM) ⊕ ((Int32 × zM) ⊕ (Int32 × zM))) :=
  (pX6_copiesOf x1 M).bind (fun v10 => (if v10 ≤ x3 then (some (.inr (.inl (x3, M)))) else (zb2 (pX6_runsOne n x2 x1 x3 M) (fun v13 N14 => (if (v13 - v13 / (2 : Int32) * (2 : Int32)) = (1 : Int32) then (some (.inr (.inr ((0 : Int32), N14)))) else (zlt (x3 + (1 : Int32)) (fun v16 => some (.inl (v16, N14)))))))))
def B_X6_masked_21 (n : Nat) (x1 : Int32) (x2 : Int32) (M : zM) : Option ((Int32 × zM) ⊕ ((Int32 × zM) ⊕ (Int32 × zM))) :=
  (if (M.1 3 0) ≤ x2 then (some (.inr (.inl (x2, M)))) else (zlt (0 : Int32) (fun v8 => (zwl (fun q => B_X6_masked_31 n x1 x2 q.1 q.2) n (v8, M)).bind (fun q21 => Sum.elim (fun q => zlt (x2 + (1 : Int32)) (fun v19 => some (.inl (v19, q.2)))) (fun x => some (.inr (.inr x))) q21))))
def pX6_masked (n : Nat) (x1 : Int32) (M0 : zM) : Option (Int32 × zM) :=
  (pX6_isNode x1 M0).bind (fun v2 => (if v2 = 0 then (some ((-2 : Int32), M0)) else ((pX6_runsBare n (M0.1 3 0) M0).bind (fun N5 => zlt (0 : Int32) (fun v6 => (zwl (fun q => B_X6_masked_21 n x1 q.1 q.2) n (v6, N5)).bind (fun q25 => Sum.elim (fun q => some ((1 : Int32), q.2)) (fun x => some x) q25))))))
set_option maxHeartbeats 4000000 in
set_option maxRecDepth 100000 in
theorem cX6_masked_ok (l : Launch) (D : va_G) (ck : Nat → ClassId) (ad : Nat → Nat) (n : Nat) (x1 : Int32) (M0 : zM) (r9 : Int32) (M9 : zM) (hf : pX6_masked n x1 M0 = some (r9, M9)) : zc l D ck (wR ad ck) yX6_masked wsX6_masked ({ frames := 5, cells := 0, slots := 0, locals := 115 }) [.ref (ad 0), .int x1] M0 (some (.int r9)) M9 := by
  refine zc_of (cc := cX6_masked) (maxL := 4) (ret := (some .int)) [(0, .ref (ad 0)), (1, .int x1)] (by decide) rfl (Nat.le_of_ble_eq_true rfl) rfl ?_
  intro p e s m args below meth c A Q C F
  unfold pX6_masked at hf
  refine za_aload_n C 0 rfl rfl dX6_masked_0 ?_
  refine za_iload_n C 1 rfl rfl dX6_masked_1 ?_
  obtain ⟨v2, hc1, hf⟩ := z_bind hf
  refine za_callV (n := 1) (rest := []) C (cX6_isNode_ok l D ck ad x1 M0 _ hc1) gX6_masked_X6_isNode rfl rfl rfl (by decide +kernel) ⟨Nat.le_of_ble_eq_true rfl, Nat.le_of_ble_eq_true rfl⟩ 0 rfl rfl rfl rfl rfl (Nat.le_of_ble_eq_true rfl) ⟨Nat.zero_le _, Nat.zero_le _⟩ dX6_masked_2 ?_
  refine za_if_ne C 11 (by decide) dX6_masked_5 (fun q3 => ?_) (fun q3 => ?_)
  · have hf := z_neg q3 hf
    refine za_aload_n C 0 rfl rfl dX6_masked_11 ?_
    refine za_aload_n C 0 rfl rfl dX6_masked_12 ?_
    refine zg_R0_11 C in_X6_masked_X6 fl_X6_masked_35 dX6_masked_13 ?_
    obtain ⟨N5, hc4, hf⟩ := z_bind hf
    refine za_callV (n := 1) (rest := []) C (cX6_runsBare_ok l D ck ad n (M0.1 3 0) M0 _ hc4) gX6_masked_X6_runsBare rfl rfl rfl (by decide +kernel) ⟨Nat.le_of_ble_eq_true rfl, Nat.le_of_ble_eq_true rfl⟩ 0 rfl rfl rfl rfl rfl (Nat.le_of_ble_eq_true rfl) ⟨Nat.zero_le _, Nat.zero_le _⟩ dX6_masked_16 ?_
    refine za_iconst (v := (0 : Int32)) C (by decide) dX6_masked_19 ?_
    obtain ⟨v6, ev6, hf⟩ := z_lt hf
    refine za_istore_n C [(2, .int v6), (0, .ref (ad 0)), (1, .int x1)] ev6 (by decide) rfl rfl dX6_masked_20 ?_
    obtain ⟨q25, hw24, hf⟩ := z_bind hf
    refine za_sub [1, 2, 0] rfl ?_
    refine z_wl (P := fun q => za_At p l e { frames := 5, cells := 0, slots := 0, locals := 115 } s m args below meth c D A 4 0 0 Q 21 [(0, .ref (ad 0)), (1, .int x1), (2, .int q.1)] [] (wR ad ck q.2)) (E := fun q => Sum.elim (fun q => za_At p l e { frames := 5, cells := 0, slots := 0, locals := 115 } s m args below meth c D A 4 0 0 Q 67 [(0, .ref (ad 0)), (1, .int x1), (2, .int q.1)] [] (wR ad ck q.2)) (fun x => za_Fin s meth below args D ck (wR ad ck) A Q M0 (some .int) (some (.int x.1)) x.2) q) ?_ ?_ _ _ hw24
    · intro q o hf hN hE
      obtain ⟨x2, M⟩ := q
      have hf : B_X6_masked_21 n x1 x2 M = some o := hf
      unfold B_X6_masked_21 at hf
      refine za_iload_n C 2 rfl rfl dX6_masked_21 ?_
      refine za_aload_n C 0 rfl rfl dX6_masked_22 ?_
      refine zg_R0_11 C in_X6_masked_X6 fl_X6_masked_35 dX6_masked_23 ?_
      refine za_icmp_ge C 67 (by decide) dX6_masked_26 (fun q7 => ?_) (fun q7 => ?_)
      · have hf := z_pos q7 hf
        exact za_sub [0, 1, 2] rfl (hE _ (z_inj hf))
      · have hf := z_neg q7 hf
        refine za_iconst (v := (0 : Int32)) C (by decide) dX6_masked_29 ?_
        obtain ⟨v8, ev8, hf⟩ := z_lt hf
        refine za_istore_n C [(3, .int v8), (0, .ref (ad 0)), (1, .int x1), (2, .int x2)] ev8 (by decide) rfl rfl dX6_masked_30 ?_
        obtain ⟨q21, hw20, hf⟩ := z_bind hf
        refine za_sub [1, 2, 3, 0] rfl ?_
        refine z_wl (P := fun q => za_At p l e { frames := 5, cells := 0, slots := 0, locals := 115 } s m args below meth c D A 4 0 0 Q 31 [(0, .ref (ad 0)), (1, .int x1), (2, .int x2), (3, .int q.1)] [] (wR ad ck q.2)) (E := fun q => Sum.elim (fun q => za_At p l e { frames := 5, cells := 0, slots := 0, locals := 115 } s m args below meth c D A 4 0 0 Q 61 [(0, .ref (ad 0)), (1, .int x1), (2, .int x2), (3, .int q.1)] [] (wR ad ck q.2)) (fun x => za_Fin s meth below args D ck (wR ad ck) A Q M0 (some .int) (some (.int x.1)) x.2) q) ?_ ?_ _ _ hw20
        · intro q o hf hN hE
          obtain ⟨x3, M⟩ := q
          have hf : B_X6_masked_31 n x1 x2 x3 M = some o := hf
          unfold B_X6_masked_31 at hf
          refine za_iload_n C 3 rfl rfl dX6_masked_31 ?_
          refine za_aload_n C 0 rfl rfl dX6_masked_32 ?_
          refine za_iload_n C 1 rfl rfl dX6_masked_33 ?_
          obtain ⟨v10, hc9, hf⟩ := z_bind hf
          refine za_callV (n := 1) (rest := [.int x3]) C (cX6_copiesOf_ok l D ck ad x1 M _ hc9) gX6_masked_X6_copiesOf rfl rfl rfl (by decide +kernel) ⟨Nat.le_of_ble_eq_true rfl, Nat.le_of_ble_eq_true rfl⟩ 0 rfl rfl rfl rfl rfl (Nat.le_of_ble_eq_true rfl) ⟨Nat.zero_le _, Nat.zero_le _⟩ dX6_masked_34 ?_
          refine za_icmp_ge C 61 (by decide) dX6_masked_37 (fun q11 => ?_) (fun q11 => ?_)
          · have hf := z_pos q11 hf
            exact za_sub [0, 1, 2, 3] rfl (hE _ (z_inj hf))
          · have hf := z_neg q11 hf
            refine za_aload_n C 0 rfl rfl dX6_masked_40 ?_
            refine za_iload_n C 2 rfl rfl dX6_masked_41 ?_
            refine za_iload_n C 1 rfl rfl dX6_masked_42 ?_
            refine za_iload_n C 3 rfl rfl dX6_masked_43 ?_
            obtain ⟨v13, N14, hc12, hf⟩ := z_b2 hf
            refine za_callV (n := 3) (rest := []) C (cX6_runsOne_ok l D ck ad n x2 x1 x3 M _ _ hc12) gX6_masked_X6_runsOne rfl rfl rfl (by decide +kernel) ⟨Nat.le_of_ble_eq_true rfl, Nat.le_of_ble_eq_true rfl⟩ 0 rfl rfl rfl rfl rfl (Nat.le_of_ble_eq_true rfl) ⟨Nat.zero_le _, Nat.zero_le _⟩ dX6_masked_44 ?_
            refine za_iconst (v := (2 : Int32)) C (by decide) dX6_masked_47 ?_
            refine za_irem C (by decide) dX6_masked_48 ?_
            refine za_iconst (v := (1 : Int32)) C (by decide) dX6_masked_49 ?_
            refine za_icmp_ne C 55 (by decide) dX6_masked_50 (fun q15 => ?_) (fun q15 => ?_)
            · have hf := z_neg q15 hf
              obtain ⟨v16, ev16, hf⟩ := z_lt hf
              refine za_iinc (k9 := (1 : Int32)) C [(3, .int v16), (0, .ref (ad 0)), (1, .int x1), (2, .int x2)] 3 rfl (by decide) ev16 (by decide) rfl dX6_masked_55 ?_
              refine za_goto C 31 (by decide) dX6_masked_58 ?_
              exact za_sub [1, 2, 3, 0] rfl (hN _ (z_inj hf))
            · have hf := z_pos q15 hf
              refine za_iconst (v := (0 : Int32)) C (by decide) dX6_masked_53 ?_
              exact za_iret C (hE _ (z_inj hf)) dX6_masked_54
        · cases q21 with
          | inl q =>
            obtain ⟨v17, N18⟩ := q
            have hf := z_inl hf
            try dsimp only at hf
            show za_At p l e { frames := 5, cells := 0, slots := 0, locals := 115 } s m args below meth c D A 4 0 0 Q 61 [(0, .ref (ad 0)), (1, .int x1), (2, .int x2), (3, .int v17)] [] (wR ad ck N18)
            obtain ⟨v19, ev19, hf⟩ := z_lt hf
            refine za_iinc (k9 := (1 : Int32)) C [(2, .int v19), (0, .ref (ad 0)), (1, .int x1), (3, .int v17)] 2 rfl (by decide) ev19 (by decide) rfl dX6_masked_61 ?_
            refine za_goto C 21 (by decide) dX6_masked_64 ?_
            exact za_sub [1, 2, 0] rfl (hN _ (z_inj hf))
          | inr x =>
            have hf := z_inr hf
            exact hE _ (z_inj hf)
    · cases q25 with
      | inl q =>
        obtain ⟨v22, N23⟩ := q
        have hf := z_inl hf
        try dsimp only at hf
        show za_At p l e { frames := 5, cells := 0, slots := 0, locals := 115 } s m args below meth c D A 4 0 0 Q 67 [(0, .ref (ad 0)), (1, .int x1), (2, .int v22)] [] (wR ad ck N23)
        refine za_iconst (v := (1 : Int32)) C (by decide) dX6_masked_67 ?_
        obtain ⟨rfl, rfl⟩ := z_ret2 hf
        exact za_iret C F dX6_masked_68
      | inr x =>
        have hf := z_inr hf
        cases hf
        exact F
  · have hf := z_pos q3 hf
    refine za_bipush (v := (-2 : Int32)) C (by decide) dX6_masked_8 ?_
    obtain ⟨rfl, rfl⟩ := z_ret2 hf
    exact za_iret C F dX6_masked_10
theorem in_X6_pairs_X6 : ∀ w ∈ wsX60, w ∈ wsX6_pairs := by decide +kernel
theorem fl_X6_pairs_35 : Cond.fieldLink RX6 35 "ThriceNetsModel" "span" "I" ∈ wsX6_pairs := by decide +kernel
theorem fl_X6_pairs_78 : Cond.fieldLink RX6 78 "ThriceNetsModel" "nodes" "I" ∈ wsX6_pairs := by decide +kernel
def K_X6_pairs_122 (n : Nat) (x1 : Int32) (x2 : Int32) (x3 : Int32) (x4 : Int32) (x5 : Int32) (y0 : Int32) (y1 : Int32) (M : zM) : Option ((Int32 × Int32 × zM) ⊕ (Int32 × Int32 × zM)) :=
  zlt (y1 + y0) (fun v10 => zlt (x4 + (1 : Int32)) (fun v11 => some (.inl (v10, v11, M))))
def K_X6_pairs_88 (n : Nat) (x1 : Int32) (x2 : Int32) (x3 : Int32) (x4 : Int32) (y0 : Int32) (M : zM) : Option ((Int32 × Int32 × zM) ⊕ (Int32 × Int32 × zM)) :=
  zlt y0 (fun v12 => (if v12 = 0 then (K_X6_pairs_122 n x1 x2 x3 x4 v12 (0 : Int32) x2 M) else (zb2 (pX6_runsTwo n (x3 / (3 : Int32)) (x3 - x3 / (3 : Int32) * (3 : Int32)) x1 (x4 / (3 : Int32)) (x4 - x4 / (3 : Int32) * (3 : Int32)) x1 M) (fun v15 N16 => K_X6_pairs_122 n x1 x2 x3 x4 v12 (v15 - v15 / (2 : Int32) * (2 : Int32)) x2 N16))))
def K_X6_pairs_87 (n : Nat) (x1 : Int32) (x2 : Int32) (x3 : Int32) (x4 : Int32) (M : zM) : Option ((Int32 × Int32 × zM) ⊕ (Int32 × Int32 × zM)) :=
  K_X6_pairs_88 n x1 x2 x3 x4 (0 : Int32) M
def B_X6_pairs_44 (n : Nat) (x1 : Int32) (x2 : Int32) (x3 : Int32) (x4 : Int32) (M : zM) : Option ((Int32 × Int32 × zM) ⊕ (Int32 × Int32 × zM)) :=
  (if ((3 : Int32) * (M.1 0 0)) ≤ x4 then (some (.inr (x2, x4, M))) else ((pX6_copiesOf (x3 / (3 : Int32)) M).bind (fun v19 => (if v19 ≤ (x3 - x3 / (3 : Int32) * (3 : Int32)) then (K_X6_pairs_87 n x1 x2 x3 x4 M) else ((pX6_copiesOf (x4 / (3 : Int32)) M).bind (fun v22 => (if v22 ≤ (x4 - x4 / (3 : Int32) * (3 : Int32)) then (K_X6_pairs_87 n x1 x2 x3 x4 M) else (K_X6_pairs_88 n x1 x2 x3 x4 (1 : Int32) M))))))))
def B_X6_pairs_29 (n : Nat) (x1 : Int32) (x2 : Int32) (x3 : Int32) (M : zM) : Option ((Int32 × Int32 × zM) ⊕ (Int32 × Int32 × zM)) :=
  (if ((3 : Int32) * (M.1 0 0)) ≤ x3 then (some (.inr (x2, x3, M))) else (zlt (x3 + (1 : Int32)) (fun v9 => zb3 (zwl (fun q => B_X6_pairs_44 n x1 q.1 x3 q.2.1 q.2.2) n (x2, v9, M)) (fun v24 v25 N26 => zlt (x3 + (1 : Int32)) (fun v27 => some (.inl (v24, v27, N26)))))))
def pX6_pairs (n : Nat) (x1 : Int32) (M0 : zM) : Option (Int32 × zM) :=
  (pX6_in x1 (0 : Int32) ((M0.1 3 0) - (1 : Int32)) M0).bind (fun v2 => (if v2 = 0 then (some ((-2 : Int32), M0)) else ((pX6_runsBare n (M0.1 3 0) M0).bind (fun N5 => zlt (0 : Int32) (fun v6 => zlt (0 : Int32) (fun v7 => zb3 (zwl (fun q => B_X6_pairs_29 n x1 q.1 q.2.1 q.2.2) n (v6, v7, N5)) (fun v29 v30 N31 => some (v29, N31))))))))
set_option maxHeartbeats 4000000 in
set_option maxRecDepth 100000 in
theorem cX6_pairs_ok (l : Launch) (D : va_G) (ck : Nat → ClassId) (ad : Nat → Nat) (n : Nat) (x1 : Int32) (M0 : zM) (r9 : Int32) (M9 : zM) (hf : pX6_pairs n x1 M0 = some (r9, M9)) : zc l D ck (wR ad ck) yX6_pairs wsX6_pairs ({ frames := 5, cells := 0, slots := 0, locals := 118 }) [.ref (ad 0), .int x1] M0 (some (.int r9)) M9 := by
  refine zc_of (cc := cX6_pairs) (maxL := 6) (ret := (some .int)) [(0, .ref (ad 0)), (1, .int x1)] (by decide) rfl (Nat.le_of_ble_eq_true rfl) rfl ?_
  intro p e s m args below meth c A Q C F
  unfold pX6_pairs at hf
  refine za_iload_n C 1 rfl rfl dX6_pairs_0 ?_
  refine za_iconst (v := (0 : Int32)) C (by decide) dX6_pairs_1 ?_
  refine za_aload_n C 0 rfl rfl dX6_pairs_2 ?_
  refine zg_R0_11 C in_X6_pairs_X6 fl_X6_pairs_35 dX6_pairs_3 ?_
  refine za_iconst (v := (1 : Int32)) C (by decide) dX6_pairs_6 ?_
  refine za_isub C dX6_pairs_7 ?_
  obtain ⟨v2, hc1, hf⟩ := z_bind hf
  refine za_callS (n := 3) (rest := []) C (cX6_in_ok l D ck ad x1 (0 : Int32) ((M0.1 3 0) - (1 : Int32)) M0 _ hc1) gX6_pairs_X6_in rfl rfl rfl (by decide +kernel) ⟨Nat.le_of_ble_eq_true rfl, Nat.le_of_ble_eq_true rfl⟩ rfl rfl (Nat.le_of_ble_eq_true rfl) ⟨Nat.zero_le _, Nat.zero_le _⟩ dX6_pairs_8 ?_
  refine za_if_ne C 17 (by decide) dX6_pairs_11 (fun q3 => ?_) (fun q3 => ?_)
  · have hf := z_neg q3 hf
    refine za_aload_n C 0 rfl rfl dX6_pairs_17 ?_
    refine za_aload_n C 0 rfl rfl dX6_pairs_18 ?_
    refine zg_R0_11 C in_X6_pairs_X6 fl_X6_pairs_35 dX6_pairs_19 ?_
    obtain ⟨N5, hc4, hf⟩ := z_bind hf
    refine za_callV (n := 1) (rest := []) C (cX6_runsBare_ok l D ck ad n (M0.1 3 0) M0 _ hc4) gX6_pairs_X6_runsBare rfl rfl rfl (by decide +kernel) ⟨Nat.le_of_ble_eq_true rfl, Nat.le_of_ble_eq_true rfl⟩ 0 rfl rfl rfl rfl rfl (Nat.le_of_ble_eq_true rfl) ⟨Nat.zero_le _, Nat.zero_le _⟩ dX6_pairs_22 ?_
    refine za_iconst (v := (0 : Int32)) C (by decide) dX6_pairs_25 ?_
    obtain ⟨v6, ev6, hf⟩ := z_lt hf
    refine za_istore_n C [(2, .int v6), (0, .ref (ad 0)), (1, .int x1)] ev6 (by decide) rfl rfl dX6_pairs_26 ?_
    refine za_iconst (v := (0 : Int32)) C (by decide) dX6_pairs_27 ?_
    obtain ⟨v7, ev7, hf⟩ := z_lt hf
    refine za_istore_n C [(3, .int v7), (2, .int v6), (0, .ref (ad 0)), (1, .int x1)] ev7 (by decide) rfl rfl dX6_pairs_28 ?_
    obtain ⟨v29, v30, N31, hw32, hf⟩ := z_b3 hf
    refine za_sub [2, 3, 1, 0] rfl ?_
    refine z_wl (P := fun q => za_At p l e { frames := 5, cells := 0, slots := 0, locals := 118 } s m args below meth c D A 6 0 0 Q 29 [(0, .ref (ad 0)), (1, .int x1), (2, .int q.1), (3, .int q.2.1)] [] (wR ad ck q.2.2)) (E := fun q => za_At p l e { frames := 5, cells := 0, slots := 0, locals := 118 } s m args below meth c D A 6 0 0 Q 136 [(0, .ref (ad 0)), (1, .int x1), (2, .int q.1), (3, .int q.2.1)] [] (wR ad ck q.2.2)) ?_ ?_ _ _ hw32
    · intro q o hf hN hE
      obtain ⟨x2, x3, M⟩ := q
      have hf : B_X6_pairs_29 n x1 x2 x3 M = some o := hf
      unfold B_X6_pairs_29 at hf
      refine za_iload_n C 3 rfl rfl dX6_pairs_29 ?_
      refine za_iconst (v := (3 : Int32)) C (by decide) dX6_pairs_30 ?_
      refine za_aload_n C 0 rfl rfl dX6_pairs_31 ?_
      refine zg_R0_0 C in_X6_pairs_X6 fl_X6_pairs_78 dX6_pairs_32 ?_
      refine za_imul C dX6_pairs_35 ?_
      refine za_icmp_ge C 136 (by decide) dX6_pairs_36 (fun q8 => ?_) (fun q8 => ?_)
      · have hf := z_pos q8 hf
        exact za_sub [0, 1, 2, 3] rfl (hE _ (z_inj hf))
      · have hf := z_neg q8 hf
        refine za_iload_n C 3 rfl rfl dX6_pairs_39 ?_
        refine za_iconst (v := (1 : Int32)) C (by decide) dX6_pairs_40 ?_
        refine za_iadd C dX6_pairs_41 ?_
        obtain ⟨v9, ev9, hf⟩ := z_lt hf
        refine za_istore C [(4, .int v9), (0, .ref (ad 0)), (1, .int x1), (2, .int x2), (3, .int x3)] ev9 (by decide) rfl dX6_pairs_42 ?_
        obtain ⟨v24, v25, N26, hw28, hf⟩ := z_b3 hf
        refine za_sub [1, 2, 3, 4, 0] rfl ?_
        refine z_wl (P := fun q => za_At p l e { frames := 5, cells := 0, slots := 0, locals := 118 } s m args below meth c D A 6 0 0 Q 44 [(0, .ref (ad 0)), (1, .int x1), (2, .int q.1), (3, .int x3), (4, .int q.2.1)] [] (wR ad ck q.2.2)) (E := fun q => za_At p l e { frames := 5, cells := 0, slots := 0, locals := 118 } s m args below meth c D A 6 0 0 Q 130 [(0, .ref (ad 0)), (1, .int x1), (2, .int q.1), (3, .int x3), (4, .int q.2.1)] [] (wR ad ck q.2.2)) ?_ ?_ _ _ hw28
        · intro q o hf hN hE
          obtain ⟨x2, x4, M⟩ := q
          have hf : B_X6_pairs_44 n x1 x2 x3 x4 M = some o := hf
          unfold B_X6_pairs_44 at hf
          have j_122 : ∀ (x2 : Int32) (x4 : Int32) (x5 : Int32) (y0 : Int32) (y1 : Int32) (M : zM), K_X6_pairs_122 n x1 x2 x3 x4 x5 y0 y1 M = some o → za_At p l e { frames := 5, cells := 0, slots := 0, locals := 118 } s m args below meth c D A 6 0 0 Q 122 [(0, .ref (ad 0)), (1, .int x1), (2, .int x2), (3, .int x3), (4, .int x4), (5, .int x5)] [.int y0, .int y1] (wR ad ck M) := by
            intro x2 x4 x5 y0 y1 M hf
            unfold K_X6_pairs_122 at hf
            refine za_iadd C dX6_pairs_122 ?_
            obtain ⟨v10, ev10, hf⟩ := z_lt hf
            refine za_istore_n C [(2, .int v10), (0, .ref (ad 0)), (1, .int x1), (3, .int x3), (4, .int x4), (5, .int x5)] ev10 (by decide) rfl rfl dX6_pairs_123 ?_
            obtain ⟨v11, ev11, hf⟩ := z_lt hf
            refine za_iinc (k9 := (1 : Int32)) C [(4, .int v11), (2, .int v10), (0, .ref (ad 0)), (1, .int x1), (3, .int x3), (5, .int x5)] 4 rfl (by decide) ev11 (by decide) rfl dX6_pairs_124 ?_
            refine za_goto C 44 (by decide) dX6_pairs_127 ?_
            exact za_sub [2, 3, 1, 4, 0] rfl (hN _ (z_inj hf))
          have j_88 : ∀ (x2 : Int32) (x4 : Int32) (y0 : Int32) (M : zM), K_X6_pairs_88 n x1 x2 x3 x4 y0 M = some o → za_At p l e { frames := 5, cells := 0, slots := 0, locals := 118 } s m args below meth c D A 6 0 0 Q 88 [(0, .ref (ad 0)), (1, .int x1), (2, .int x2), (3, .int x3), (4, .int x4)] [.int y0] (wR ad ck M) := by
            intro x2 x4 y0 M hf
            unfold K_X6_pairs_88 at hf
            obtain ⟨v12, ev12, hf⟩ := z_lt hf
            refine za_istore C [(5, .int v12), (0, .ref (ad 0)), (1, .int x1), (2, .int x2), (3, .int x3), (4, .int x4)] ev12 (by decide) rfl dX6_pairs_88 ?_
            refine za_iload_n C 3 rfl rfl dX6_pairs_90 ?_
            refine za_iload C 0 rfl dX6_pairs_91 ?_
            refine za_if_eq C 121 (by decide) dX6_pairs_93 (fun q13 => ?_) (fun q13 => ?_)
            · have hf := z_pos q13 hf
              refine za_iconst (v := (0 : Int32)) C (by decide) dX6_pairs_121 ?_
              exact za_sub [1, 2, 3, 4, 5, 0] rfl (j_122 x2 x4 v12 (0 : Int32) x2 M hf)
            · have hf := z_neg q13 hf
              refine za_aload_n C 1 rfl rfl dX6_pairs_96 ?_
              refine za_iload_n C 4 rfl rfl dX6_pairs_97 ?_
              refine za_iconst (v := (3 : Int32)) C (by decide) dX6_pairs_98 ?_
              refine za_idiv C (by decide) dX6_pairs_99 ?_
              refine za_iload_n C 4 rfl rfl dX6_pairs_100 ?_
              refine za_iconst (v := (3 : Int32)) C (by decide) dX6_pairs_101 ?_
              refine za_irem C (by decide) dX6_pairs_102 ?_
              refine za_iload_n C 2 rfl rfl dX6_pairs_103 ?_
              refine za_iload C 5 rfl dX6_pairs_104 ?_
              refine za_iconst (v := (3 : Int32)) C (by decide) dX6_pairs_106 ?_
              refine za_idiv C (by decide) dX6_pairs_107 ?_
              refine za_iload C 5 rfl dX6_pairs_108 ?_
              refine za_iconst (v := (3 : Int32)) C (by decide) dX6_pairs_110 ?_
              refine za_irem C (by decide) dX6_pairs_111 ?_
              refine za_iload_n C 2 rfl rfl dX6_pairs_112 ?_
              obtain ⟨v15, N16, hc14, hf⟩ := z_b2 hf
              refine za_callV (n := 6) (rest := [.int x2]) C (cX6_runsTwo_ok l D ck ad n (x3 / (3 : Int32)) (x3 - x3 / (3 : Int32) * (3 : Int32)) x1 (x4 / (3 : Int32)) (x4 - x4 / (3 : Int32) * (3 : Int32)) x1 M _ _ hc14) gX6_pairs_X6_runsTwo rfl rfl rfl (by decide +kernel) ⟨Nat.le_of_ble_eq_true rfl, Nat.le_of_ble_eq_true rfl⟩ 0 rfl rfl rfl rfl rfl (Nat.le_of_ble_eq_true rfl) ⟨Nat.zero_le _, Nat.zero_le _⟩ dX6_pairs_113 ?_
              refine za_iconst (v := (2 : Int32)) C (by decide) dX6_pairs_116 ?_
              refine za_irem C (by decide) dX6_pairs_117 ?_
              refine za_goto C 122 (by decide) dX6_pairs_118 ?_
              exact za_sub [1, 2, 3, 4, 5, 0] rfl (j_122 x2 x4 v12 (v15 - v15 / (2 : Int32) * (2 : Int32)) x2 N16 hf)
          have j_87 : ∀ (x2 : Int32) (x4 : Int32) (M : zM), K_X6_pairs_87 n x1 x2 x3 x4 M = some o → za_At p l e { frames := 5, cells := 0, slots := 0, locals := 118 } s m args below meth c D A 6 0 0 Q 87 [(0, .ref (ad 0)), (1, .int x1), (2, .int x2), (3, .int x3), (4, .int x4)] [] (wR ad ck M) := by
            intro x2 x4 M hf
            unfold K_X6_pairs_87 at hf
            refine za_iconst (v := (0 : Int32)) C (by decide) dX6_pairs_87 ?_
            exact za_sub [0, 1, 2, 3, 4] rfl (j_88 x2 x4 (0 : Int32) M hf)
          refine za_iload C 4 rfl dX6_pairs_44 ?_
          refine za_iconst (v := (3 : Int32)) C (by decide) dX6_pairs_46 ?_
          refine za_aload_n C 0 rfl rfl dX6_pairs_47 ?_
          refine zg_R0_0 C in_X6_pairs_X6 fl_X6_pairs_78 dX6_pairs_48 ?_
          refine za_imul C dX6_pairs_51 ?_
          refine za_icmp_ge C 130 (by decide) dX6_pairs_52 (fun q17 => ?_) (fun q17 => ?_)
          · have hf := z_pos q17 hf
            exact za_sub [0, 1, 2, 3, 4] rfl (hE _ (z_inj hf))
          · have hf := z_neg q17 hf
            refine za_iload_n C 3 rfl rfl dX6_pairs_55 ?_
            refine za_iconst (v := (3 : Int32)) C (by decide) dX6_pairs_56 ?_
            refine za_irem C (by decide) dX6_pairs_57 ?_
            refine za_aload_n C 0 rfl rfl dX6_pairs_58 ?_
            refine za_iload_n C 3 rfl rfl dX6_pairs_59 ?_
            refine za_iconst (v := (3 : Int32)) C (by decide) dX6_pairs_60 ?_
            refine za_idiv C (by decide) dX6_pairs_61 ?_
            obtain ⟨v19, hc18, hf⟩ := z_bind hf
            refine za_callV (n := 1) (rest := [.int (x3 - x3 / (3 : Int32) * (3 : Int32))]) C (cX6_copiesOf_ok l D ck ad (x3 / (3 : Int32)) M _ hc18) gX6_pairs_X6_copiesOf rfl rfl rfl (by decide +kernel) ⟨Nat.le_of_ble_eq_true rfl, Nat.le_of_ble_eq_true rfl⟩ 0 rfl rfl rfl rfl rfl (Nat.le_of_ble_eq_true rfl) ⟨Nat.zero_le _, Nat.zero_le _⟩ dX6_pairs_62 ?_
            refine za_icmp_ge C 87 (by decide) dX6_pairs_65 (fun q20 => ?_) (fun q20 => ?_)
            · have hf := z_pos q20 hf
              exact za_sub [0, 1, 2, 3, 4] rfl (j_87 x2 x4 M hf)
            · have hf := z_neg q20 hf
              refine za_iload C 4 rfl dX6_pairs_68 ?_
              refine za_iconst (v := (3 : Int32)) C (by decide) dX6_pairs_70 ?_
              refine za_irem C (by decide) dX6_pairs_71 ?_
              refine za_aload_n C 0 rfl rfl dX6_pairs_72 ?_
              refine za_iload C 4 rfl dX6_pairs_73 ?_
              refine za_iconst (v := (3 : Int32)) C (by decide) dX6_pairs_75 ?_
              refine za_idiv C (by decide) dX6_pairs_76 ?_
              obtain ⟨v22, hc21, hf⟩ := z_bind hf
              refine za_callV (n := 1) (rest := [.int (x4 - x4 / (3 : Int32) * (3 : Int32))]) C (cX6_copiesOf_ok l D ck ad (x4 / (3 : Int32)) M _ hc21) gX6_pairs_X6_copiesOf rfl rfl rfl (by decide +kernel) ⟨Nat.le_of_ble_eq_true rfl, Nat.le_of_ble_eq_true rfl⟩ 0 rfl rfl rfl rfl rfl (Nat.le_of_ble_eq_true rfl) ⟨Nat.zero_le _, Nat.zero_le _⟩ dX6_pairs_77 ?_
              refine za_icmp_ge C 87 (by decide) dX6_pairs_80 (fun q23 => ?_) (fun q23 => ?_)
              · have hf := z_pos q23 hf
                exact za_sub [0, 1, 2, 3, 4] rfl (j_87 x2 x4 M hf)
              · have hf := z_neg q23 hf
                refine za_iconst (v := (1 : Int32)) C (by decide) dX6_pairs_83 ?_
                refine za_goto C 88 (by decide) dX6_pairs_84 ?_
                exact za_sub [0, 1, 2, 3, 4] rfl (j_88 x2 x4 (1 : Int32) M hf)
        · show za_At p l e { frames := 5, cells := 0, slots := 0, locals := 118 } s m args below meth c D A 6 0 0 Q 130 [(0, .ref (ad 0)), (1, .int x1), (2, .int v24), (3, .int x3), (4, .int v25)] [] (wR ad ck N26)
          obtain ⟨v27, ev27, hf⟩ := z_lt hf
          refine za_iinc (k9 := (1 : Int32)) C [(3, .int v27), (0, .ref (ad 0)), (1, .int x1), (2, .int v24), (4, .int v25)] 3 rfl (by decide) ev27 (by decide) rfl dX6_pairs_130 ?_
          refine za_goto C 29 (by decide) dX6_pairs_133 ?_
          exact za_sub [1, 2, 3, 0] rfl (hN _ (z_inj hf))
    · show za_At p l e { frames := 5, cells := 0, slots := 0, locals := 118 } s m args below meth c D A 6 0 0 Q 136 [(0, .ref (ad 0)), (1, .int x1), (2, .int v29), (3, .int v30)] [] (wR ad ck N31)
      refine za_iload_n C 2 rfl rfl dX6_pairs_136 ?_
      obtain ⟨rfl, rfl⟩ := z_ret2 hf
      exact za_iret C F dX6_pairs_137
  · have hf := z_pos q3 hf
    refine za_bipush (v := (-2 : Int32)) C (by decide) dX6_pairs_14 ?_
    obtain ⟨rfl, rfl⟩ := z_ret2 hf
    exact za_iret C F dX6_pairs_16
theorem in_X6_reach_X6 : ∀ w ∈ wsX60, w ∈ wsX6_reach := by decide +kernel
theorem fl_X6_reach_78 : Cond.fieldLink RX6 78 "ThriceNetsModel" "nodes" "I" ∈ wsX6_reach := by decide +kernel
theorem fl_X6_reach_7 : Cond.fieldLink RX6 7 "ThriceNetsModel" "kinds" "[I" ∈ wsX6_reach := by decide +kernel
theorem fl_X6_reach_54 : Cond.fieldLink RX6 54 "ThriceNetsModel" "reached" "[I" ∈ wsX6_reach := by decide +kernel
theorem fl_X6_reach_13 : Cond.fieldLink RX6 13 "ThriceNetsModel" "first" "[I" ∈ wsX6_reach := by decide +kernel
theorem fl_X6_reach_16 : Cond.fieldLink RX6 16 "ThriceNetsModel" "second" "[I" ∈ wsX6_reach := by decide +kernel
theorem fl_X6_reach_32 : Cond.fieldLink RX6 32 "ThriceNetsModel" "numbers" "[I" ∈ wsX6_reach := by decide +kernel
theorem fl_X6_reach_57 : Cond.fieldLink RX6 57 "ThriceNetsModel" "storeNode" "[I" ∈ wsX6_reach := by decide +kernel
def K_X6_reach_105 (n : Nat) (x1 : Int32) (M : zM) : Option ((Int32 × zM) ⊕ (Int32 × zM)) :=
  zlt (x1 + (1 : Int32)) (fun v2 => some (.inl (v2, M)))
def K_X6_reach_104 (n : Nat) (x1 : Int32) (y0 : Int32) (y1 : Int32) (M : zM) : Option ((Int32 × zM) ⊕ (Int32 × zM)) :=
  zchk y1 24 (zst (zsI M 22 y1.toNatClampNeg y0) (fun N4 => K_X6_reach_105 n x1 N4))
def K_X6_reach_103 (n : Nat) (x1 : Int32) (y0 : Int32) (y1 : Int32) (y2 : Int32) (M : zM) : Option ((Int32 × zM) ⊕ (Int32 × zM)) :=
  K_X6_reach_104 n x1 (y1 ||| y0) y2 M
def B_X6_reach_2 (n : Nat) (x1 : Int32) (M : zM) : Option ((Int32 × zM) ⊕ (Int32 × zM)) :=
  (if (M.1 0 0) ≤ x1 then (some (.inr (x1, M))) else (zchk x1 24 ((if (M.1 10 x1.toNatClampNeg) = (5 : Int32) then (zchk x1 24 (zchk x1 24 (zst (zsI M 22 x1.toNatClampNeg ((1 : Int32) <<< ((M.1 17 x1.toNatClampNeg) &&& 31))) (fun N18 => zchk x1 24 (zchk (N18.1 17 x1.toNatClampNeg) 24 (zst (zsI N18 23 (N18.1 17 x1.toNatClampNeg).toNatClampNeg x1) (fun N21 => K_X6_reach_105 n x1 N21))))))) else (zchk x1 24 ((if (M.1 10 x1.toNatClampNeg) = 0 then (K_X6_reach_104 n x1 (0 : Int32) x1 M) else (zchk x1 24 (zchk (M.1 11 x1.toNatClampNeg) 24 (zchk x1 24 ((if (M.1 12 x1.toNatClampNeg) = (-1 : Int32) then (K_X6_reach_103 n x1 (0 : Int32) (M.1 22 (M.1 11 x1.toNatClampNeg).toNatClampNeg) x1 M) else (zchk x1 24 (zchk (M.1 12 x1.toNatClampNeg) 24 (K_X6_reach_103 n x1 (M.1 22 (M.1 12 x1.toNatClampNeg).toNatClampNeg) (M.1 22 (M.1 11 x1.toNatClampNeg).toNatClampNeg) x1 M)))))))))))))))
def pX6_reach (n : Nat) (M0 : zM) : Option (zM) :=
  zlt (0 : Int32) (fun v1 => zb2 (zwl (fun q => B_X6_reach_2 n q.1 q.2) n (v1, M0)) (fun v22 N23 => some N23))
set_option maxHeartbeats 4000000 in
set_option maxRecDepth 100000 in
theorem cX6_reach_ok (l : Launch) (D : va_G) (ck : Nat → ClassId) (ad : Nat → Nat) (n : Nat) (M0 : zM) (M9 : zM) (hf : pX6_reach n M0 = some M9) : zc l D ck (wR ad ck) yX6_reach wsX6_reach ({ frames := 0, cells := 0, slots := 0, locals := 0 }) [.ref (ad 0)] M0 none M9 := by
  refine zc_of (cc := cX6_reach) (maxL := 2) (ret := none) [(0, .ref (ad 0))] (by decide) rfl (Nat.le_of_ble_eq_true rfl) rfl ?_
  intro p e s m args below meth c A Q C F
  unfold pX6_reach at hf
  refine za_iconst (v := (0 : Int32)) C (by decide) dX6_reach_0 ?_
  obtain ⟨v1, ev1, hf⟩ := z_lt hf
  refine za_istore_n C [(1, .int v1), (0, .ref (ad 0))] ev1 (by decide) rfl rfl dX6_reach_1 ?_
  obtain ⟨v22, N23, hw24, hf⟩ := z_b2 hf
  refine za_sub [1, 0] rfl ?_
  refine z_wl (P := fun q => za_At p l e { frames := 0, cells := 0, slots := 0, locals := 0 } s m args below meth c D A 2 0 0 Q 2 [(0, .ref (ad 0)), (1, .int q.1)] [] (wR ad ck q.2)) (E := fun q => za_At p l e { frames := 0, cells := 0, slots := 0, locals := 0 } s m args below meth c D A 2 0 0 Q 111 [(0, .ref (ad 0)), (1, .int q.1)] [] (wR ad ck q.2)) ?_ ?_ _ _ hw24
  · intro q o hf hN hE
    obtain ⟨x1, M⟩ := q
    have hf : B_X6_reach_2 n x1 M = some o := hf
    unfold B_X6_reach_2 at hf
    have j_105 : ∀ (x1 : Int32) (M : zM), K_X6_reach_105 n x1 M = some o → za_At p l e { frames := 0, cells := 0, slots := 0, locals := 0 } s m args below meth c D A 2 0 0 Q 105 [(0, .ref (ad 0)), (1, .int x1)] [] (wR ad ck M) := by
      intro x1 M hf
      unfold K_X6_reach_105 at hf
      obtain ⟨v2, ev2, hf⟩ := z_lt hf
      refine za_iinc (k9 := (1 : Int32)) C [(1, .int v2), (0, .ref (ad 0))] 1 rfl (by decide) ev2 (by decide) rfl dX6_reach_105 ?_
      refine za_goto C 2 (by decide) dX6_reach_108 ?_
      exact za_sub [1, 0] rfl (hN _ (z_inj hf))
    have j_104 : ∀ (x1 : Int32) (y0 : Int32) (y1 : Int32) (M : zM), K_X6_reach_104 n x1 y0 y1 M = some o → za_At p l e { frames := 0, cells := 0, slots := 0, locals := 0 } s m args below meth c D A 2 0 0 Q 104 [(0, .ref (ad 0)), (1, .int x1)] [.int y0, .int y1, .ref (ad 13)] (wR ad ck M) := by
      intro x1 y0 y1 M hf
      unfold K_X6_reach_104 at hf
      obtain ⟨h3, hf⟩ := z_chk hf
      obtain ⟨N4, eN4, hf⟩ := z_st hf
      refine zs_R13 C h3 eN4 dX6_reach_104 ?_
      exact za_sub [0, 1] rfl (j_105 x1 N4 hf)
    have j_103 : ∀ (x1 : Int32) (y0 : Int32) (y1 : Int32) (y2 : Int32) (M : zM), K_X6_reach_103 n x1 y0 y1 y2 M = some o → za_At p l e { frames := 0, cells := 0, slots := 0, locals := 0 } s m args below meth c D A 2 0 0 Q 103 [(0, .ref (ad 0)), (1, .int x1)] [.int y0, .int y1, .int y2, .ref (ad 13)] (wR ad ck M) := by
      intro x1 y0 y1 y2 M hf
      unfold K_X6_reach_103 at hf
      refine za_ior C dX6_reach_103 ?_
      exact za_sub [0, 1] rfl (j_104 x1 (y1 ||| y0) y2 M hf)
    refine za_iload_n C 1 rfl rfl dX6_reach_2 ?_
    refine za_aload_n C 0 rfl rfl dX6_reach_3 ?_
    refine zg_R0_0 C in_X6_reach_X6 fl_X6_reach_78 dX6_reach_4 ?_
    refine za_icmp_ge C 111 (by decide) dX6_reach_7 (fun q5 => ?_) (fun q5 => ?_)
    · have hf := z_pos q5 hf
      exact za_sub [0, 1] rfl (hE _ (z_inj hf))
    · have hf := z_neg q5 hf
      refine za_aload_n C 0 rfl rfl dX6_reach_10 ?_
      refine zg_R0_1 C in_X6_reach_X6 fl_X6_reach_7 dX6_reach_11 ?_
      refine za_iload_n C 1 rfl rfl dX6_reach_14 ?_
      obtain ⟨h6, hf⟩ := z_chk hf
      refine zl_R1 C h6 dX6_reach_15 ?_
      refine za_iconst (v := (5 : Int32)) C (by decide) dX6_reach_16 ?_
      refine za_icmp_ne C 49 (by decide) dX6_reach_17 (fun q7 => ?_) (fun q7 => ?_)
      · have hf := z_neg q7 hf
        refine za_aload_n C 0 rfl rfl dX6_reach_49 ?_
        refine zg_R0_17 C in_X6_reach_X6 fl_X6_reach_54 dX6_reach_50 ?_
        refine za_iload_n C 1 rfl rfl dX6_reach_53 ?_
        refine za_aload_n C 0 rfl rfl dX6_reach_54 ?_
        refine zg_R0_1 C in_X6_reach_X6 fl_X6_reach_7 dX6_reach_55 ?_
        refine za_iload_n C 1 rfl rfl dX6_reach_58 ?_
        obtain ⟨h8, hf⟩ := z_chk hf
        refine zl_R1 C h8 dX6_reach_59 ?_
        refine za_if_ne C 67 (by decide) dX6_reach_60 (fun q9 => ?_) (fun q9 => ?_)
        · have hf := z_neg q9 hf
          refine za_aload_n C 0 rfl rfl dX6_reach_67 ?_
          refine zg_R0_17 C in_X6_reach_X6 fl_X6_reach_54 dX6_reach_68 ?_
          refine za_aload_n C 0 rfl rfl dX6_reach_71 ?_
          refine zg_R0_2 C in_X6_reach_X6 fl_X6_reach_13 dX6_reach_72 ?_
          refine za_iload_n C 1 rfl rfl dX6_reach_75 ?_
          obtain ⟨h10, hf⟩ := z_chk hf
          refine zl_R2 C h10 dX6_reach_76 ?_
          obtain ⟨h11, hf⟩ := z_chk hf
          refine zl_R13 C h11 dX6_reach_77 ?_
          refine za_aload_n C 0 rfl rfl dX6_reach_78 ?_
          refine zg_R0_3 C in_X6_reach_X6 fl_X6_reach_16 dX6_reach_79 ?_
          refine za_iload_n C 1 rfl rfl dX6_reach_82 ?_
          obtain ⟨h12, hf⟩ := z_chk hf
          refine zl_R3 C h12 dX6_reach_83 ?_
          refine za_iconst (v := (-1 : Int32)) C (by decide) dX6_reach_84 ?_
          refine za_icmp_ne C 92 (by decide) dX6_reach_85 (fun q13 => ?_) (fun q13 => ?_)
          · have hf := z_neg q13 hf
            refine za_aload_n C 0 rfl rfl dX6_reach_92 ?_
            refine zg_R0_17 C in_X6_reach_X6 fl_X6_reach_54 dX6_reach_93 ?_
            refine za_aload_n C 0 rfl rfl dX6_reach_96 ?_
            refine zg_R0_3 C in_X6_reach_X6 fl_X6_reach_16 dX6_reach_97 ?_
            refine za_iload_n C 1 rfl rfl dX6_reach_100 ?_
            obtain ⟨h14, hf⟩ := z_chk hf
            refine zl_R3 C h14 dX6_reach_101 ?_
            obtain ⟨h15, hf⟩ := z_chk hf
            refine zl_R13 C h15 dX6_reach_102 ?_
            exact za_sub [0, 1] rfl (j_103 x1 (M.1 22 (M.1 12 x1.toNatClampNeg).toNatClampNeg) (M.1 22 (M.1 11 x1.toNatClampNeg).toNatClampNeg) x1 M hf)
          · have hf := z_pos q13 hf
            refine za_iconst (v := (0 : Int32)) C (by decide) dX6_reach_88 ?_
            refine za_goto C 103 (by decide) dX6_reach_89 ?_
            exact za_sub [0, 1] rfl (j_103 x1 (0 : Int32) (M.1 22 (M.1 11 x1.toNatClampNeg).toNatClampNeg) x1 M hf)
        · have hf := z_pos q9 hf
          refine za_iconst (v := (0 : Int32)) C (by decide) dX6_reach_63 ?_
          refine za_goto C 104 (by decide) dX6_reach_64 ?_
          exact za_sub [0, 1] rfl (j_104 x1 (0 : Int32) x1 M hf)
      · have hf := z_pos q7 hf
        refine za_aload_n C 0 rfl rfl dX6_reach_20 ?_
        refine zg_R0_17 C in_X6_reach_X6 fl_X6_reach_54 dX6_reach_21 ?_
        refine za_iload_n C 1 rfl rfl dX6_reach_24 ?_
        refine za_iconst (v := (1 : Int32)) C (by decide) dX6_reach_25 ?_
        refine za_aload_n C 0 rfl rfl dX6_reach_26 ?_
        refine zg_R0_8 C in_X6_reach_X6 fl_X6_reach_32 dX6_reach_27 ?_
        refine za_iload_n C 1 rfl rfl dX6_reach_30 ?_
        obtain ⟨h16, hf⟩ := z_chk hf
        refine zl_R8 C h16 dX6_reach_31 ?_
        refine za_ishl C dX6_reach_32 ?_
        obtain ⟨h17, hf⟩ := z_chk hf
        obtain ⟨N18, eN18, hf⟩ := z_st hf
        refine zs_R13 C h17 eN18 dX6_reach_33 ?_
        refine za_aload_n C 0 rfl rfl dX6_reach_34 ?_
        refine zg_R0_18 C in_X6_reach_X6 fl_X6_reach_57 dX6_reach_35 ?_
        refine za_aload_n C 0 rfl rfl dX6_reach_38 ?_
        refine zg_R0_8 C in_X6_reach_X6 fl_X6_reach_32 dX6_reach_39 ?_
        refine za_iload_n C 1 rfl rfl dX6_reach_42 ?_
        obtain ⟨h19, hf⟩ := z_chk hf
        refine zl_R8 C h19 dX6_reach_43 ?_
        refine za_iload_n C 1 rfl rfl dX6_reach_44 ?_
        obtain ⟨h20, hf⟩ := z_chk hf
        obtain ⟨N21, eN21, hf⟩ := z_st hf
        refine zs_R14 C h20 eN21 dX6_reach_45 ?_
        refine za_goto C 105 (by decide) dX6_reach_46 ?_
        exact za_sub [0, 1] rfl (j_105 x1 N21 hf)
  · show za_At p l e { frames := 0, cells := 0, slots := 0, locals := 0 } s m args below meth c D A 2 0 0 Q 111 [(0, .ref (ad 0)), (1, .int v22)] [] (wR ad ck N23)
    obtain rfl := z_ret1 hf
    exact za_vret C F dX6_reach_111
theorem in_X6_leads_X6 : ∀ w ∈ wsX60, w ∈ wsX6_leads := by decide +kernel
theorem fl_X6_leads_92 : Cond.fieldLink RX6 92 "ThriceNetsModel" "stores" "I" ∈ wsX6_leads := by decide +kernel
theorem fl_X6_leads_54 : Cond.fieldLink RX6 54 "ThriceNetsModel" "reached" "[I" ∈ wsX6_leads := by decide +kernel
theorem fl_X6_leads_13 : Cond.fieldLink RX6 13 "ThriceNetsModel" "first" "[I" ∈ wsX6_leads := by decide +kernel
theorem fl_X6_leads_57 : Cond.fieldLink RX6 57 "ThriceNetsModel" "storeNode" "[I" ∈ wsX6_leads := by decide +kernel
def K_X6_leads_28 (n : Nat) (x1 : Int32) (x2 : Int32) (M : zM) : Option (Int32 × zM) :=
  some ((-2 : Int32), M)
def pX6_leads (n : Nat) (x1 : Int32) (x2 : Int32) (M0 : zM) : Option (Int32 × zM) :=
  (pX6_in x1 (0 : Int32) ((M0.1 2 0) - (1 : Int32)) M0).bind (fun v2 => (if v2 = 0 then (K_X6_leads_28 n x1 x2 M0) else ((pX6_in x2 (0 : Int32) ((M0.1 2 0) - (1 : Int32)) M0).bind (fun v5 => (if v5 = 0 then (K_X6_leads_28 n x1 x2 M0) else ((pX6_reach n M0).bind (fun N8 => zchk x2 24 (zchk (N8.1 23 x2.toNatClampNeg) 24 (zchk (N8.1 11 (N8.1 23 x2.toNatClampNeg).toNatClampNeg) 24 (some ((((N8.1 22 (N8.1 11 (N8.1 23 x2.toNatClampNeg).toNatClampNeg).toNatClampNeg) >>> (x1 &&& 31)) &&& (1 : Int32)), N8)))))))))))
set_option maxHeartbeats 4000000 in
set_option maxRecDepth 100000 in
theorem cX6_leads_ok (l : Launch) (D : va_G) (ck : Nat → ClassId) (ad : Nat → Nat) (n : Nat) (x1 : Int32) (x2 : Int32) (M0 : zM) (r9 : Int32) (M9 : zM) (hf : pX6_leads n x1 x2 M0 = some (r9, M9)) : zc l D ck (wR ad ck) yX6_leads wsX6_leads ({ frames := 1, cells := 0, slots := 0, locals := 22 }) [.ref (ad 0), .int x1, .int x2] M0 (some (.int r9)) M9 := by
  refine zc_of (cc := cX6_leads) (maxL := 3) (ret := (some .int)) [(0, .ref (ad 0)), (1, .int x1), (2, .int x2)] (by decide) rfl (Nat.le_of_ble_eq_true rfl) rfl ?_
  intro p e s m args below meth c A Q C F
  have j_28 : ∀ (x1 : Int32) (x2 : Int32) (M : zM), K_X6_leads_28 n x1 x2 M = some (r9, M9) → za_At p l e { frames := 1, cells := 0, slots := 0, locals := 22 } s m args below meth c D A 3 0 0 Q 28 [(0, .ref (ad 0)), (1, .int x1), (2, .int x2)] [] (wR ad ck M) := by
    intro x1 x2 M hf
    unfold K_X6_leads_28 at hf
    refine za_bipush (v := (-2 : Int32)) C (by decide) dX6_leads_28 ?_
    obtain ⟨rfl, rfl⟩ := z_ret2 hf
    exact za_iret C F dX6_leads_30
  unfold pX6_leads at hf
  refine za_iload_n C 1 rfl rfl dX6_leads_0 ?_
  refine za_iconst (v := (0 : Int32)) C (by decide) dX6_leads_1 ?_
  refine za_aload_n C 0 rfl rfl dX6_leads_2 ?_
  refine zg_R0_10 C in_X6_leads_X6 fl_X6_leads_92 dX6_leads_3 ?_
  refine za_iconst (v := (1 : Int32)) C (by decide) dX6_leads_6 ?_
  refine za_isub C dX6_leads_7 ?_
  obtain ⟨v2, hc1, hf⟩ := z_bind hf
  refine za_callS (n := 3) (rest := []) C (cX6_in_ok l D ck ad x1 (0 : Int32) ((M0.1 2 0) - (1 : Int32)) M0 _ hc1) gX6_leads_X6_in rfl rfl rfl (by decide +kernel) ⟨Nat.le_of_ble_eq_true rfl, Nat.le_of_ble_eq_true rfl⟩ rfl rfl (Nat.le_of_ble_eq_true rfl) ⟨Nat.zero_le _, Nat.zero_le _⟩ dX6_leads_8 ?_
  refine za_if_eq C 28 (by decide) dX6_leads_11 (fun q3 => ?_) (fun q3 => ?_)
  · have hf := z_pos q3 hf
    exact za_sub [0, 1, 2] rfl (j_28 x1 x2 M0 hf)
  · have hf := z_neg q3 hf
    refine za_iload_n C 2 rfl rfl dX6_leads_14 ?_
    refine za_iconst (v := (0 : Int32)) C (by decide) dX6_leads_15 ?_
    refine za_aload_n C 0 rfl rfl dX6_leads_16 ?_
    refine zg_R0_10 C in_X6_leads_X6 fl_X6_leads_92 dX6_leads_17 ?_
    refine za_iconst (v := (1 : Int32)) C (by decide) dX6_leads_20 ?_
    refine za_isub C dX6_leads_21 ?_
    obtain ⟨v5, hc4, hf⟩ := z_bind hf
    refine za_callS (n := 3) (rest := []) C (cX6_in_ok l D ck ad x2 (0 : Int32) ((M0.1 2 0) - (1 : Int32)) M0 _ hc4) gX6_leads_X6_in rfl rfl rfl (by decide +kernel) ⟨Nat.le_of_ble_eq_true rfl, Nat.le_of_ble_eq_true rfl⟩ rfl rfl (Nat.le_of_ble_eq_true rfl) ⟨Nat.zero_le _, Nat.zero_le _⟩ dX6_leads_22 ?_
    refine za_if_ne C 31 (by decide) dX6_leads_25 (fun q6 => ?_) (fun q6 => ?_)
    · have hf := z_neg q6 hf
      refine za_aload_n C 0 rfl rfl dX6_leads_31 ?_
      obtain ⟨N8, hc7, hf⟩ := z_bind hf
      refine za_callV (n := 0) (rest := []) C (cX6_reach_ok l D ck ad n  M0 _ hc7) gX6_leads_X6_reach rfl rfl rfl (by decide +kernel) ⟨Nat.le_of_ble_eq_true rfl, Nat.le_of_ble_eq_true rfl⟩ 0 rfl rfl rfl rfl rfl (Nat.le_of_ble_eq_true rfl) ⟨Nat.zero_le _, Nat.zero_le _⟩ dX6_leads_32 ?_
      refine za_aload_n C 0 rfl rfl dX6_leads_35 ?_
      refine zg_R0_17 C in_X6_leads_X6 fl_X6_leads_54 dX6_leads_36 ?_
      refine za_aload_n C 0 rfl rfl dX6_leads_39 ?_
      refine zg_R0_2 C in_X6_leads_X6 fl_X6_leads_13 dX6_leads_40 ?_
      refine za_aload_n C 0 rfl rfl dX6_leads_43 ?_
      refine zg_R0_18 C in_X6_leads_X6 fl_X6_leads_57 dX6_leads_44 ?_
      refine za_iload_n C 2 rfl rfl dX6_leads_47 ?_
      obtain ⟨h9, hf⟩ := z_chk hf
      refine zl_R14 C h9 dX6_leads_48 ?_
      obtain ⟨h10, hf⟩ := z_chk hf
      refine zl_R2 C h10 dX6_leads_49 ?_
      obtain ⟨h11, hf⟩ := z_chk hf
      refine zl_R13 C h11 dX6_leads_50 ?_
      refine za_iload_n C 1 rfl rfl dX6_leads_51 ?_
      refine za_ishr C dX6_leads_52 ?_
      refine za_iconst (v := (1 : Int32)) C (by decide) dX6_leads_53 ?_
      refine za_iand C dX6_leads_54 ?_
      obtain ⟨rfl, rfl⟩ := z_ret2 hf
      exact za_iret C F dX6_leads_55
    · have hf := z_pos q6 hf
      exact za_sub [0, 1, 2] rfl (j_28 x1 x2 M0 hf)
theorem in_X6_isBroken_X6 : ∀ w ∈ wsX60, w ∈ wsX6_isBroken := by decide +kernel
theorem fl_X6_isBroken_92 : Cond.fieldLink RX6 92 "ThriceNetsModel" "stores" "I" ∈ wsX6_isBroken := by decide +kernel
theorem fl_X6_isBroken_54 : Cond.fieldLink RX6 54 "ThriceNetsModel" "reached" "[I" ∈ wsX6_isBroken := by decide +kernel
theorem fl_X6_isBroken_13 : Cond.fieldLink RX6 13 "ThriceNetsModel" "first" "[I" ∈ wsX6_isBroken := by decide +kernel
theorem fl_X6_isBroken_57 : Cond.fieldLink RX6 57 "ThriceNetsModel" "storeNode" "[I" ∈ wsX6_isBroken := by decide +kernel
def K_X6_isBroken_76 (n : Nat) (x1 : Int32) (x2 : Int32) (x3 : Int32) (x4 : Int32) (M0 : zM) : Option ((Int32 × Int32 × Int32) ⊕ (Int32 × Int32 × Int32)) :=
  zlt (x4 + (1 : Int32)) (fun v6 => some (.inl (x2, x3, v6)))
def B_X6_isBroken_24 (n : Nat) (x1 : Int32) (x2 : Int32) (x3 : Int32) (x4 : Int32) (M0 : zM) : Option ((Int32 × Int32 × Int32) ⊕ (Int32 × Int32 × Int32)) :=
  (if (M0.1 2 0) ≤ x4 then (some (.inr (x2, x3, x4))) else (if ((x2 >>> (x4 &&& 31)) &&& (1 : Int32)) = (1 : Int32) then (zchk x4 24 (zchk (M0.1 23 x4.toNatClampNeg) 24 (zchk (M0.1 11 (M0.1 23 x4.toNatClampNeg).toNatClampNeg) 24 ((if ((M0.1 22 (M0.1 11 (M0.1 23 x4.toNatClampNeg).toNatClampNeg).toNatClampNeg) &&& x2) = 0 then (zlt (x2 &&& (((1 : Int32) <<< (x4 &&& 31)) ^^^ (-1 : Int32))) (fun v13 => zlt (1 : Int32) (fun v14 => K_X6_isBroken_76 n x1 v13 v14 x4 M0))) else (K_X6_isBroken_76 n x1 x2 x3 x4 M0)))))) else (K_X6_isBroken_76 n x1 x2 x3 x4 M0)))
def B_X6_isBroken_15 (n : Nat) (x1 : Int32) (x2 : Int32) (x3 : Int32) (M0 : zM) : Option ((Int32 × Int32) ⊕ (Int32 × Int32)) :=
  (if x3 = 0 then (some (.inr (x2, x3))) else (zlt (0 : Int32) (fun v4 => zlt (0 : Int32) (fun v5 => zb3 (zwl (fun q => B_X6_isBroken_24 n x1 q.1 q.2.1 q.2.2 M0) n (x2, v4, v5)) (fun v15 v16 v17 => some (.inl (v15, v16)))))))
def pX6_isBroken (n : Nat) (x1 : Int32) (M0 : zM) : Option (Int32) :=
  zlt ((((1 : Int32) <<< ((M0.1 2 0) &&& 31)) - (1 : Int32)) &&& (x1 ^^^ (-1 : Int32))) (fun v1 => zlt (1 : Int32) (fun v2 => zb2 (zwl (fun q => B_X6_isBroken_15 n x1 q.1 q.2 M0) n (v1, v2)) (fun v19 v20 => (if v19 = 0 then (some (1 : Int32)) else (some (0 : Int32))))))
set_option maxHeartbeats 4000000 in
set_option maxRecDepth 100000 in
theorem cX6_isBroken_ok (l : Launch) (D : va_G) (ck : Nat → ClassId) (ad : Nat → Nat) (n : Nat) (x1 : Int32) (M0 : zM) (r9 : Int32) (hf : pX6_isBroken n x1 M0 = some r9) : zc l D ck (wR ad ck) yX6_isBroken wsX6_isBroken ({ frames := 0, cells := 0, slots := 0, locals := 0 }) [.ref (ad 0), .int x1] M0 (some (.int r9)) M0 := by
  refine zc_of (cc := cX6_isBroken) (maxL := 5) (ret := (some .boolean)) [(0, .ref (ad 0)), (1, .int x1)] (by decide) rfl (Nat.le_of_ble_eq_true rfl) rfl ?_
  intro p e s m args below meth c A Q C F
  unfold pX6_isBroken at hf
  refine za_iconst (v := (1 : Int32)) C (by decide) dX6_isBroken_0 ?_
  refine za_aload_n C 0 rfl rfl dX6_isBroken_1 ?_
  refine zg_R0_10 C in_X6_isBroken_X6 fl_X6_isBroken_92 dX6_isBroken_2 ?_
  refine za_ishl C dX6_isBroken_5 ?_
  refine za_iconst (v := (1 : Int32)) C (by decide) dX6_isBroken_6 ?_
  refine za_isub C dX6_isBroken_7 ?_
  refine za_iload_n C 1 rfl rfl dX6_isBroken_8 ?_
  refine za_iconst (v := (-1 : Int32)) C (by decide) dX6_isBroken_9 ?_
  refine za_ixor C dX6_isBroken_10 ?_
  refine za_iand C dX6_isBroken_11 ?_
  obtain ⟨v1, ev1, hf⟩ := z_lt hf
  refine za_istore_n C [(2, .int v1), (0, .ref (ad 0)), (1, .int x1)] ev1 (by decide) rfl rfl dX6_isBroken_12 ?_
  refine za_iconst (v := (1 : Int32)) C (by decide) dX6_isBroken_13 ?_
  obtain ⟨v2, ev2, hf⟩ := z_lt hf
  refine za_istore_n C [(3, .int v2), (2, .int v1), (0, .ref (ad 0)), (1, .int x1)] ev2 (by decide) rfl rfl dX6_isBroken_14 ?_
  obtain ⟨v19, v20, hw22, hf⟩ := z_b2 hf
  refine za_sub [2, 3, 1, 0] rfl ?_
  refine z_wl (P := fun q => za_At p l e { frames := 0, cells := 0, slots := 0, locals := 0 } s m args below meth c D A 5 0 0 Q 15 [(0, .ref (ad 0)), (1, .int x1), (2, .int q.1), (3, .int q.2)] [] (wR ad ck M0)) (E := fun q => za_At p l e { frames := 0, cells := 0, slots := 0, locals := 0 } s m args below meth c D A 5 0 0 Q 85 [(0, .ref (ad 0)), (1, .int x1), (2, .int q.1), (3, .int q.2)] [] (wR ad ck M0)) ?_ ?_ _ _ hw22
  · intro q o hf hN hE
    obtain ⟨x2, x3⟩ := q
    have hf : B_X6_isBroken_15 n x1 x2 x3 M0 = some o := hf
    unfold B_X6_isBroken_15 at hf
    refine za_iload_n C 3 rfl rfl dX6_isBroken_15 ?_
    refine za_if_eq C 85 (by decide) dX6_isBroken_16 (fun q3 => ?_) (fun q3 => ?_)
    · have hf := z_pos q3 hf
      exact za_sub [0, 1, 2, 3] rfl (hE _ (z_inj hf))
    · have hf := z_neg q3 hf
      refine za_iconst (v := (0 : Int32)) C (by decide) dX6_isBroken_19 ?_
      obtain ⟨v4, ev4, hf⟩ := z_lt hf
      refine za_istore_n C [(3, .int v4), (0, .ref (ad 0)), (1, .int x1), (2, .int x2)] ev4 (by decide) rfl rfl dX6_isBroken_20 ?_
      refine za_iconst (v := (0 : Int32)) C (by decide) dX6_isBroken_21 ?_
      obtain ⟨v5, ev5, hf⟩ := z_lt hf
      refine za_istore C [(4, .int v5), (3, .int v4), (0, .ref (ad 0)), (1, .int x1), (2, .int x2)] ev5 (by decide) rfl dX6_isBroken_22 ?_
      obtain ⟨v15, v16, v17, hw18, hf⟩ := z_b3 hf
      refine za_sub [2, 3, 4, 1, 0] rfl ?_
      refine z_wl (P := fun q => za_At p l e { frames := 0, cells := 0, slots := 0, locals := 0 } s m args below meth c D A 5 0 0 Q 24 [(0, .ref (ad 0)), (1, .int x1), (2, .int q.1), (3, .int q.2.1), (4, .int q.2.2)] [] (wR ad ck M0)) (E := fun q => za_At p l e { frames := 0, cells := 0, slots := 0, locals := 0 } s m args below meth c D A 5 0 0 Q 82 [(0, .ref (ad 0)), (1, .int x1), (2, .int q.1), (3, .int q.2.1), (4, .int q.2.2)] [] (wR ad ck M0)) ?_ ?_ _ _ hw18
      · intro q o hf hN hE
        obtain ⟨x2, x3, x4⟩ := q
        have hf : B_X6_isBroken_24 n x1 x2 x3 x4 M0 = some o := hf
        unfold B_X6_isBroken_24 at hf
        have j_76 : ∀ (x2 : Int32) (x3 : Int32) (x4 : Int32), K_X6_isBroken_76 n x1 x2 x3 x4 M0 = some o → za_At p l e { frames := 0, cells := 0, slots := 0, locals := 0 } s m args below meth c D A 5 0 0 Q 76 [(0, .ref (ad 0)), (1, .int x1), (2, .int x2), (3, .int x3), (4, .int x4)] [] (wR ad ck M0) := by
          intro x2 x3 x4 hf
          unfold K_X6_isBroken_76 at hf
          obtain ⟨v6, ev6, hf⟩ := z_lt hf
          refine za_iinc (k9 := (1 : Int32)) C [(4, .int v6), (0, .ref (ad 0)), (1, .int x1), (2, .int x2), (3, .int x3)] 4 rfl (by decide) ev6 (by decide) rfl dX6_isBroken_76 ?_
          refine za_goto C 24 (by decide) dX6_isBroken_79 ?_
          exact za_sub [1, 2, 3, 4, 0] rfl (hN _ (z_inj hf))
        refine za_iload C 4 rfl dX6_isBroken_24 ?_
        refine za_aload_n C 0 rfl rfl dX6_isBroken_26 ?_
        refine zg_R0_10 C in_X6_isBroken_X6 fl_X6_isBroken_92 dX6_isBroken_27 ?_
        refine za_icmp_ge C 82 (by decide) dX6_isBroken_30 (fun q7 => ?_) (fun q7 => ?_)
        · have hf := z_pos q7 hf
          exact za_sub [0, 1, 2, 3, 4] rfl (hE _ (z_inj hf))
        · have hf := z_neg q7 hf
          refine za_iload_n C 2 rfl rfl dX6_isBroken_33 ?_
          refine za_iload C 4 rfl dX6_isBroken_34 ?_
          refine za_ishr C dX6_isBroken_36 ?_
          refine za_iconst (v := (1 : Int32)) C (by decide) dX6_isBroken_37 ?_
          refine za_iand C dX6_isBroken_38 ?_
          refine za_iconst (v := (1 : Int32)) C (by decide) dX6_isBroken_39 ?_
          refine za_icmp_ne C 76 (by decide) dX6_isBroken_40 (fun q8 => ?_) (fun q8 => ?_)
          · have hf := z_neg q8 hf
            exact za_sub [0, 1, 2, 3, 4] rfl (j_76 x2 x3 x4 hf)
          · have hf := z_pos q8 hf
            refine za_aload_n C 0 rfl rfl dX6_isBroken_43 ?_
            refine zg_R0_17 C in_X6_isBroken_X6 fl_X6_isBroken_54 dX6_isBroken_44 ?_
            refine za_aload_n C 0 rfl rfl dX6_isBroken_47 ?_
            refine zg_R0_2 C in_X6_isBroken_X6 fl_X6_isBroken_13 dX6_isBroken_48 ?_
            refine za_aload_n C 0 rfl rfl dX6_isBroken_51 ?_
            refine zg_R0_18 C in_X6_isBroken_X6 fl_X6_isBroken_57 dX6_isBroken_52 ?_
            refine za_iload C 4 rfl dX6_isBroken_55 ?_
            obtain ⟨h9, hf⟩ := z_chk hf
            refine zl_R14 C h9 dX6_isBroken_57 ?_
            obtain ⟨h10, hf⟩ := z_chk hf
            refine zl_R2 C h10 dX6_isBroken_58 ?_
            obtain ⟨h11, hf⟩ := z_chk hf
            refine zl_R13 C h11 dX6_isBroken_59 ?_
            refine za_iload_n C 2 rfl rfl dX6_isBroken_60 ?_
            refine za_iand C dX6_isBroken_61 ?_
            refine za_if_ne C 76 (by decide) dX6_isBroken_62 (fun q12 => ?_) (fun q12 => ?_)
            · have hf := z_neg q12 hf
              exact za_sub [0, 1, 2, 3, 4] rfl (j_76 x2 x3 x4 hf)
            · have hf := z_pos q12 hf
              refine za_iload_n C 2 rfl rfl dX6_isBroken_65 ?_
              refine za_iconst (v := (1 : Int32)) C (by decide) dX6_isBroken_66 ?_
              refine za_iload C 4 rfl dX6_isBroken_67 ?_
              refine za_ishl C dX6_isBroken_69 ?_
              refine za_iconst (v := (-1 : Int32)) C (by decide) dX6_isBroken_70 ?_
              refine za_ixor C dX6_isBroken_71 ?_
              refine za_iand C dX6_isBroken_72 ?_
              obtain ⟨v13, ev13, hf⟩ := z_lt hf
              refine za_istore_n C [(2, .int v13), (0, .ref (ad 0)), (1, .int x1), (3, .int x3), (4, .int x4)] ev13 (by decide) rfl rfl dX6_isBroken_73 ?_
              refine za_iconst (v := (1 : Int32)) C (by decide) dX6_isBroken_74 ?_
              obtain ⟨v14, ev14, hf⟩ := z_lt hf
              refine za_istore_n C [(3, .int v14), (2, .int v13), (0, .ref (ad 0)), (1, .int x1), (4, .int x4)] ev14 (by decide) rfl rfl dX6_isBroken_75 ?_
              exact za_sub [2, 3, 1, 0, 4] rfl (j_76 v13 v14 x4 hf)
      · show za_At p l e { frames := 0, cells := 0, slots := 0, locals := 0 } s m args below meth c D A 5 0 0 Q 82 [(0, .ref (ad 0)), (1, .int x1), (2, .int v15), (3, .int v16), (4, .int v17)] [] (wR ad ck M0)
        refine za_goto C 15 (by decide) dX6_isBroken_82 ?_
        exact za_sub [0, 1, 2, 3] rfl (hN _ (z_inj hf))
  · show za_At p l e { frames := 0, cells := 0, slots := 0, locals := 0 } s m args below meth c D A 5 0 0 Q 85 [(0, .ref (ad 0)), (1, .int x1), (2, .int v19), (3, .int v20)] [] (wR ad ck M0)
    refine za_iload_n C 2 rfl rfl dX6_isBroken_85 ?_
    refine za_if_ne C 93 (by decide) dX6_isBroken_86 (fun q21 => ?_) (fun q21 => ?_)
    · have hf := z_neg q21 hf
      refine za_iconst (v := (0 : Int32)) C (by decide) dX6_isBroken_93 ?_
      obtain rfl := z_ret1 hf
      exact za_zret C F rfl dX6_isBroken_94
    · have hf := z_pos q21 hf
      refine za_iconst (v := (1 : Int32)) C (by decide) dX6_isBroken_89 ?_
      refine za_goto C 94 (by decide) dX6_isBroken_90 ?_
      obtain rfl := z_ret1 hf
      exact za_zret C F rfl dX6_isBroken_94
theorem in_X6_breaks_X6 : ∀ w ∈ wsX60, w ∈ wsX6_breaks := by decide +kernel
theorem fl_X6_breaks_92 : Cond.fieldLink RX6 92 "ThriceNetsModel" "stores" "I" ∈ wsX6_breaks := by decide +kernel
def K_X6_breaks_14 (n : Nat) (x1 : Int32) (M : zM) : Option (Int32 × zM) :=
  some ((-2 : Int32), M)
def pX6_breaks (n : Nat) (x1 : Int32) (M0 : zM) : Option (Int32 × zM) :=
  (if x1 < 0 then (K_X6_breaks_14 n x1 M0) else (if x1 < ((1 : Int32) <<< ((M0.1 2 0) &&& 31)) then (if (M0.1 2 0) ≤ (12 : Int32) then ((pX6_reach n M0).bind (fun N5 => (pX6_isBroken n x1 N5).bind (fun v7 => (if v7 = 0 then (some ((0 : Int32), N5)) else (some ((1 : Int32), N5)))))) else (some ((-3 : Int32), M0))) else (K_X6_breaks_14 n x1 M0)))
set_option maxHeartbeats 4000000 in
set_option maxRecDepth 100000 in
theorem cX6_breaks_ok (l : Launch) (D : va_G) (ck : Nat → ClassId) (ad : Nat → Nat) (n : Nat) (x1 : Int32) (M0 : zM) (r9 : Int32) (M9 : zM) (hf : pX6_breaks n x1 M0 = some (r9, M9)) : zc l D ck (wR ad ck) yX6_breaks wsX6_breaks ({ frames := 1, cells := 0, slots := 0, locals := 24 }) [.ref (ad 0), .int x1] M0 (some (.int r9)) M9 := by
  refine zc_of (cc := cX6_breaks) (maxL := 2) (ret := (some .int)) [(0, .ref (ad 0)), (1, .int x1)] (by decide) rfl (Nat.le_of_ble_eq_true rfl) rfl ?_
  intro p e s m args below meth c A Q C F
  have j_14 : ∀ (x1 : Int32) (M : zM), K_X6_breaks_14 n x1 M = some (r9, M9) → za_At p l e { frames := 1, cells := 0, slots := 0, locals := 24 } s m args below meth c D A 2 0 0 Q 14 [(0, .ref (ad 0)), (1, .int x1)] [] (wR ad ck M) := by
    intro x1 M hf
    unfold K_X6_breaks_14 at hf
    refine za_bipush (v := (-2 : Int32)) C (by decide) dX6_breaks_14 ?_
    obtain ⟨rfl, rfl⟩ := z_ret2 hf
    exact za_iret C F dX6_breaks_16
  unfold pX6_breaks at hf
  refine za_iload_n C 1 rfl rfl dX6_breaks_0 ?_
  refine za_if_lt C 14 (by decide) dX6_breaks_1 (fun q1 => ?_) (fun q1 => ?_)
  · have hf := z_pos q1 hf
    exact za_sub [0, 1] rfl (j_14 x1 M0 hf)
  · have hf := z_neg q1 hf
    refine za_iload_n C 1 rfl rfl dX6_breaks_4 ?_
    refine za_iconst (v := (1 : Int32)) C (by decide) dX6_breaks_5 ?_
    refine za_aload_n C 0 rfl rfl dX6_breaks_6 ?_
    refine zg_R0_10 C in_X6_breaks_X6 fl_X6_breaks_92 dX6_breaks_7 ?_
    refine za_ishl C dX6_breaks_10 ?_
    refine za_icmp_lt C 17 (by decide) dX6_breaks_11 (fun q2 => ?_) (fun q2 => ?_)
    · have hf := z_pos q2 hf
      refine za_aload_n C 0 rfl rfl dX6_breaks_17 ?_
      refine zg_R0_10 C in_X6_breaks_X6 fl_X6_breaks_92 dX6_breaks_18 ?_
      refine za_bipush (v := (12 : Int32)) C (by decide) dX6_breaks_21 ?_
      refine za_icmp_le C 29 (by decide) dX6_breaks_23 (fun q3 => ?_) (fun q3 => ?_)
      · have hf := z_pos q3 hf
        refine za_aload_n C 0 rfl rfl dX6_breaks_29 ?_
        obtain ⟨N5, hc4, hf⟩ := z_bind hf
        refine za_callV (n := 0) (rest := []) C (cX6_reach_ok l D ck ad n  M0 _ hc4) gX6_breaks_X6_reach rfl rfl rfl (by decide +kernel) ⟨Nat.le_of_ble_eq_true rfl, Nat.le_of_ble_eq_true rfl⟩ 0 rfl rfl rfl rfl rfl (Nat.le_of_ble_eq_true rfl) ⟨Nat.zero_le _, Nat.zero_le _⟩ dX6_breaks_30 ?_
        refine za_aload_n C 0 rfl rfl dX6_breaks_33 ?_
        refine za_iload_n C 1 rfl rfl dX6_breaks_34 ?_
        obtain ⟨v7, hc6, hf⟩ := z_bind hf
        refine za_callV (n := 1) (rest := []) C (cX6_isBroken_ok l D ck ad n x1 N5 _ hc6) gX6_breaks_X6_isBroken rfl rfl rfl (by decide +kernel) ⟨Nat.le_of_ble_eq_true rfl, Nat.le_of_ble_eq_true rfl⟩ 0 rfl rfl rfl rfl rfl (Nat.le_of_ble_eq_true rfl) ⟨Nat.zero_le _, Nat.zero_le _⟩ dX6_breaks_35 ?_
        refine za_if_eq C 45 (by decide) dX6_breaks_38 (fun q8 => ?_) (fun q8 => ?_)
        · have hf := z_pos q8 hf
          refine za_iconst (v := (0 : Int32)) C (by decide) dX6_breaks_45 ?_
          obtain ⟨rfl, rfl⟩ := z_ret2 hf
          exact za_iret C F dX6_breaks_46
        · have hf := z_neg q8 hf
          refine za_iconst (v := (1 : Int32)) C (by decide) dX6_breaks_41 ?_
          refine za_goto C 46 (by decide) dX6_breaks_42 ?_
          obtain ⟨rfl, rfl⟩ := z_ret2 hf
          exact za_iret C F dX6_breaks_46
      · have hf := z_neg q3 hf
        refine za_bipush (v := (-3 : Int32)) C (by decide) dX6_breaks_26 ?_
        obtain ⟨rfl, rfl⟩ := z_ret2 hf
        exact za_iret C F dX6_breaks_28
    · have hf := z_neg q2 hf
      exact za_sub [0, 1] rfl (j_14 x1 M0 hf)
theorem in_X6_priceOf_X6 : ∀ w ∈ wsX60, w ∈ wsX6_priceOf := by decide +kernel
theorem fl_X6_priceOf_92 : Cond.fieldLink RX6 92 "ThriceNetsModel" "stores" "I" ∈ wsX6_priceOf := by decide +kernel
theorem fl_X6_priceOf_29 : Cond.fieldLink RX6 29 "ThriceNetsModel" "prices" "[I" ∈ wsX6_priceOf := by decide +kernel
theorem fl_X6_priceOf_57 : Cond.fieldLink RX6 57 "ThriceNetsModel" "storeNode" "[I" ∈ wsX6_priceOf := by decide +kernel
def K_X6_priceOf_37 (n : Nat) (x1 : Int32) (x2 : Int32) (x3 : Int32) (y0 : Int32) (y1 : Int32) (M0 : zM) : Option ((Int32 × Int32) ⊕ (Int32 × Int32)) :=
  zlt (y1 + y0) (fun v3 => zlt (x3 + (1 : Int32)) (fun v4 => some (.inl (v3, v4))))
def B_X6_priceOf_4 (n : Nat) (x1 : Int32) (x2 : Int32) (x3 : Int32) (M0 : zM) : Option ((Int32 × Int32) ⊕ (Int32 × Int32)) :=
  (if (M0.1 2 0) ≤ x3 then (some (.inr (x2, x3))) else (if ((x1 >>> (x3 &&& 31)) &&& (1 : Int32)) = (1 : Int32) then (zchk x3 24 (zchk (M0.1 23 x3.toNatClampNeg) 24 (K_X6_priceOf_37 n x1 x2 x3 (M0.1 16 (M0.1 23 x3.toNatClampNeg).toNatClampNeg) x2 M0))) else (K_X6_priceOf_37 n x1 x2 x3 (0 : Int32) x2 M0)))
def pX6_priceOf (n : Nat) (x1 : Int32) (M0 : zM) : Option (Int32) :=
  zlt (0 : Int32) (fun v1 => zlt (0 : Int32) (fun v2 => zb2 (zwl (fun q => B_X6_priceOf_4 n x1 q.1 q.2 M0) n (v1, v2)) (fun v9 v10 => some v9)))
set_option maxHeartbeats 4000000 in
set_option maxRecDepth 100000 in
theorem cX6_priceOf_ok (l : Launch) (D : va_G) (ck : Nat → ClassId) (ad : Nat → Nat) (n : Nat) (x1 : Int32) (M0 : zM) (r9 : Int32) (hf : pX6_priceOf n x1 M0 = some r9) : zc l D ck (wR ad ck) yX6_priceOf wsX6_priceOf ({ frames := 0, cells := 0, slots := 0, locals := 0 }) [.ref (ad 0), .int x1] M0 (some (.int r9)) M0 := by
  refine zc_of (cc := cX6_priceOf) (maxL := 4) (ret := (some .int)) [(0, .ref (ad 0)), (1, .int x1)] (by decide) rfl (Nat.le_of_ble_eq_true rfl) rfl ?_
  intro p e s m args below meth c A Q C F
  unfold pX6_priceOf at hf
  refine za_iconst (v := (0 : Int32)) C (by decide) dX6_priceOf_0 ?_
  obtain ⟨v1, ev1, hf⟩ := z_lt hf
  refine za_istore_n C [(2, .int v1), (0, .ref (ad 0)), (1, .int x1)] ev1 (by decide) rfl rfl dX6_priceOf_1 ?_
  refine za_iconst (v := (0 : Int32)) C (by decide) dX6_priceOf_2 ?_
  obtain ⟨v2, ev2, hf⟩ := z_lt hf
  refine za_istore_n C [(3, .int v2), (2, .int v1), (0, .ref (ad 0)), (1, .int x1)] ev2 (by decide) rfl rfl dX6_priceOf_3 ?_
  obtain ⟨v9, v10, hw11, hf⟩ := z_b2 hf
  refine za_sub [2, 3, 1, 0] rfl ?_
  refine z_wl (P := fun q => za_At p l e { frames := 0, cells := 0, slots := 0, locals := 0 } s m args below meth c D A 4 0 0 Q 4 [(0, .ref (ad 0)), (1, .int x1), (2, .int q.1), (3, .int q.2)] [] (wR ad ck M0)) (E := fun q => za_At p l e { frames := 0, cells := 0, slots := 0, locals := 0 } s m args below meth c D A 4 0 0 Q 45 [(0, .ref (ad 0)), (1, .int x1), (2, .int q.1), (3, .int q.2)] [] (wR ad ck M0)) ?_ ?_ _ _ hw11
  · intro q o hf hN hE
    obtain ⟨x2, x3⟩ := q
    have hf : B_X6_priceOf_4 n x1 x2 x3 M0 = some o := hf
    unfold B_X6_priceOf_4 at hf
    have j_37 : ∀ (x2 : Int32) (x3 : Int32) (y0 : Int32) (y1 : Int32), K_X6_priceOf_37 n x1 x2 x3 y0 y1 M0 = some o → za_At p l e { frames := 0, cells := 0, slots := 0, locals := 0 } s m args below meth c D A 4 0 0 Q 37 [(0, .ref (ad 0)), (1, .int x1), (2, .int x2), (3, .int x3)] [.int y0, .int y1] (wR ad ck M0) := by
      intro x2 x3 y0 y1 hf
      unfold K_X6_priceOf_37 at hf
      refine za_iadd C dX6_priceOf_37 ?_
      obtain ⟨v3, ev3, hf⟩ := z_lt hf
      refine za_istore_n C [(2, .int v3), (0, .ref (ad 0)), (1, .int x1), (3, .int x3)] ev3 (by decide) rfl rfl dX6_priceOf_38 ?_
      obtain ⟨v4, ev4, hf⟩ := z_lt hf
      refine za_iinc (k9 := (1 : Int32)) C [(3, .int v4), (2, .int v3), (0, .ref (ad 0)), (1, .int x1)] 3 rfl (by decide) ev4 (by decide) rfl dX6_priceOf_39 ?_
      refine za_goto C 4 (by decide) dX6_priceOf_42 ?_
      exact za_sub [2, 3, 1, 0] rfl (hN _ (z_inj hf))
    refine za_iload_n C 3 rfl rfl dX6_priceOf_4 ?_
    refine za_aload_n C 0 rfl rfl dX6_priceOf_5 ?_
    refine zg_R0_10 C in_X6_priceOf_X6 fl_X6_priceOf_92 dX6_priceOf_6 ?_
    refine za_icmp_ge C 45 (by decide) dX6_priceOf_9 (fun q5 => ?_) (fun q5 => ?_)
    · have hf := z_pos q5 hf
      exact za_sub [0, 1, 2, 3] rfl (hE _ (z_inj hf))
    · have hf := z_neg q5 hf
      refine za_iload_n C 2 rfl rfl dX6_priceOf_12 ?_
      refine za_iload_n C 1 rfl rfl dX6_priceOf_13 ?_
      refine za_iload_n C 3 rfl rfl dX6_priceOf_14 ?_
      refine za_ishr C dX6_priceOf_15 ?_
      refine za_iconst (v := (1 : Int32)) C (by decide) dX6_priceOf_16 ?_
      refine za_iand C dX6_priceOf_17 ?_
      refine za_iconst (v := (1 : Int32)) C (by decide) dX6_priceOf_18 ?_
      refine za_icmp_ne C 36 (by decide) dX6_priceOf_19 (fun q6 => ?_) (fun q6 => ?_)
      · have hf := z_neg q6 hf
        refine za_iconst (v := (0 : Int32)) C (by decide) dX6_priceOf_36 ?_
        exact za_sub [0, 1, 2, 3] rfl (j_37 x2 x3 (0 : Int32) x2 hf)
      · have hf := z_pos q6 hf
        refine za_aload_n C 0 rfl rfl dX6_priceOf_22 ?_
        refine zg_R0_7 C in_X6_priceOf_X6 fl_X6_priceOf_29 dX6_priceOf_23 ?_
        refine za_aload_n C 0 rfl rfl dX6_priceOf_26 ?_
        refine zg_R0_18 C in_X6_priceOf_X6 fl_X6_priceOf_57 dX6_priceOf_27 ?_
        refine za_iload_n C 3 rfl rfl dX6_priceOf_30 ?_
        obtain ⟨h7, hf⟩ := z_chk hf
        refine zl_R14 C h7 dX6_priceOf_31 ?_
        obtain ⟨h8, hf⟩ := z_chk hf
        refine zl_R7 C h8 dX6_priceOf_32 ?_
        refine za_goto C 37 (by decide) dX6_priceOf_33 ?_
        exact za_sub [0, 1, 2, 3] rfl (j_37 x2 x3 (M0.1 16 (M0.1 23 x3.toNatClampNeg).toNatClampNeg) x2 hf)
  · show za_At p l e { frames := 0, cells := 0, slots := 0, locals := 0 } s m args below meth c D A 4 0 0 Q 45 [(0, .ref (ad 0)), (1, .int x1), (2, .int v9), (3, .int v10)] [] (wR ad ck M0)
    refine za_iload_n C 2 rfl rfl dX6_priceOf_45 ?_
    obtain rfl := z_ret1 hf
    exact za_iret C F dX6_priceOf_46
def B_X6_ones_4 (n : Nat) (x0 : Int32) (x1 : Int32) (x2 : Int32) (M0 : zM) : Option ((Int32 × Int32) ⊕ (Int32 × Int32)) :=
  (if (24 : Int32) ≤ x2 then (some (.inr (x1, x2))) else (zlt (x1 + ((x0 >>> (x2 &&& 31)) &&& (1 : Int32))) (fun v4 => zlt (x2 + (1 : Int32)) (fun v5 => some (.inl (v4, v5))))))
def pX6_ones (n : Nat) (x0 : Int32) (M0 : zM) : Option (Int32) :=
  zlt (0 : Int32) (fun v1 => zlt (0 : Int32) (fun v2 => zb2 (zwl (fun q => B_X6_ones_4 n x0 q.1 q.2 M0) n (v1, v2)) (fun v6 v7 => some v6)))
set_option maxHeartbeats 4000000 in
set_option maxRecDepth 100000 in
theorem cX6_ones_ok (l : Launch) (D : va_G) (ck : Nat → ClassId) (ad : Nat → Nat) (n : Nat) (x0 : Int32) (M0 : zM) (r9 : Int32) (hf : pX6_ones n x0 M0 = some r9) : zc l D ck (wR ad ck) yX6_ones wsX6_ones ({ frames := 0, cells := 0, slots := 0, locals := 0 }) [.int x0] M0 (some (.int r9)) M0 := by
  refine zc_of (cc := cX6_ones) (maxL := 3) (ret := (some .int)) [(0, .int x0)] (by decide) rfl (Nat.le_of_ble_eq_true rfl) rfl ?_
  intro p e s m args below meth c A Q C F
  unfold pX6_ones at hf
  refine za_iconst (v := (0 : Int32)) C (by decide) dX6_ones_0 ?_
  obtain ⟨v1, ev1, hf⟩ := z_lt hf
  refine za_istore_n C [(1, .int v1), (0, .int x0)] ev1 (by decide) rfl rfl dX6_ones_1 ?_
  refine za_iconst (v := (0 : Int32)) C (by decide) dX6_ones_2 ?_
  obtain ⟨v2, ev2, hf⟩ := z_lt hf
  refine za_istore_n C [(2, .int v2), (1, .int v1), (0, .int x0)] ev2 (by decide) rfl rfl dX6_ones_3 ?_
  obtain ⟨v6, v7, hw8, hf⟩ := z_b2 hf
  refine za_sub [2, 1, 0] rfl ?_
  refine z_wl (P := fun q => za_At p l e { frames := 0, cells := 0, slots := 0, locals := 0 } s m args below meth c D A 3 0 0 Q 4 [(0, .int x0), (1, .int q.1), (2, .int q.2)] [] (wR ad ck M0)) (E := fun q => za_At p l e { frames := 0, cells := 0, slots := 0, locals := 0 } s m args below meth c D A 3 0 0 Q 24 [(0, .int x0), (1, .int q.1), (2, .int q.2)] [] (wR ad ck M0)) ?_ ?_ _ _ hw8
  · intro q o hf hN hE
    obtain ⟨x1, x2⟩ := q
    have hf : B_X6_ones_4 n x0 x1 x2 M0 = some o := hf
    unfold B_X6_ones_4 at hf
    refine za_iload_n C 2 rfl rfl dX6_ones_4 ?_
    refine za_bipush (v := (24 : Int32)) C (by decide) dX6_ones_5 ?_
    refine za_icmp_ge C 24 (by decide) dX6_ones_7 (fun q3 => ?_) (fun q3 => ?_)
    · have hf := z_pos q3 hf
      exact za_sub [0, 1, 2] rfl (hE _ (z_inj hf))
    · have hf := z_neg q3 hf
      refine za_iload_n C 1 rfl rfl dX6_ones_10 ?_
      refine za_iload_n C 0 rfl rfl dX6_ones_11 ?_
      refine za_iload_n C 2 rfl rfl dX6_ones_12 ?_
      refine za_ishr C dX6_ones_13 ?_
      refine za_iconst (v := (1 : Int32)) C (by decide) dX6_ones_14 ?_
      refine za_iand C dX6_ones_15 ?_
      refine za_iadd C dX6_ones_16 ?_
      obtain ⟨v4, ev4, hf⟩ := z_lt hf
      refine za_istore_n C [(1, .int v4), (0, .int x0), (2, .int x2)] ev4 (by decide) rfl rfl dX6_ones_17 ?_
      obtain ⟨v5, ev5, hf⟩ := z_lt hf
      refine za_iinc (k9 := (1 : Int32)) C [(2, .int v5), (1, .int v4), (0, .int x0)] 2 rfl (by decide) ev5 (by decide) rfl dX6_ones_18 ?_
      refine za_goto C 4 (by decide) dX6_ones_21 ?_
      exact za_sub [2, 1, 0] rfl (hN _ (z_inj hf))
  · show za_At p l e { frames := 0, cells := 0, slots := 0, locals := 0 } s m args below meth c D A 3 0 0 Q 24 [(0, .int x0), (1, .int v6), (2, .int v7)] [] (wR ad ck M0)
    refine za_iload_n C 1 rfl rfl dX6_ones_24 ?_
    obtain rfl := z_ret1 hf
    exact za_iret C F dX6_ones_25
theorem in_X6_bestSet_X6 : ∀ w ∈ wsX60, w ∈ wsX6_bestSet := by decide +kernel
theorem fl_X6_bestSet_92 : Cond.fieldLink RX6 92 "ThriceNetsModel" "stores" "I" ∈ wsX6_bestSet := by decide +kernel
def K_X6_bestSet_59 (n : Nat) (x1 : Int32) (x2 : Int32) (x3 : Int32) (x4 : Int32) (N2 : zM) : Option ((Int32 × Int32 × Int32) ⊕ (Int32 × Int32 × Int32)) :=
  zlt (x3 + (1 : Int32)) (fun v6 => some (.inl (x1, x2, v6)))
def K_X6_bestSet_46 (n : Nat) (x1 : Int32) (x2 : Int32) (x3 : Int32) (x4 : Int32) (N2 : zM) : Option ((Int32 × Int32 × Int32) ⊕ (Int32 × Int32 × Int32)) :=
  (pX6_isBroken n x3 N2).bind (fun v8 => (if v8 = 0 then (K_X6_bestSet_59 n x1 x2 x3 x4 N2) else (zlt x3 (fun v10 => zlt x4 (fun v11 => K_X6_bestSet_59 n v10 v11 x3 x4 N2)))))
def B_X6_bestSet_10 (n : Nat) (x1 : Int32) (x2 : Int32) (x3 : Int32) (N2 : zM) : Option ((Int32 × Int32 × Int32) ⊕ (Int32 × Int32 × Int32)) :=
  (if ((1 : Int32) <<< ((N2.1 2 0) &&& 31)) ≤ x3 then (some (.inr (x1, x2, x3))) else ((pX6_priceOf n x3 N2).bind (fun v14 => (pX6_ones n x3 N2).bind (fun v16 => zlt (((100 : Int32) * v14) + v16) (fun v17 => (if x1 = (-1 : Int32) then (K_X6_bestSet_46 n x1 x2 x3 v17 N2) else (if x2 ≤ v17 then (K_X6_bestSet_59 n x1 x2 x3 v17 N2) else (K_X6_bestSet_46 n x1 x2 x3 v17 N2))))))))
def pX6_bestSet (n : Nat) (M0 : zM) : Option (Int32 × zM) :=
  (pX6_reach n M0).bind (fun N2 => zlt (-1 : Int32) (fun v3 => zlt (0 : Int32) (fun v4 => zlt (0 : Int32) (fun v5 => zb3 (zwl (fun q => B_X6_bestSet_10 n q.1 q.2.1 q.2.2 N2) n (v3, v4, v5)) (fun v20 v21 v22 => some (v20, N2))))))
set_option maxHeartbeats 4000000 in
set_option maxRecDepth 100000 in
theorem cX6_bestSet_ok (l : Launch) (D : va_G) (ck : Nat → ClassId) (ad : Nat → Nat) (n : Nat) (M0 : zM) (r9 : Int32) (M9 : zM) (hf : pX6_bestSet n M0 = some (r9, M9)) : zc l D ck (wR ad ck) yX6_bestSet wsX6_bestSet ({ frames := 1, cells := 0, slots := 0, locals := 24 }) [.ref (ad 0)] M0 (some (.int r9)) M9 := by
  refine zc_of (cc := cX6_bestSet) (maxL := 5) (ret := (some .int)) [(0, .ref (ad 0))] (by decide) rfl (Nat.le_of_ble_eq_true rfl) rfl ?_
  intro p e s m args below meth c A Q C F
  unfold pX6_bestSet at hf
  refine za_aload_n C 0 rfl rfl dX6_bestSet_0 ?_
  obtain ⟨N2, hc1, hf⟩ := z_bind hf
  refine za_callV (n := 0) (rest := []) C (cX6_reach_ok l D ck ad n  M0 _ hc1) gX6_bestSet_X6_reach rfl rfl rfl (by decide +kernel) ⟨Nat.le_of_ble_eq_true rfl, Nat.le_of_ble_eq_true rfl⟩ 0 rfl rfl rfl rfl rfl (Nat.le_of_ble_eq_true rfl) ⟨Nat.zero_le _, Nat.zero_le _⟩ dX6_bestSet_1 ?_
  refine za_iconst (v := (-1 : Int32)) C (by decide) dX6_bestSet_4 ?_
  obtain ⟨v3, ev3, hf⟩ := z_lt hf
  refine za_istore_n C [(1, .int v3), (0, .ref (ad 0))] ev3 (by decide) rfl rfl dX6_bestSet_5 ?_
  refine za_iconst (v := (0 : Int32)) C (by decide) dX6_bestSet_6 ?_
  obtain ⟨v4, ev4, hf⟩ := z_lt hf
  refine za_istore_n C [(2, .int v4), (1, .int v3), (0, .ref (ad 0))] ev4 (by decide) rfl rfl dX6_bestSet_7 ?_
  refine za_iconst (v := (0 : Int32)) C (by decide) dX6_bestSet_8 ?_
  obtain ⟨v5, ev5, hf⟩ := z_lt hf
  refine za_istore_n C [(3, .int v5), (2, .int v4), (1, .int v3), (0, .ref (ad 0))] ev5 (by decide) rfl rfl dX6_bestSet_9 ?_
  obtain ⟨v20, v21, v22, hw23, hf⟩ := z_b3 hf
  refine za_sub [3, 2, 1, 0] rfl ?_
  refine z_wl (P := fun q => za_At p l e { frames := 1, cells := 0, slots := 0, locals := 24 } s m args below meth c D A 5 0 0 Q 10 [(0, .ref (ad 0)), (1, .int q.1), (2, .int q.2.1), (3, .int q.2.2)] [] (wR ad ck N2)) (E := fun q => za_At p l e { frames := 1, cells := 0, slots := 0, locals := 24 } s m args below meth c D A 5 0 0 Q 65 [(0, .ref (ad 0)), (1, .int q.1), (2, .int q.2.1), (3, .int q.2.2)] [] (wR ad ck N2)) ?_ ?_ _ _ hw23
  · intro q o hf hN hE
    obtain ⟨x1, x2, x3⟩ := q
    have hf : B_X6_bestSet_10 n x1 x2 x3 N2 = some o := hf
    unfold B_X6_bestSet_10 at hf
    have j_59 : ∀ (x1 : Int32) (x2 : Int32) (x3 : Int32) (x4 : Int32), K_X6_bestSet_59 n x1 x2 x3 x4 N2 = some o → za_At p l e { frames := 1, cells := 0, slots := 0, locals := 24 } s m args below meth c D A 5 0 0 Q 59 [(0, .ref (ad 0)), (1, .int x1), (2, .int x2), (3, .int x3), (4, .int x4)] [] (wR ad ck N2) := by
      intro x1 x2 x3 x4 hf
      unfold K_X6_bestSet_59 at hf
      obtain ⟨v6, ev6, hf⟩ := z_lt hf
      refine za_iinc (k9 := (1 : Int32)) C [(3, .int v6), (0, .ref (ad 0)), (1, .int x1), (2, .int x2), (4, .int x4)] 3 rfl (by decide) ev6 (by decide) rfl dX6_bestSet_59 ?_
      refine za_goto C 10 (by decide) dX6_bestSet_62 ?_
      exact za_sub [1, 2, 3, 0] rfl (hN _ (z_inj hf))
    have j_46 : ∀ (x1 : Int32) (x2 : Int32) (x3 : Int32) (x4 : Int32), K_X6_bestSet_46 n x1 x2 x3 x4 N2 = some o → za_At p l e { frames := 1, cells := 0, slots := 0, locals := 24 } s m args below meth c D A 5 0 0 Q 46 [(0, .ref (ad 0)), (1, .int x1), (2, .int x2), (3, .int x3), (4, .int x4)] [] (wR ad ck N2) := by
      intro x1 x2 x3 x4 hf
      unfold K_X6_bestSet_46 at hf
      refine za_aload_n C 0 rfl rfl dX6_bestSet_46 ?_
      refine za_iload_n C 3 rfl rfl dX6_bestSet_47 ?_
      obtain ⟨v8, hc7, hf⟩ := z_bind hf
      refine za_callV (n := 1) (rest := []) C (cX6_isBroken_ok l D ck ad n x3 N2 _ hc7) gX6_bestSet_X6_isBroken rfl rfl rfl (by decide +kernel) ⟨Nat.le_of_ble_eq_true rfl, Nat.le_of_ble_eq_true rfl⟩ 0 rfl rfl rfl rfl rfl (Nat.le_of_ble_eq_true rfl) ⟨Nat.zero_le _, Nat.zero_le _⟩ dX6_bestSet_48 ?_
      refine za_if_eq C 59 (by decide) dX6_bestSet_51 (fun q9 => ?_) (fun q9 => ?_)
      · have hf := z_pos q9 hf
        exact za_sub [0, 1, 2, 3, 4] rfl (j_59 x1 x2 x3 x4 hf)
      · have hf := z_neg q9 hf
        refine za_iload_n C 3 rfl rfl dX6_bestSet_54 ?_
        obtain ⟨v10, ev10, hf⟩ := z_lt hf
        refine za_istore_n C [(1, .int v10), (0, .ref (ad 0)), (2, .int x2), (3, .int x3), (4, .int x4)] ev10 (by decide) rfl rfl dX6_bestSet_55 ?_
        refine za_iload C 4 rfl dX6_bestSet_56 ?_
        obtain ⟨v11, ev11, hf⟩ := z_lt hf
        refine za_istore_n C [(2, .int v11), (1, .int v10), (0, .ref (ad 0)), (3, .int x3), (4, .int x4)] ev11 (by decide) rfl rfl dX6_bestSet_58 ?_
        exact za_sub [2, 1, 0, 3, 4] rfl (j_59 v10 v11 x3 x4 hf)
    refine za_iload_n C 3 rfl rfl dX6_bestSet_10 ?_
    refine za_iconst (v := (1 : Int32)) C (by decide) dX6_bestSet_11 ?_
    refine za_aload_n C 0 rfl rfl dX6_bestSet_12 ?_
    refine zg_R0_10 C in_X6_bestSet_X6 fl_X6_bestSet_92 dX6_bestSet_13 ?_
    refine za_ishl C dX6_bestSet_16 ?_
    refine za_icmp_ge C 65 (by decide) dX6_bestSet_17 (fun q12 => ?_) (fun q12 => ?_)
    · have hf := z_pos q12 hf
      exact za_sub [0, 1, 2, 3] rfl (hE _ (z_inj hf))
    · have hf := z_neg q12 hf
      refine za_bipush (v := (100 : Int32)) C (by decide) dX6_bestSet_20 ?_
      refine za_aload_n C 0 rfl rfl dX6_bestSet_22 ?_
      refine za_iload_n C 3 rfl rfl dX6_bestSet_23 ?_
      obtain ⟨v14, hc13, hf⟩ := z_bind hf
      refine za_callV (n := 1) (rest := [.int (100 : Int32)]) C (cX6_priceOf_ok l D ck ad n x3 N2 _ hc13) gX6_bestSet_X6_priceOf rfl rfl rfl (by decide +kernel) ⟨Nat.le_of_ble_eq_true rfl, Nat.le_of_ble_eq_true rfl⟩ 0 rfl rfl rfl rfl rfl (Nat.le_of_ble_eq_true rfl) ⟨Nat.zero_le _, Nat.zero_le _⟩ dX6_bestSet_24 ?_
      refine za_imul C dX6_bestSet_27 ?_
      refine za_iload_n C 3 rfl rfl dX6_bestSet_28 ?_
      obtain ⟨v16, hc15, hf⟩ := z_bind hf
      refine za_callS (n := 1) (rest := [.int ((100 : Int32) * v14)]) C (cX6_ones_ok l D ck ad n x3 N2 _ hc15) gX6_bestSet_X6_ones rfl rfl rfl (by decide +kernel) ⟨Nat.le_of_ble_eq_true rfl, Nat.le_of_ble_eq_true rfl⟩ rfl rfl (Nat.le_of_ble_eq_true rfl) ⟨Nat.zero_le _, Nat.zero_le _⟩ dX6_bestSet_29 ?_
      refine za_iadd C dX6_bestSet_32 ?_
      obtain ⟨v17, ev17, hf⟩ := z_lt hf
      refine za_istore C [(4, .int v17), (0, .ref (ad 0)), (1, .int x1), (2, .int x2), (3, .int x3)] ev17 (by decide) rfl dX6_bestSet_33 ?_
      refine za_iload_n C 2 rfl rfl dX6_bestSet_35 ?_
      refine za_iconst (v := (-1 : Int32)) C (by decide) dX6_bestSet_36 ?_
      refine za_icmp_eq C 46 (by decide) dX6_bestSet_37 (fun q18 => ?_) (fun q18 => ?_)
      · have hf := z_pos q18 hf
        exact za_sub [1, 2, 3, 4, 0] rfl (j_46 x1 x2 x3 v17 hf)
      · have hf := z_neg q18 hf
        refine za_iload C 0 rfl dX6_bestSet_40 ?_
        refine za_iload_n C 3 rfl rfl dX6_bestSet_42 ?_
        refine za_icmp_ge C 59 (by decide) dX6_bestSet_43 (fun q19 => ?_) (fun q19 => ?_)
        · have hf := z_pos q19 hf
          exact za_sub [1, 2, 3, 4, 0] rfl (j_59 x1 x2 x3 v17 hf)
        · have hf := z_neg q19 hf
          exact za_sub [1, 2, 3, 4, 0] rfl (j_46 x1 x2 x3 v17 hf)
  · show za_At p l e { frames := 1, cells := 0, slots := 0, locals := 24 } s m args below meth c D A 5 0 0 Q 65 [(0, .ref (ad 0)), (1, .int v20), (2, .int v21), (3, .int v22)] [] (wR ad ck N2)
    refine za_iload_n C 1 rfl rfl dX6_bestSet_65 ?_
    obtain ⟨rfl, rfl⟩ := z_ret2 hf
    exact za_iret C F dX6_bestSet_66
theorem in_X6_best_X6 : ∀ w ∈ wsX60, w ∈ wsX6_best := by decide +kernel
theorem fl_X6_best_92 : Cond.fieldLink RX6 92 "ThriceNetsModel" "stores" "I" ∈ wsX6_best := by decide +kernel
def pX6_best (n : Nat) (M0 : zM) : Option (Int32 × zM) :=
  (if (M0.1 2 0) ≤ (12 : Int32) then (zb2 (pX6_bestSet n M0) (fun v3 N4 => some (v3, N4))) else (some ((-3 : Int32), M0)))
set_option maxHeartbeats 4000000 in
set_option maxRecDepth 100000 in
theorem cX6_best_ok (l : Launch) (D : va_G) (ck : Nat → ClassId) (ad : Nat → Nat) (n : Nat) (M0 : zM) (r9 : Int32) (M9 : zM) (hf : pX6_best n M0 = some (r9, M9)) : zc l D ck (wR ad ck) yX6_best wsX6_best ({ frames := 2, cells := 0, slots := 0, locals := 48 }) [.ref (ad 0)] M0 (some (.int r9)) M9 := by
  refine zc_of (cc := cX6_best) (maxL := 1) (ret := (some .int)) [(0, .ref (ad 0))] (by decide) rfl (Nat.le_of_ble_eq_true rfl) rfl ?_
  intro p e s m args below meth c A Q C F
  unfold pX6_best at hf
  refine za_aload_n C 0 rfl rfl dX6_best_0 ?_
  refine zg_R0_10 C in_X6_best_X6 fl_X6_best_92 dX6_best_1 ?_
  refine za_bipush (v := (12 : Int32)) C (by decide) dX6_best_4 ?_
  refine za_icmp_le C 14 (by decide) dX6_best_6 (fun q1 => ?_) (fun q1 => ?_)
  · have hf := z_pos q1 hf
    refine za_aload_n C 0 rfl rfl dX6_best_14 ?_
    obtain ⟨v3, N4, hc2, hf⟩ := z_b2 hf
    refine za_callV (n := 0) (rest := []) C (cX6_bestSet_ok l D ck ad n  M0 _ _ hc2) gX6_best_X6_bestSet rfl rfl rfl (by decide +kernel) ⟨Nat.le_of_ble_eq_true rfl, Nat.le_of_ble_eq_true rfl⟩ 0 rfl rfl rfl rfl rfl (Nat.le_of_ble_eq_true rfl) ⟨Nat.zero_le _, Nat.zero_le _⟩ dX6_best_15 ?_
    obtain ⟨rfl, rfl⟩ := z_ret2 hf
    exact za_iret C F dX6_best_18
  · have hf := z_neg q1 hf
    refine za_bipush (v := (-3 : Int32)) C (by decide) dX6_best_9 ?_
    refine za_goto C 18 (by decide) dX6_best_11 ?_
    obtain ⟨rfl, rfl⟩ := z_ret2 hf
    exact za_iret C F dX6_best_18
theorem in_X6_harden_X6 : ∀ w ∈ wsX60, w ∈ wsX6_harden := by decide +kernel
theorem fl_X6_harden_92 : Cond.fieldLink RX6 92 "ThriceNetsModel" "stores" "I" ∈ wsX6_harden := by decide +kernel
theorem fl_X6_harden_78 : Cond.fieldLink RX6 78 "ThriceNetsModel" "nodes" "I" ∈ wsX6_harden := by decide +kernel
theorem fl_X6_harden_23 : Cond.fieldLink RX6 23 "ThriceNetsModel" "isThrice" "[Z" ∈ wsX6_harden := by decide +kernel
theorem fl_X6_harden_26 : Cond.fieldLink RX6 26 "ThriceNetsModel" "isVoted" "[Z" ∈ wsX6_harden := by decide +kernel
theorem fl_X6_harden_7 : Cond.fieldLink RX6 7 "ThriceNetsModel" "kinds" "[I" ∈ wsX6_harden := by decide +kernel
theorem fl_X6_harden_32 : Cond.fieldLink RX6 32 "ThriceNetsModel" "numbers" "[I" ∈ wsX6_harden := by decide +kernel
def K_X6_harden_68 (n : Nat) (v5 : Int32) (x2 : Int32) (y0 : Int32) (y1 : Int32) (M : zM) : Option ((Int32 × zM) ⊕ (Int32 × zM)) :=
  zchk y1 24 (zst (zsI M 15 y1.toNatClampNeg (vp_nar .boolean y0)) (fun N8 => zlt (x2 + (1 : Int32)) (fun v9 => some (.inl (v9, N8)))))
def K_X6_harden_67 (n : Nat) (v5 : Int32) (x2 : Int32) (y0 : Int32) (M : zM) : Option ((Int32 × zM) ⊕ (Int32 × zM)) :=
  K_X6_harden_68 n v5 x2 (0 : Int32) y0 M
def B_X6_harden_19 (n : Nat) (v5 : Int32) (x2 : Int32) (M : zM) : Option ((Int32 × zM) ⊕ (Int32 × zM)) :=
  (if (M.1 0 0) ≤ x2 then (some (.inr (x2, M))) else (zchk x2 24 (zst (zsI M 14 x2.toNatClampNeg (vp_nar .boolean (1 : Int32))) (fun N12 => zchk x2 24 ((if (N12.1 10 x2.toNatClampNeg) = (5 : Int32) then (zchk x2 24 ((if ((v5 >>> ((N12.1 17 x2.toNatClampNeg) &&& 31)) &&& (1 : Int32)) = (1 : Int32) then (K_X6_harden_68 n v5 x2 (1 : Int32) x2 N12) else (K_X6_harden_67 n v5 x2 x2 N12)))) else (K_X6_harden_67 n v5 x2 x2 N12)))))))
def pX6_harden (n : Nat) (M0 : zM) : Option (Int32 × zM) :=
  (if (M0.1 2 0) ≤ (12 : Int32) then (zb2 (pX6_bestSet n M0) (fun v3 N4 => zlt v3 (fun v5 => zlt (0 : Int32) (fun v6 => zb2 (zwl (fun q => B_X6_harden_19 n v5 q.1 q.2) n (v6, N4)) (fun v17 N18 => (pX6_ones n v5 N18).bind (fun v20 => some (v20, N18))))))) else (some ((-3 : Int32), M0)))
set_option maxHeartbeats 4000000 in
set_option maxRecDepth 100000 in
theorem cX6_harden_ok (l : Launch) (D : va_G) (ck : Nat → ClassId) (ad : Nat → Nat) (n : Nat) (M0 : zM) (r9 : Int32) (M9 : zM) (hf : pX6_harden n M0 = some (r9, M9)) : zc l D ck (wR ad ck) yX6_harden wsX6_harden ({ frames := 2, cells := 0, slots := 0, locals := 48 }) [.ref (ad 0)] M0 (some (.int r9)) M9 := by
  refine zc_of (cc := cX6_harden) (maxL := 3) (ret := (some .int)) [(0, .ref (ad 0))] (by decide) rfl (Nat.le_of_ble_eq_true rfl) rfl ?_
  intro p e s m args below meth c A Q C F
  unfold pX6_harden at hf
  refine za_aload_n C 0 rfl rfl dX6_harden_0 ?_
  refine zg_R0_10 C in_X6_harden_X6 fl_X6_harden_92 dX6_harden_1 ?_
  refine za_bipush (v := (12 : Int32)) C (by decide) dX6_harden_4 ?_
  refine za_icmp_le C 12 (by decide) dX6_harden_6 (fun q1 => ?_) (fun q1 => ?_)
  · have hf := z_pos q1 hf
    refine za_aload_n C 0 rfl rfl dX6_harden_12 ?_
    obtain ⟨v3, N4, hc2, hf⟩ := z_b2 hf
    refine za_callV (n := 0) (rest := []) C (cX6_bestSet_ok l D ck ad n  M0 _ _ hc2) gX6_harden_X6_bestSet rfl rfl rfl (by decide +kernel) ⟨Nat.le_of_ble_eq_true rfl, Nat.le_of_ble_eq_true rfl⟩ 0 rfl rfl rfl rfl rfl (Nat.le_of_ble_eq_true rfl) ⟨Nat.zero_le _, Nat.zero_le _⟩ dX6_harden_13 ?_
    obtain ⟨v5, ev5, hf⟩ := z_lt hf
    refine za_istore_n C [(1, .int v5), (0, .ref (ad 0))] ev5 (by decide) rfl rfl dX6_harden_16 ?_
    refine za_iconst (v := (0 : Int32)) C (by decide) dX6_harden_17 ?_
    obtain ⟨v6, ev6, hf⟩ := z_lt hf
    refine za_istore_n C [(2, .int v6), (1, .int v5), (0, .ref (ad 0))] ev6 (by decide) rfl rfl dX6_harden_18 ?_
    obtain ⟨v17, N18, hw21, hf⟩ := z_b2 hf
    refine za_sub [2, 1, 0] rfl ?_
    refine z_wl (P := fun q => za_At p l e { frames := 2, cells := 0, slots := 0, locals := 48 } s m args below meth c D A 3 0 0 Q 19 [(0, .ref (ad 0)), (1, .int v5), (2, .int q.1)] [] (wR ad ck q.2)) (E := fun q => za_At p l e { frames := 2, cells := 0, slots := 0, locals := 48 } s m args below meth c D A 3 0 0 Q 75 [(0, .ref (ad 0)), (1, .int v5), (2, .int q.1)] [] (wR ad ck q.2)) ?_ ?_ _ _ hw21
    · intro q o hf hN hE
      obtain ⟨x2, M⟩ := q
      have hf : B_X6_harden_19 n v5 x2 M = some o := hf
      unfold B_X6_harden_19 at hf
      have j_68 : ∀ (x2 : Int32) (y0 : Int32) (y1 : Int32) (M : zM), K_X6_harden_68 n v5 x2 y0 y1 M = some o → za_At p l e { frames := 2, cells := 0, slots := 0, locals := 48 } s m args below meth c D A 3 0 0 Q 68 [(0, .ref (ad 0)), (1, .int v5), (2, .int x2)] [.int y0, .int y1, .ref (ad 6)] (wR ad ck M) := by
        intro x2 y0 y1 M hf
        unfold K_X6_harden_68 at hf
        obtain ⟨h7, hf⟩ := z_chk hf
        obtain ⟨N8, eN8, hf⟩ := z_st hf
        refine zs_R6 C h7 eN8 dX6_harden_68 ?_
        obtain ⟨v9, ev9, hf⟩ := z_lt hf
        refine za_iinc (k9 := (1 : Int32)) C [(2, .int v9), (0, .ref (ad 0)), (1, .int v5)] 2 rfl (by decide) ev9 (by decide) rfl dX6_harden_69 ?_
        refine za_goto C 19 (by decide) dX6_harden_72 ?_
        exact za_sub [1, 2, 0] rfl (hN _ (z_inj hf))
      have j_67 : ∀ (x2 : Int32) (y0 : Int32) (M : zM), K_X6_harden_67 n v5 x2 y0 M = some o → za_At p l e { frames := 2, cells := 0, slots := 0, locals := 48 } s m args below meth c D A 3 0 0 Q 67 [(0, .ref (ad 0)), (1, .int v5), (2, .int x2)] [.int y0, .ref (ad 6)] (wR ad ck M) := by
        intro x2 y0 M hf
        unfold K_X6_harden_67 at hf
        refine za_iconst (v := (0 : Int32)) C (by decide) dX6_harden_67 ?_
        exact za_sub [0, 1, 2] rfl (j_68 x2 (0 : Int32) y0 M hf)
      refine za_iload_n C 2 rfl rfl dX6_harden_19 ?_
      refine za_aload_n C 0 rfl rfl dX6_harden_20 ?_
      refine zg_R0_0 C in_X6_harden_X6 fl_X6_harden_78 dX6_harden_21 ?_
      refine za_icmp_ge C 75 (by decide) dX6_harden_24 (fun q10 => ?_) (fun q10 => ?_)
      · have hf := z_pos q10 hf
        exact za_sub [0, 1, 2] rfl (hE _ (z_inj hf))
      · have hf := z_neg q10 hf
        refine za_aload_n C 0 rfl rfl dX6_harden_27 ?_
        refine zg_R0_5 C in_X6_harden_X6 fl_X6_harden_23 dX6_harden_28 ?_
        refine za_iload_n C 2 rfl rfl dX6_harden_31 ?_
        refine za_iconst (v := (1 : Int32)) C (by decide) dX6_harden_32 ?_
        obtain ⟨h11, hf⟩ := z_chk hf
        obtain ⟨N12, eN12, hf⟩ := z_st hf
        refine zs_R5 C h11 eN12 dX6_harden_33 ?_
        refine za_aload_n C 0 rfl rfl dX6_harden_34 ?_
        refine zg_R0_6 C in_X6_harden_X6 fl_X6_harden_26 dX6_harden_35 ?_
        refine za_iload_n C 2 rfl rfl dX6_harden_38 ?_
        refine za_aload_n C 0 rfl rfl dX6_harden_39 ?_
        refine zg_R0_1 C in_X6_harden_X6 fl_X6_harden_7 dX6_harden_40 ?_
        refine za_iload_n C 2 rfl rfl dX6_harden_43 ?_
        obtain ⟨h13, hf⟩ := z_chk hf
        refine zl_R1 C h13 dX6_harden_44 ?_
        refine za_iconst (v := (5 : Int32)) C (by decide) dX6_harden_45 ?_
        refine za_icmp_ne C 67 (by decide) dX6_harden_46 (fun q14 => ?_) (fun q14 => ?_)
        · have hf := z_neg q14 hf
          exact za_sub [0, 1, 2] rfl (j_67 x2 x2 N12 hf)
        · have hf := z_pos q14 hf
          refine za_iload_n C 1 rfl rfl dX6_harden_49 ?_
          refine za_aload_n C 0 rfl rfl dX6_harden_50 ?_
          refine zg_R0_8 C in_X6_harden_X6 fl_X6_harden_32 dX6_harden_51 ?_
          refine za_iload_n C 2 rfl rfl dX6_harden_54 ?_
          obtain ⟨h15, hf⟩ := z_chk hf
          refine zl_R8 C h15 dX6_harden_55 ?_
          refine za_ishr C dX6_harden_56 ?_
          refine za_iconst (v := (1 : Int32)) C (by decide) dX6_harden_57 ?_
          refine za_iand C dX6_harden_58 ?_
          refine za_iconst (v := (1 : Int32)) C (by decide) dX6_harden_59 ?_
          refine za_icmp_ne C 67 (by decide) dX6_harden_60 (fun q16 => ?_) (fun q16 => ?_)
          · have hf := z_neg q16 hf
            exact za_sub [0, 1, 2] rfl (j_67 x2 x2 N12 hf)
          · have hf := z_pos q16 hf
            refine za_iconst (v := (1 : Int32)) C (by decide) dX6_harden_63 ?_
            refine za_goto C 68 (by decide) dX6_harden_64 ?_
            exact za_sub [0, 1, 2] rfl (j_68 x2 (1 : Int32) x2 N12 hf)
    · show za_At p l e { frames := 2, cells := 0, slots := 0, locals := 48 } s m args below meth c D A 3 0 0 Q 75 [(0, .ref (ad 0)), (1, .int v5), (2, .int v17)] [] (wR ad ck N18)
      refine za_iload_n C 1 rfl rfl dX6_harden_75 ?_
      obtain ⟨v20, hc19, hf⟩ := z_bind hf
      refine za_callS (n := 1) (rest := []) C (cX6_ones_ok l D ck ad n v5 N18 _ hc19) gX6_harden_X6_ones rfl rfl rfl (by decide +kernel) ⟨Nat.le_of_ble_eq_true rfl, Nat.le_of_ble_eq_true rfl⟩ rfl rfl (Nat.le_of_ble_eq_true rfl) ⟨Nat.zero_le _, Nat.zero_le _⟩ dX6_harden_76 ?_
      obtain ⟨rfl, rfl⟩ := z_ret2 hf
      exact za_iret C F dX6_harden_79
  · have hf := z_neg q1 hf
    refine za_bipush (v := (-3 : Int32)) C (by decide) dX6_harden_9 ?_
    obtain ⟨rfl, rfl⟩ := z_ret2 hf
    exact za_iret C F dX6_harden_11
theorem in_X6_voter_X6 : ∀ w ∈ wsX60, w ∈ wsX6_voter := by decide +kernel
theorem fl_X6_voter_39 : Cond.fieldLink RX6 39 "ThriceNetsModel" "voter" "I" ∈ wsX6_voter := by decide +kernel
def pX6_voter (x1 : Int32) (M0 : zM) : Option (Int32 × zM) :=
  (pX6_in x1 (0 : Int32) (1000 : Int32) M0).bind (fun v2 => (if v2 = 0 then (some ((-2 : Int32), M0)) else (zlt (M0.1 4 0) (fun v4 => zst (zsI M0 4 0 x1) (fun N5 => some (v4, N5))))))
set_option maxHeartbeats 4000000 in
set_option maxRecDepth 100000 in
theorem cX6_voter_ok (l : Launch) (D : va_G) (ck : Nat → ClassId) (ad : Nat → Nat) (x1 : Int32) (M0 : zM) (r9 : Int32) (M9 : zM) (hf : pX6_voter x1 M0 = some (r9, M9)) : zc l D ck (wR ad ck) yX6_voter wsX6_voter ({ frames := 1, cells := 0, slots := 0, locals := 22 }) [.ref (ad 0), .int x1] M0 (some (.int r9)) M9 := by
  refine zc_of (cc := cX6_voter) (maxL := 3) (ret := (some .int)) [(0, .ref (ad 0)), (1, .int x1)] (by decide) rfl (Nat.le_of_ble_eq_true rfl) rfl ?_
  intro p e s m args below meth c A Q C F
  unfold pX6_voter at hf
  refine za_iload_n C 1 rfl rfl dX6_voter_0 ?_
  refine za_iconst (v := (0 : Int32)) C (by decide) dX6_voter_1 ?_
  refine za_sipush (v := (1000 : Int32)) C (by decide) dX6_voter_2 ?_
  obtain ⟨v2, hc1, hf⟩ := z_bind hf
  refine za_callS (n := 3) (rest := []) C (cX6_in_ok l D ck ad x1 (0 : Int32) (1000 : Int32) M0 _ hc1) gX6_voter_X6_in rfl rfl rfl (by decide +kernel) ⟨Nat.le_of_ble_eq_true rfl, Nat.le_of_ble_eq_true rfl⟩ rfl rfl (Nat.le_of_ble_eq_true rfl) ⟨Nat.zero_le _, Nat.zero_le _⟩ dX6_voter_5 ?_
  refine za_if_ne C 14 (by decide) dX6_voter_8 (fun q3 => ?_) (fun q3 => ?_)
  · have hf := z_neg q3 hf
    refine za_aload_n C 0 rfl rfl dX6_voter_14 ?_
    refine zg_R0_12 C in_X6_voter_X6 fl_X6_voter_39 dX6_voter_15 ?_
    obtain ⟨v4, ev4, hf⟩ := z_lt hf
    refine za_istore_n C [(2, .int v4), (0, .ref (ad 0)), (1, .int x1)] ev4 (by decide) rfl rfl dX6_voter_18 ?_
    refine za_aload_n C 1 rfl rfl dX6_voter_19 ?_
    refine za_iload_n C 2 rfl rfl dX6_voter_20 ?_
    obtain ⟨N5, eN5, hf⟩ := z_st hf
    refine zp_R0_12 C in_X6_voter_X6 fl_X6_voter_39 eN5 dX6_voter_21 ?_
    refine za_iload_n C 0 rfl rfl dX6_voter_24 ?_
    obtain ⟨rfl, rfl⟩ := z_ret2 hf
    exact za_iret C F dX6_voter_25
  · have hf := z_pos q3 hf
    refine za_bipush (v := (-2 : Int32)) C (by decide) dX6_voter_11 ?_
    obtain ⟨rfl, rfl⟩ := z_ret2 hf
    exact za_iret C F dX6_voter_13
theorem in_X6_cost_X6 : ∀ w ∈ wsX60, w ∈ wsX6_cost := by decide +kernel
theorem fl_X6_cost_78 : Cond.fieldLink RX6 78 "ThriceNetsModel" "nodes" "I" ∈ wsX6_cost := by decide +kernel
theorem fl_X6_cost_29 : Cond.fieldLink RX6 29 "ThriceNetsModel" "prices" "[I" ∈ wsX6_cost := by decide +kernel
theorem fl_X6_cost_26 : Cond.fieldLink RX6 26 "ThriceNetsModel" "isVoted" "[Z" ∈ wsX6_cost := by decide +kernel
theorem fl_X6_cost_39 : Cond.fieldLink RX6 39 "ThriceNetsModel" "voter" "I" ∈ wsX6_cost := by decide +kernel
def K_X6_cost_44 (n : Nat) (x1 : Int32) (x2 : Int32) (y0 : Int32) (y1 : Int32) (y2 : Int32) (M0 : zM) : Option ((Int32 × Int32) ⊕ (Int32 × Int32)) :=
  zlt (y2 + (y1 + y0)) (fun v3 => zlt (x2 + (1 : Int32)) (fun v4 => some (.inl (v3, v4))))
def B_X6_cost_4 (n : Nat) (x1 : Int32) (x2 : Int32) (M0 : zM) : Option ((Int32 × Int32) ⊕ (Int32 × Int32)) :=
  (if (M0.1 0 0) ≤ x2 then (some (.inr (x1, x2))) else ((pX6_copiesOf x2 M0).bind (fun v7 => zchk x2 24 (zchk x2 24 ((if (M0.1 15 x2.toNatClampNeg) = 0 then (K_X6_cost_44 n x1 x2 (0 : Int32) (v7 * (M0.1 16 x2.toNatClampNeg)) x1 M0) else (K_X6_cost_44 n x1 x2 ((3 : Int32) * (M0.1 4 0)) (v7 * (M0.1 16 x2.toNatClampNeg)) x1 M0)))))))
def pX6_cost (n : Nat) (M0 : zM) : Option (Int32) :=
  zlt (0 : Int32) (fun v1 => zlt (0 : Int32) (fun v2 => zb2 (zwl (fun q => B_X6_cost_4 n q.1 q.2 M0) n (v1, v2)) (fun v11 v12 => some v11)))
set_option maxHeartbeats 4000000 in
set_option maxRecDepth 100000 in
theorem cX6_cost_ok (l : Launch) (D : va_G) (ck : Nat → ClassId) (ad : Nat → Nat) (n : Nat) (M0 : zM) (r9 : Int32) (hf : pX6_cost n M0 = some r9) : zc l D ck (wR ad ck) yX6_cost wsX6_cost ({ frames := 1, cells := 0, slots := 0, locals := 21 }) [.ref (ad 0)] M0 (some (.int r9)) M0 := by
  refine zc_of (cc := cX6_cost) (maxL := 3) (ret := (some .int)) [(0, .ref (ad 0))] (by decide) rfl (Nat.le_of_ble_eq_true rfl) rfl ?_
  intro p e s m args below meth c A Q C F
  unfold pX6_cost at hf
  refine za_iconst (v := (0 : Int32)) C (by decide) dX6_cost_0 ?_
  obtain ⟨v1, ev1, hf⟩ := z_lt hf
  refine za_istore_n C [(1, .int v1), (0, .ref (ad 0))] ev1 (by decide) rfl rfl dX6_cost_1 ?_
  refine za_iconst (v := (0 : Int32)) C (by decide) dX6_cost_2 ?_
  obtain ⟨v2, ev2, hf⟩ := z_lt hf
  refine za_istore_n C [(2, .int v2), (1, .int v1), (0, .ref (ad 0))] ev2 (by decide) rfl rfl dX6_cost_3 ?_
  obtain ⟨v11, v12, hw13, hf⟩ := z_b2 hf
  refine za_sub [2, 1, 0] rfl ?_
  refine z_wl (P := fun q => za_At p l e { frames := 1, cells := 0, slots := 0, locals := 21 } s m args below meth c D A 3 0 0 Q 4 [(0, .ref (ad 0)), (1, .int q.1), (2, .int q.2)] [] (wR ad ck M0)) (E := fun q => za_At p l e { frames := 1, cells := 0, slots := 0, locals := 21 } s m args below meth c D A 3 0 0 Q 53 [(0, .ref (ad 0)), (1, .int q.1), (2, .int q.2)] [] (wR ad ck M0)) ?_ ?_ _ _ hw13
  · intro q o hf hN hE
    obtain ⟨x1, x2⟩ := q
    have hf : B_X6_cost_4 n x1 x2 M0 = some o := hf
    unfold B_X6_cost_4 at hf
    have j_44 : ∀ (x1 : Int32) (x2 : Int32) (y0 : Int32) (y1 : Int32) (y2 : Int32), K_X6_cost_44 n x1 x2 y0 y1 y2 M0 = some o → za_At p l e { frames := 1, cells := 0, slots := 0, locals := 21 } s m args below meth c D A 3 0 0 Q 44 [(0, .ref (ad 0)), (1, .int x1), (2, .int x2)] [.int y0, .int y1, .int y2] (wR ad ck M0) := by
      intro x1 x2 y0 y1 y2 hf
      unfold K_X6_cost_44 at hf
      refine za_iadd C dX6_cost_44 ?_
      refine za_iadd C dX6_cost_45 ?_
      obtain ⟨v3, ev3, hf⟩ := z_lt hf
      refine za_istore_n C [(1, .int v3), (0, .ref (ad 0)), (2, .int x2)] ev3 (by decide) rfl rfl dX6_cost_46 ?_
      obtain ⟨v4, ev4, hf⟩ := z_lt hf
      refine za_iinc (k9 := (1 : Int32)) C [(2, .int v4), (1, .int v3), (0, .ref (ad 0))] 2 rfl (by decide) ev4 (by decide) rfl dX6_cost_47 ?_
      refine za_goto C 4 (by decide) dX6_cost_50 ?_
      exact za_sub [2, 1, 0] rfl (hN _ (z_inj hf))
    refine za_iload_n C 2 rfl rfl dX6_cost_4 ?_
    refine za_aload_n C 0 rfl rfl dX6_cost_5 ?_
    refine zg_R0_0 C in_X6_cost_X6 fl_X6_cost_78 dX6_cost_6 ?_
    refine za_icmp_ge C 53 (by decide) dX6_cost_9 (fun q5 => ?_) (fun q5 => ?_)
    · have hf := z_pos q5 hf
      exact za_sub [0, 1, 2] rfl (hE _ (z_inj hf))
    · have hf := z_neg q5 hf
      refine za_iload_n C 1 rfl rfl dX6_cost_12 ?_
      refine za_aload_n C 0 rfl rfl dX6_cost_13 ?_
      refine za_iload_n C 2 rfl rfl dX6_cost_14 ?_
      obtain ⟨v7, hc6, hf⟩ := z_bind hf
      refine za_callV (n := 1) (rest := [.int x1]) C (cX6_copiesOf_ok l D ck ad x2 M0 _ hc6) gX6_cost_X6_copiesOf rfl rfl rfl (by decide +kernel) ⟨Nat.le_of_ble_eq_true rfl, Nat.le_of_ble_eq_true rfl⟩ 0 rfl rfl rfl rfl rfl (Nat.le_of_ble_eq_true rfl) ⟨Nat.zero_le _, Nat.zero_le _⟩ dX6_cost_15 ?_
      refine za_aload_n C 0 rfl rfl dX6_cost_18 ?_
      refine zg_R0_7 C in_X6_cost_X6 fl_X6_cost_29 dX6_cost_19 ?_
      refine za_iload_n C 2 rfl rfl dX6_cost_22 ?_
      obtain ⟨h8, hf⟩ := z_chk hf
      refine zl_R7 C h8 dX6_cost_23 ?_
      refine za_imul C dX6_cost_24 ?_
      refine za_aload_n C 0 rfl rfl dX6_cost_25 ?_
      refine zg_R0_6 C in_X6_cost_X6 fl_X6_cost_26 dX6_cost_26 ?_
      refine za_iload_n C 2 rfl rfl dX6_cost_29 ?_
      obtain ⟨h9, hf⟩ := z_chk hf
      refine zl_R6 C h9 dX6_cost_30 ?_
      refine za_if_eq C 43 (by decide) dX6_cost_31 (fun q10 => ?_) (fun q10 => ?_)
      · have hf := z_pos q10 hf
        refine za_iconst (v := (0 : Int32)) C (by decide) dX6_cost_43 ?_
        exact za_sub [0, 1, 2] rfl (j_44 x1 x2 (0 : Int32) (v7 * (M0.1 16 x2.toNatClampNeg)) x1 hf)
      · have hf := z_neg q10 hf
        refine za_iconst (v := (3 : Int32)) C (by decide) dX6_cost_34 ?_
        refine za_aload_n C 0 rfl rfl dX6_cost_35 ?_
        refine zg_R0_12 C in_X6_cost_X6 fl_X6_cost_39 dX6_cost_36 ?_
        refine za_imul C dX6_cost_39 ?_
        refine za_goto C 44 (by decide) dX6_cost_40 ?_
        exact za_sub [0, 1, 2] rfl (j_44 x1 x2 ((3 : Int32) * (M0.1 4 0)) (v7 * (M0.1 16 x2.toNatClampNeg)) x1 hf)
  · show za_At p l e { frames := 1, cells := 0, slots := 0, locals := 21 } s m args below meth c D A 3 0 0 Q 53 [(0, .ref (ad 0)), (1, .int v11), (2, .int v12)] [] (wR ad ck M0)
    refine za_iload_n C 1 rfl rfl dX6_cost_53 ?_
    obtain rfl := z_ret1 hf
    exact za_iret C F dX6_cost_54
theorem in_X6_slow_X6 : ∀ w ∈ wsX60, w ∈ wsX6_slow := by decide +kernel
theorem fl_X6_slow_19 : Cond.fieldLink RX6 19 "ThriceNetsModel" "isOutput" "[Z" ∈ wsX6_slow := by decide +kernel
theorem fl_X6_slow_60 : Cond.fieldLink RX6 60 "ThriceNetsModel" "depths" "[I" ∈ wsX6_slow := by decide +kernel
theorem fl_X6_slow_16 : Cond.fieldLink RX6 16 "ThriceNetsModel" "second" "[I" ∈ wsX6_slow := by decide +kernel
theorem fl_X6_slow_78 : Cond.fieldLink RX6 78 "ThriceNetsModel" "nodes" "I" ∈ wsX6_slow := by decide +kernel
theorem fl_X6_slow_7 : Cond.fieldLink RX6 7 "ThriceNetsModel" "kinds" "[I" ∈ wsX6_slow := by decide +kernel
theorem fl_X6_slow_13 : Cond.fieldLink RX6 13 "ThriceNetsModel" "first" "[I" ∈ wsX6_slow := by decide +kernel
theorem fl_X6_slow_26 : Cond.fieldLink RX6 26 "ThriceNetsModel" "isVoted" "[Z" ∈ wsX6_slow := by decide +kernel
def K_X6_slow_123 (n : Nat) (x1 : Int32) (x2 : Int32) (x3 : Int32) (x4 : Int32) (y0 : Int32) (M : zM) : Option ((Int32 × Int32 × zM) ⊕ (Int32 × Int32 × zM)) :=
  zlt y0 (fun v3 => zlt (x2 + (1 : Int32)) (fun v4 => some (.inl (v3, v4, M))))
def K_X6_slow_122 (n : Nat) (x1 : Int32) (x2 : Int32) (x3 : Int32) (x4 : Int32) (M : zM) : Option ((Int32 × Int32 × zM) ⊕ (Int32 × Int32 × zM)) :=
  K_X6_slow_123 n x1 x2 x3 x4 x1 M
def K_X6_slow_92 (n : Nat) (x1 : Int32) (x2 : Int32) (x3 : Int32) (x4 : Int32) (y0 : Int32) (y1 : Int32) (y2 : Int32) (M : zM) : Option ((Int32 × Int32 × zM) ⊕ (Int32 × Int32 × zM)) :=
  zchk y2 24 (zst (zsI M 24 y2.toNatClampNeg (y1 + y0)) (fun N6 => zchk x2 24 ((if (N6.1 13 x2.toNatClampNeg) = 0 then (K_X6_slow_122 n x1 x2 x3 x4 N6) else (zchk x2 24 ((if (N6.1 24 x2.toNatClampNeg) ≤ x1 then (K_X6_slow_122 n x1 x2 x3 x4 N6) else (zchk x2 24 (K_X6_slow_123 n x1 x2 x3 x4 (N6.1 24 x2.toNatClampNeg) N6)))))))))
def K_X6_slow_72 (n : Nat) (x1 : Int32) (x2 : Int32) (x3 : Int32) (y0 : Int32) (M : zM) : Option ((Int32 × Int32 × zM) ⊕ (Int32 × Int32 × zM)) :=
  zlt y0 (fun v12 => (if x3 ≤ v12 then (K_X6_slow_92 n x1 x2 x3 v12 v12 (1 : Int32) x2 M) else (K_X6_slow_92 n x1 x2 x3 v12 x3 (1 : Int32) x2 M)))
def K_X6_slow_46 (n : Nat) (x1 : Int32) (x2 : Int32) (y0 : Int32) (M : zM) : Option ((Int32 × Int32 × zM) ⊕ (Int32 × Int32 × zM)) :=
  zlt y0 (fun v14 => zchk x2 24 ((if (M.1 12 x2.toNatClampNeg) = (-1 : Int32) then (K_X6_slow_72 n x1 x2 v14 v14 M) else (zchk x2 24 (zchk (M.1 12 x2.toNatClampNeg) 24 (K_X6_slow_72 n x1 x2 v14 (M.1 24 (M.1 12 x2.toNatClampNeg).toNatClampNeg) M))))))
def K_X6_slow_31 (n : Nat) (x1 : Int32) (x2 : Int32) (M : zM) : Option ((Int32 × Int32 × zM) ⊕ (Int32 × Int32 × zM)) :=
  K_X6_slow_46 n x1 x2 (-1 : Int32) M
def B_X6_slow_4 (n : Nat) (x1 : Int32) (x2 : Int32) (M : zM) : Option ((Int32 × Int32 × zM) ⊕ (Int32 × Int32 × zM)) :=
  (if (M.1 0 0) ≤ x2 then (some (.inr (x1, x2, M))) else (zchk x2 24 ((if (M.1 10 x2.toNatClampNeg) = 0 then (K_X6_slow_31 n x1 x2 M) else (zchk x2 24 ((if (M.1 10 x2.toNatClampNeg) = (5 : Int32) then (K_X6_slow_31 n x1 x2 M) else (zchk x2 24 (zchk (M.1 11 x2.toNatClampNeg) 24 (K_X6_slow_46 n x1 x2 (M.1 24 (M.1 11 x2.toNatClampNeg).toNatClampNeg) M))))))))))
def K_X6_slow_191 (n : Nat) (x1 : Int32) (x2 : Int32) (x3 : Int32) (y0 : Int32) (N28 : zM) : Option ((Int32 × Int32) ⊕ (Int32 × Int32)) :=
  zlt y0 (fun v30 => zlt (x2 + (1 : Int32)) (fun v31 => some (.inl (v30, v31))))
def K_X6_slow_180 (n : Nat) (x1 : Int32) (x2 : Int32) (y0 : Int32) (N28 : zM) : Option ((Int32 × Int32) ⊕ (Int32 × Int32)) :=
  zlt y0 (fun v32 => (if v32 ≤ x1 then (K_X6_slow_191 n x1 x2 v32 x1 N28) else (K_X6_slow_191 n x1 x2 v32 v32 N28)))
def K_X6_slow_175 (n : Nat) (x1 : Int32) (x2 : Int32) (y0 : Int32) (y1 : Int32) (N28 : zM) : Option ((Int32 × Int32) ⊕ (Int32 × Int32)) :=
  K_X6_slow_180 n x1 x2 (y1 + y0) N28
def B_X6_slow_132 (n : Nat) (x1 : Int32) (x2 : Int32) (N28 : zM) : Option ((Int32 × Int32) ⊕ (Int32 × Int32)) :=
  (if (N28.1 0 0) ≤ x2 then (some (.inr (x1, x2))) else (zchk x2 24 ((if (N28.1 10 x2.toNatClampNeg) = (5 : Int32) then (zchk x2 24 (zchk (N28.1 11 x2.toNatClampNeg) 24 (zchk x2 24 ((if (N28.1 15 x2.toNatClampNeg) = 0 then (K_X6_slow_175 n x1 x2 (0 : Int32) (N28.1 24 (N28.1 11 x2.toNatClampNeg).toNatClampNeg) N28) else (K_X6_slow_175 n x1 x2 (1 : Int32) (N28.1 24 (N28.1 11 x2.toNatClampNeg).toNatClampNeg) N28)))))) else (K_X6_slow_180 n x1 x2 (0 : Int32) N28)))))
def pX6_slow (n : Nat) (M0 : zM) : Option (Int32 × zM) :=
  zlt (0 : Int32) (fun v1 => zlt (0 : Int32) (fun v2 => zb3 (zwl (fun q => B_X6_slow_4 n q.1 q.2.1 q.2.2) n (v1, v2, M0)) (fun v26 v27 N28 => zlt (0 : Int32) (fun v29 => zb2 (zwl (fun q => B_X6_slow_132 n q.1 q.2 N28) n (v26, v29)) (fun v41 v42 => some (v41, N28))))))
set_option maxHeartbeats 4000000 in
set_option maxRecDepth 100000 in
theorem cX6_slow_ok (l : Launch) (D : va_G) (ck : Nat → ClassId) (ad : Nat → Nat) (n : Nat) (M0 : zM) (r9 : Int32) (M9 : zM) (hf : pX6_slow n M0 = some (r9, M9)) : zc l D ck (wR ad ck) yX6_slow wsX6_slow ({ frames := 0, cells := 0, slots := 0, locals := 0 }) [.ref (ad 0)] M0 (some (.int r9)) M9 := by
  refine zc_of (cc := cX6_slow) (maxL := 5) (ret := (some .int)) [(0, .ref (ad 0))] (by decide) rfl (Nat.le_of_ble_eq_true rfl) rfl ?_
  intro p e s m args below meth c A Q C F
  unfold pX6_slow at hf
  refine za_iconst (v := (0 : Int32)) C (by decide) dX6_slow_0 ?_
  obtain ⟨v1, ev1, hf⟩ := z_lt hf
  refine za_istore_n C [(1, .int v1), (0, .ref (ad 0))] ev1 (by decide) rfl rfl dX6_slow_1 ?_
  refine za_iconst (v := (0 : Int32)) C (by decide) dX6_slow_2 ?_
  obtain ⟨v2, ev2, hf⟩ := z_lt hf
  refine za_istore_n C [(2, .int v2), (1, .int v1), (0, .ref (ad 0))] ev2 (by decide) rfl rfl dX6_slow_3 ?_
  obtain ⟨v26, v27, N28, hw44, hf⟩ := z_b3 hf
  refine za_sub [2, 1, 0] rfl ?_
  refine z_wl (P := fun q => za_At p l e { frames := 0, cells := 0, slots := 0, locals := 0 } s m args below meth c D A 5 0 0 Q 4 [(0, .ref (ad 0)), (1, .int q.1), (2, .int q.2.1)] [] (wR ad ck q.2.2)) (E := fun q => za_At p l e { frames := 0, cells := 0, slots := 0, locals := 0 } s m args below meth c D A 5 0 0 Q 130 [(0, .ref (ad 0)), (1, .int q.1), (2, .int q.2.1)] [] (wR ad ck q.2.2)) ?_ ?_ _ _ hw44
  · intro q o hf hN hE
    obtain ⟨x1, x2, M⟩ := q
    have hf : B_X6_slow_4 n x1 x2 M = some o := hf
    unfold B_X6_slow_4 at hf
    have j_123 : ∀ (x1 : Int32) (x2 : Int32) (x3 : Int32) (x4 : Int32) (y0 : Int32) (M : zM), K_X6_slow_123 n x1 x2 x3 x4 y0 M = some o → za_At p l e { frames := 0, cells := 0, slots := 0, locals := 0 } s m args below meth c D A 5 0 0 Q 123 [(0, .ref (ad 0)), (1, .int x1), (2, .int x2), (3, .int x3), (4, .int x4)] [.int y0] (wR ad ck M) := by
      intro x1 x2 x3 x4 y0 M hf
      unfold K_X6_slow_123 at hf
      obtain ⟨v3, ev3, hf⟩ := z_lt hf
      refine za_istore_n C [(1, .int v3), (0, .ref (ad 0)), (2, .int x2), (3, .int x3), (4, .int x4)] ev3 (by decide) rfl rfl dX6_slow_123 ?_
      obtain ⟨v4, ev4, hf⟩ := z_lt hf
      refine za_iinc (k9 := (1 : Int32)) C [(2, .int v4), (1, .int v3), (0, .ref (ad 0)), (3, .int x3), (4, .int x4)] 2 rfl (by decide) ev4 (by decide) rfl dX6_slow_124 ?_
      refine za_goto C 4 (by decide) dX6_slow_127 ?_
      exact za_sub [2, 1, 0] rfl (hN _ (z_inj hf))
    have j_122 : ∀ (x1 : Int32) (x2 : Int32) (x3 : Int32) (x4 : Int32) (M : zM), K_X6_slow_122 n x1 x2 x3 x4 M = some o → za_At p l e { frames := 0, cells := 0, slots := 0, locals := 0 } s m args below meth c D A 5 0 0 Q 122 [(0, .ref (ad 0)), (1, .int x1), (2, .int x2), (3, .int x3), (4, .int x4)] [] (wR ad ck M) := by
      intro x1 x2 x3 x4 M hf
      unfold K_X6_slow_122 at hf
      refine za_iload_n C 1 rfl rfl dX6_slow_122 ?_
      exact za_sub [0, 1, 2, 3, 4] rfl (j_123 x1 x2 x3 x4 x1 M hf)
    have j_92 : ∀ (x1 : Int32) (x2 : Int32) (x3 : Int32) (x4 : Int32) (y0 : Int32) (y1 : Int32) (y2 : Int32) (M : zM), K_X6_slow_92 n x1 x2 x3 x4 y0 y1 y2 M = some o → za_At p l e { frames := 0, cells := 0, slots := 0, locals := 0 } s m args below meth c D A 5 0 0 Q 92 [(0, .ref (ad 0)), (1, .int x1), (2, .int x2), (3, .int x3), (4, .int x4)] [.int y0, .int y1, .int y2, .ref (ad 15)] (wR ad ck M) := by
      intro x1 x2 x3 x4 y0 y1 y2 M hf
      unfold K_X6_slow_92 at hf
      refine za_iadd C dX6_slow_92 ?_
      obtain ⟨h5, hf⟩ := z_chk hf
      obtain ⟨N6, eN6, hf⟩ := z_st hf
      refine zs_R15 C h5 eN6 dX6_slow_93 ?_
      refine za_aload_n C 0 rfl rfl dX6_slow_94 ?_
      refine zg_R0_4 C in_X6_slow_X6 fl_X6_slow_19 dX6_slow_95 ?_
      refine za_iload_n C 2 rfl rfl dX6_slow_98 ?_
      obtain ⟨h7, hf⟩ := z_chk hf
      refine zl_R4 C h7 dX6_slow_99 ?_
      refine za_if_eq C 122 (by decide) dX6_slow_100 (fun q8 => ?_) (fun q8 => ?_)
      · have hf := z_pos q8 hf
        exact za_sub [0, 1, 2, 3, 4] rfl (j_122 x1 x2 x3 x4 N6 hf)
      · have hf := z_neg q8 hf
        refine za_aload_n C 0 rfl rfl dX6_slow_103 ?_
        refine zg_R0_19 C in_X6_slow_X6 fl_X6_slow_60 dX6_slow_104 ?_
        refine za_iload_n C 2 rfl rfl dX6_slow_107 ?_
        obtain ⟨h9, hf⟩ := z_chk hf
        refine zl_R15 C h9 dX6_slow_108 ?_
        refine za_iload_n C 1 rfl rfl dX6_slow_109 ?_
        refine za_icmp_le C 122 (by decide) dX6_slow_110 (fun q10 => ?_) (fun q10 => ?_)
        · have hf := z_pos q10 hf
          exact za_sub [0, 1, 2, 3, 4] rfl (j_122 x1 x2 x3 x4 N6 hf)
        · have hf := z_neg q10 hf
          refine za_aload_n C 0 rfl rfl dX6_slow_113 ?_
          refine zg_R0_19 C in_X6_slow_X6 fl_X6_slow_60 dX6_slow_114 ?_
          refine za_iload_n C 2 rfl rfl dX6_slow_117 ?_
          obtain ⟨h11, hf⟩ := z_chk hf
          refine zl_R15 C h11 dX6_slow_118 ?_
          refine za_goto C 123 (by decide) dX6_slow_119 ?_
          exact za_sub [0, 1, 2, 3, 4] rfl (j_123 x1 x2 x3 x4 (N6.1 24 x2.toNatClampNeg) N6 hf)
    have j_72 : ∀ (x1 : Int32) (x2 : Int32) (x3 : Int32) (y0 : Int32) (M : zM), K_X6_slow_72 n x1 x2 x3 y0 M = some o → za_At p l e { frames := 0, cells := 0, slots := 0, locals := 0 } s m args below meth c D A 5 0 0 Q 72 [(0, .ref (ad 0)), (1, .int x1), (2, .int x2), (3, .int x3)] [.int y0] (wR ad ck M) := by
      intro x1 x2 x3 y0 M hf
      unfold K_X6_slow_72 at hf
      obtain ⟨v12, ev12, hf⟩ := z_lt hf
      refine za_istore C [(4, .int v12), (0, .ref (ad 0)), (1, .int x1), (2, .int x2), (3, .int x3)] ev12 (by decide) rfl dX6_slow_72 ?_
      refine za_aload_n C 1 rfl rfl dX6_slow_74 ?_
      refine zg_R0_19 C in_X6_slow_X6 fl_X6_slow_60 dX6_slow_75 ?_
      refine za_iload_n C 3 rfl rfl dX6_slow_78 ?_
      refine za_iconst (v := (1 : Int32)) C (by decide) dX6_slow_79 ?_
      refine za_iload_n C 4 rfl rfl dX6_slow_80 ?_
      refine za_iload C 0 rfl dX6_slow_81 ?_
      refine za_icmp_le C 90 (by decide) dX6_slow_83 (fun q13 => ?_) (fun q13 => ?_)
      · have hf := z_pos q13 hf
        refine za_iload C 0 rfl dX6_slow_90 ?_
        exact za_sub [1, 2, 3, 4, 0] rfl (j_92 x1 x2 x3 v12 v12 (1 : Int32) x2 M hf)
      · have hf := z_neg q13 hf
        refine za_iload_n C 4 rfl rfl dX6_slow_86 ?_
        refine za_goto C 92 (by decide) dX6_slow_87 ?_
        exact za_sub [1, 2, 3, 4, 0] rfl (j_92 x1 x2 x3 v12 x3 (1 : Int32) x2 M hf)
    have j_46 : ∀ (x1 : Int32) (x2 : Int32) (y0 : Int32) (M : zM), K_X6_slow_46 n x1 x2 y0 M = some o → za_At p l e { frames := 0, cells := 0, slots := 0, locals := 0 } s m args below meth c D A 5 0 0 Q 46 [(0, .ref (ad 0)), (1, .int x1), (2, .int x2)] [.int y0] (wR ad ck M) := by
      intro x1 x2 y0 M hf
      unfold K_X6_slow_46 at hf
      obtain ⟨v14, ev14, hf⟩ := z_lt hf
      refine za_istore_n C [(3, .int v14), (0, .ref (ad 0)), (1, .int x1), (2, .int x2)] ev14 (by decide) rfl rfl dX6_slow_46 ?_
      refine za_aload_n C 1 rfl rfl dX6_slow_47 ?_
      refine zg_R0_3 C in_X6_slow_X6 fl_X6_slow_16 dX6_slow_48 ?_
      refine za_iload_n C 3 rfl rfl dX6_slow_51 ?_
      obtain ⟨h15, hf⟩ := z_chk hf
      refine zl_R3 C h15 dX6_slow_52 ?_
      refine za_iconst (v := (-1 : Int32)) C (by decide) dX6_slow_53 ?_
      refine za_icmp_ne C 61 (by decide) dX6_slow_54 (fun q16 => ?_) (fun q16 => ?_)
      · have hf := z_neg q16 hf
        refine za_aload_n C 1 rfl rfl dX6_slow_61 ?_
        refine zg_R0_19 C in_X6_slow_X6 fl_X6_slow_60 dX6_slow_62 ?_
        refine za_aload_n C 1 rfl rfl dX6_slow_65 ?_
        refine zg_R0_3 C in_X6_slow_X6 fl_X6_slow_16 dX6_slow_66 ?_
        refine za_iload_n C 3 rfl rfl dX6_slow_69 ?_
        obtain ⟨h17, hf⟩ := z_chk hf
        refine zl_R3 C h17 dX6_slow_70 ?_
        obtain ⟨h18, hf⟩ := z_chk hf
        refine zl_R15 C h18 dX6_slow_71 ?_
        exact za_sub [1, 2, 3, 0] rfl (j_72 x1 x2 v14 (M.1 24 (M.1 12 x2.toNatClampNeg).toNatClampNeg) M hf)
      · have hf := z_pos q16 hf
        refine za_iload_n C 0 rfl rfl dX6_slow_57 ?_
        refine za_goto C 72 (by decide) dX6_slow_58 ?_
        exact za_sub [1, 2, 3, 0] rfl (j_72 x1 x2 v14 v14 M hf)
    have j_31 : ∀ (x1 : Int32) (x2 : Int32) (M : zM), K_X6_slow_31 n x1 x2 M = some o → za_At p l e { frames := 0, cells := 0, slots := 0, locals := 0 } s m args below meth c D A 5 0 0 Q 31 [(0, .ref (ad 0)), (1, .int x1), (2, .int x2)] [] (wR ad ck M) := by
      intro x1 x2 M hf
      unfold K_X6_slow_31 at hf
      refine za_iconst (v := (-1 : Int32)) C (by decide) dX6_slow_31 ?_
      refine za_goto C 46 (by decide) dX6_slow_32 ?_
      exact za_sub [0, 1, 2] rfl (j_46 x1 x2 (-1 : Int32) M hf)
    refine za_iload_n C 2 rfl rfl dX6_slow_4 ?_
    refine za_aload_n C 0 rfl rfl dX6_slow_5 ?_
    refine zg_R0_0 C in_X6_slow_X6 fl_X6_slow_78 dX6_slow_6 ?_
    refine za_icmp_ge C 130 (by decide) dX6_slow_9 (fun q19 => ?_) (fun q19 => ?_)
    · have hf := z_pos q19 hf
      exact za_sub [0, 1, 2] rfl (hE _ (z_inj hf))
    · have hf := z_neg q19 hf
      refine za_aload_n C 0 rfl rfl dX6_slow_12 ?_
      refine zg_R0_1 C in_X6_slow_X6 fl_X6_slow_7 dX6_slow_13 ?_
      refine za_iload_n C 2 rfl rfl dX6_slow_16 ?_
      obtain ⟨h20, hf⟩ := z_chk hf
      refine zl_R1 C h20 dX6_slow_17 ?_
      refine za_if_eq C 31 (by decide) dX6_slow_18 (fun q21 => ?_) (fun q21 => ?_)
      · have hf := z_pos q21 hf
        exact za_sub [0, 1, 2] rfl (j_31 x1 x2 M hf)
      · have hf := z_neg q21 hf
        refine za_aload_n C 0 rfl rfl dX6_slow_21 ?_
        refine zg_R0_1 C in_X6_slow_X6 fl_X6_slow_7 dX6_slow_22 ?_
        refine za_iload_n C 2 rfl rfl dX6_slow_25 ?_
        obtain ⟨h22, hf⟩ := z_chk hf
        refine zl_R1 C h22 dX6_slow_26 ?_
        refine za_iconst (v := (5 : Int32)) C (by decide) dX6_slow_27 ?_
        refine za_icmp_ne C 35 (by decide) dX6_slow_28 (fun q23 => ?_) (fun q23 => ?_)
        · have hf := z_neg q23 hf
          refine za_aload_n C 0 rfl rfl dX6_slow_35 ?_
          refine zg_R0_19 C in_X6_slow_X6 fl_X6_slow_60 dX6_slow_36 ?_
          refine za_aload_n C 0 rfl rfl dX6_slow_39 ?_
          refine zg_R0_2 C in_X6_slow_X6 fl_X6_slow_13 dX6_slow_40 ?_
          refine za_iload_n C 2 rfl rfl dX6_slow_43 ?_
          obtain ⟨h24, hf⟩ := z_chk hf
          refine zl_R2 C h24 dX6_slow_44 ?_
          obtain ⟨h25, hf⟩ := z_chk hf
          refine zl_R15 C h25 dX6_slow_45 ?_
          exact za_sub [0, 1, 2] rfl (j_46 x1 x2 (M.1 24 (M.1 11 x2.toNatClampNeg).toNatClampNeg) M hf)
        · have hf := z_pos q23 hf
          exact za_sub [0, 1, 2] rfl (j_31 x1 x2 M hf)
  · show za_At p l e { frames := 0, cells := 0, slots := 0, locals := 0 } s m args below meth c D A 5 0 0 Q 130 [(0, .ref (ad 0)), (1, .int v26), (2, .int v27)] [] (wR ad ck N28)
    refine za_iconst (v := (0 : Int32)) C (by decide) dX6_slow_130 ?_
    obtain ⟨v29, ev29, hf⟩ := z_lt hf
    refine za_istore_n C [(2, .int v29), (0, .ref (ad 0)), (1, .int v26)] ev29 (by decide) rfl rfl dX6_slow_131 ?_
    obtain ⟨v41, v42, hw43, hf⟩ := z_b2 hf
    refine za_sub [1, 2, 0] rfl ?_
    refine z_wl (P := fun q => za_At p l e { frames := 0, cells := 0, slots := 0, locals := 0 } s m args below meth c D A 5 0 0 Q 132 [(0, .ref (ad 0)), (1, .int q.1), (2, .int q.2)] [] (wR ad ck N28)) (E := fun q => za_At p l e { frames := 0, cells := 0, slots := 0, locals := 0 } s m args below meth c D A 5 0 0 Q 198 [(0, .ref (ad 0)), (1, .int q.1), (2, .int q.2)] [] (wR ad ck N28)) ?_ ?_ _ _ hw43
    · intro q o hf hN hE
      obtain ⟨x1, x2⟩ := q
      have hf : B_X6_slow_132 n x1 x2 N28 = some o := hf
      unfold B_X6_slow_132 at hf
      have j_191 : ∀ (x1 : Int32) (x2 : Int32) (x3 : Int32) (y0 : Int32), K_X6_slow_191 n x1 x2 x3 y0 N28 = some o → za_At p l e { frames := 0, cells := 0, slots := 0, locals := 0 } s m args below meth c D A 5 0 0 Q 191 [(0, .ref (ad 0)), (1, .int x1), (2, .int x2), (3, .int x3)] [.int y0] (wR ad ck N28) := by
        intro x1 x2 x3 y0 hf
        unfold K_X6_slow_191 at hf
        obtain ⟨v30, ev30, hf⟩ := z_lt hf
        refine za_istore_n C [(1, .int v30), (0, .ref (ad 0)), (2, .int x2), (3, .int x3)] ev30 (by decide) rfl rfl dX6_slow_191 ?_
        obtain ⟨v31, ev31, hf⟩ := z_lt hf
        refine za_iinc (k9 := (1 : Int32)) C [(2, .int v31), (1, .int v30), (0, .ref (ad 0)), (3, .int x3)] 2 rfl (by decide) ev31 (by decide) rfl dX6_slow_192 ?_
        refine za_goto C 132 (by decide) dX6_slow_195 ?_
        exact za_sub [2, 1, 0] rfl (hN _ (z_inj hf))
      have j_180 : ∀ (x1 : Int32) (x2 : Int32) (y0 : Int32), K_X6_slow_180 n x1 x2 y0 N28 = some o → za_At p l e { frames := 0, cells := 0, slots := 0, locals := 0 } s m args below meth c D A 5 0 0 Q 180 [(0, .ref (ad 0)), (1, .int x1), (2, .int x2)] [.int y0] (wR ad ck N28) := by
        intro x1 x2 y0 hf
        unfold K_X6_slow_180 at hf
        obtain ⟨v32, ev32, hf⟩ := z_lt hf
        refine za_istore_n C [(3, .int v32), (0, .ref (ad 0)), (1, .int x1), (2, .int x2)] ev32 (by decide) rfl rfl dX6_slow_180 ?_
        refine za_iload_n C 0 rfl rfl dX6_slow_181 ?_
        refine za_iload_n C 2 rfl rfl dX6_slow_182 ?_
        refine za_icmp_le C 190 (by decide) dX6_slow_183 (fun q33 => ?_) (fun q33 => ?_)
        · have hf := z_pos q33 hf
          refine za_iload_n C 2 rfl rfl dX6_slow_190 ?_
          exact za_sub [1, 2, 3, 0] rfl (j_191 x1 x2 v32 x1 hf)
        · have hf := z_neg q33 hf
          refine za_iload_n C 0 rfl rfl dX6_slow_186 ?_
          refine za_goto C 191 (by decide) dX6_slow_187 ?_
          exact za_sub [1, 2, 3, 0] rfl (j_191 x1 x2 v32 v32 hf)
      have j_175 : ∀ (x1 : Int32) (x2 : Int32) (y0 : Int32) (y1 : Int32), K_X6_slow_175 n x1 x2 y0 y1 N28 = some o → za_At p l e { frames := 0, cells := 0, slots := 0, locals := 0 } s m args below meth c D A 5 0 0 Q 175 [(0, .ref (ad 0)), (1, .int x1), (2, .int x2)] [.int y0, .int y1] (wR ad ck N28) := by
        intro x1 x2 y0 y1 hf
        unfold K_X6_slow_175 at hf
        refine za_iadd C dX6_slow_175 ?_
        refine za_goto C 180 (by decide) dX6_slow_176 ?_
        exact za_sub [0, 1, 2] rfl (j_180 x1 x2 (y1 + y0) hf)
      refine za_iload_n C 2 rfl rfl dX6_slow_132 ?_
      refine za_aload_n C 0 rfl rfl dX6_slow_133 ?_
      refine zg_R0_0 C in_X6_slow_X6 fl_X6_slow_78 dX6_slow_134 ?_
      refine za_icmp_ge C 198 (by decide) dX6_slow_137 (fun q34 => ?_) (fun q34 => ?_)
      · have hf := z_pos q34 hf
        exact za_sub [0, 1, 2] rfl (hE _ (z_inj hf))
      · have hf := z_neg q34 hf
        refine za_aload_n C 0 rfl rfl dX6_slow_140 ?_
        refine zg_R0_1 C in_X6_slow_X6 fl_X6_slow_7 dX6_slow_141 ?_
        refine za_iload_n C 2 rfl rfl dX6_slow_144 ?_
        obtain ⟨h35, hf⟩ := z_chk hf
        refine zl_R1 C h35 dX6_slow_145 ?_
        refine za_iconst (v := (5 : Int32)) C (by decide) dX6_slow_146 ?_
        refine za_icmp_ne C 179 (by decide) dX6_slow_147 (fun q36 => ?_) (fun q36 => ?_)
        · have hf := z_neg q36 hf
          refine za_iconst (v := (0 : Int32)) C (by decide) dX6_slow_179 ?_
          exact za_sub [0, 1, 2] rfl (j_180 x1 x2 (0 : Int32) hf)
        · have hf := z_pos q36 hf
          refine za_aload_n C 0 rfl rfl dX6_slow_150 ?_
          refine zg_R0_19 C in_X6_slow_X6 fl_X6_slow_60 dX6_slow_151 ?_
          refine za_aload_n C 0 rfl rfl dX6_slow_154 ?_
          refine zg_R0_2 C in_X6_slow_X6 fl_X6_slow_13 dX6_slow_155 ?_
          refine za_iload_n C 2 rfl rfl dX6_slow_158 ?_
          obtain ⟨h37, hf⟩ := z_chk hf
          refine zl_R2 C h37 dX6_slow_159 ?_
          obtain ⟨h38, hf⟩ := z_chk hf
          refine zl_R15 C h38 dX6_slow_160 ?_
          refine za_aload_n C 0 rfl rfl dX6_slow_161 ?_
          refine zg_R0_6 C in_X6_slow_X6 fl_X6_slow_26 dX6_slow_162 ?_
          refine za_iload_n C 2 rfl rfl dX6_slow_165 ?_
          obtain ⟨h39, hf⟩ := z_chk hf
          refine zl_R6 C h39 dX6_slow_166 ?_
          refine za_if_eq C 174 (by decide) dX6_slow_167 (fun q40 => ?_) (fun q40 => ?_)
          · have hf := z_pos q40 hf
            refine za_iconst (v := (0 : Int32)) C (by decide) dX6_slow_174 ?_
            exact za_sub [0, 1, 2] rfl (j_175 x1 x2 (0 : Int32) (N28.1 24 (N28.1 11 x2.toNatClampNeg).toNatClampNeg) hf)
          · have hf := z_neg q40 hf
            refine za_iconst (v := (1 : Int32)) C (by decide) dX6_slow_170 ?_
            refine za_goto C 175 (by decide) dX6_slow_171 ?_
            exact za_sub [0, 1, 2] rfl (j_175 x1 x2 (1 : Int32) (N28.1 24 (N28.1 11 x2.toNatClampNeg).toNatClampNeg) hf)
    · show za_At p l e { frames := 0, cells := 0, slots := 0, locals := 0 } s m args below meth c D A 5 0 0 Q 198 [(0, .ref (ad 0)), (1, .int v41), (2, .int v42)] [] (wR ad ck N28)
      refine za_iload_n C 1 rfl rfl dX6_slow_198 ?_
      obtain ⟨rfl, rfl⟩ := z_ret2 hf
      exact za_iret C F dX6_slow_199
theorem in_X6_meets_X6 : ∀ w ∈ wsX60, w ∈ wsX6_meets := by decide +kernel
theorem fl_X6_meets_162 : Cond.fieldLink RX6 162 "ThriceNetsModel" "finding" "I" ∈ wsX6_meets := by decide +kernel
def pX6_meets (x1 : Int32) (M0 : zM) : Option (Int32 × zM) :=
  zst (zsI M0 5 0 x1) (fun N1 => some (((-10 : Int32) - x1), N1))
set_option maxHeartbeats 4000000 in
set_option maxRecDepth 100000 in
theorem cX6_meets_ok (l : Launch) (D : va_G) (ck : Nat → ClassId) (ad : Nat → Nat) (x1 : Int32) (M0 : zM) (r9 : Int32) (M9 : zM) (hf : pX6_meets x1 M0 = some (r9, M9)) : zc l D ck (wR ad ck) yX6_meets wsX6_meets ({ frames := 0, cells := 0, slots := 0, locals := 0 }) [.ref (ad 0), .int x1] M0 (some (.int r9)) M9 := by
  refine zc_of (cc := cX6_meets) (maxL := 2) (ret := (some .int)) [(0, .ref (ad 0)), (1, .int x1)] (by decide) rfl (Nat.le_of_ble_eq_true rfl) rfl ?_
  intro p e s m args below meth c A Q C F
  unfold pX6_meets at hf
  refine za_aload_n C 0 rfl rfl dX6_meets_0 ?_
  refine za_iload_n C 1 rfl rfl dX6_meets_1 ?_
  obtain ⟨N1, eN1, hf⟩ := z_st hf
  refine zp_R0_25 C in_X6_meets_X6 fl_X6_meets_162 eN1 dX6_meets_2 ?_
  refine za_bipush (v := (-10 : Int32)) C (by decide) dX6_meets_5 ?_
  refine za_iload_n C 1 rfl rfl dX6_meets_7 ?_
  refine za_isub C dX6_meets_8 ?_
  obtain ⟨rfl, rfl⟩ := z_ret2 hf
  exact za_iret C F dX6_meets_9
def pX6_isSheet (x0 : Int32) (M0 : zM) : Option (Int32) :=
  (pX6_in x0 (0 : Int32) (3 : Int32) M0).bind (fun v2 => zbl v2 (some v2))
set_option maxHeartbeats 4000000 in
set_option maxRecDepth 100000 in
theorem cX6_isSheet_ok (l : Launch) (D : va_G) (ck : Nat → ClassId) (ad : Nat → Nat) (x0 : Int32) (M0 : zM) (r9 : Int32) (hf : pX6_isSheet x0 M0 = some r9) : zc l D ck (wR ad ck) yX6_isSheet wsX6_isSheet ({ frames := 1, cells := 0, slots := 0, locals := 22 }) [.int x0] M0 (some (.int r9)) M0 := by
  refine zc_of (cc := cX6_isSheet) (maxL := 1) (ret := (some .boolean)) [(0, .int x0)] (by decide) rfl (Nat.le_of_ble_eq_true rfl) rfl ?_
  intro p e s m args below meth c A Q C F
  unfold pX6_isSheet at hf
  refine za_iload_n C 0 rfl rfl dX6_isSheet_0 ?_
  refine za_iconst (v := (0 : Int32)) C (by decide) dX6_isSheet_1 ?_
  refine za_iconst (v := (3 : Int32)) C (by decide) dX6_isSheet_2 ?_
  obtain ⟨v2, hc1, hf⟩ := z_bind hf
  refine za_callS (n := 3) (rest := []) C (cX6_in_ok l D ck ad x0 (0 : Int32) (3 : Int32) M0 _ hc1) gX6_isSheet_X6_in rfl rfl rfl (by decide +kernel) ⟨Nat.le_of_ble_eq_true rfl, Nat.le_of_ble_eq_true rfl⟩ rfl rfl (Nat.le_of_ble_eq_true rfl) ⟨Nat.zero_le _, Nat.zero_le _⟩ dX6_isSheet_3 ?_
  obtain ⟨hb3, hf⟩ := z_bl hf
  obtain rfl := z_ret1 hf
  exact za_zret C F (z_nb hb3) dX6_isSheet_6
theorem in_X6_sheet_X6 : ∀ w ∈ wsX60, w ∈ wsX6_sheet := by decide +kernel
theorem fl_X6_sheet_63 : Cond.fieldLink RX6 63 "ThriceNetsModel" "isThere" "[Z" ∈ wsX6_sheet := by decide +kernel
theorem fl_X6_sheet_66 : Cond.fieldLink RX6 66 "ThriceNetsModel" "forms" "[I" ∈ wsX6_sheet := by decide +kernel
theorem fl_X6_sheet_69 : Cond.fieldLink RX6 69 "ThriceNetsModel" "sizes" "[I" ∈ wsX6_sheet := by decide +kernel
theorem fl_X6_sheet_72 : Cond.fieldLink RX6 72 "ThriceNetsModel" "items" "[I" ∈ wsX6_sheet := by decide +kernel
def K_X6_sheet_22 (n : Nat) (x1 : Int32) (x2 : Int32) (x3 : Int32) (M : zM) : Option (Int32 × zM) :=
  some ((-2 : Int32), M)
def B_X6_sheet_59 (n : Nat) (x1 : Int32) (x2 : Int32) (x3 : Int32) (x4 : Int32) (M : zM) : Option ((Int32 × zM) ⊕ (Int32 × zM)) :=
  (if (60 : Int32) ≤ x4 then (some (.inr (x4, M))) else (zchk (((60 : Int32) * x1) + x4) 240 (zst (zsI M 28 (((60 : Int32) * x1) + x4).toNatClampNeg (0 : Int32)) (fun N18 => zlt (x4 + (1 : Int32)) (fun v19 => some (.inl (v19, N18)))))))
def pX6_sheet (n : Nat) (x1 : Int32) (x2 : Int32) (x3 : Int32) (M0 : zM) : Option (Int32 × zM) :=
  (pX6_isSheet x1 M0).bind (fun v2 => (if v2 = 0 then (K_X6_sheet_22 n x1 x2 x3 M0) else ((pX6_in x2 (0 : Int32) (2 : Int32) M0).bind (fun v5 => (if v5 = 0 then (K_X6_sheet_22 n x1 x2 x3 M0) else (if x3 ≤ (60 : Int32) then (if 0 ≤ x3 then (zchk x1 4 (zst (zsI M0 25 x1.toNatClampNeg (vp_nar .boolean (1 : Int32))) (fun N10 => zchk x1 4 (zst (zsI N10 26 x1.toNatClampNeg x2) (fun N12 => zchk x1 4 (zst (zsI N12 27 x1.toNatClampNeg x3) (fun N14 => zlt (0 : Int32) (fun v15 => zb2 (zwl (fun q => B_X6_sheet_59 n x1 x2 x3 q.1 q.2) n (v15, N14)) (fun v20 N21 => some (x3, N21)))))))))) else (zb2 (pX6_meets (5 : Int32) M0) (fun v24 N25 => some (v24, N25)))) else (K_X6_sheet_22 n x1 x2 x3 M0)))))))
set_option maxHeartbeats 4000000 in
set_option maxRecDepth 100000 in
theorem cX6_sheet_ok (l : Launch) (D : va_G) (ck : Nat → ClassId) (ad : Nat → Nat) (n : Nat) (x1 : Int32) (x2 : Int32) (x3 : Int32) (M0 : zM) (r9 : Int32) (M9 : zM) (hf : pX6_sheet n x1 x2 x3 M0 = some (r9, M9)) : zc l D ck (wR ad ck) yX6_sheet wsX6_sheet ({ frames := 2, cells := 0, slots := 0, locals := 42 }) [.ref (ad 0), .int x1, .int x2, .int x3] M0 (some (.int r9)) M9 := by
  refine zc_of (cc := cX6_sheet) (maxL := 5) (ret := (some .int)) [(0, .ref (ad 0)), (1, .int x1), (2, .int x2), (3, .int x3)] (by decide) rfl (Nat.le_of_ble_eq_true rfl) rfl ?_
  intro p e s m args below meth c A Q C F
  have j_22 : ∀ (x1 : Int32) (x2 : Int32) (x3 : Int32) (M : zM), K_X6_sheet_22 n x1 x2 x3 M = some (r9, M9) → za_At p l e { frames := 2, cells := 0, slots := 0, locals := 42 } s m args below meth c D A 5 0 0 Q 22 [(0, .ref (ad 0)), (1, .int x1), (2, .int x2), (3, .int x3)] [] (wR ad ck M) := by
    intro x1 x2 x3 M hf
    unfold K_X6_sheet_22 at hf
    refine za_bipush (v := (-2 : Int32)) C (by decide) dX6_sheet_22 ?_
    obtain ⟨rfl, rfl⟩ := z_ret2 hf
    exact za_iret C F dX6_sheet_24
  unfold pX6_sheet at hf
  refine za_iload_n C 1 rfl rfl dX6_sheet_0 ?_
  obtain ⟨v2, hc1, hf⟩ := z_bind hf
  refine za_callS (n := 1) (rest := []) C (cX6_isSheet_ok l D ck ad x1 M0 _ hc1) gX6_sheet_X6_isSheet rfl rfl rfl (by decide +kernel) ⟨Nat.le_of_ble_eq_true rfl, Nat.le_of_ble_eq_true rfl⟩ rfl rfl (Nat.le_of_ble_eq_true rfl) ⟨Nat.zero_le _, Nat.zero_le _⟩ dX6_sheet_1 ?_
  refine za_if_eq C 22 (by decide) dX6_sheet_4 (fun q3 => ?_) (fun q3 => ?_)
  · have hf := z_pos q3 hf
    exact za_sub [0, 1, 2, 3] rfl (j_22 x1 x2 x3 M0 hf)
  · have hf := z_neg q3 hf
    refine za_iload_n C 2 rfl rfl dX6_sheet_7 ?_
    refine za_iconst (v := (0 : Int32)) C (by decide) dX6_sheet_8 ?_
    refine za_iconst (v := (2 : Int32)) C (by decide) dX6_sheet_9 ?_
    obtain ⟨v5, hc4, hf⟩ := z_bind hf
    refine za_callS (n := 3) (rest := []) C (cX6_in_ok l D ck ad x2 (0 : Int32) (2 : Int32) M0 _ hc4) gX6_sheet_X6_in rfl rfl rfl (by decide +kernel) ⟨Nat.le_of_ble_eq_true rfl, Nat.le_of_ble_eq_true rfl⟩ rfl rfl (Nat.le_of_ble_eq_true rfl) ⟨Nat.zero_le _, Nat.zero_le _⟩ dX6_sheet_10 ?_
    refine za_if_eq C 22 (by decide) dX6_sheet_13 (fun q6 => ?_) (fun q6 => ?_)
    · have hf := z_pos q6 hf
      exact za_sub [0, 1, 2, 3] rfl (j_22 x1 x2 x3 M0 hf)
    · have hf := z_neg q6 hf
      refine za_iload_n C 3 rfl rfl dX6_sheet_16 ?_
      refine za_bipush (v := (60 : Int32)) C (by decide) dX6_sheet_17 ?_
      refine za_icmp_le C 25 (by decide) dX6_sheet_19 (fun q7 => ?_) (fun q7 => ?_)
      · have hf := z_pos q7 hf
        refine za_iload_n C 3 rfl rfl dX6_sheet_25 ?_
        refine za_if_ge C 35 (by decide) dX6_sheet_26 (fun q8 => ?_) (fun q8 => ?_)
        · have hf := z_pos q8 hf
          refine za_aload_n C 0 rfl rfl dX6_sheet_35 ?_
          refine zg_R0_20 C in_X6_sheet_X6 fl_X6_sheet_63 dX6_sheet_36 ?_
          refine za_iload_n C 1 rfl rfl dX6_sheet_39 ?_
          refine za_iconst (v := (1 : Int32)) C (by decide) dX6_sheet_40 ?_
          obtain ⟨h9, hf⟩ := z_chk hf
          obtain ⟨N10, eN10, hf⟩ := z_st hf
          refine zs_R16 C h9 eN10 dX6_sheet_41 ?_
          refine za_aload_n C 0 rfl rfl dX6_sheet_42 ?_
          refine zg_R0_21 C in_X6_sheet_X6 fl_X6_sheet_66 dX6_sheet_43 ?_
          refine za_iload_n C 1 rfl rfl dX6_sheet_46 ?_
          refine za_iload_n C 2 rfl rfl dX6_sheet_47 ?_
          obtain ⟨h11, hf⟩ := z_chk hf
          obtain ⟨N12, eN12, hf⟩ := z_st hf
          refine zs_R17 C h11 eN12 dX6_sheet_48 ?_
          refine za_aload_n C 0 rfl rfl dX6_sheet_49 ?_
          refine zg_R0_22 C in_X6_sheet_X6 fl_X6_sheet_69 dX6_sheet_50 ?_
          refine za_iload_n C 1 rfl rfl dX6_sheet_53 ?_
          refine za_iload_n C 3 rfl rfl dX6_sheet_54 ?_
          obtain ⟨h13, hf⟩ := z_chk hf
          obtain ⟨N14, eN14, hf⟩ := z_st hf
          refine zs_R18 C h13 eN14 dX6_sheet_55 ?_
          refine za_iconst (v := (0 : Int32)) C (by decide) dX6_sheet_56 ?_
          obtain ⟨v15, ev15, hf⟩ := z_lt hf
          refine za_istore C [(4, .int v15), (0, .ref (ad 0)), (1, .int x1), (2, .int x2), (3, .int x3)] ev15 (by decide) rfl dX6_sheet_57 ?_
          obtain ⟨v20, N21, hw22, hf⟩ := z_b2 hf
          refine za_sub [1, 2, 3, 4, 0] rfl ?_
          refine z_wl (P := fun q => za_At p l e { frames := 2, cells := 0, slots := 0, locals := 42 } s m args below meth c D A 5 0 0 Q 59 [(0, .ref (ad 0)), (1, .int x1), (2, .int x2), (3, .int x3), (4, .int q.1)] [] (wR ad ck q.2)) (E := fun q => za_At p l e { frames := 2, cells := 0, slots := 0, locals := 42 } s m args below meth c D A 5 0 0 Q 85 [(0, .ref (ad 0)), (1, .int x1), (2, .int x2), (3, .int x3), (4, .int q.1)] [] (wR ad ck q.2)) ?_ ?_ _ _ hw22
          · intro q o hf hN hE
            obtain ⟨x4, M⟩ := q
            have hf : B_X6_sheet_59 n x1 x2 x3 x4 M = some o := hf
            unfold B_X6_sheet_59 at hf
            refine za_iload C 4 rfl dX6_sheet_59 ?_
            refine za_bipush (v := (60 : Int32)) C (by decide) dX6_sheet_61 ?_
            refine za_icmp_ge C 85 (by decide) dX6_sheet_63 (fun q16 => ?_) (fun q16 => ?_)
            · have hf := z_pos q16 hf
              exact za_sub [0, 1, 2, 3, 4] rfl (hE _ (z_inj hf))
            · have hf := z_neg q16 hf
              refine za_aload_n C 0 rfl rfl dX6_sheet_66 ?_
              refine zg_R0_23 C in_X6_sheet_X6 fl_X6_sheet_72 dX6_sheet_67 ?_
              refine za_bipush (v := (60 : Int32)) C (by decide) dX6_sheet_70 ?_
              refine za_iload_n C 1 rfl rfl dX6_sheet_72 ?_
              refine za_imul C dX6_sheet_73 ?_
              refine za_iload C 4 rfl dX6_sheet_74 ?_
              refine za_iadd C dX6_sheet_76 ?_
              refine za_iconst (v := (0 : Int32)) C (by decide) dX6_sheet_77 ?_
              obtain ⟨h17, hf⟩ := z_chk hf
              obtain ⟨N18, eN18, hf⟩ := z_st hf
              refine zs_R19 C h17 eN18 dX6_sheet_78 ?_
              obtain ⟨v19, ev19, hf⟩ := z_lt hf
              refine za_iinc (k9 := (1 : Int32)) C [(4, .int v19), (0, .ref (ad 0)), (1, .int x1), (2, .int x2), (3, .int x3)] 4 rfl (by decide) ev19 (by decide) rfl dX6_sheet_79 ?_
              refine za_goto C 59 (by decide) dX6_sheet_82 ?_
              exact za_sub [1, 2, 3, 4, 0] rfl (hN _ (z_inj hf))
          · show za_At p l e { frames := 2, cells := 0, slots := 0, locals := 42 } s m args below meth c D A 5 0 0 Q 85 [(0, .ref (ad 0)), (1, .int x1), (2, .int x2), (3, .int x3), (4, .int v20)] [] (wR ad ck N21)
            refine za_iload_n C 3 rfl rfl dX6_sheet_85 ?_
            obtain ⟨rfl, rfl⟩ := z_ret2 hf
            exact za_iret C F dX6_sheet_86
        · have hf := z_neg q8 hf
          refine za_aload_n C 0 rfl rfl dX6_sheet_29 ?_
          refine za_iconst (v := (5 : Int32)) C (by decide) dX6_sheet_30 ?_
          obtain ⟨v24, N25, hc23, hf⟩ := z_b2 hf
          refine za_callV (n := 1) (rest := []) C (cX6_meets_ok l D ck ad (5 : Int32) M0 _ _ hc23) gX6_sheet_X6_meets rfl rfl rfl (by decide +kernel) ⟨Nat.le_of_ble_eq_true rfl, Nat.le_of_ble_eq_true rfl⟩ 0 rfl rfl rfl rfl rfl (Nat.le_of_ble_eq_true rfl) ⟨Nat.zero_le _, Nat.zero_le _⟩ dX6_sheet_31 ?_
          obtain ⟨rfl, rfl⟩ := z_ret2 hf
          exact za_iret C F dX6_sheet_34
      · have hf := z_neg q7 hf
        exact za_sub [0, 1, 2, 3] rfl (j_22 x1 x2 x3 M0 hf)
theorem in_X6_lose_X6 : ∀ w ∈ wsX60, w ∈ wsX6_lose := by decide +kernel
theorem fl_X6_lose_63 : Cond.fieldLink RX6 63 "ThriceNetsModel" "isThere" "[Z" ∈ wsX6_lose := by decide +kernel
theorem fl_X6_lose_69 : Cond.fieldLink RX6 69 "ThriceNetsModel" "sizes" "[I" ∈ wsX6_lose := by decide +kernel
def pX6_lose (x1 : Int32) (M0 : zM) : Option (Int32 × zM) :=
  (pX6_isSheet x1 M0).bind (fun v2 => (if v2 = 0 then (some ((-2 : Int32), M0)) else (zchk x1 4 ((if (M0.1 25 x1.toNatClampNeg) = 0 then (zb2 (pX6_meets (1 : Int32) M0) (fun v10 N11 => some (v10, N11))) else (zchk x1 4 (zst (zsI M0 25 x1.toNatClampNeg (vp_nar .boolean (0 : Int32))) (fun N7 => zchk x1 4 (some ((N7.1 27 x1.toNatClampNeg), N7))))))))))
set_option maxHeartbeats 4000000 in
set_option maxRecDepth 100000 in
theorem cX6_lose_ok (l : Launch) (D : va_G) (ck : Nat → ClassId) (ad : Nat → Nat) (x1 : Int32) (M0 : zM) (r9 : Int32) (M9 : zM) (hf : pX6_lose x1 M0 = some (r9, M9)) : zc l D ck (wR ad ck) yX6_lose wsX6_lose ({ frames := 2, cells := 0, slots := 0, locals := 42 }) [.ref (ad 0), .int x1] M0 (some (.int r9)) M9 := by
  refine zc_of (cc := cX6_lose) (maxL := 2) (ret := (some .int)) [(0, .ref (ad 0)), (1, .int x1)] (by decide) rfl (Nat.le_of_ble_eq_true rfl) rfl ?_
  intro p e s m args below meth c A Q C F
  unfold pX6_lose at hf
  refine za_iload_n C 1 rfl rfl dX6_lose_0 ?_
  obtain ⟨v2, hc1, hf⟩ := z_bind hf
  refine za_callS (n := 1) (rest := []) C (cX6_isSheet_ok l D ck ad x1 M0 _ hc1) gX6_lose_X6_isSheet rfl rfl rfl (by decide +kernel) ⟨Nat.le_of_ble_eq_true rfl, Nat.le_of_ble_eq_true rfl⟩ rfl rfl (Nat.le_of_ble_eq_true rfl) ⟨Nat.zero_le _, Nat.zero_le _⟩ dX6_lose_1 ?_
  refine za_if_ne C 10 (by decide) dX6_lose_4 (fun q3 => ?_) (fun q3 => ?_)
  · have hf := z_neg q3 hf
    refine za_aload_n C 0 rfl rfl dX6_lose_10 ?_
    refine zg_R0_20 C in_X6_lose_X6 fl_X6_lose_63 dX6_lose_11 ?_
    refine za_iload_n C 1 rfl rfl dX6_lose_14 ?_
    obtain ⟨h4, hf⟩ := z_chk hf
    refine zl_R16 C h4 dX6_lose_15 ?_
    refine za_if_ne C 25 (by decide) dX6_lose_16 (fun q5 => ?_) (fun q5 => ?_)
    · have hf := z_neg q5 hf
      refine za_aload_n C 0 rfl rfl dX6_lose_25 ?_
      refine zg_R0_20 C in_X6_lose_X6 fl_X6_lose_63 dX6_lose_26 ?_
      refine za_iload_n C 1 rfl rfl dX6_lose_29 ?_
      refine za_iconst (v := (0 : Int32)) C (by decide) dX6_lose_30 ?_
      obtain ⟨h6, hf⟩ := z_chk hf
      obtain ⟨N7, eN7, hf⟩ := z_st hf
      refine zs_R16 C h6 eN7 dX6_lose_31 ?_
      refine za_aload_n C 0 rfl rfl dX6_lose_32 ?_
      refine zg_R0_22 C in_X6_lose_X6 fl_X6_lose_69 dX6_lose_33 ?_
      refine za_iload_n C 1 rfl rfl dX6_lose_36 ?_
      obtain ⟨h8, hf⟩ := z_chk hf
      refine zl_R18 C h8 dX6_lose_37 ?_
      obtain ⟨rfl, rfl⟩ := z_ret2 hf
      exact za_iret C F dX6_lose_38
    · have hf := z_pos q5 hf
      refine za_aload_n C 0 rfl rfl dX6_lose_19 ?_
      refine za_iconst (v := (1 : Int32)) C (by decide) dX6_lose_20 ?_
      obtain ⟨v10, N11, hc9, hf⟩ := z_b2 hf
      refine za_callV (n := 1) (rest := []) C (cX6_meets_ok l D ck ad (1 : Int32) M0 _ _ hc9) gX6_lose_X6_meets rfl rfl rfl (by decide +kernel) ⟨Nat.le_of_ble_eq_true rfl, Nat.le_of_ble_eq_true rfl⟩ 0 rfl rfl rfl rfl rfl (Nat.le_of_ble_eq_true rfl) ⟨Nat.zero_le _, Nat.zero_le _⟩ dX6_lose_21 ?_
      obtain ⟨rfl, rfl⟩ := z_ret2 hf
      exact za_iret C F dX6_lose_24
  · have hf := z_pos q3 hf
    refine za_bipush (v := (-2 : Int32)) C (by decide) dX6_lose_7 ?_
    obtain ⟨rfl, rfl⟩ := z_ret2 hf
    exact za_iret C F dX6_lose_9
theorem in_X6_lacks_X6 : ∀ w ∈ wsX60, w ∈ wsX6_lacks := by decide +kernel
theorem fl_X6_lacks_63 : Cond.fieldLink RX6 63 "ThriceNetsModel" "isThere" "[Z" ∈ wsX6_lacks := by decide +kernel
theorem fl_X6_lacks_66 : Cond.fieldLink RX6 66 "ThriceNetsModel" "forms" "[I" ∈ wsX6_lacks := by decide +kernel
theorem fl_X6_lacks_69 : Cond.fieldLink RX6 69 "ThriceNetsModel" "sizes" "[I" ∈ wsX6_lacks := by decide +kernel
def pX6_lacks (x1 : Int32) (x2 : Int32) (x3 : Int32) (M0 : zM) : Option (Int32) :=
  zchk x1 4 ((if (M0.1 25 x1.toNatClampNeg) = 0 then (some (1 : Int32)) else (zchk x1 4 ((if (M0.1 26 x1.toNatClampNeg) = x2 then (zchk x1 4 ((pX6_in x3 (0 : Int32) ((M0.1 27 x1.toNatClampNeg) - (1 : Int32)) M0).bind (fun v7 => (if v7 = 0 then (some (2 : Int32)) else (some (0 : Int32)))))) else (some (3 : Int32)))))))
set_option maxHeartbeats 4000000 in
set_option maxRecDepth 100000 in
theorem cX6_lacks_ok (l : Launch) (D : va_G) (ck : Nat → ClassId) (ad : Nat → Nat) (x1 : Int32) (x2 : Int32) (x3 : Int32) (M0 : zM) (r9 : Int32) (hf : pX6_lacks x1 x2 x3 M0 = some r9) : zc l D ck (wR ad ck) yX6_lacks wsX6_lacks ({ frames := 1, cells := 0, slots := 0, locals := 22 }) [.ref (ad 0), .int x1, .int x2, .int x3] M0 (some (.int r9)) M0 := by
  refine zc_of (cc := cX6_lacks) (maxL := 4) (ret := (some .int)) [(0, .ref (ad 0)), (1, .int x1), (2, .int x2), (3, .int x3)] (by decide) rfl (Nat.le_of_ble_eq_true rfl) rfl ?_
  intro p e s m args below meth c A Q C F
  unfold pX6_lacks at hf
  refine za_aload_n C 0 rfl rfl dX6_lacks_0 ?_
  refine zg_R0_20 C in_X6_lacks_X6 fl_X6_lacks_63 dX6_lacks_1 ?_
  refine za_iload_n C 1 rfl rfl dX6_lacks_4 ?_
  obtain ⟨h1, hf⟩ := z_chk hf
  refine zl_R16 C h1 dX6_lacks_5 ?_
  refine za_if_ne C 13 (by decide) dX6_lacks_6 (fun q2 => ?_) (fun q2 => ?_)
  · have hf := z_neg q2 hf
    refine za_aload_n C 0 rfl rfl dX6_lacks_13 ?_
    refine zg_R0_21 C in_X6_lacks_X6 fl_X6_lacks_66 dX6_lacks_14 ?_
    refine za_iload_n C 1 rfl rfl dX6_lacks_17 ?_
    obtain ⟨h3, hf⟩ := z_chk hf
    refine zl_R17 C h3 dX6_lacks_18 ?_
    refine za_iload_n C 2 rfl rfl dX6_lacks_19 ?_
    refine za_icmp_eq C 27 (by decide) dX6_lacks_20 (fun q4 => ?_) (fun q4 => ?_)
    · have hf := z_pos q4 hf
      refine za_iload_n C 3 rfl rfl dX6_lacks_27 ?_
      refine za_iconst (v := (0 : Int32)) C (by decide) dX6_lacks_28 ?_
      refine za_aload_n C 0 rfl rfl dX6_lacks_29 ?_
      refine zg_R0_22 C in_X6_lacks_X6 fl_X6_lacks_69 dX6_lacks_30 ?_
      refine za_iload_n C 1 rfl rfl dX6_lacks_33 ?_
      obtain ⟨h5, hf⟩ := z_chk hf
      refine zl_R18 C h5 dX6_lacks_34 ?_
      refine za_iconst (v := (1 : Int32)) C (by decide) dX6_lacks_35 ?_
      refine za_isub C dX6_lacks_36 ?_
      obtain ⟨v7, hc6, hf⟩ := z_bind hf
      refine za_callS (n := 3) (rest := []) C (cX6_in_ok l D ck ad x3 (0 : Int32) ((M0.1 27 x1.toNatClampNeg) - (1 : Int32)) M0 _ hc6) gX6_lacks_X6_in rfl rfl rfl (by decide +kernel) ⟨Nat.le_of_ble_eq_true rfl, Nat.le_of_ble_eq_true rfl⟩ rfl rfl (Nat.le_of_ble_eq_true rfl) ⟨Nat.zero_le _, Nat.zero_le _⟩ dX6_lacks_37 ?_
      refine za_if_eq C 47 (by decide) dX6_lacks_40 (fun q8 => ?_) (fun q8 => ?_)
      · have hf := z_pos q8 hf
        refine za_iconst (v := (2 : Int32)) C (by decide) dX6_lacks_47 ?_
        obtain rfl := z_ret1 hf
        exact za_iret C F dX6_lacks_48
      · have hf := z_neg q8 hf
        refine za_iconst (v := (0 : Int32)) C (by decide) dX6_lacks_43 ?_
        refine za_goto C 48 (by decide) dX6_lacks_44 ?_
        obtain rfl := z_ret1 hf
        exact za_iret C F dX6_lacks_48
    · have hf := z_neg q4 hf
      refine za_iconst (v := (3 : Int32)) C (by decide) dX6_lacks_23 ?_
      refine za_goto C 48 (by decide) dX6_lacks_24 ?_
      obtain rfl := z_ret1 hf
      exact za_iret C F dX6_lacks_48
  · have hf := z_pos q2 hf
    refine za_iconst (v := (1 : Int32)) C (by decide) dX6_lacks_9 ?_
    refine za_goto C 48 (by decide) dX6_lacks_10 ?_
    obtain rfl := z_ret1 hf
    exact za_iret C F dX6_lacks_48
theorem in_X6_put_X6 : ∀ w ∈ wsX60, w ∈ wsX6_put := by decide +kernel
theorem fl_X6_put_72 : Cond.fieldLink RX6 72 "ThriceNetsModel" "items" "[I" ∈ wsX6_put := by decide +kernel
def K_X6_put_73 (x1 : Int32) (x2 : Int32) (x3 : Int32) (x4 : Int32) (x5 : Int32) (y0 : Int32) (y1 : Int32) (M : zM) : Option (Int32 × zM) :=
  zchk y1 240 (zst (zsI M 28 y1.toNatClampNeg y0) (fun N2 => some ((1 : Int32), N2)))
def K_X6_put_16 (x1 : Int32) (x2 : Int32) (x3 : Int32) (x4 : Int32) (M : zM) : Option (Int32 × zM) :=
  some ((-2 : Int32), M)
def pX6_put (x1 : Int32) (x2 : Int32) (x3 : Int32) (x4 : Int32) (M0 : zM) : Option (Int32 × zM) :=
  (pX6_isSheet x1 M0).bind (fun v4 => (if v4 = 0 then (K_X6_put_16 x1 x2 x3 x4 M0) else ((pX6_in x2 (0 : Int32) (2 : Int32) M0).bind (fun v7 => (if v7 = 0 then (K_X6_put_16 x1 x2 x3 x4 M0) else ((pX6_lacks x1 x2 x3 M0).bind (fun v10 => zlt v10 (fun v11 => (if v11 ≤ 0 then (if x2 = 0 then (K_X6_put_73 x1 x2 x3 x4 v11 ((Int32.toInt8 x4).toInt32) (((60 : Int32) * x1) + x3) M0) else (if x2 = (1 : Int32) then (K_X6_put_73 x1 x2 x3 x4 v11 ((Int32.toInt16 x4).toInt32) (((60 : Int32) * x1) + x3) M0) else (K_X6_put_73 x1 x2 x3 x4 v11 x4 (((60 : Int32) * x1) + x3) M0))) else (zb2 (pX6_meets v11 M0) (fun v16 N17 => some (v16, N17))))))))))))
set_option maxHeartbeats 4000000 in
set_option maxRecDepth 100000 in
theorem cX6_put_ok (l : Launch) (D : va_G) (ck : Nat → ClassId) (ad : Nat → Nat) (x1 : Int32) (x2 : Int32) (x3 : Int32) (x4 : Int32) (M0 : zM) (r9 : Int32) (M9 : zM) (hf : pX6_put x1 x2 x3 x4 M0 = some (r9, M9)) : zc l D ck (wR ad ck) yX6_put wsX6_put ({ frames := 2, cells := 0, slots := 0, locals := 45 }) [.ref (ad 0), .int x1, .int x2, .int x3, .int x4] M0 (some (.int r9)) M9 := by
  refine zc_of (cc := cX6_put) (maxL := 6) (ret := (some .int)) [(0, .ref (ad 0)), (1, .int x1), (2, .int x2), (3, .int x3), (4, .int x4)] (by decide) rfl (Nat.le_of_ble_eq_true rfl) rfl ?_
  intro p e s m args below meth c A Q C F
  have j_73 : ∀ (x1 : Int32) (x2 : Int32) (x3 : Int32) (x4 : Int32) (x5 : Int32) (y0 : Int32) (y1 : Int32) (M : zM), K_X6_put_73 x1 x2 x3 x4 x5 y0 y1 M = some (r9, M9) → za_At p l e { frames := 2, cells := 0, slots := 0, locals := 45 } s m args below meth c D A 6 0 0 Q 73 [(0, .ref (ad 0)), (1, .int x1), (2, .int x2), (3, .int x3), (4, .int x4), (5, .int x5)] [.int y0, .int y1, .ref (ad 19)] (wR ad ck M) := by
    intro x1 x2 x3 x4 x5 y0 y1 M hf
    unfold K_X6_put_73 at hf
    obtain ⟨h1, hf⟩ := z_chk hf
    obtain ⟨N2, eN2, hf⟩ := z_st hf
    refine zs_R19 C h1 eN2 dX6_put_73 ?_
    refine za_iconst (v := (1 : Int32)) C (by decide) dX6_put_74 ?_
    obtain ⟨rfl, rfl⟩ := z_ret2 hf
    exact za_iret C F dX6_put_75
  have j_16 : ∀ (x1 : Int32) (x2 : Int32) (x3 : Int32) (x4 : Int32) (M : zM), K_X6_put_16 x1 x2 x3 x4 M = some (r9, M9) → za_At p l e { frames := 2, cells := 0, slots := 0, locals := 45 } s m args below meth c D A 6 0 0 Q 16 [(0, .ref (ad 0)), (1, .int x1), (2, .int x2), (3, .int x3), (4, .int x4)] [] (wR ad ck M) := by
    intro x1 x2 x3 x4 M hf
    unfold K_X6_put_16 at hf
    refine za_bipush (v := (-2 : Int32)) C (by decide) dX6_put_16 ?_
    obtain ⟨rfl, rfl⟩ := z_ret2 hf
    exact za_iret C F dX6_put_18
  unfold pX6_put at hf
  refine za_iload_n C 1 rfl rfl dX6_put_0 ?_
  obtain ⟨v4, hc3, hf⟩ := z_bind hf
  refine za_callS (n := 1) (rest := []) C (cX6_isSheet_ok l D ck ad x1 M0 _ hc3) gX6_put_X6_isSheet rfl rfl rfl (by decide +kernel) ⟨Nat.le_of_ble_eq_true rfl, Nat.le_of_ble_eq_true rfl⟩ rfl rfl (Nat.le_of_ble_eq_true rfl) ⟨Nat.zero_le _, Nat.zero_le _⟩ dX6_put_1 ?_
  refine za_if_eq C 16 (by decide) dX6_put_4 (fun q5 => ?_) (fun q5 => ?_)
  · have hf := z_pos q5 hf
    exact za_sub [0, 1, 2, 3, 4] rfl (j_16 x1 x2 x3 x4 M0 hf)
  · have hf := z_neg q5 hf
    refine za_iload_n C 2 rfl rfl dX6_put_7 ?_
    refine za_iconst (v := (0 : Int32)) C (by decide) dX6_put_8 ?_
    refine za_iconst (v := (2 : Int32)) C (by decide) dX6_put_9 ?_
    obtain ⟨v7, hc6, hf⟩ := z_bind hf
    refine za_callS (n := 3) (rest := []) C (cX6_in_ok l D ck ad x2 (0 : Int32) (2 : Int32) M0 _ hc6) gX6_put_X6_in rfl rfl rfl (by decide +kernel) ⟨Nat.le_of_ble_eq_true rfl, Nat.le_of_ble_eq_true rfl⟩ rfl rfl (Nat.le_of_ble_eq_true rfl) ⟨Nat.zero_le _, Nat.zero_le _⟩ dX6_put_10 ?_
    refine za_if_ne C 19 (by decide) dX6_put_13 (fun q8 => ?_) (fun q8 => ?_)
    · have hf := z_neg q8 hf
      refine za_aload_n C 0 rfl rfl dX6_put_19 ?_
      refine za_iload_n C 1 rfl rfl dX6_put_20 ?_
      refine za_iload_n C 2 rfl rfl dX6_put_21 ?_
      refine za_iload_n C 3 rfl rfl dX6_put_22 ?_
      obtain ⟨v10, hc9, hf⟩ := z_bind hf
      refine za_callV (n := 3) (rest := []) C (cX6_lacks_ok l D ck ad x1 x2 x3 M0 _ hc9) gX6_put_X6_lacks rfl rfl rfl (by decide +kernel) ⟨Nat.le_of_ble_eq_true rfl, Nat.le_of_ble_eq_true rfl⟩ 0 rfl rfl rfl rfl rfl (Nat.le_of_ble_eq_true rfl) ⟨Nat.zero_le _, Nat.zero_le _⟩ dX6_put_23 ?_
      obtain ⟨v11, ev11, hf⟩ := z_lt hf
      refine za_istore C [(5, .int v11), (0, .ref (ad 0)), (1, .int x1), (2, .int x2), (3, .int x3), (4, .int x4)] ev11 (by decide) rfl dX6_put_26 ?_
      refine za_iload C 0 rfl dX6_put_28 ?_
      refine za_if_le C 40 (by decide) dX6_put_30 (fun q12 => ?_) (fun q12 => ?_)
      · have hf := z_pos q12 hf
        refine za_aload_n C 1 rfl rfl dX6_put_40 ?_
        refine zg_R0_23 C in_X6_put_X6 fl_X6_put_72 dX6_put_41 ?_
        refine za_bipush (v := (60 : Int32)) C (by decide) dX6_put_44 ?_
        refine za_iload_n C 2 rfl rfl dX6_put_46 ?_
        refine za_imul C dX6_put_47 ?_
        refine za_iload_n C 4 rfl rfl dX6_put_48 ?_
        refine za_iadd C dX6_put_49 ?_
        refine za_iload_n C 3 rfl rfl dX6_put_50 ?_
        refine za_if_ne C 60 (by decide) dX6_put_51 (fun q13 => ?_) (fun q13 => ?_)
        · have hf := z_neg q13 hf
          refine za_iload_n C 3 rfl rfl dX6_put_60 ?_
          refine za_iconst (v := (1 : Int32)) C (by decide) dX6_put_61 ?_
          refine za_icmp_ne C 71 (by decide) dX6_put_62 (fun q14 => ?_) (fun q14 => ?_)
          · have hf := z_neg q14 hf
            refine za_iload C 5 rfl dX6_put_71 ?_
            exact za_sub [1, 2, 3, 4, 5, 0] rfl (j_73 x1 x2 x3 x4 v11 x4 (((60 : Int32) * x1) + x3) M0 hf)
          · have hf := z_pos q14 hf
            refine za_iload C 5 rfl dX6_put_65 ?_
            refine za_i2s C dX6_put_67 ?_
            refine za_goto C 73 (by decide) dX6_put_68 ?_
            exact za_sub [1, 2, 3, 4, 5, 0] rfl (j_73 x1 x2 x3 x4 v11 ((Int32.toInt16 x4).toInt32) (((60 : Int32) * x1) + x3) M0 hf)
        · have hf := z_pos q13 hf
          refine za_iload C 5 rfl dX6_put_54 ?_
          refine za_i2b C dX6_put_56 ?_
          refine za_goto C 73 (by decide) dX6_put_57 ?_
          exact za_sub [1, 2, 3, 4, 5, 0] rfl (j_73 x1 x2 x3 x4 v11 ((Int32.toInt8 x4).toInt32) (((60 : Int32) * x1) + x3) M0 hf)
      · have hf := z_neg q12 hf
        refine za_aload_n C 1 rfl rfl dX6_put_33 ?_
        refine za_iload C 0 rfl dX6_put_34 ?_
        obtain ⟨v16, N17, hc15, hf⟩ := z_b2 hf
        refine za_callV (n := 1) (rest := []) C (cX6_meets_ok l D ck ad v11 M0 _ _ hc15) gX6_put_X6_meets rfl rfl rfl (by decide +kernel) ⟨Nat.le_of_ble_eq_true rfl, Nat.le_of_ble_eq_true rfl⟩ 0 rfl rfl rfl rfl rfl (Nat.le_of_ble_eq_true rfl) ⟨Nat.zero_le _, Nat.zero_le _⟩ dX6_put_36 ?_
        obtain ⟨rfl, rfl⟩ := z_ret2 hf
        exact za_iret C F dX6_put_39
    · have hf := z_pos q8 hf
      exact za_sub [0, 1, 2, 3, 4] rfl (j_16 x1 x2 x3 x4 M0 hf)
theorem cn_X6_get_174 : Jvm.Cond.constant RX6 174 (-2147483648) ∈ wsX6_get := by decide +kernel
theorem in_X6_get_X6 : ∀ w ∈ wsX60, w ∈ wsX6_get := by decide +kernel
theorem fl_X6_get_72 : Cond.fieldLink RX6 72 "ThriceNetsModel" "items" "[I" ∈ wsX6_get := by decide +kernel
theorem fl_X6_get_162 : Cond.fieldLink RX6 162 "ThriceNetsModel" "finding" "I" ∈ wsX6_get := by decide +kernel
def K_X6_get_16 (x1 : Int32) (x2 : Int32) (x3 : Int32) (M : zM) : Option (Int32 × zM) :=
  some ((-2147483648 : Int32), M)
def pX6_get (x1 : Int32) (x2 : Int32) (x3 : Int32) (M0 : zM) : Option (Int32 × zM) :=
  (pX6_isSheet x1 M0).bind (fun v2 => (if v2 = 0 then (K_X6_get_16 x1 x2 x3 M0) else ((pX6_in x2 (0 : Int32) (2 : Int32) M0).bind (fun v5 => (if v5 = 0 then (K_X6_get_16 x1 x2 x3 M0) else ((pX6_lacks x1 x2 x3 M0).bind (fun v8 => zlt v8 (fun v9 => (if v9 ≤ 0 then (zchk (((60 : Int32) * x1) + x3) 240 (some ((M0.1 28 (((60 : Int32) * x1) + x3).toNatClampNeg), M0))) else (zst (zsI M0 5 0 v9) (fun N12 => some ((-2147483648 : Int32), N12))))))))))))
set_option maxHeartbeats 4000000 in
set_option maxRecDepth 100000 in
theorem cX6_get_ok (l : Launch) (D : va_G) (ck : Nat → ClassId) (ad : Nat → Nat) (x1 : Int32) (x2 : Int32) (x3 : Int32) (M0 : zM) (r9 : Int32) (M9 : zM) (hf : pX6_get x1 x2 x3 M0 = some (r9, M9)) : zc l D ck (wR ad ck) yX6_get wsX6_get ({ frames := 2, cells := 0, slots := 0, locals := 45 }) [.ref (ad 0), .int x1, .int x2, .int x3] M0 (some (.int r9)) M9 := by
  refine zc_of (cc := cX6_get) (maxL := 5) (ret := (some .int)) [(0, .ref (ad 0)), (1, .int x1), (2, .int x2), (3, .int x3)] (by decide) rfl (Nat.le_of_ble_eq_true rfl) rfl ?_
  intro p e s m args below meth c A Q C F
  have j_16 : ∀ (x1 : Int32) (x2 : Int32) (x3 : Int32) (M : zM), K_X6_get_16 x1 x2 x3 M = some (r9, M9) → za_At p l e { frames := 2, cells := 0, slots := 0, locals := 45 } s m args below meth c D A 5 0 0 Q 16 [(0, .ref (ad 0)), (1, .int x1), (2, .int x2), (3, .int x3)] [] (wR ad ck M) := by
    intro x1 x2 x3 M hf
    unfold K_X6_get_16 at hf
    refine za_ldc (v := (-2147483648 : Int32)) C cn_X6_get_174 dX6_get_16 ?_
    obtain ⟨rfl, rfl⟩ := z_ret2 hf
    exact za_iret C F dX6_get_18
  unfold pX6_get at hf
  refine za_iload_n C 1 rfl rfl dX6_get_0 ?_
  obtain ⟨v2, hc1, hf⟩ := z_bind hf
  refine za_callS (n := 1) (rest := []) C (cX6_isSheet_ok l D ck ad x1 M0 _ hc1) gX6_get_X6_isSheet rfl rfl rfl (by decide +kernel) ⟨Nat.le_of_ble_eq_true rfl, Nat.le_of_ble_eq_true rfl⟩ rfl rfl (Nat.le_of_ble_eq_true rfl) ⟨Nat.zero_le _, Nat.zero_le _⟩ dX6_get_1 ?_
  refine za_if_eq C 16 (by decide) dX6_get_4 (fun q3 => ?_) (fun q3 => ?_)
  · have hf := z_pos q3 hf
    exact za_sub [0, 1, 2, 3] rfl (j_16 x1 x2 x3 M0 hf)
  · have hf := z_neg q3 hf
    refine za_iload_n C 2 rfl rfl dX6_get_7 ?_
    refine za_iconst (v := (0 : Int32)) C (by decide) dX6_get_8 ?_
    refine za_iconst (v := (2 : Int32)) C (by decide) dX6_get_9 ?_
    obtain ⟨v5, hc4, hf⟩ := z_bind hf
    refine za_callS (n := 3) (rest := []) C (cX6_in_ok l D ck ad x2 (0 : Int32) (2 : Int32) M0 _ hc4) gX6_get_X6_in rfl rfl rfl (by decide +kernel) ⟨Nat.le_of_ble_eq_true rfl, Nat.le_of_ble_eq_true rfl⟩ rfl rfl (Nat.le_of_ble_eq_true rfl) ⟨Nat.zero_le _, Nat.zero_le _⟩ dX6_get_10 ?_
    refine za_if_ne C 19 (by decide) dX6_get_13 (fun q6 => ?_) (fun q6 => ?_)
    · have hf := z_neg q6 hf
      refine za_aload_n C 0 rfl rfl dX6_get_19 ?_
      refine za_iload_n C 1 rfl rfl dX6_get_20 ?_
      refine za_iload_n C 2 rfl rfl dX6_get_21 ?_
      refine za_iload_n C 3 rfl rfl dX6_get_22 ?_
      obtain ⟨v8, hc7, hf⟩ := z_bind hf
      refine za_callV (n := 3) (rest := []) C (cX6_lacks_ok l D ck ad x1 x2 x3 M0 _ hc7) gX6_get_X6_lacks rfl rfl rfl (by decide +kernel) ⟨Nat.le_of_ble_eq_true rfl, Nat.le_of_ble_eq_true rfl⟩ 0 rfl rfl rfl rfl rfl (Nat.le_of_ble_eq_true rfl) ⟨Nat.zero_le _, Nat.zero_le _⟩ dX6_get_23 ?_
      obtain ⟨v9, ev9, hf⟩ := z_lt hf
      refine za_istore C [(4, .int v9), (0, .ref (ad 0)), (1, .int x1), (2, .int x2), (3, .int x3)] ev9 (by decide) rfl dX6_get_26 ?_
      refine za_iload C 0 rfl dX6_get_28 ?_
      refine za_if_le C 42 (by decide) dX6_get_30 (fun q10 => ?_) (fun q10 => ?_)
      · have hf := z_pos q10 hf
        refine za_aload_n C 1 rfl rfl dX6_get_42 ?_
        refine zg_R0_23 C in_X6_get_X6 fl_X6_get_72 dX6_get_43 ?_
        refine za_bipush (v := (60 : Int32)) C (by decide) dX6_get_46 ?_
        refine za_iload_n C 2 rfl rfl dX6_get_48 ?_
        refine za_imul C dX6_get_49 ?_
        refine za_iload_n C 4 rfl rfl dX6_get_50 ?_
        refine za_iadd C dX6_get_51 ?_
        obtain ⟨h11, hf⟩ := z_chk hf
        refine zl_R19 C h11 dX6_get_52 ?_
        obtain ⟨rfl, rfl⟩ := z_ret2 hf
        exact za_iret C F dX6_get_53
      · have hf := z_neg q10 hf
        refine za_aload_n C 1 rfl rfl dX6_get_33 ?_
        refine za_iload C 0 rfl dX6_get_34 ?_
        obtain ⟨N12, eN12, hf⟩ := z_st hf
        refine zp_R0_25 C in_X6_get_X6 fl_X6_get_162 eN12 dX6_get_36 ?_
        refine za_ldc (v := (-2147483648 : Int32)) C cn_X6_get_174 dX6_get_39 ?_
        obtain ⟨rfl, rfl⟩ := z_ret2 hf
        exact za_iret C F dX6_get_41
    · have hf := z_pos q6 hf
      exact za_sub [0, 1, 2, 3] rfl (j_16 x1 x2 x3 M0 hf)
theorem in_X6_move_X6 : ∀ w ∈ wsX60, w ∈ wsX6_move := by decide +kernel
theorem fl_X6_move_63 : Cond.fieldLink RX6 63 "ThriceNetsModel" "isThere" "[Z" ∈ wsX6_move := by decide +kernel
theorem fl_X6_move_66 : Cond.fieldLink RX6 66 "ThriceNetsModel" "forms" "[I" ∈ wsX6_move := by decide +kernel
theorem fl_X6_move_69 : Cond.fieldLink RX6 69 "ThriceNetsModel" "sizes" "[I" ∈ wsX6_move := by decide +kernel
theorem fl_X6_move_75 : Cond.fieldLink RX6 75 "ThriceNetsModel" "moved" "[I" ∈ wsX6_move := by decide +kernel
theorem fl_X6_move_72 : Cond.fieldLink RX6 72 "ThriceNetsModel" "items" "[I" ∈ wsX6_move := by decide +kernel
def K_X6_move_111 (n : Nat) (x1 : Int32) (x2 : Int32) (x3 : Int32) (x4 : Int32) (x5 : Int32) (M : zM) : Option (Int32 × zM) :=
  zb2 (pX6_meets (2 : Int32) M) (fun v2 N3 => some (v2, N3))
def K_X6_move_35 (n : Nat) (x1 : Int32) (x2 : Int32) (x3 : Int32) (x4 : Int32) (x5 : Int32) (M : zM) : Option (Int32 × zM) :=
  zb2 (pX6_meets (1 : Int32) M) (fun v5 N6 => some (v5, N6))
def K_X6_move_14 (n : Nat) (x1 : Int32) (x2 : Int32) (x3 : Int32) (x4 : Int32) (x5 : Int32) (M : zM) : Option (Int32 × zM) :=
  some ((-2 : Int32), M)
def B_X6_move_120 (n : Nat) (x1 : Int32) (x2 : Int32) (x3 : Int32) (x4 : Int32) (x5 : Int32) (x6 : Int32) (M : zM) : Option ((Int32 × zM) ⊕ (Int32 × zM)) :=
  (if x5 ≤ x6 then (some (.inr (x6, M))) else (zchk ((((60 : Int32) * x1) + x2) + x6) 240 (zchk x6 60 (zst (zsI M 29 x6.toNatClampNeg (M.1 28 ((((60 : Int32) * x1) + x2) + x6).toNatClampNeg)) (fun N31 => zlt (x6 + (1 : Int32)) (fun v32 => some (.inl (v32, N31))))))))
def B_X6_move_157 (n : Nat) (x1 : Int32) (x2 : Int32) (x3 : Int32) (x4 : Int32) (x5 : Int32) (x6 : Int32) (M : zM) : Option ((Int32 × zM) ⊕ (Int32 × zM)) :=
  (if x5 ≤ x6 then (some (.inr (x6, M))) else (zchk x6 60 (zchk ((((60 : Int32) * x3) + x4) + x6) 240 (zst (zsI M 28 ((((60 : Int32) * x3) + x4) + x6).toNatClampNeg (M.1 29 x6.toNatClampNeg)) (fun N39 => zlt (x6 + (1 : Int32)) (fun v40 => some (.inl (v40, N39))))))))
def pX6_move (n : Nat) (x1 : Int32) (x2 : Int32) (x3 : Int32) (x4 : Int32) (x5 : Int32) (M0 : zM) : Option (Int32 × zM) :=
  (pX6_isSheet x1 M0).bind (fun v8 => (if v8 = 0 then (K_X6_move_14 n x1 x2 x3 x4 x5 M0) else ((pX6_isSheet x3 M0).bind (fun v11 => (if v11 = 0 then (K_X6_move_14 n x1 x2 x3 x4 x5 M0) else (zchk x1 4 ((if (M0.1 25 x1.toNatClampNeg) = 0 then (K_X6_move_35 n x1 x2 x3 x4 x5 M0) else (zchk x3 4 ((if (M0.1 25 x3.toNatClampNeg) = 0 then (K_X6_move_35 n x1 x2 x3 x4 x5 M0) else (zchk x1 4 (zchk x3 4 ((if (M0.1 26 x1.toNatClampNeg) = (M0.1 26 x3.toNatClampNeg) then (if x2 < 0 then (K_X6_move_111 n x1 x2 x3 x4 x5 M0) else (if x4 < 0 then (K_X6_move_111 n x1 x2 x3 x4 x5 M0) else (if x5 < 0 then (K_X6_move_111 n x1 x2 x3 x4 x5 M0) else (zchk x1 4 ((if 0 < (lg_cmp ((Int32.toInt64 x2) + (Int32.toInt64 x5)) (Int32.toInt64 (M0.1 27 x1.toNatClampNeg))) then (K_X6_move_111 n x1 x2 x3 x4 x5 M0) else (zchk x3 4 ((if (lg_cmp ((Int32.toInt64 x4) + (Int32.toInt64 x5)) (Int32.toInt64 (M0.1 27 x3.toNatClampNeg))) ≤ 0 then (zlt (0 : Int32) (fun v27 => zb2 (zwl (fun q => B_X6_move_120 n x1 x2 x3 x4 x5 q.1 q.2) n (v27, M0)) (fun v33 N34 => zlt (0 : Int32) (fun v35 => zb2 (zwl (fun q => B_X6_move_157 n x1 x2 x3 x4 x5 q.1 q.2) n (v35, N34)) (fun v41 N42 => some ((1 : Int32), N42)))))) else (K_X6_move_111 n x1 x2 x3 x4 x5 M0)))))))))) else (zb2 (pX6_meets (4 : Int32) M0) (fun v46 N47 => some (v46, N47))))))))))))))))))
set_option maxHeartbeats 4000000 in
set_option maxRecDepth 100000 in
theorem cX6_move_ok (l : Launch) (D : va_G) (ck : Nat → ClassId) (ad : Nat → Nat) (n : Nat) (x1 : Int32) (x2 : Int32) (x3 : Int32) (x4 : Int32) (x5 : Int32) (M0 : zM) (r9 : Int32) (M9 : zM) (hf : pX6_move n x1 x2 x3 x4 x5 M0 = some (r9, M9)) : zc l D ck (wR ad ck) yX6_move wsX6_move ({ frames := 2, cells := 0, slots := 0, locals := 42 }) [.ref (ad 0), .int x1, .int x2, .int x3, .int x4, .int x5] M0 (some (.int r9)) M9 := by
  refine zc_of (cc := cX6_move) (maxL := 7) (ret := (some .int)) [(0, .ref (ad 0)), (1, .int x1), (2, .int x2), (3, .int x3), (4, .int x4), (5, .int x5)] (by decide) rfl (Nat.le_of_ble_eq_true rfl) rfl ?_
  intro p e s m args below meth c A Q C F
  have j_111 : ∀ (x1 : Int32) (x2 : Int32) (x3 : Int32) (x4 : Int32) (x5 : Int32) (M : zM), K_X6_move_111 n x1 x2 x3 x4 x5 M = some (r9, M9) → za_At p l e { frames := 2, cells := 0, slots := 0, locals := 42 } s m args below meth c D A 7 0 0 Q 111 [(0, .ref (ad 0)), (1, .int x1), (2, .int x2), (3, .int x3), (4, .int x4), (5, .int x5)] [] (wR ad ck M) := by
    intro x1 x2 x3 x4 x5 M hf
    unfold K_X6_move_111 at hf
    refine za_aload_n C 0 rfl rfl dX6_move_111 ?_
    refine za_iconst (v := (2 : Int32)) C (by decide) dX6_move_112 ?_
    obtain ⟨v2, N3, hc1, hf⟩ := z_b2 hf
    refine za_callV (n := 1) (rest := []) C (cX6_meets_ok l D ck ad (2 : Int32) M _ _ hc1) gX6_move_X6_meets rfl rfl rfl (by decide +kernel) ⟨Nat.le_of_ble_eq_true rfl, Nat.le_of_ble_eq_true rfl⟩ 0 rfl rfl rfl rfl rfl (Nat.le_of_ble_eq_true rfl) ⟨Nat.zero_le _, Nat.zero_le _⟩ dX6_move_113 ?_
    obtain ⟨rfl, rfl⟩ := z_ret2 hf
    exact za_iret C F dX6_move_116
  have j_35 : ∀ (x1 : Int32) (x2 : Int32) (x3 : Int32) (x4 : Int32) (x5 : Int32) (M : zM), K_X6_move_35 n x1 x2 x3 x4 x5 M = some (r9, M9) → za_At p l e { frames := 2, cells := 0, slots := 0, locals := 42 } s m args below meth c D A 7 0 0 Q 35 [(0, .ref (ad 0)), (1, .int x1), (2, .int x2), (3, .int x3), (4, .int x4), (5, .int x5)] [] (wR ad ck M) := by
    intro x1 x2 x3 x4 x5 M hf
    unfold K_X6_move_35 at hf
    refine za_aload_n C 0 rfl rfl dX6_move_35 ?_
    refine za_iconst (v := (1 : Int32)) C (by decide) dX6_move_36 ?_
    obtain ⟨v5, N6, hc4, hf⟩ := z_b2 hf
    refine za_callV (n := 1) (rest := []) C (cX6_meets_ok l D ck ad (1 : Int32) M _ _ hc4) gX6_move_X6_meets rfl rfl rfl (by decide +kernel) ⟨Nat.le_of_ble_eq_true rfl, Nat.le_of_ble_eq_true rfl⟩ 0 rfl rfl rfl rfl rfl (Nat.le_of_ble_eq_true rfl) ⟨Nat.zero_le _, Nat.zero_le _⟩ dX6_move_37 ?_
    obtain ⟨rfl, rfl⟩ := z_ret2 hf
    exact za_iret C F dX6_move_40
  have j_14 : ∀ (x1 : Int32) (x2 : Int32) (x3 : Int32) (x4 : Int32) (x5 : Int32) (M : zM), K_X6_move_14 n x1 x2 x3 x4 x5 M = some (r9, M9) → za_At p l e { frames := 2, cells := 0, slots := 0, locals := 42 } s m args below meth c D A 7 0 0 Q 14 [(0, .ref (ad 0)), (1, .int x1), (2, .int x2), (3, .int x3), (4, .int x4), (5, .int x5)] [] (wR ad ck M) := by
    intro x1 x2 x3 x4 x5 M hf
    unfold K_X6_move_14 at hf
    refine za_bipush (v := (-2 : Int32)) C (by decide) dX6_move_14 ?_
    obtain ⟨rfl, rfl⟩ := z_ret2 hf
    exact za_iret C F dX6_move_16
  unfold pX6_move at hf
  refine za_iload_n C 1 rfl rfl dX6_move_0 ?_
  obtain ⟨v8, hc7, hf⟩ := z_bind hf
  refine za_callS (n := 1) (rest := []) C (cX6_isSheet_ok l D ck ad x1 M0 _ hc7) gX6_move_X6_isSheet rfl rfl rfl (by decide +kernel) ⟨Nat.le_of_ble_eq_true rfl, Nat.le_of_ble_eq_true rfl⟩ rfl rfl (Nat.le_of_ble_eq_true rfl) ⟨Nat.zero_le _, Nat.zero_le _⟩ dX6_move_1 ?_
  refine za_if_eq C 14 (by decide) dX6_move_4 (fun q9 => ?_) (fun q9 => ?_)
  · have hf := z_pos q9 hf
    exact za_sub [0, 1, 2, 3, 4, 5] rfl (j_14 x1 x2 x3 x4 x5 M0 hf)
  · have hf := z_neg q9 hf
    refine za_iload_n C 3 rfl rfl dX6_move_7 ?_
    obtain ⟨v11, hc10, hf⟩ := z_bind hf
    refine za_callS (n := 1) (rest := []) C (cX6_isSheet_ok l D ck ad x3 M0 _ hc10) gX6_move_X6_isSheet rfl rfl rfl (by decide +kernel) ⟨Nat.le_of_ble_eq_true rfl, Nat.le_of_ble_eq_true rfl⟩ rfl rfl (Nat.le_of_ble_eq_true rfl) ⟨Nat.zero_le _, Nat.zero_le _⟩ dX6_move_8 ?_
    refine za_if_ne C 17 (by decide) dX6_move_11 (fun q12 => ?_) (fun q12 => ?_)
    · have hf := z_neg q12 hf
      refine za_aload_n C 0 rfl rfl dX6_move_17 ?_
      refine zg_R0_20 C in_X6_move_X6 fl_X6_move_63 dX6_move_18 ?_
      refine za_iload_n C 1 rfl rfl dX6_move_21 ?_
      obtain ⟨h13, hf⟩ := z_chk hf
      refine zl_R16 C h13 dX6_move_22 ?_
      refine za_if_eq C 35 (by decide) dX6_move_23 (fun q14 => ?_) (fun q14 => ?_)
      · have hf := z_pos q14 hf
        exact za_sub [0, 1, 2, 3, 4, 5] rfl (j_35 x1 x2 x3 x4 x5 M0 hf)
      · have hf := z_neg q14 hf
        refine za_aload_n C 0 rfl rfl dX6_move_26 ?_
        refine zg_R0_20 C in_X6_move_X6 fl_X6_move_63 dX6_move_27 ?_
        refine za_iload_n C 3 rfl rfl dX6_move_30 ?_
        obtain ⟨h15, hf⟩ := z_chk hf
        refine zl_R16 C h15 dX6_move_31 ?_
        refine za_if_ne C 41 (by decide) dX6_move_32 (fun q16 => ?_) (fun q16 => ?_)
        · have hf := z_neg q16 hf
          refine za_aload_n C 0 rfl rfl dX6_move_41 ?_
          refine zg_R0_21 C in_X6_move_X6 fl_X6_move_66 dX6_move_42 ?_
          refine za_iload_n C 1 rfl rfl dX6_move_45 ?_
          obtain ⟨h17, hf⟩ := z_chk hf
          refine zl_R17 C h17 dX6_move_46 ?_
          refine za_aload_n C 0 rfl rfl dX6_move_47 ?_
          refine zg_R0_21 C in_X6_move_X6 fl_X6_move_66 dX6_move_48 ?_
          refine za_iload_n C 3 rfl rfl dX6_move_51 ?_
          obtain ⟨h18, hf⟩ := z_chk hf
          refine zl_R17 C h18 dX6_move_52 ?_
          refine za_icmp_eq C 62 (by decide) dX6_move_53 (fun q19 => ?_) (fun q19 => ?_)
          · have hf := z_pos q19 hf
            refine za_iload_n C 2 rfl rfl dX6_move_62 ?_
            refine za_if_lt C 111 (by decide) dX6_move_63 (fun q20 => ?_) (fun q20 => ?_)
            · have hf := z_pos q20 hf
              exact za_sub [0, 1, 2, 3, 4, 5] rfl (j_111 x1 x2 x3 x4 x5 M0 hf)
            · have hf := z_neg q20 hf
              refine za_iload C 4 rfl dX6_move_66 ?_
              refine za_if_lt C 111 (by decide) dX6_move_68 (fun q21 => ?_) (fun q21 => ?_)
              · have hf := z_pos q21 hf
                exact za_sub [0, 1, 2, 3, 4, 5] rfl (j_111 x1 x2 x3 x4 x5 M0 hf)
              · have hf := z_neg q21 hf
                refine za_iload C 5 rfl dX6_move_71 ?_
                refine za_if_lt C 111 (by decide) dX6_move_73 (fun q22 => ?_) (fun q22 => ?_)
                · have hf := z_pos q22 hf
                  exact za_sub [0, 1, 2, 3, 4, 5] rfl (j_111 x1 x2 x3 x4 x5 M0 hf)
                · have hf := z_neg q22 hf
                  refine za_iload_n C 2 rfl rfl dX6_move_76 ?_
                  refine za_i2l C dX6_move_77 ?_
                  refine za_iload C 5 rfl dX6_move_78 ?_
                  refine za_i2l C dX6_move_80 ?_
                  refine za_ladd C dX6_move_81 ?_
                  refine za_aload_n C 0 rfl rfl dX6_move_82 ?_
                  refine zg_R0_22 C in_X6_move_X6 fl_X6_move_69 dX6_move_83 ?_
                  refine za_iload_n C 1 rfl rfl dX6_move_86 ?_
                  obtain ⟨h23, hf⟩ := z_chk hf
                  refine zl_R18 C h23 dX6_move_87 ?_
                  refine za_i2l C dX6_move_88 ?_
                  refine za_lcmp C dX6_move_89 ?_
                  refine za_if_gt C 111 (by decide) dX6_move_90 (fun q24 => ?_) (fun q24 => ?_)
                  · have hf := z_pos q24 hf
                    exact za_sub [0, 1, 2, 3, 4, 5] rfl (j_111 x1 x2 x3 x4 x5 M0 hf)
                  · have hf := z_neg q24 hf
                    refine za_iload C 4 rfl dX6_move_93 ?_
                    refine za_i2l C dX6_move_95 ?_
                    refine za_iload C 5 rfl dX6_move_96 ?_
                    refine za_i2l C dX6_move_98 ?_
                    refine za_ladd C dX6_move_99 ?_
                    refine za_aload_n C 0 rfl rfl dX6_move_100 ?_
                    refine zg_R0_22 C in_X6_move_X6 fl_X6_move_69 dX6_move_101 ?_
                    refine za_iload_n C 3 rfl rfl dX6_move_104 ?_
                    obtain ⟨h25, hf⟩ := z_chk hf
                    refine zl_R18 C h25 dX6_move_105 ?_
                    refine za_i2l C dX6_move_106 ?_
                    refine za_lcmp C dX6_move_107 ?_
                    refine za_if_le C 117 (by decide) dX6_move_108 (fun q26 => ?_) (fun q26 => ?_)
                    · have hf := z_pos q26 hf
                      refine za_iconst (v := (0 : Int32)) C (by decide) dX6_move_117 ?_
                      obtain ⟨v27, ev27, hf⟩ := z_lt hf
                      refine za_istore C [(6, .int v27), (0, .ref (ad 0)), (1, .int x1), (2, .int x2), (3, .int x3), (4, .int x4), (5, .int x5)] ev27 (by decide) rfl dX6_move_118 ?_
                      obtain ⟨v33, N34, hw44, hf⟩ := z_b2 hf
                      refine za_sub [1, 2, 3, 4, 5, 6, 0] rfl ?_
                      refine z_wl (P := fun q => za_At p l e { frames := 2, cells := 0, slots := 0, locals := 42 } s m args below meth c D A 7 0 0 Q 120 [(0, .ref (ad 0)), (1, .int x1), (2, .int x2), (3, .int x3), (4, .int x4), (5, .int x5), (6, .int q.1)] [] (wR ad ck q.2)) (E := fun q => za_At p l e { frames := 2, cells := 0, slots := 0, locals := 42 } s m args below meth c D A 7 0 0 Q 154 [(0, .ref (ad 0)), (1, .int x1), (2, .int x2), (3, .int x3), (4, .int x4), (5, .int x5), (6, .int q.1)] [] (wR ad ck q.2)) ?_ ?_ _ _ hw44
                      · intro q o hf hN hE
                        obtain ⟨x6, M⟩ := q
                        have hf : B_X6_move_120 n x1 x2 x3 x4 x5 x6 M = some o := hf
                        unfold B_X6_move_120 at hf
                        refine za_iload C 6 rfl dX6_move_120 ?_
                        refine za_iload C 5 rfl dX6_move_122 ?_
                        refine za_icmp_ge C 154 (by decide) dX6_move_124 (fun q28 => ?_) (fun q28 => ?_)
                        · have hf := z_pos q28 hf
                          exact za_sub [0, 1, 2, 3, 4, 5, 6] rfl (hE _ (z_inj hf))
                        · have hf := z_neg q28 hf
                          refine za_aload_n C 0 rfl rfl dX6_move_127 ?_
                          refine zg_R0_24 C in_X6_move_X6 fl_X6_move_75 dX6_move_128 ?_
                          refine za_iload C 6 rfl dX6_move_131 ?_
                          refine za_aload_n C 0 rfl rfl dX6_move_133 ?_
                          refine zg_R0_23 C in_X6_move_X6 fl_X6_move_72 dX6_move_134 ?_
                          refine za_bipush (v := (60 : Int32)) C (by decide) dX6_move_137 ?_
                          refine za_iload_n C 1 rfl rfl dX6_move_139 ?_
                          refine za_imul C dX6_move_140 ?_
                          refine za_iload_n C 2 rfl rfl dX6_move_141 ?_
                          refine za_iadd C dX6_move_142 ?_
                          refine za_iload C 6 rfl dX6_move_143 ?_
                          refine za_iadd C dX6_move_145 ?_
                          obtain ⟨h29, hf⟩ := z_chk hf
                          refine zl_R19 C h29 dX6_move_146 ?_
                          obtain ⟨h30, hf⟩ := z_chk hf
                          obtain ⟨N31, eN31, hf⟩ := z_st hf
                          refine zs_R20 C h30 eN31 dX6_move_147 ?_
                          obtain ⟨v32, ev32, hf⟩ := z_lt hf
                          refine za_iinc (k9 := (1 : Int32)) C [(6, .int v32), (0, .ref (ad 0)), (1, .int x1), (2, .int x2), (3, .int x3), (4, .int x4), (5, .int x5)] 6 rfl (by decide) ev32 (by decide) rfl dX6_move_148 ?_
                          refine za_goto C 120 (by decide) dX6_move_151 ?_
                          exact za_sub [1, 2, 3, 4, 5, 6, 0] rfl (hN _ (z_inj hf))
                      · show za_At p l e { frames := 2, cells := 0, slots := 0, locals := 42 } s m args below meth c D A 7 0 0 Q 154 [(0, .ref (ad 0)), (1, .int x1), (2, .int x2), (3, .int x3), (4, .int x4), (5, .int x5), (6, .int v33)] [] (wR ad ck N34)
                        refine za_iconst (v := (0 : Int32)) C (by decide) dX6_move_154 ?_
                        obtain ⟨v35, ev35, hf⟩ := z_lt hf
                        refine za_istore C [(6, .int v35), (0, .ref (ad 0)), (1, .int x1), (2, .int x2), (3, .int x3), (4, .int x4), (5, .int x5)] ev35 (by decide) rfl dX6_move_155 ?_
                        obtain ⟨v41, N42, hw43, hf⟩ := z_b2 hf
                        refine za_sub [1, 2, 3, 4, 5, 6, 0] rfl ?_
                        refine z_wl (P := fun q => za_At p l e { frames := 2, cells := 0, slots := 0, locals := 42 } s m args below meth c D A 7 0 0 Q 157 [(0, .ref (ad 0)), (1, .int x1), (2, .int x2), (3, .int x3), (4, .int x4), (5, .int x5), (6, .int q.1)] [] (wR ad ck q.2)) (E := fun q => za_At p l e { frames := 2, cells := 0, slots := 0, locals := 42 } s m args below meth c D A 7 0 0 Q 192 [(0, .ref (ad 0)), (1, .int x1), (2, .int x2), (3, .int x3), (4, .int x4), (5, .int x5), (6, .int q.1)] [] (wR ad ck q.2)) ?_ ?_ _ _ hw43
                        · intro q o hf hN hE
                          obtain ⟨x6, M⟩ := q
                          have hf : B_X6_move_157 n x1 x2 x3 x4 x5 x6 M = some o := hf
                          unfold B_X6_move_157 at hf
                          refine za_iload C 6 rfl dX6_move_157 ?_
                          refine za_iload C 5 rfl dX6_move_159 ?_
                          refine za_icmp_ge C 192 (by decide) dX6_move_161 (fun q36 => ?_) (fun q36 => ?_)
                          · have hf := z_pos q36 hf
                            exact za_sub [0, 1, 2, 3, 4, 5, 6] rfl (hE _ (z_inj hf))
                          · have hf := z_neg q36 hf
                            refine za_aload_n C 0 rfl rfl dX6_move_164 ?_
                            refine zg_R0_23 C in_X6_move_X6 fl_X6_move_72 dX6_move_165 ?_
                            refine za_bipush (v := (60 : Int32)) C (by decide) dX6_move_168 ?_
                            refine za_iload_n C 3 rfl rfl dX6_move_170 ?_
                            refine za_imul C dX6_move_171 ?_
                            refine za_iload C 4 rfl dX6_move_172 ?_
                            refine za_iadd C dX6_move_174 ?_
                            refine za_iload C 6 rfl dX6_move_175 ?_
                            refine za_iadd C dX6_move_177 ?_
                            refine za_aload_n C 0 rfl rfl dX6_move_178 ?_
                            refine zg_R0_24 C in_X6_move_X6 fl_X6_move_75 dX6_move_179 ?_
                            refine za_iload C 6 rfl dX6_move_182 ?_
                            obtain ⟨h37, hf⟩ := z_chk hf
                            refine zl_R20 C h37 dX6_move_184 ?_
                            obtain ⟨h38, hf⟩ := z_chk hf
                            obtain ⟨N39, eN39, hf⟩ := z_st hf
                            refine zs_R19 C h38 eN39 dX6_move_185 ?_
                            obtain ⟨v40, ev40, hf⟩ := z_lt hf
                            refine za_iinc (k9 := (1 : Int32)) C [(6, .int v40), (0, .ref (ad 0)), (1, .int x1), (2, .int x2), (3, .int x3), (4, .int x4), (5, .int x5)] 6 rfl (by decide) ev40 (by decide) rfl dX6_move_186 ?_
                            refine za_goto C 157 (by decide) dX6_move_189 ?_
                            exact za_sub [1, 2, 3, 4, 5, 6, 0] rfl (hN _ (z_inj hf))
                        · show za_At p l e { frames := 2, cells := 0, slots := 0, locals := 42 } s m args below meth c D A 7 0 0 Q 192 [(0, .ref (ad 0)), (1, .int x1), (2, .int x2), (3, .int x3), (4, .int x4), (5, .int x5), (6, .int v41)] [] (wR ad ck N42)
                          refine za_iconst (v := (1 : Int32)) C (by decide) dX6_move_192 ?_
                          obtain ⟨rfl, rfl⟩ := z_ret2 hf
                          exact za_iret C F dX6_move_193
                    · have hf := z_neg q26 hf
                      exact za_sub [0, 1, 2, 3, 4, 5] rfl (j_111 x1 x2 x3 x4 x5 M0 hf)
          · have hf := z_neg q19 hf
            refine za_aload_n C 0 rfl rfl dX6_move_56 ?_
            refine za_iconst (v := (4 : Int32)) C (by decide) dX6_move_57 ?_
            obtain ⟨v46, N47, hc45, hf⟩ := z_b2 hf
            refine za_callV (n := 1) (rest := []) C (cX6_meets_ok l D ck ad (4 : Int32) M0 _ _ hc45) gX6_move_X6_meets rfl rfl rfl (by decide +kernel) ⟨Nat.le_of_ble_eq_true rfl, Nat.le_of_ble_eq_true rfl⟩ 0 rfl rfl rfl rfl rfl (Nat.le_of_ble_eq_true rfl) ⟨Nat.zero_le _, Nat.zero_le _⟩ dX6_move_58 ?_
            obtain ⟨rfl, rfl⟩ := z_ret2 hf
            exact za_iret C F dX6_move_61
        · have hf := z_pos q16 hf
          exact za_sub [0, 1, 2, 3, 4, 5] rfl (j_35 x1 x2 x3 x4 x5 M0 hf)
    · have hf := z_pos q12 hf
      exact za_sub [0, 1, 2, 3, 4, 5] rfl (j_14 x1 x2 x3 x4 x5 M0 hf)
theorem in_X6_count_X6 : ∀ w ∈ wsX60, w ∈ wsX6_count := by decide +kernel
theorem fl_X6_count_26 : Cond.fieldLink RX6 26 "ThriceNetsModel" "isVoted" "[Z" ∈ wsX6_count := by decide +kernel
theorem fl_X6_count_23 : Cond.fieldLink RX6 23 "ThriceNetsModel" "isThrice" "[Z" ∈ wsX6_count := by decide +kernel
theorem fl_X6_count_78 : Cond.fieldLink RX6 78 "ThriceNetsModel" "nodes" "I" ∈ wsX6_count := by decide +kernel
theorem fl_X6_count_19 : Cond.fieldLink RX6 19 "ThriceNetsModel" "isOutput" "[Z" ∈ wsX6_count := by decide +kernel
theorem fl_X6_count_89 : Cond.fieldLink RX6 89 "ThriceNetsModel" "inputs" "I" ∈ wsX6_count := by decide +kernel
theorem fl_X6_count_92 : Cond.fieldLink RX6 92 "ThriceNetsModel" "stores" "I" ∈ wsX6_count := by decide +kernel
theorem fl_X6_count_162 : Cond.fieldLink RX6 162 "ThriceNetsModel" "finding" "I" ∈ wsX6_count := by decide +kernel
theorem fl_X6_count_35 : Cond.fieldLink RX6 35 "ThriceNetsModel" "span" "I" ∈ wsX6_count := by decide +kernel
theorem fl_X6_count_39 : Cond.fieldLink RX6 39 "ThriceNetsModel" "voter" "I" ∈ wsX6_count := by decide +kernel
def K_X6_count_72 (n : Nat) (x1 : Int32) (x2 : Int32) (x3 : Int32) (x4 : Int32) (x5 : Int32) (y0 : Int32) (y1 : Int32) (M0 : zM) : Option ((Int32 × Int32 × Int32 × Int32) ⊕ (Int32 × Int32 × Int32 × Int32)) :=
  zlt (y1 + y0) (fun v5 => zlt (x5 + (1 : Int32)) (fun v6 => some (.inl (x2, x3, v5, v6))))
def K_X6_count_53 (n : Nat) (x1 : Int32) (x2 : Int32) (x3 : Int32) (x4 : Int32) (x5 : Int32) (y0 : Int32) (y1 : Int32) (M0 : zM) : Option ((Int32 × Int32 × Int32 × Int32) ⊕ (Int32 × Int32 × Int32 × Int32)) :=
  zlt (y1 + y0) (fun v7 => zchk x5 24 ((if (M0.1 15 x5.toNatClampNeg) = 0 then (K_X6_count_72 n x1 x2 v7 x4 x5 (0 : Int32) x4 M0) else (K_X6_count_72 n x1 x2 v7 x4 x5 (1 : Int32) x4 M0))))
def K_X6_count_35 (n : Nat) (x1 : Int32) (x2 : Int32) (x3 : Int32) (x4 : Int32) (x5 : Int32) (y0 : Int32) (y1 : Int32) (M0 : zM) : Option ((Int32 × Int32 × Int32 × Int32) ⊕ (Int32 × Int32 × Int32 × Int32)) :=
  zlt (y1 + y0) (fun v10 => zchk x5 24 ((if (M0.1 14 x5.toNatClampNeg) = 0 then (K_X6_count_53 n x1 v10 x3 x4 x5 (0 : Int32) x3 M0) else (K_X6_count_53 n x1 v10 x3 x4 x5 (1 : Int32) x3 M0))))
def B_X6_count_10 (n : Nat) (x1 : Int32) (x2 : Int32) (x3 : Int32) (x4 : Int32) (x5 : Int32) (M0 : zM) : Option ((Int32 × Int32 × Int32 × Int32) ⊕ (Int32 × Int32 × Int32 × Int32)) :=
  (if (M0.1 0 0) ≤ x5 then (some (.inr (x2, x3, x4, x5))) else (zchk x5 24 ((if (M0.1 13 x5.toNatClampNeg) = 0 then (K_X6_count_35 n x1 x2 x3 x4 x5 (0 : Int32) x2 M0) else (K_X6_count_35 n x1 x2 x3 x4 x5 (1 : Int32) x2 M0)))))
def pX6_count (n : Nat) (x1 : Int32) (M0 : zM) : Option (Int32) :=
  zlt (0 : Int32) (fun v1 => zlt (0 : Int32) (fun v2 => zlt (0 : Int32) (fun v3 => zlt (0 : Int32) (fun v4 => zb4 (zwl (fun q => B_X6_count_10 n x1 q.1 q.2.1 q.2.2.1 q.2.2.2 M0) n (v1, v2, v3, v4)) (fun v16 v17 v18 v19 => (if x1 = (0 : Int32) then (some (M0.1 0 0)) else (if x1 = (1 : Int32) then (some (M0.1 1 0)) else (if x1 = (2 : Int32) then (some (M0.1 2 0)) else (if x1 = (3 : Int32) then (some v16) else (if x1 = (4 : Int32) then (some v17) else (if x1 = (5 : Int32) then (some v18) else (if x1 = (6 : Int32) then (some (M0.1 5 0)) else (if x1 = (7 : Int32) then (some (M0.1 3 0)) else (if x1 = (8 : Int32) then (some (M0.1 4 0)) else (some (-2 : Int32))))))))))))))))
set_option maxHeartbeats 4000000 in
set_option maxRecDepth 100000 in
theorem cX6_count_ok (l : Launch) (D : va_G) (ck : Nat → ClassId) (ad : Nat → Nat) (n : Nat) (x1 : Int32) (M0 : zM) (r9 : Int32) (hf : pX6_count n x1 M0 = some r9) : zc l D ck (wR ad ck) yX6_count wsX6_count ({ frames := 0, cells := 0, slots := 0, locals := 0 }) [.ref (ad 0), .int x1] M0 (some (.int r9)) M0 := by
  refine zc_of (cc := cX6_count) (maxL := 6) (ret := (some .int)) [(0, .ref (ad 0)), (1, .int x1)] (by decide) rfl (Nat.le_of_ble_eq_true rfl) rfl ?_
  intro p e s m args below meth c A Q C F
  unfold pX6_count at hf
  refine za_iconst (v := (0 : Int32)) C (by decide) dX6_count_0 ?_
  obtain ⟨v1, ev1, hf⟩ := z_lt hf
  refine za_istore_n C [(2, .int v1), (0, .ref (ad 0)), (1, .int x1)] ev1 (by decide) rfl rfl dX6_count_1 ?_
  refine za_iconst (v := (0 : Int32)) C (by decide) dX6_count_2 ?_
  obtain ⟨v2, ev2, hf⟩ := z_lt hf
  refine za_istore_n C [(3, .int v2), (2, .int v1), (0, .ref (ad 0)), (1, .int x1)] ev2 (by decide) rfl rfl dX6_count_3 ?_
  refine za_iconst (v := (0 : Int32)) C (by decide) dX6_count_4 ?_
  obtain ⟨v3, ev3, hf⟩ := z_lt hf
  refine za_istore C [(4, .int v3), (3, .int v2), (2, .int v1), (0, .ref (ad 0)), (1, .int x1)] ev3 (by decide) rfl dX6_count_5 ?_
  refine za_iconst (v := (0 : Int32)) C (by decide) dX6_count_7 ?_
  obtain ⟨v4, ev4, hf⟩ := z_lt hf
  refine za_istore C [(5, .int v4), (4, .int v3), (3, .int v2), (2, .int v1), (0, .ref (ad 0)), (1, .int x1)] ev4 (by decide) rfl dX6_count_8 ?_
  obtain ⟨v16, v17, v18, v19, hw29, hf⟩ := z_b4 hf
  refine za_sub [4, 5, 3, 2, 1, 0] rfl ?_
  refine z_wl (P := fun q => za_At p l e { frames := 0, cells := 0, slots := 0, locals := 0 } s m args below meth c D A 6 0 0 Q 10 [(0, .ref (ad 0)), (1, .int x1), (2, .int q.1), (3, .int q.2.1), (4, .int q.2.2.1), (5, .int q.2.2.2)] [] (wR ad ck M0)) (E := fun q => za_At p l e { frames := 0, cells := 0, slots := 0, locals := 0 } s m args below meth c D A 6 0 0 Q 81 [(0, .ref (ad 0)), (1, .int x1), (2, .int q.1), (3, .int q.2.1), (4, .int q.2.2.1), (5, .int q.2.2.2)] [] (wR ad ck M0)) ?_ ?_ _ _ hw29
  · intro q o hf hN hE
    obtain ⟨x2, x3, x4, x5⟩ := q
    have hf : B_X6_count_10 n x1 x2 x3 x4 x5 M0 = some o := hf
    unfold B_X6_count_10 at hf
    have j_72 : ∀ (x2 : Int32) (x3 : Int32) (x4 : Int32) (x5 : Int32) (y0 : Int32) (y1 : Int32), K_X6_count_72 n x1 x2 x3 x4 x5 y0 y1 M0 = some o → za_At p l e { frames := 0, cells := 0, slots := 0, locals := 0 } s m args below meth c D A 6 0 0 Q 72 [(0, .ref (ad 0)), (1, .int x1), (2, .int x2), (3, .int x3), (4, .int x4), (5, .int x5)] [.int y0, .int y1] (wR ad ck M0) := by
      intro x2 x3 x4 x5 y0 y1 hf
      unfold K_X6_count_72 at hf
      refine za_iadd C dX6_count_72 ?_
      obtain ⟨v5, ev5, hf⟩ := z_lt hf
      refine za_istore C [(4, .int v5), (0, .ref (ad 0)), (1, .int x1), (2, .int x2), (3, .int x3), (5, .int x5)] ev5 (by decide) rfl dX6_count_73 ?_
      obtain ⟨v6, ev6, hf⟩ := z_lt hf
      refine za_iinc (k9 := (1 : Int32)) C [(5, .int v6), (4, .int v5), (0, .ref (ad 0)), (1, .int x1), (2, .int x2), (3, .int x3)] 5 rfl (by decide) ev6 (by decide) rfl dX6_count_75 ?_
      refine za_goto C 10 (by decide) dX6_count_78 ?_
      exact za_sub [2, 3, 4, 5, 1, 0] rfl (hN _ (z_inj hf))
    have j_53 : ∀ (x2 : Int32) (x3 : Int32) (x4 : Int32) (x5 : Int32) (y0 : Int32) (y1 : Int32), K_X6_count_53 n x1 x2 x3 x4 x5 y0 y1 M0 = some o → za_At p l e { frames := 0, cells := 0, slots := 0, locals := 0 } s m args below meth c D A 6 0 0 Q 53 [(0, .ref (ad 0)), (1, .int x1), (2, .int x2), (3, .int x3), (4, .int x4), (5, .int x5)] [.int y0, .int y1] (wR ad ck M0) := by
      intro x2 x3 x4 x5 y0 y1 hf
      unfold K_X6_count_53 at hf
      refine za_iadd C dX6_count_53 ?_
      obtain ⟨v7, ev7, hf⟩ := z_lt hf
      refine za_istore_n C [(3, .int v7), (0, .ref (ad 0)), (1, .int x1), (2, .int x2), (4, .int x4), (5, .int x5)] ev7 (by decide) rfl rfl dX6_count_54 ?_
      refine za_iload C 4 rfl dX6_count_55 ?_
      refine za_aload_n C 1 rfl rfl dX6_count_57 ?_
      refine zg_R0_6 C in_X6_count_X6 fl_X6_count_26 dX6_count_58 ?_
      refine za_iload C 5 rfl dX6_count_61 ?_
      obtain ⟨h8, hf⟩ := z_chk hf
      refine zl_R6 C h8 dX6_count_63 ?_
      refine za_if_eq C 71 (by decide) dX6_count_64 (fun q9 => ?_) (fun q9 => ?_)
      · have hf := z_pos q9 hf
        refine za_iconst (v := (0 : Int32)) C (by decide) dX6_count_71 ?_
        exact za_sub [1, 2, 3, 0, 4, 5] rfl (j_72 x2 v7 x4 x5 (0 : Int32) x4 hf)
      · have hf := z_neg q9 hf
        refine za_iconst (v := (1 : Int32)) C (by decide) dX6_count_67 ?_
        refine za_goto C 72 (by decide) dX6_count_68 ?_
        exact za_sub [1, 2, 3, 0, 4, 5] rfl (j_72 x2 v7 x4 x5 (1 : Int32) x4 hf)
    have j_35 : ∀ (x2 : Int32) (x3 : Int32) (x4 : Int32) (x5 : Int32) (y0 : Int32) (y1 : Int32), K_X6_count_35 n x1 x2 x3 x4 x5 y0 y1 M0 = some o → za_At p l e { frames := 0, cells := 0, slots := 0, locals := 0 } s m args below meth c D A 6 0 0 Q 35 [(0, .ref (ad 0)), (1, .int x1), (2, .int x2), (3, .int x3), (4, .int x4), (5, .int x5)] [.int y0, .int y1] (wR ad ck M0) := by
      intro x2 x3 x4 x5 y0 y1 hf
      unfold K_X6_count_35 at hf
      refine za_iadd C dX6_count_35 ?_
      obtain ⟨v10, ev10, hf⟩ := z_lt hf
      refine za_istore_n C [(2, .int v10), (0, .ref (ad 0)), (1, .int x1), (3, .int x3), (4, .int x4), (5, .int x5)] ev10 (by decide) rfl rfl dX6_count_36 ?_
      refine za_iload_n C 3 rfl rfl dX6_count_37 ?_
      refine za_aload_n C 1 rfl rfl dX6_count_38 ?_
      refine zg_R0_5 C in_X6_count_X6 fl_X6_count_23 dX6_count_39 ?_
      refine za_iload C 5 rfl dX6_count_42 ?_
      obtain ⟨h11, hf⟩ := z_chk hf
      refine zl_R5 C h11 dX6_count_44 ?_
      refine za_if_eq C 52 (by decide) dX6_count_45 (fun q12 => ?_) (fun q12 => ?_)
      · have hf := z_pos q12 hf
        refine za_iconst (v := (0 : Int32)) C (by decide) dX6_count_52 ?_
        exact za_sub [1, 2, 0, 3, 4, 5] rfl (j_53 v10 x3 x4 x5 (0 : Int32) x3 hf)
      · have hf := z_neg q12 hf
        refine za_iconst (v := (1 : Int32)) C (by decide) dX6_count_48 ?_
        refine za_goto C 53 (by decide) dX6_count_49 ?_
        exact za_sub [1, 2, 0, 3, 4, 5] rfl (j_53 v10 x3 x4 x5 (1 : Int32) x3 hf)
    refine za_iload C 5 rfl dX6_count_10 ?_
    refine za_aload_n C 0 rfl rfl dX6_count_12 ?_
    refine zg_R0_0 C in_X6_count_X6 fl_X6_count_78 dX6_count_13 ?_
    refine za_icmp_ge C 81 (by decide) dX6_count_16 (fun q13 => ?_) (fun q13 => ?_)
    · have hf := z_pos q13 hf
      exact za_sub [0, 1, 2, 3, 4, 5] rfl (hE _ (z_inj hf))
    · have hf := z_neg q13 hf
      refine za_iload_n C 2 rfl rfl dX6_count_19 ?_
      refine za_aload_n C 0 rfl rfl dX6_count_20 ?_
      refine zg_R0_4 C in_X6_count_X6 fl_X6_count_19 dX6_count_21 ?_
      refine za_iload C 5 rfl dX6_count_24 ?_
      obtain ⟨h14, hf⟩ := z_chk hf
      refine zl_R4 C h14 dX6_count_26 ?_
      refine za_if_eq C 34 (by decide) dX6_count_27 (fun q15 => ?_) (fun q15 => ?_)
      · have hf := z_pos q15 hf
        refine za_iconst (v := (0 : Int32)) C (by decide) dX6_count_34 ?_
        exact za_sub [0, 1, 2, 3, 4, 5] rfl (j_35 x2 x3 x4 x5 (0 : Int32) x2 hf)
      · have hf := z_neg q15 hf
        refine za_iconst (v := (1 : Int32)) C (by decide) dX6_count_30 ?_
        refine za_goto C 35 (by decide) dX6_count_31 ?_
        exact za_sub [0, 1, 2, 3, 4, 5] rfl (j_35 x2 x3 x4 x5 (1 : Int32) x2 hf)
  · show za_At p l e { frames := 0, cells := 0, slots := 0, locals := 0 } s m args below meth c D A 6 0 0 Q 81 [(0, .ref (ad 0)), (1, .int x1), (2, .int v16), (3, .int v17), (4, .int v18), (5, .int v19)] [] (wR ad ck M0)
    refine za_iload_n C 1 rfl rfl dX6_count_81 ?_
    by_cases q20 : x1 = (0 : Int32)
    · have hf := z_pos q20 hf
      refine za_tsIn C 132 (0) q20 (by decide) (by decide) rfl (by decide) dX6_count_82 ?_
      refine za_aload_n C 0 rfl rfl dX6_count_132 ?_
      refine zg_R0_0 C in_X6_count_X6 fl_X6_count_78 dX6_count_133 ?_
      obtain rfl := z_ret1 hf
      exact za_iret C F dX6_count_136
    · have hf := z_neg q20 hf
      by_cases q21 : x1 = (1 : Int32)
      · have hf := z_pos q21 hf
        refine za_tsIn C 137 (1) q21 (by decide) (by decide) rfl (by decide) dX6_count_82 ?_
        refine za_aload_n C 0 rfl rfl dX6_count_137 ?_
        refine zg_R0_9 C in_X6_count_X6 fl_X6_count_89 dX6_count_138 ?_
        obtain rfl := z_ret1 hf
        exact za_iret C F dX6_count_141
      · have hf := z_neg q21 hf
        by_cases q22 : x1 = (2 : Int32)
        · have hf := z_pos q22 hf
          refine za_tsIn C 142 (2) q22 (by decide) (by decide) rfl (by decide) dX6_count_82 ?_
          refine za_aload_n C 0 rfl rfl dX6_count_142 ?_
          refine zg_R0_10 C in_X6_count_X6 fl_X6_count_92 dX6_count_143 ?_
          obtain rfl := z_ret1 hf
          exact za_iret C F dX6_count_146
        · have hf := z_neg q22 hf
          by_cases q23 : x1 = (3 : Int32)
          · have hf := z_pos q23 hf
            refine za_tsIn C 147 (3) q23 (by decide) (by decide) rfl (by decide) dX6_count_82 ?_
            refine za_iload_n C 2 rfl rfl dX6_count_147 ?_
            obtain rfl := z_ret1 hf
            exact za_iret C F dX6_count_148
          · have hf := z_neg q23 hf
            by_cases q24 : x1 = (4 : Int32)
            · have hf := z_pos q24 hf
              refine za_tsIn C 149 (4) q24 (by decide) (by decide) rfl (by decide) dX6_count_82 ?_
              refine za_iload_n C 3 rfl rfl dX6_count_149 ?_
              obtain rfl := z_ret1 hf
              exact za_iret C F dX6_count_150
            · have hf := z_neg q24 hf
              by_cases q25 : x1 = (5 : Int32)
              · have hf := z_pos q25 hf
                refine za_tsIn C 151 (5) q25 (by decide) (by decide) rfl (by decide) dX6_count_82 ?_
                refine za_iload C 4 rfl dX6_count_151 ?_
                obtain rfl := z_ret1 hf
                exact za_iret C F dX6_count_153
              · have hf := z_neg q25 hf
                by_cases q26 : x1 = (6 : Int32)
                · have hf := z_pos q26 hf
                  refine za_tsIn C 154 (6) q26 (by decide) (by decide) rfl (by decide) dX6_count_82 ?_
                  refine za_aload_n C 0 rfl rfl dX6_count_154 ?_
                  refine zg_R0_25 C in_X6_count_X6 fl_X6_count_162 dX6_count_155 ?_
                  obtain rfl := z_ret1 hf
                  exact za_iret C F dX6_count_158
                · have hf := z_neg q26 hf
                  by_cases q27 : x1 = (7 : Int32)
                  · have hf := z_pos q27 hf
                    refine za_tsIn C 159 (7) q27 (by decide) (by decide) rfl (by decide) dX6_count_82 ?_
                    refine za_aload_n C 0 rfl rfl dX6_count_159 ?_
                    refine zg_R0_11 C in_X6_count_X6 fl_X6_count_35 dX6_count_160 ?_
                    obtain rfl := z_ret1 hf
                    exact za_iret C F dX6_count_163
                  · have hf := z_neg q27 hf
                    by_cases q28 : x1 = (8 : Int32)
                    · have hf := z_pos q28 hf
                      refine za_tsIn C 164 (8) q28 (by decide) (by decide) rfl (by decide) dX6_count_82 ?_
                      refine za_aload_n C 0 rfl rfl dX6_count_164 ?_
                      refine zg_R0_12 C in_X6_count_X6 fl_X6_count_39 dX6_count_165 ?_
                      obtain rfl := z_ret1 hf
                      exact za_iret C F dX6_count_168
                    · have hf := z_neg q28 hf
                      refine za_tsOut C 169 (by have u0 := lv_neT (a := 0) q20 (by decide); have u1 := lv_neT (a := 1) q21 (by decide); have u2 := lv_neT (a := 2) q22 (by decide); have u3 := lv_neT (a := 3) q23 (by decide); have u4 := lv_neT (a := 4) q24 (by decide); have u5 := lv_neT (a := 5) q25 (by decide); have u6 := lv_neT (a := 6) q26 (by decide); have u7 := lv_neT (a := 7) q27 (by decide); have u8 := lv_neT (a := 8) q28 (by decide); omega) (by decide) dX6_count_82 ?_
                      refine za_bipush (v := (-2 : Int32)) C (by decide) dX6_count_169 ?_
                      obtain rfl := z_ret1 hf
                      exact za_iret C F dX6_count_171
theorem cn_X6_digest_175 : Jvm.Cond.constantLong RX6 175 (17) ∈ wsX6_digest := by decide +kernel
theorem cn_X6_digest_177 : Jvm.Cond.constantLong RX6 177 (31) ∈ wsX6_digest := by decide +kernel
theorem in_X6_digest_X6 : ∀ w ∈ wsX60, w ∈ wsX6_digest := by decide +kernel
theorem fl_X6_digest_78 : Cond.fieldLink RX6 78 "ThriceNetsModel" "nodes" "I" ∈ wsX6_digest := by decide +kernel
theorem fl_X6_digest_35 : Cond.fieldLink RX6 35 "ThriceNetsModel" "span" "I" ∈ wsX6_digest := by decide +kernel
theorem fl_X6_digest_19 : Cond.fieldLink RX6 19 "ThriceNetsModel" "isOutput" "[Z" ∈ wsX6_digest := by decide +kernel
theorem fl_X6_digest_42 : Cond.fieldLink RX6 42 "ThriceNetsModel" "plain" "[I" ∈ wsX6_digest := by decide +kernel
def K_X6_digest_34 (n : Nat) (x1 : Int64) (x3 : Int32) (y0 : Int64) (M0 : zM) : Option ((Int64 × Int32) ⊕ (Int64 × Int32)) :=
  zlt y0 (fun v3 => zlt (x3 + (1 : Int32)) (fun v4 => some (.inl (v3, v4))))
def B_X6_digest_6 (n : Nat) (x1 : Int64) (x3 : Int32) (M0 : zM) : Option ((Int64 × Int32) ⊕ (Int64 × Int32)) :=
  (if (9 : Int32) ≤ x3 then (some (.inr (x1, x3))) else (if x3 = (6 : Int32) then (K_X6_digest_34 n x1 x3 x1 M0) else ((pX6_count n x3 M0).bind (fun v8 => K_X6_digest_34 n x1 x3 (((31 : Int64) * x1) + (Int32.toInt64 v8)) M0))))
def B_X6_digest_54 (n : Nat) (x1 : Int64) (x3 : Int32) (x4 : Int32) (M0 : zM) : Option ((Int64 × Int32) ⊕ (Int64 × Int32)) :=
  (if (7 : Int32) ≤ x4 then (some (.inr (x1, x4))) else ((pX6_about x3 x4 M0).bind (fun v16 => zlt (((31 : Int64) * x1) + (Int32.toInt64 v16)) (fun v17 => zlt (x4 + (1 : Int32)) (fun v18 => some (.inl (v17, v18)))))))
def B_X6_digest_43 (n : Nat) (x1 : Int64) (x3 : Int32) (M0 : zM) : Option ((Int64 × Int32) ⊕ (Int64 × Int32)) :=
  (if (M0.1 0 0) ≤ x3 then (some (.inr (x1, x3))) else (zlt (1 : Int32) (fun v13 => zb2 (zwl (fun q => B_X6_digest_54 n q.1 x3 q.2 M0) n (x1, v13)) (fun v19 v20 => zlt (x3 + (1 : Int32)) (fun v21 => some (.inl (v19, v21)))))))
def B_X6_digest_109 (n : Nat) (x1 : Int64) (x3 : Int32) (x4 : Int32) (N26 : zM) : Option ((Int64 × Int32) ⊕ (Int64 × Int32)) :=
  (if (N26.1 3 0) ≤ x4 then (some (.inr (x1, x4))) else (zchk x3 24 ((if (N26.1 13 x3.toNatClampNeg) = 0 then (some (.inr (x1, x4))) else (zchk (((24 : Int32) * x4) + x3) 408 (zlt (((31 : Int64) * x1) + (Int32.toInt64 (N26.1 18 (((24 : Int32) * x4) + x3).toNatClampNeg))) (fun v34 => zlt (x4 + (1 : Int32)) (fun v35 => some (.inl (v34, v35))))))))))
def B_X6_digest_98 (n : Nat) (x1 : Int64) (x3 : Int32) (N26 : zM) : Option ((Int64 × Int32) ⊕ (Int64 × Int32)) :=
  (if (N26.1 0 0) ≤ x3 then (some (.inr (x1, x3))) else (zlt (0 : Int32) (fun v29 => zb2 (zwl (fun q => B_X6_digest_109 n q.1 x3 q.2 N26) n (x1, v29)) (fun v36 v37 => zlt (x3 + (1 : Int32)) (fun v38 => some (.inl (v36, v38)))))))
def pX6_digest (n : Nat) (M0 : zM) : Option (Int64 × zM) :=
  zlt (17 : Int64) (fun v1 => zlt (0 : Int32) (fun v2 => zb2 (zwl (fun q => B_X6_digest_6 n q.1 q.2 M0) n (v1, v2)) (fun v9 v10 => zlt (0 : Int32) (fun v11 => zb2 (zwl (fun q => B_X6_digest_43 n q.1 q.2 M0) n (v9, v11)) (fun v23 v24 => (pX6_runsBare n (M0.1 3 0) M0).bind (fun N26 => zlt (0 : Int32) (fun v27 => zb2 (zwl (fun q => B_X6_digest_98 n q.1 q.2 N26) n (v23, v27)) (fun v40 v41 => (pX6_cost n N26).bind (fun v43 => some ((((31 : Int64) * v40) + (Int32.toInt64 v43)), N26))))))))))
set_option maxHeartbeats 4000000 in
set_option maxRecDepth 100000 in
theorem cX6_digest_ok (l : Launch) (D : va_G) (ck : Nat → ClassId) (ad : Nat → Nat) (n : Nat) (M0 : zM) (r9 : Int64) (M9 : zM) (hf : pX6_digest n M0 = some (r9, M9)) : zc l D ck (wR ad ck) yX6_digest wsX6_digest ({ frames := 3, cells := 0, slots := 0, locals := 65 }) [.ref (ad 0)] M0 (some (.long r9)) M9 := by
  refine zc_of (cc := cX6_digest) (maxL := 5) (ret := (some .long)) [(0, .ref (ad 0))] (by decide) rfl (Nat.le_of_ble_eq_true rfl) rfl ?_
  intro p e s m args below meth c A Q C F
  unfold pX6_digest at hf
  refine za_ldc2 (v := (17 : Int64)) C cn_X6_digest_175 dX6_digest_0 ?_
  obtain ⟨v1, ev1, hf⟩ := z_lt hf
  refine za_lstore_n C [(1, .long v1), (0, .ref (ad 0))] ev1 (by decide) rfl rfl dX6_digest_3 ?_
  refine za_iconst (v := (0 : Int32)) C (by decide) dX6_digest_4 ?_
  obtain ⟨v2, ev2, hf⟩ := z_lt hf
  refine za_istore_n C [(3, .int v2), (1, .long v1), (0, .ref (ad 0))] ev2 (by decide) rfl rfl dX6_digest_5 ?_
  obtain ⟨v9, v10, hw46, hf⟩ := z_b2 hf
  refine za_sub [2, 1, 0] rfl ?_
  refine z_wl (P := fun q => za_At p l e { frames := 3, cells := 0, slots := 0, locals := 65 } s m args below meth c D A 5 0 0 Q 6 [(0, .ref (ad 0)), (1, .long q.1), (3, .int q.2)] [] (wR ad ck M0)) (E := fun q => za_At p l e { frames := 3, cells := 0, slots := 0, locals := 65 } s m args below meth c D A 5 0 0 Q 41 [(0, .ref (ad 0)), (1, .long q.1), (3, .int q.2)] [] (wR ad ck M0)) ?_ ?_ _ _ hw46
  · intro q o hf hN hE
    obtain ⟨x1, x3⟩ := q
    have hf : B_X6_digest_6 n x1 x3 M0 = some o := hf
    unfold B_X6_digest_6 at hf
    have j_34 : ∀ (x1 : Int64) (x3 : Int32) (y0 : Int64), K_X6_digest_34 n x1 x3 y0 M0 = some o → za_At p l e { frames := 3, cells := 0, slots := 0, locals := 65 } s m args below meth c D A 5 0 0 Q 34 [(0, .ref (ad 0)), (1, .long x1), (3, .int x3)] [.long y0] (wR ad ck M0) := by
      intro x1 x3 y0 hf
      unfold K_X6_digest_34 at hf
      obtain ⟨v3, ev3, hf⟩ := z_lt hf
      refine za_lstore_n C [(1, .long v3), (0, .ref (ad 0)), (3, .int x3)] ev3 (by decide) rfl rfl dX6_digest_34 ?_
      obtain ⟨v4, ev4, hf⟩ := z_lt hf
      refine za_iinc (k9 := (1 : Int32)) C [(3, .int v4), (1, .long v3), (0, .ref (ad 0))] 2 rfl (by decide) ev4 (by decide) rfl dX6_digest_35 ?_
      refine za_goto C 6 (by decide) dX6_digest_38 ?_
      exact za_sub [2, 1, 0] rfl (hN _ (z_inj hf))
    refine za_iload_n C 2 rfl rfl dX6_digest_6 ?_
    refine za_bipush (v := (9 : Int32)) C (by decide) dX6_digest_7 ?_
    refine za_icmp_ge C 41 (by decide) dX6_digest_9 (fun q5 => ?_) (fun q5 => ?_)
    · have hf := z_pos q5 hf
      exact za_sub [0, 1, 2] rfl (hE _ (z_inj hf))
    · have hf := z_neg q5 hf
      refine za_iload_n C 2 rfl rfl dX6_digest_12 ?_
      refine za_bipush (v := (6 : Int32)) C (by decide) dX6_digest_13 ?_
      refine za_icmp_ne C 22 (by decide) dX6_digest_15 (fun q6 => ?_) (fun q6 => ?_)
      · have hf := z_neg q6 hf
        refine za_ldc2 (v := (31 : Int64)) C cn_X6_digest_177 dX6_digest_22 ?_
        refine za_lload_n C 1 rfl rfl dX6_digest_25 ?_
        refine za_lmul C dX6_digest_26 ?_
        refine za_aload_n C 0 rfl rfl dX6_digest_27 ?_
        refine za_iload_n C 2 rfl rfl dX6_digest_28 ?_
        obtain ⟨v8, hc7, hf⟩ := z_bind hf
        refine za_callV (n := 1) (rest := [.long ((31 : Int64) * x1)]) C (cX6_count_ok l D ck ad n x3 M0 _ hc7) gX6_digest_X6_count rfl rfl rfl (by decide +kernel) ⟨Nat.le_of_ble_eq_true rfl, Nat.le_of_ble_eq_true rfl⟩ 0 rfl rfl rfl rfl rfl (Nat.le_of_ble_eq_true rfl) ⟨Nat.zero_le _, Nat.zero_le _⟩ dX6_digest_29 ?_
        refine za_i2l C dX6_digest_32 ?_
        refine za_ladd C dX6_digest_33 ?_
        exact za_sub [0, 1, 2] rfl (j_34 x1 x3 (((31 : Int64) * x1) + (Int32.toInt64 v8)) hf)
      · have hf := z_pos q6 hf
        refine za_lload_n C 1 rfl rfl dX6_digest_18 ?_
        refine za_goto C 34 (by decide) dX6_digest_19 ?_
        exact za_sub [0, 1, 2] rfl (j_34 x1 x3 x1 hf)
  · show za_At p l e { frames := 3, cells := 0, slots := 0, locals := 65 } s m args below meth c D A 5 0 0 Q 41 [(0, .ref (ad 0)), (1, .long v9), (3, .int v10)] [] (wR ad ck M0)
    refine za_iconst (v := (0 : Int32)) C (by decide) dX6_digest_41 ?_
    obtain ⟨v11, ev11, hf⟩ := z_lt hf
    refine za_istore_n C [(3, .int v11), (0, .ref (ad 0)), (1, .long v9)] ev11 (by decide) rfl rfl dX6_digest_42 ?_
    obtain ⟨v23, v24, hw45, hf⟩ := z_b2 hf
    refine za_sub [1, 2, 0] rfl ?_
    refine z_wl (P := fun q => za_At p l e { frames := 3, cells := 0, slots := 0, locals := 65 } s m args below meth c D A 5 0 0 Q 43 [(0, .ref (ad 0)), (1, .long q.1), (3, .int q.2)] [] (wR ad ck M0)) (E := fun q => za_At p l e { frames := 3, cells := 0, slots := 0, locals := 65 } s m args below meth c D A 5 0 0 Q 88 [(0, .ref (ad 0)), (1, .long q.1), (3, .int q.2)] [] (wR ad ck M0)) ?_ ?_ _ _ hw45
    · intro q o hf hN hE
      obtain ⟨x1, x3⟩ := q
      have hf : B_X6_digest_43 n x1 x3 M0 = some o := hf
      unfold B_X6_digest_43 at hf
      refine za_iload_n C 2 rfl rfl dX6_digest_43 ?_
      refine za_aload_n C 0 rfl rfl dX6_digest_44 ?_
      refine zg_R0_0 C in_X6_digest_X6 fl_X6_digest_78 dX6_digest_45 ?_
      refine za_icmp_ge C 88 (by decide) dX6_digest_48 (fun q12 => ?_) (fun q12 => ?_)
      · have hf := z_pos q12 hf
        exact za_sub [0, 1, 2] rfl (hE _ (z_inj hf))
      · have hf := z_neg q12 hf
        refine za_iconst (v := (1 : Int32)) C (by decide) dX6_digest_51 ?_
        obtain ⟨v13, ev13, hf⟩ := z_lt hf
        refine za_istore C [(4, .int v13), (0, .ref (ad 0)), (1, .long x1), (3, .int x3)] ev13 (by decide) rfl dX6_digest_52 ?_
        obtain ⟨v19, v20, hw22, hf⟩ := z_b2 hf
        refine za_sub [1, 2, 3, 0] rfl ?_
        refine z_wl (P := fun q => za_At p l e { frames := 3, cells := 0, slots := 0, locals := 65 } s m args below meth c D A 5 0 0 Q 54 [(0, .ref (ad 0)), (1, .long q.1), (3, .int x3), (4, .int q.2)] [] (wR ad ck M0)) (E := fun q => za_At p l e { frames := 3, cells := 0, slots := 0, locals := 65 } s m args below meth c D A 5 0 0 Q 82 [(0, .ref (ad 0)), (1, .long q.1), (3, .int x3), (4, .int q.2)] [] (wR ad ck M0)) ?_ ?_ _ _ hw22
        · intro q o hf hN hE
          obtain ⟨x1, x4⟩ := q
          have hf : B_X6_digest_54 n x1 x3 x4 M0 = some o := hf
          unfold B_X6_digest_54 at hf
          refine za_iload C 3 rfl dX6_digest_54 ?_
          refine za_bipush (v := (7 : Int32)) C (by decide) dX6_digest_56 ?_
          refine za_icmp_ge C 82 (by decide) dX6_digest_58 (fun q14 => ?_) (fun q14 => ?_)
          · have hf := z_pos q14 hf
            exact za_sub [0, 1, 2, 3] rfl (hE _ (z_inj hf))
          · have hf := z_neg q14 hf
            refine za_ldc2 (v := (31 : Int64)) C cn_X6_digest_177 dX6_digest_61 ?_
            refine za_lload_n C 1 rfl rfl dX6_digest_64 ?_
            refine za_lmul C dX6_digest_65 ?_
            refine za_aload_n C 0 rfl rfl dX6_digest_66 ?_
            refine za_iload_n C 2 rfl rfl dX6_digest_67 ?_
            refine za_iload C 3 rfl dX6_digest_68 ?_
            obtain ⟨v16, hc15, hf⟩ := z_bind hf
            refine za_callV (n := 2) (rest := [.long ((31 : Int64) * x1)]) C (cX6_about_ok l D ck ad x3 x4 M0 _ hc15) gX6_digest_X6_about rfl rfl rfl (by decide +kernel) ⟨Nat.le_of_ble_eq_true rfl, Nat.le_of_ble_eq_true rfl⟩ 0 rfl rfl rfl rfl rfl (Nat.le_of_ble_eq_true rfl) ⟨Nat.zero_le _, Nat.zero_le _⟩ dX6_digest_70 ?_
            refine za_i2l C dX6_digest_73 ?_
            refine za_ladd C dX6_digest_74 ?_
            obtain ⟨v17, ev17, hf⟩ := z_lt hf
            refine za_lstore_n C [(1, .long v17), (0, .ref (ad 0)), (3, .int x3), (4, .int x4)] ev17 (by decide) rfl rfl dX6_digest_75 ?_
            obtain ⟨v18, ev18, hf⟩ := z_lt hf
            refine za_iinc (k9 := (1 : Int32)) C [(4, .int v18), (1, .long v17), (0, .ref (ad 0)), (3, .int x3)] 3 rfl (by decide) ev18 (by decide) rfl dX6_digest_76 ?_
            refine za_goto C 54 (by decide) dX6_digest_79 ?_
            exact za_sub [2, 1, 3, 0] rfl (hN _ (z_inj hf))
        · show za_At p l e { frames := 3, cells := 0, slots := 0, locals := 65 } s m args below meth c D A 5 0 0 Q 82 [(0, .ref (ad 0)), (1, .long v19), (3, .int x3), (4, .int v20)] [] (wR ad ck M0)
          obtain ⟨v21, ev21, hf⟩ := z_lt hf
          refine za_iinc (k9 := (1 : Int32)) C [(3, .int v21), (0, .ref (ad 0)), (1, .long v19), (4, .int v20)] 2 rfl (by decide) ev21 (by decide) rfl dX6_digest_82 ?_
          refine za_goto C 43 (by decide) dX6_digest_85 ?_
          exact za_sub [1, 2, 0] rfl (hN _ (z_inj hf))
    · show za_At p l e { frames := 3, cells := 0, slots := 0, locals := 65 } s m args below meth c D A 5 0 0 Q 88 [(0, .ref (ad 0)), (1, .long v23), (3, .int v24)] [] (wR ad ck M0)
      refine za_aload_n C 0 rfl rfl dX6_digest_88 ?_
      refine za_aload_n C 0 rfl rfl dX6_digest_89 ?_
      refine zg_R0_11 C in_X6_digest_X6 fl_X6_digest_35 dX6_digest_90 ?_
      obtain ⟨N26, hc25, hf⟩ := z_bind hf
      refine za_callV (n := 1) (rest := []) C (cX6_runsBare_ok l D ck ad n (M0.1 3 0) M0 _ hc25) gX6_digest_X6_runsBare rfl rfl rfl (by decide +kernel) ⟨Nat.le_of_ble_eq_true rfl, Nat.le_of_ble_eq_true rfl⟩ 0 rfl rfl rfl rfl rfl (Nat.le_of_ble_eq_true rfl) ⟨Nat.zero_le _, Nat.zero_le _⟩ dX6_digest_93 ?_
      refine za_iconst (v := (0 : Int32)) C (by decide) dX6_digest_96 ?_
      obtain ⟨v27, ev27, hf⟩ := z_lt hf
      refine za_istore_n C [(3, .int v27), (0, .ref (ad 0)), (1, .long v23)] ev27 (by decide) rfl rfl dX6_digest_97 ?_
      obtain ⟨v40, v41, hw44, hf⟩ := z_b2 hf
      refine za_sub [1, 2, 0] rfl ?_
      refine z_wl (P := fun q => za_At p l e { frames := 3, cells := 0, slots := 0, locals := 65 } s m args below meth c D A 5 0 0 Q 98 [(0, .ref (ad 0)), (1, .long q.1), (3, .int q.2)] [] (wR ad ck N26)) (E := fun q => za_At p l e { frames := 3, cells := 0, slots := 0, locals := 65 } s m args below meth c D A 5 0 0 Q 159 [(0, .ref (ad 0)), (1, .long q.1), (3, .int q.2)] [] (wR ad ck N26)) ?_ ?_ _ _ hw44
      · intro q o hf hN hE
        obtain ⟨x1, x3⟩ := q
        have hf : B_X6_digest_98 n x1 x3 N26 = some o := hf
        unfold B_X6_digest_98 at hf
        refine za_iload_n C 2 rfl rfl dX6_digest_98 ?_
        refine za_aload_n C 0 rfl rfl dX6_digest_99 ?_
        refine zg_R0_0 C in_X6_digest_X6 fl_X6_digest_78 dX6_digest_100 ?_
        refine za_icmp_ge C 159 (by decide) dX6_digest_103 (fun q28 => ?_) (fun q28 => ?_)
        · have hf := z_pos q28 hf
          exact za_sub [0, 1, 2] rfl (hE _ (z_inj hf))
        · have hf := z_neg q28 hf
          refine za_iconst (v := (0 : Int32)) C (by decide) dX6_digest_106 ?_
          obtain ⟨v29, ev29, hf⟩ := z_lt hf
          refine za_istore C [(4, .int v29), (0, .ref (ad 0)), (1, .long x1), (3, .int x3)] ev29 (by decide) rfl dX6_digest_107 ?_
          obtain ⟨v36, v37, hw39, hf⟩ := z_b2 hf
          refine za_sub [1, 2, 3, 0] rfl ?_
          refine z_wl (P := fun q => za_At p l e { frames := 3, cells := 0, slots := 0, locals := 65 } s m args below meth c D A 5 0 0 Q 109 [(0, .ref (ad 0)), (1, .long q.1), (3, .int x3), (4, .int q.2)] [] (wR ad ck N26)) (E := fun q => za_At p l e { frames := 3, cells := 0, slots := 0, locals := 65 } s m args below meth c D A 5 0 0 Q 153 [(0, .ref (ad 0)), (1, .long q.1), (3, .int x3), (4, .int q.2)] [] (wR ad ck N26)) ?_ ?_ _ _ hw39
          · intro q o hf hN hE
            obtain ⟨x1, x4⟩ := q
            have hf : B_X6_digest_109 n x1 x3 x4 N26 = some o := hf
            unfold B_X6_digest_109 at hf
            refine za_iload C 3 rfl dX6_digest_109 ?_
            refine za_aload_n C 0 rfl rfl dX6_digest_111 ?_
            refine zg_R0_11 C in_X6_digest_X6 fl_X6_digest_35 dX6_digest_112 ?_
            refine za_icmp_ge C 153 (by decide) dX6_digest_115 (fun q30 => ?_) (fun q30 => ?_)
            · have hf := z_pos q30 hf
              exact za_sub [0, 1, 2, 3] rfl (hE _ (z_inj hf))
            · have hf := z_neg q30 hf
              refine za_aload_n C 0 rfl rfl dX6_digest_118 ?_
              refine zg_R0_4 C in_X6_digest_X6 fl_X6_digest_19 dX6_digest_119 ?_
              refine za_iload_n C 2 rfl rfl dX6_digest_122 ?_
              obtain ⟨h31, hf⟩ := z_chk hf
              refine zl_R4 C h31 dX6_digest_123 ?_
              refine za_if_eq C 153 (by decide) dX6_digest_124 (fun q32 => ?_) (fun q32 => ?_)
              · have hf := z_pos q32 hf
                exact za_sub [0, 1, 2, 3] rfl (hE _ (z_inj hf))
              · have hf := z_neg q32 hf
                refine za_ldc2 (v := (31 : Int64)) C cn_X6_digest_177 dX6_digest_127 ?_
                refine za_lload_n C 1 rfl rfl dX6_digest_130 ?_
                refine za_lmul C dX6_digest_131 ?_
                refine za_aload_n C 0 rfl rfl dX6_digest_132 ?_
                refine zg_R0_13 C in_X6_digest_X6 fl_X6_digest_42 dX6_digest_133 ?_
                refine za_bipush (v := (24 : Int32)) C (by decide) dX6_digest_136 ?_
                refine za_iload C 3 rfl dX6_digest_138 ?_
                refine za_imul C dX6_digest_140 ?_
                refine za_iload_n C 2 rfl rfl dX6_digest_141 ?_
                refine za_iadd C dX6_digest_142 ?_
                obtain ⟨h33, hf⟩ := z_chk hf
                refine zl_R9 C h33 dX6_digest_143 ?_
                refine za_i2l C dX6_digest_144 ?_
                refine za_ladd C dX6_digest_145 ?_
                obtain ⟨v34, ev34, hf⟩ := z_lt hf
                refine za_lstore_n C [(1, .long v34), (0, .ref (ad 0)), (3, .int x3), (4, .int x4)] ev34 (by decide) rfl rfl dX6_digest_146 ?_
                obtain ⟨v35, ev35, hf⟩ := z_lt hf
                refine za_iinc (k9 := (1 : Int32)) C [(4, .int v35), (1, .long v34), (0, .ref (ad 0)), (3, .int x3)] 3 rfl (by decide) ev35 (by decide) rfl dX6_digest_147 ?_
                refine za_goto C 109 (by decide) dX6_digest_150 ?_
                exact za_sub [2, 1, 3, 0] rfl (hN _ (z_inj hf))
          · show za_At p l e { frames := 3, cells := 0, slots := 0, locals := 65 } s m args below meth c D A 5 0 0 Q 153 [(0, .ref (ad 0)), (1, .long v36), (3, .int x3), (4, .int v37)] [] (wR ad ck N26)
            obtain ⟨v38, ev38, hf⟩ := z_lt hf
            refine za_iinc (k9 := (1 : Int32)) C [(3, .int v38), (0, .ref (ad 0)), (1, .long v36), (4, .int v37)] 2 rfl (by decide) ev38 (by decide) rfl dX6_digest_153 ?_
            refine za_goto C 98 (by decide) dX6_digest_156 ?_
            exact za_sub [1, 2, 0] rfl (hN _ (z_inj hf))
      · show za_At p l e { frames := 3, cells := 0, slots := 0, locals := 65 } s m args below meth c D A 5 0 0 Q 159 [(0, .ref (ad 0)), (1, .long v40), (3, .int v41)] [] (wR ad ck N26)
        refine za_ldc2 (v := (31 : Int64)) C cn_X6_digest_177 dX6_digest_159 ?_
        refine za_lload_n C 1 rfl rfl dX6_digest_162 ?_
        refine za_lmul C dX6_digest_163 ?_
        refine za_aload_n C 0 rfl rfl dX6_digest_164 ?_
        obtain ⟨v43, hc42, hf⟩ := z_bind hf
        refine za_callV (n := 0) (rest := [.long ((31 : Int64) * v40)]) C (cX6_cost_ok l D ck ad n  N26 _ hc42) gX6_digest_X6_cost rfl rfl rfl (by decide +kernel) ⟨Nat.le_of_ble_eq_true rfl, Nat.le_of_ble_eq_true rfl⟩ 0 rfl rfl rfl rfl rfl (Nat.le_of_ble_eq_true rfl) ⟨Nat.zero_le _, Nat.zero_le _⟩ dX6_digest_165 ?_
        refine za_i2l C dX6_digest_168 ?_
        refine za_ladd C dX6_digest_169 ?_
        obtain ⟨rfl, rfl⟩ := z_ret2 hf
        exact za_lret C F dX6_digest_170
