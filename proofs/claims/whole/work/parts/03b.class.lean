theorem in_X5_node_X5 : ∀ w ∈ wsX50, w ∈ wsX5_node := by decide +kernel
theorem fl_X5_node_10 : Cond.fieldLink RX5 10 "ThriceNets" "net" "LThriceNets$Net;" ∈ wsX5_node := by decide +kernel
theorem in_X5_node_X2 : ∀ w ∈ wsX20, w ∈ wsX5_node := by decide +kernel
theorem fl_X5_node_55 : Cond.fieldLink RX5 55 "ThriceNets$Net" "size" "I" ∈ wsX5_node := by decide +kernel
def pX5_node (x1 : Int32) (x2 : Int32) (x3 : Int32) (M0 : zM) : Option (Int32 × zM) :=
  (pX2_fits x1 x2 x3 M0).bind (fun v2 => (if v2 = 0 then (some ((-2 : Int32), M0)) else (if (M0.1 2 0) < (24 : Int32) then (zb2 (pX2_append x1 x2 x3 M0) (fun v6 N7 => some (v6, N7))) else (some ((-4 : Int32), M0)))))
set_option maxHeartbeats 4000000 in
set_option maxRecDepth 100000 in
theorem cX5_node_ok (l : Launch) (D : va_G) (ck : Nat → ClassId) (ad : Nat → Nat) (x1 : Int32) (x2 : Int32) (x3 : Int32) (M0 : zM) (r9 : Int32) (M9 : zM) (hf : pX5_node x1 x2 x3 M0 = some (r9, M9)) : zc l D ck (wC ad ck) yX5_node wsX5_node ({ frames := 2, cells := 0, slots := 0, locals := 44 }) [.ref (ad 0), .int x1, .int x2, .int x3] M0 (some (.int r9)) M9 := by
  refine zc_of (cc := cX5_node) (maxL := 4) (ret := (some .int)) [(0, .ref (ad 0)), (1, .int x1), (2, .int x2), (3, .int x3)] (by decide) rfl (Nat.le_of_ble_eq_true rfl) rfl ?_
  intro p e s m args below meth c A Q C F
  unfold pX5_node at hf
  refine za_aload_n C 0 rfl rfl dX5_node_0 ?_
  refine zg_C0_0 C in_X5_node_X5 fl_X5_node_10 dX5_node_1 ?_
  refine za_iload_n C 1 rfl rfl dX5_node_4 ?_
  refine za_iload_n C 2 rfl rfl dX5_node_5 ?_
  refine za_iload_n C 3 rfl rfl dX5_node_6 ?_
  obtain ⟨v2, hc1, hf⟩ := z_bind hf
  refine za_callV (n := 3) (rest := []) C (cX2_fits_ok l D ck ad x1 x2 x3 M0 _ hc1) gX5_node_X2_fits rfl rfl rfl (by decide +kernel) ⟨Nat.le_of_ble_eq_true rfl, Nat.le_of_ble_eq_true rfl⟩ 1 rfl rfl rfl rfl rfl (Nat.le_of_ble_eq_true rfl) ⟨Nat.zero_le _, Nat.zero_le _⟩ dX5_node_7 ?_
  refine za_if_ne C 16 (by decide) dX5_node_10 (fun q3 => ?_) (fun q3 => ?_)
  · have hf := z_neg q3 hf
    refine za_aload_n C 0 rfl rfl dX5_node_16 ?_
    refine zg_C0_0 C in_X5_node_X5 fl_X5_node_10 dX5_node_17 ?_
    refine zg_C1_0 C in_X5_node_X2 fl_X5_node_55 dX5_node_20 ?_
    refine za_bipush (v := (24 : Int32)) C (by decide) dX5_node_23 ?_
    refine za_icmp_lt C 31 (by decide) dX5_node_25 (fun q4 => ?_) (fun q4 => ?_)
    · have hf := z_pos q4 hf
      refine za_aload_n C 0 rfl rfl dX5_node_31 ?_
      refine zg_C0_0 C in_X5_node_X5 fl_X5_node_10 dX5_node_32 ?_
      refine za_iload_n C 1 rfl rfl dX5_node_35 ?_
      refine za_iload_n C 2 rfl rfl dX5_node_36 ?_
      refine za_iload_n C 3 rfl rfl dX5_node_37 ?_
      obtain ⟨v6, N7, hc5, hf⟩ := z_b2 hf
      refine za_callV (n := 3) (rest := []) C (cX2_append_ok l D ck ad x1 x2 x3 M0 _ _ hc5) gX5_node_X2_append rfl rfl rfl (by decide +kernel) ⟨Nat.le_of_ble_eq_true rfl, Nat.le_of_ble_eq_true rfl⟩ 1 rfl rfl rfl rfl rfl (Nat.le_of_ble_eq_true rfl) ⟨Nat.zero_le _, Nat.zero_le _⟩ dX5_node_38 ?_
      obtain ⟨rfl, rfl⟩ := z_ret2 hf
      exact za_iret C F dX5_node_41
    · have hf := z_neg q4 hf
      refine za_bipush (v := (-4 : Int32)) C (by decide) dX5_node_28 ?_
      obtain ⟨rfl, rfl⟩ := z_ret2 hf
      exact za_iret C F dX5_node_30
  · have hf := z_pos q3 hf
    refine za_bipush (v := (-2 : Int32)) C (by decide) dX5_node_13 ?_
    obtain ⟨rfl, rfl⟩ := z_ret2 hf
    exact za_iret C F dX5_node_15
theorem in_X5_feed_X5 : ∀ w ∈ wsX50, w ∈ wsX5_feed := by decide +kernel
theorem fl_X5_feed_10 : Cond.fieldLink RX5 10 "ThriceNets" "net" "LThriceNets$Net;" ∈ wsX5_feed := by decide +kernel
theorem in_X5_feed_X2 : ∀ w ∈ wsX20, w ∈ wsX5_feed := by decide +kernel
theorem fl_X5_feed_69 : Cond.fieldLink RX5 69 "ThriceNets$Net" "a" "[I" ∈ wsX5_feed := by decide +kernel
def K_X5_feed_22 (x1 : Int32) (x2 : Int32) (M : zM) : Option (Int32 × zM) :=
  some ((-2 : Int32), M)
def pX5_feed (x1 : Int32) (x2 : Int32) (M0 : zM) : Option (Int32 × zM) :=
  (pX2_isStore x1 M0).bind (fun v2 => (if v2 = 0 then (K_X5_feed_22 x1 x2 M0) else ((pX2_isNode x2 M0).bind (fun v5 => (if v5 = 0 then (K_X5_feed_22 x1 x2 M0) else (zchk x1 24 (zlt (M0.1 11 x1.toNatClampNeg) (fun v8 => zchk x1 24 (zst (zsI M0 11 x1.toNatClampNeg x2) (fun N10 => some (v8, N10)))))))))))
set_option maxHeartbeats 4000000 in
set_option maxRecDepth 100000 in
theorem cX5_feed_ok (l : Launch) (D : va_G) (ck : Nat → ClassId) (ad : Nat → Nat) (x1 : Int32) (x2 : Int32) (M0 : zM) (r9 : Int32) (M9 : zM) (hf : pX5_feed x1 x2 M0 = some (r9, M9)) : zc l D ck (wC ad ck) yX5_feed wsX5_feed ({ frames := 2, cells := 0, slots := 0, locals := 42 }) [.ref (ad 0), .int x1, .int x2] M0 (some (.int r9)) M9 := by
  refine zc_of (cc := cX5_feed) (maxL := 4) (ret := (some .int)) [(0, .ref (ad 0)), (1, .int x1), (2, .int x2)] (by decide) rfl (Nat.le_of_ble_eq_true rfl) rfl ?_
  intro p e s m args below meth c A Q C F
  have j_22 : ∀ (x1 : Int32) (x2 : Int32) (M : zM), K_X5_feed_22 x1 x2 M = some (r9, M9) → za_At p l e { frames := 2, cells := 0, slots := 0, locals := 42 } s m args below meth c D A 4 0 0 Q 22 [(0, .ref (ad 0)), (1, .int x1), (2, .int x2)] [] (wC ad ck M) := by
    intro x1 x2 M hf
    unfold K_X5_feed_22 at hf
    refine za_bipush (v := (-2 : Int32)) C (by decide) dX5_feed_22 ?_
    obtain ⟨rfl, rfl⟩ := z_ret2 hf
    exact za_iret C F dX5_feed_24
  unfold pX5_feed at hf
  refine za_aload_n C 0 rfl rfl dX5_feed_0 ?_
  refine zg_C0_0 C in_X5_feed_X5 fl_X5_feed_10 dX5_feed_1 ?_
  refine za_iload_n C 1 rfl rfl dX5_feed_4 ?_
  obtain ⟨v2, hc1, hf⟩ := z_bind hf
  refine za_callV (n := 1) (rest := []) C (cX2_isStore_ok l D ck ad x1 M0 _ hc1) gX5_feed_X2_isStore rfl rfl rfl (by decide +kernel) ⟨Nat.le_of_ble_eq_true rfl, Nat.le_of_ble_eq_true rfl⟩ 1 rfl rfl rfl rfl rfl (Nat.le_of_ble_eq_true rfl) ⟨Nat.zero_le _, Nat.zero_le _⟩ dX5_feed_5 ?_
  refine za_if_eq C 22 (by decide) dX5_feed_8 (fun q3 => ?_) (fun q3 => ?_)
  · have hf := z_pos q3 hf
    exact za_sub [0, 1, 2] rfl (j_22 x1 x2 M0 hf)
  · have hf := z_neg q3 hf
    refine za_aload_n C 0 rfl rfl dX5_feed_11 ?_
    refine zg_C0_0 C in_X5_feed_X5 fl_X5_feed_10 dX5_feed_12 ?_
    refine za_iload_n C 2 rfl rfl dX5_feed_15 ?_
    obtain ⟨v5, hc4, hf⟩ := z_bind hf
    refine za_callV (n := 1) (rest := []) C (cX2_isNode_ok l D ck ad x2 M0 _ hc4) gX5_feed_X2_isNode rfl rfl rfl (by decide +kernel) ⟨Nat.le_of_ble_eq_true rfl, Nat.le_of_ble_eq_true rfl⟩ 1 rfl rfl rfl rfl rfl (Nat.le_of_ble_eq_true rfl) ⟨Nat.zero_le _, Nat.zero_le _⟩ dX5_feed_16 ?_
    refine za_if_ne C 25 (by decide) dX5_feed_19 (fun q6 => ?_) (fun q6 => ?_)
    · have hf := z_neg q6 hf
      refine za_aload_n C 0 rfl rfl dX5_feed_25 ?_
      refine zg_C0_0 C in_X5_feed_X5 fl_X5_feed_10 dX5_feed_26 ?_
      refine zg_C1_4 C in_X5_feed_X2 fl_X5_feed_69 dX5_feed_29 ?_
      refine za_iload_n C 1 rfl rfl dX5_feed_32 ?_
      obtain ⟨h7, hf⟩ := z_chk hf
      refine zl_C7 C h7 dX5_feed_33 ?_
      obtain ⟨v8, ev8, hf⟩ := z_lt hf
      refine za_istore_n C [(3, .int v8), (0, .ref (ad 0)), (1, .int x1), (2, .int x2)] ev8 (by decide) rfl rfl dX5_feed_34 ?_
      refine za_aload_n C 1 rfl rfl dX5_feed_35 ?_
      refine zg_C0_0 C in_X5_feed_X5 fl_X5_feed_10 dX5_feed_36 ?_
      refine zg_C1_4 C in_X5_feed_X2 fl_X5_feed_69 dX5_feed_39 ?_
      refine za_iload_n C 2 rfl rfl dX5_feed_42 ?_
      refine za_iload_n C 3 rfl rfl dX5_feed_43 ?_
      obtain ⟨h9, hf⟩ := z_chk hf
      obtain ⟨N10, eN10, hf⟩ := z_st hf
      refine zs_C7 C h9 eN10 dX5_feed_44 ?_
      refine za_iload_n C 0 rfl rfl dX5_feed_45 ?_
      obtain ⟨rfl, rfl⟩ := z_ret2 hf
      exact za_iret C F dX5_feed_46
    · have hf := z_pos q6 hf
      exact za_sub [0, 1, 2] rfl (j_22 x1 x2 M0 hf)
theorem in_X5_output_X5 : ∀ w ∈ wsX50, w ∈ wsX5_output := by decide +kernel
theorem fl_X5_output_10 : Cond.fieldLink RX5 10 "ThriceNets" "net" "LThriceNets$Net;" ∈ wsX5_output := by decide +kernel
theorem in_X5_output_X2 : ∀ w ∈ wsX20, w ∈ wsX5_output := by decide +kernel
theorem fl_X5_output_73 : Cond.fieldLink RX5 73 "ThriceNets$Net" "output" "[Z" ∈ wsX5_output := by decide +kernel
def pX5_output (x1 : Int32) (x2 : Int32) (M0 : zM) : Option (Int32 × zM) :=
  (pX2_isNode x1 M0).bind (fun v2 => (if v2 = 0 then (some ((-2 : Int32), M0)) else (zchk x1 24 (zst (zsI M0 15 x1.toNatClampNeg (vp_nar .boolean x2)) (fun N5 => some ((1 : Int32), N5))))))
set_option maxHeartbeats 4000000 in
set_option maxRecDepth 100000 in
theorem cX5_output_ok (l : Launch) (D : va_G) (ck : Nat → ClassId) (ad : Nat → Nat) (x1 : Int32) (x2 : Int32) (M0 : zM) (r9 : Int32) (M9 : zM) (hf : pX5_output x1 x2 M0 = some (r9, M9)) : zc l D ck (wC ad ck) yX5_output wsX5_output ({ frames := 1, cells := 0, slots := 0, locals := 21 }) [.ref (ad 0), .int x1, .int x2] M0 (some (.int r9)) M9 := by
  refine zc_of (cc := cX5_output) (maxL := 3) (ret := (some .int)) [(0, .ref (ad 0)), (1, .int x1), (2, .int x2)] (by decide) rfl (Nat.le_of_ble_eq_true rfl) rfl ?_
  intro p e s m args below meth c A Q C F
  unfold pX5_output at hf
  refine za_aload_n C 0 rfl rfl dX5_output_0 ?_
  refine zg_C0_0 C in_X5_output_X5 fl_X5_output_10 dX5_output_1 ?_
  refine za_iload_n C 1 rfl rfl dX5_output_4 ?_
  obtain ⟨v2, hc1, hf⟩ := z_bind hf
  refine za_callV (n := 1) (rest := []) C (cX2_isNode_ok l D ck ad x1 M0 _ hc1) gX5_output_X2_isNode rfl rfl rfl (by decide +kernel) ⟨Nat.le_of_ble_eq_true rfl, Nat.le_of_ble_eq_true rfl⟩ 1 rfl rfl rfl rfl rfl (Nat.le_of_ble_eq_true rfl) ⟨Nat.zero_le _, Nat.zero_le _⟩ dX5_output_5 ?_
  refine za_if_ne C 14 (by decide) dX5_output_8 (fun q3 => ?_) (fun q3 => ?_)
  · have hf := z_neg q3 hf
    refine za_aload_n C 0 rfl rfl dX5_output_14 ?_
    refine zg_C0_0 C in_X5_output_X5 fl_X5_output_10 dX5_output_15 ?_
    refine zg_C1_8 C in_X5_output_X2 fl_X5_output_73 dX5_output_18 ?_
    refine za_iload_n C 1 rfl rfl dX5_output_21 ?_
    refine za_iload_n C 2 rfl rfl dX5_output_22 ?_
    obtain ⟨h4, hf⟩ := z_chk hf
    obtain ⟨N5, eN5, hf⟩ := z_st hf
    refine zs_C11 C h4 eN5 dX5_output_23 ?_
    refine za_iconst (v := (1 : Int32)) C (by decide) dX5_output_24 ?_
    obtain ⟨rfl, rfl⟩ := z_ret2 hf
    exact za_iret C F dX5_output_25
  · have hf := z_pos q3 hf
    refine za_bipush (v := (-2 : Int32)) C (by decide) dX5_output_11 ?_
    obtain ⟨rfl, rfl⟩ := z_ret2 hf
    exact za_iret C F dX5_output_13
def K_X5_isPrice_15 (x0 : Int32) (M0 : zM) : Option (Int32) :=
  some (0 : Int32)
def pX5_isPrice (x0 : Int32) (M0 : zM) : Option (Int32) :=
  (if x0 < 0 then (K_X5_isPrice_15 x0 M0) else (if (1000 : Int32) < x0 then (K_X5_isPrice_15 x0 M0) else (some (1 : Int32))))
set_option maxHeartbeats 4000000 in
set_option maxRecDepth 100000 in
theorem cX5_isPrice_ok (l : Launch) (D : va_G) (ck : Nat → ClassId) (ad : Nat → Nat) (x0 : Int32) (M0 : zM) (r9 : Int32) (hf : pX5_isPrice x0 M0 = some r9) : zc l D ck (wC ad ck) yX5_isPrice wsX5_isPrice ({ frames := 0, cells := 0, slots := 0, locals := 0 }) [.int x0] M0 (some (.int r9)) M0 := by
  refine zc_of (cc := cX5_isPrice) (maxL := 1) (ret := (some .boolean)) [(0, .int x0)] (by decide) rfl (Nat.le_of_ble_eq_true rfl) rfl ?_
  intro p e s m args below meth c A Q C F
  have j_15 : ∀ (x0 : Int32), K_X5_isPrice_15 x0 M0 = some r9 → za_At p l e { frames := 0, cells := 0, slots := 0, locals := 0 } s m args below meth c D A 1 0 0 Q 15 [(0, .int x0)] [] (wC ad ck M0) := by
    intro x0 hf
    unfold K_X5_isPrice_15 at hf
    refine za_iconst (v := (0 : Int32)) C (by decide) dX5_isPrice_15 ?_
    obtain rfl := z_ret1 hf
    exact za_zret C F rfl dX5_isPrice_16
  unfold pX5_isPrice at hf
  refine za_iload_n C 0 rfl rfl dX5_isPrice_0 ?_
  refine za_if_lt C 15 (by decide) dX5_isPrice_1 (fun q1 => ?_) (fun q1 => ?_)
  · have hf := z_pos q1 hf
    exact za_sub [0] rfl (j_15 x0 hf)
  · have hf := z_neg q1 hf
    refine za_iload_n C 0 rfl rfl dX5_isPrice_4 ?_
    refine za_sipush (v := (1000 : Int32)) C (by decide) dX5_isPrice_5 ?_
    refine za_icmp_gt C 15 (by decide) dX5_isPrice_8 (fun q2 => ?_) (fun q2 => ?_)
    · have hf := z_pos q2 hf
      exact za_sub [0] rfl (j_15 x0 hf)
    · have hf := z_neg q2 hf
      refine za_iconst (v := (1 : Int32)) C (by decide) dX5_isPrice_11 ?_
      refine za_goto C 16 (by decide) dX5_isPrice_12 ?_
      obtain rfl := z_ret1 hf
      exact za_zret C F rfl dX5_isPrice_16
theorem in_X5_price_X5 : ∀ w ∈ wsX50, w ∈ wsX5_price := by decide +kernel
theorem fl_X5_price_10 : Cond.fieldLink RX5 10 "ThriceNets" "net" "LThriceNets$Net;" ∈ wsX5_price := by decide +kernel
theorem in_X5_price_X2 : ∀ w ∈ wsX20, w ∈ wsX5_price := by decide +kernel
theorem fl_X5_price_80 : Cond.fieldLink RX5 80 "ThriceNets$Net" "price" "[I" ∈ wsX5_price := by decide +kernel
def K_X5_price_18 (x1 : Int32) (x2 : Int32) (M : zM) : Option (Int32 × zM) :=
  some ((-2 : Int32), M)
def pX5_price (x1 : Int32) (x2 : Int32) (M0 : zM) : Option (Int32 × zM) :=
  (pX2_isNode x1 M0).bind (fun v2 => (if v2 = 0 then (K_X5_price_18 x1 x2 M0) else ((pX5_isPrice x2 M0).bind (fun v5 => (if v5 = 0 then (K_X5_price_18 x1 x2 M0) else (zchk x1 24 (zlt (M0.1 14 x1.toNatClampNeg) (fun v8 => zchk x1 24 (zst (zsI M0 14 x1.toNatClampNeg x2) (fun N10 => some (v8, N10)))))))))))
set_option maxHeartbeats 4000000 in
set_option maxRecDepth 100000 in
theorem cX5_price_ok (l : Launch) (D : va_G) (ck : Nat → ClassId) (ad : Nat → Nat) (x1 : Int32) (x2 : Int32) (M0 : zM) (r9 : Int32) (M9 : zM) (hf : pX5_price x1 x2 M0 = some (r9, M9)) : zc l D ck (wC ad ck) yX5_price wsX5_price ({ frames := 1, cells := 0, slots := 0, locals := 21 }) [.ref (ad 0), .int x1, .int x2] M0 (some (.int r9)) M9 := by
  refine zc_of (cc := cX5_price) (maxL := 4) (ret := (some .int)) [(0, .ref (ad 0)), (1, .int x1), (2, .int x2)] (by decide) rfl (Nat.le_of_ble_eq_true rfl) rfl ?_
  intro p e s m args below meth c A Q C F
  have j_18 : ∀ (x1 : Int32) (x2 : Int32) (M : zM), K_X5_price_18 x1 x2 M = some (r9, M9) → za_At p l e { frames := 1, cells := 0, slots := 0, locals := 21 } s m args below meth c D A 4 0 0 Q 18 [(0, .ref (ad 0)), (1, .int x1), (2, .int x2)] [] (wC ad ck M) := by
    intro x1 x2 M hf
    unfold K_X5_price_18 at hf
    refine za_bipush (v := (-2 : Int32)) C (by decide) dX5_price_18 ?_
    obtain ⟨rfl, rfl⟩ := z_ret2 hf
    exact za_iret C F dX5_price_20
  unfold pX5_price at hf
  refine za_aload_n C 0 rfl rfl dX5_price_0 ?_
  refine zg_C0_0 C in_X5_price_X5 fl_X5_price_10 dX5_price_1 ?_
  refine za_iload_n C 1 rfl rfl dX5_price_4 ?_
  obtain ⟨v2, hc1, hf⟩ := z_bind hf
  refine za_callV (n := 1) (rest := []) C (cX2_isNode_ok l D ck ad x1 M0 _ hc1) gX5_price_X2_isNode rfl rfl rfl (by decide +kernel) ⟨Nat.le_of_ble_eq_true rfl, Nat.le_of_ble_eq_true rfl⟩ 1 rfl rfl rfl rfl rfl (Nat.le_of_ble_eq_true rfl) ⟨Nat.zero_le _, Nat.zero_le _⟩ dX5_price_5 ?_
  refine za_if_eq C 18 (by decide) dX5_price_8 (fun q3 => ?_) (fun q3 => ?_)
  · have hf := z_pos q3 hf
    exact za_sub [0, 1, 2] rfl (j_18 x1 x2 M0 hf)
  · have hf := z_neg q3 hf
    refine za_iload_n C 2 rfl rfl dX5_price_11 ?_
    obtain ⟨v5, hc4, hf⟩ := z_bind hf
    refine za_callS (n := 1) (rest := []) C (cX5_isPrice_ok l D ck ad x2 M0 _ hc4) gX5_price_X5_isPrice rfl rfl rfl (by decide +kernel) ⟨Nat.le_of_ble_eq_true rfl, Nat.le_of_ble_eq_true rfl⟩ rfl rfl (Nat.le_of_ble_eq_true rfl) ⟨Nat.zero_le _, Nat.zero_le _⟩ dX5_price_12 ?_
    refine za_if_ne C 21 (by decide) dX5_price_15 (fun q6 => ?_) (fun q6 => ?_)
    · have hf := z_neg q6 hf
      refine za_aload_n C 0 rfl rfl dX5_price_21 ?_
      refine zg_C0_0 C in_X5_price_X5 fl_X5_price_10 dX5_price_22 ?_
      refine zg_C1_7 C in_X5_price_X2 fl_X5_price_80 dX5_price_25 ?_
      refine za_iload_n C 1 rfl rfl dX5_price_28 ?_
      obtain ⟨h7, hf⟩ := z_chk hf
      refine zl_C10 C h7 dX5_price_29 ?_
      obtain ⟨v8, ev8, hf⟩ := z_lt hf
      refine za_istore_n C [(3, .int v8), (0, .ref (ad 0)), (1, .int x1), (2, .int x2)] ev8 (by decide) rfl rfl dX5_price_30 ?_
      refine za_aload_n C 1 rfl rfl dX5_price_31 ?_
      refine zg_C0_0 C in_X5_price_X5 fl_X5_price_10 dX5_price_32 ?_
      refine zg_C1_7 C in_X5_price_X2 fl_X5_price_80 dX5_price_35 ?_
      refine za_iload_n C 2 rfl rfl dX5_price_38 ?_
      refine za_iload_n C 3 rfl rfl dX5_price_39 ?_
      obtain ⟨h9, hf⟩ := z_chk hf
      obtain ⟨N10, eN10, hf⟩ := z_st hf
      refine zs_C10 C h9 eN10 dX5_price_40 ?_
      refine za_iload_n C 0 rfl rfl dX5_price_41 ?_
      obtain ⟨rfl, rfl⟩ := z_ret2 hf
      exact za_iret C F dX5_price_42
    · have hf := z_pos q6 hf
      exact za_sub [0, 1, 2] rfl (j_18 x1 x2 M0 hf)
theorem in_X5_about_X5 : ∀ w ∈ wsX50, w ∈ wsX5_about := by decide +kernel
theorem fl_X5_about_10 : Cond.fieldLink RX5 10 "ThriceNets" "net" "LThriceNets$Net;" ∈ wsX5_about := by decide +kernel
def pX5_about (x1 : Int32) (x2 : Int32) (M0 : zM) : Option (Int32) :=
  (pX2_isNode x1 M0).bind (fun v2 => (if v2 = 0 then (some (-2 : Int32)) else ((pX2_fact x1 x2 M0).bind (fun v5 => some v5))))
set_option maxHeartbeats 4000000 in
set_option maxRecDepth 100000 in
theorem cX5_about_ok (l : Launch) (D : va_G) (ck : Nat → ClassId) (ad : Nat → Nat) (x1 : Int32) (x2 : Int32) (M0 : zM) (r9 : Int32) (hf : pX5_about x1 x2 M0 = some r9) : zc l D ck (wC ad ck) yX5_about wsX5_about ({ frames := 1, cells := 0, slots := 0, locals := 22 }) [.ref (ad 0), .int x1, .int x2] M0 (some (.int r9)) M0 := by
  refine zc_of (cc := cX5_about) (maxL := 3) (ret := (some .int)) [(0, .ref (ad 0)), (1, .int x1), (2, .int x2)] (by decide) rfl (Nat.le_of_ble_eq_true rfl) rfl ?_
  intro p e s m args below meth c A Q C F
  unfold pX5_about at hf
  refine za_aload_n C 0 rfl rfl dX5_about_0 ?_
  refine zg_C0_0 C in_X5_about_X5 fl_X5_about_10 dX5_about_1 ?_
  refine za_iload_n C 1 rfl rfl dX5_about_4 ?_
  obtain ⟨v2, hc1, hf⟩ := z_bind hf
  refine za_callV (n := 1) (rest := []) C (cX2_isNode_ok l D ck ad x1 M0 _ hc1) gX5_about_X2_isNode rfl rfl rfl (by decide +kernel) ⟨Nat.le_of_ble_eq_true rfl, Nat.le_of_ble_eq_true rfl⟩ 1 rfl rfl rfl rfl rfl (Nat.le_of_ble_eq_true rfl) ⟨Nat.zero_le _, Nat.zero_le _⟩ dX5_about_5 ?_
  refine za_if_ne C 14 (by decide) dX5_about_8 (fun q3 => ?_) (fun q3 => ?_)
  · have hf := z_neg q3 hf
    refine za_aload_n C 0 rfl rfl dX5_about_14 ?_
    refine zg_C0_0 C in_X5_about_X5 fl_X5_about_10 dX5_about_15 ?_
    refine za_iload_n C 1 rfl rfl dX5_about_18 ?_
    refine za_iload_n C 2 rfl rfl dX5_about_19 ?_
    obtain ⟨v5, hc4, hf⟩ := z_bind hf
    refine za_callV (n := 2) (rest := []) C (cX2_fact_ok l D ck ad x1 x2 M0 _ hc4) gX5_about_X2_fact rfl rfl rfl (by decide +kernel) ⟨Nat.le_of_ble_eq_true rfl, Nat.le_of_ble_eq_true rfl⟩ 1 rfl rfl rfl rfl rfl (Nat.le_of_ble_eq_true rfl) ⟨Nat.zero_le _, Nat.zero_le _⟩ dX5_about_20 ?_
    obtain rfl := z_ret1 hf
    exact za_iret C F dX5_about_23
  · have hf := z_pos q3 hf
    refine za_bipush (v := (-2 : Int32)) C (by decide) dX5_about_11 ?_
    obtain rfl := z_ret1 hf
    exact za_iret C F dX5_about_13
theorem in_X5_thrice_X5 : ∀ w ∈ wsX50, w ∈ wsX5_thrice := by decide +kernel
theorem fl_X5_thrice_10 : Cond.fieldLink RX5 10 "ThriceNets" "net" "LThriceNets$Net;" ∈ wsX5_thrice := by decide +kernel
theorem in_X5_thrice_X2 : ∀ w ∈ wsX20, w ∈ wsX5_thrice := by decide +kernel
theorem fl_X5_thrice_87 : Cond.fieldLink RX5 87 "ThriceNets$Net" "thrice" "[Z" ∈ wsX5_thrice := by decide +kernel
theorem fl_X5_thrice_90 : Cond.fieldLink RX5 90 "ThriceNets$Net" "voted" "[Z" ∈ wsX5_thrice := by decide +kernel
def pX5_thrice (x1 : Int32) (x2 : Int32) (M0 : zM) : Option (Int32 × zM) :=
  (pX2_isNode x1 M0).bind (fun v2 => (if v2 = 0 then (some ((-2 : Int32), M0)) else (zchk x1 24 ((if (M0.1 16 x1.toNatClampNeg) = x2 then (some ((0 : Int32), M0)) else (zchk x1 24 (zst (zsI M0 16 x1.toNatClampNeg (vp_nar .boolean x2)) (fun N7 => zchk x1 24 (zst (zsI N7 17 x1.toNatClampNeg (vp_nar .boolean (0 : Int32))) (fun N9 => some ((1 : Int32), N9)))))))))))
set_option maxHeartbeats 4000000 in
set_option maxRecDepth 100000 in
theorem cX5_thrice_ok (l : Launch) (D : va_G) (ck : Nat → ClassId) (ad : Nat → Nat) (x1 : Int32) (x2 : Int32) (M0 : zM) (r9 : Int32) (M9 : zM) (hf : pX5_thrice x1 x2 M0 = some (r9, M9)) : zc l D ck (wC ad ck) yX5_thrice wsX5_thrice ({ frames := 1, cells := 0, slots := 0, locals := 21 }) [.ref (ad 0), .int x1, .int x2] M0 (some (.int r9)) M9 := by
  refine zc_of (cc := cX5_thrice) (maxL := 3) (ret := (some .int)) [(0, .ref (ad 0)), (1, .int x1), (2, .int x2)] (by decide) rfl (Nat.le_of_ble_eq_true rfl) rfl ?_
  intro p e s m args below meth c A Q C F
  unfold pX5_thrice at hf
  refine za_aload_n C 0 rfl rfl dX5_thrice_0 ?_
  refine zg_C0_0 C in_X5_thrice_X5 fl_X5_thrice_10 dX5_thrice_1 ?_
  refine za_iload_n C 1 rfl rfl dX5_thrice_4 ?_
  obtain ⟨v2, hc1, hf⟩ := z_bind hf
  refine za_callV (n := 1) (rest := []) C (cX2_isNode_ok l D ck ad x1 M0 _ hc1) gX5_thrice_X2_isNode rfl rfl rfl (by decide +kernel) ⟨Nat.le_of_ble_eq_true rfl, Nat.le_of_ble_eq_true rfl⟩ 1 rfl rfl rfl rfl rfl (Nat.le_of_ble_eq_true rfl) ⟨Nat.zero_le _, Nat.zero_le _⟩ dX5_thrice_5 ?_
  refine za_if_ne C 14 (by decide) dX5_thrice_8 (fun q3 => ?_) (fun q3 => ?_)
  · have hf := z_neg q3 hf
    refine za_aload_n C 0 rfl rfl dX5_thrice_14 ?_
    refine zg_C0_0 C in_X5_thrice_X5 fl_X5_thrice_10 dX5_thrice_15 ?_
    refine zg_C1_9 C in_X5_thrice_X2 fl_X5_thrice_87 dX5_thrice_18 ?_
    refine za_iload_n C 1 rfl rfl dX5_thrice_21 ?_
    obtain ⟨h4, hf⟩ := z_chk hf
    refine zl_C12 C h4 dX5_thrice_22 ?_
    refine za_iload_n C 2 rfl rfl dX5_thrice_23 ?_
    refine za_icmp_ne C 29 (by decide) dX5_thrice_24 (fun q5 => ?_) (fun q5 => ?_)
    · have hf := z_neg q5 hf
      refine za_aload_n C 0 rfl rfl dX5_thrice_29 ?_
      refine zg_C0_0 C in_X5_thrice_X5 fl_X5_thrice_10 dX5_thrice_30 ?_
      refine zg_C1_9 C in_X5_thrice_X2 fl_X5_thrice_87 dX5_thrice_33 ?_
      refine za_iload_n C 1 rfl rfl dX5_thrice_36 ?_
      refine za_iload_n C 2 rfl rfl dX5_thrice_37 ?_
      obtain ⟨h6, hf⟩ := z_chk hf
      obtain ⟨N7, eN7, hf⟩ := z_st hf
      refine zs_C12 C h6 eN7 dX5_thrice_38 ?_
      refine za_aload_n C 0 rfl rfl dX5_thrice_39 ?_
      refine zg_C0_0 C in_X5_thrice_X5 fl_X5_thrice_10 dX5_thrice_40 ?_
      refine zg_C1_10 C in_X5_thrice_X2 fl_X5_thrice_90 dX5_thrice_43 ?_
      refine za_iload_n C 1 rfl rfl dX5_thrice_46 ?_
      refine za_iconst (v := (0 : Int32)) C (by decide) dX5_thrice_47 ?_
      obtain ⟨h8, hf⟩ := z_chk hf
      obtain ⟨N9, eN9, hf⟩ := z_st hf
      refine zs_C13 C h8 eN9 dX5_thrice_48 ?_
      refine za_iconst (v := (1 : Int32)) C (by decide) dX5_thrice_49 ?_
      obtain ⟨rfl, rfl⟩ := z_ret2 hf
      exact za_iret C F dX5_thrice_50
    · have hf := z_pos q5 hf
      refine za_iconst (v := (0 : Int32)) C (by decide) dX5_thrice_27 ?_
      obtain ⟨rfl, rfl⟩ := z_ret2 hf
      exact za_iret C F dX5_thrice_28
  · have hf := z_pos q3 hf
    refine za_bipush (v := (-2 : Int32)) C (by decide) dX5_thrice_11 ?_
    obtain ⟨rfl, rfl⟩ := z_ret2 hf
    exact za_iret C F dX5_thrice_13
theorem in_X5_vote_X5 : ∀ w ∈ wsX50, w ∈ wsX5_vote := by decide +kernel
theorem fl_X5_vote_10 : Cond.fieldLink RX5 10 "ThriceNets" "net" "LThriceNets$Net;" ∈ wsX5_vote := by decide +kernel
theorem in_X5_vote_X2 : ∀ w ∈ wsX20, w ∈ wsX5_vote := by decide +kernel
theorem fl_X5_vote_87 : Cond.fieldLink RX5 87 "ThriceNets$Net" "thrice" "[Z" ∈ wsX5_vote := by decide +kernel
theorem fl_X5_vote_90 : Cond.fieldLink RX5 90 "ThriceNets$Net" "voted" "[Z" ∈ wsX5_vote := by decide +kernel
def pX5_vote (x1 : Int32) (x2 : Int32) (M0 : zM) : Option (Int32 × zM) :=
  (pX2_isStore x1 M0).bind (fun v2 => (if v2 = 0 then (some ((-2 : Int32), M0)) else (zchk x1 24 ((if (M0.1 16 x1.toNatClampNeg) = 0 then (some ((-3 : Int32), M0)) else (zchk x1 24 ((if (M0.1 17 x1.toNatClampNeg) = x2 then (some ((0 : Int32), M0)) else (zchk x1 24 (zst (zsI M0 17 x1.toNatClampNeg (vp_nar .boolean x2)) (fun N9 => some ((1 : Int32), N9))))))))))))
set_option maxHeartbeats 4000000 in
set_option maxRecDepth 100000 in
theorem cX5_vote_ok (l : Launch) (D : va_G) (ck : Nat → ClassId) (ad : Nat → Nat) (x1 : Int32) (x2 : Int32) (M0 : zM) (r9 : Int32) (M9 : zM) (hf : pX5_vote x1 x2 M0 = some (r9, M9)) : zc l D ck (wC ad ck) yX5_vote wsX5_vote ({ frames := 2, cells := 0, slots := 0, locals := 42 }) [.ref (ad 0), .int x1, .int x2] M0 (some (.int r9)) M9 := by
  refine zc_of (cc := cX5_vote) (maxL := 3) (ret := (some .int)) [(0, .ref (ad 0)), (1, .int x1), (2, .int x2)] (by decide) rfl (Nat.le_of_ble_eq_true rfl) rfl ?_
  intro p e s m args below meth c A Q C F
  unfold pX5_vote at hf
  refine za_aload_n C 0 rfl rfl dX5_vote_0 ?_
  refine zg_C0_0 C in_X5_vote_X5 fl_X5_vote_10 dX5_vote_1 ?_
  refine za_iload_n C 1 rfl rfl dX5_vote_4 ?_
  obtain ⟨v2, hc1, hf⟩ := z_bind hf
  refine za_callV (n := 1) (rest := []) C (cX2_isStore_ok l D ck ad x1 M0 _ hc1) gX5_vote_X2_isStore rfl rfl rfl (by decide +kernel) ⟨Nat.le_of_ble_eq_true rfl, Nat.le_of_ble_eq_true rfl⟩ 1 rfl rfl rfl rfl rfl (Nat.le_of_ble_eq_true rfl) ⟨Nat.zero_le _, Nat.zero_le _⟩ dX5_vote_5 ?_
  refine za_if_ne C 14 (by decide) dX5_vote_8 (fun q3 => ?_) (fun q3 => ?_)
  · have hf := z_neg q3 hf
    refine za_aload_n C 0 rfl rfl dX5_vote_14 ?_
    refine zg_C0_0 C in_X5_vote_X5 fl_X5_vote_10 dX5_vote_15 ?_
    refine zg_C1_9 C in_X5_vote_X2 fl_X5_vote_87 dX5_vote_18 ?_
    refine za_iload_n C 1 rfl rfl dX5_vote_21 ?_
    obtain ⟨h4, hf⟩ := z_chk hf
    refine zl_C12 C h4 dX5_vote_22 ?_
    refine za_if_ne C 29 (by decide) dX5_vote_23 (fun q5 => ?_) (fun q5 => ?_)
    · have hf := z_neg q5 hf
      refine za_aload_n C 0 rfl rfl dX5_vote_29 ?_
      refine zg_C0_0 C in_X5_vote_X5 fl_X5_vote_10 dX5_vote_30 ?_
      refine zg_C1_10 C in_X5_vote_X2 fl_X5_vote_90 dX5_vote_33 ?_
      refine za_iload_n C 1 rfl rfl dX5_vote_36 ?_
      obtain ⟨h6, hf⟩ := z_chk hf
      refine zl_C13 C h6 dX5_vote_37 ?_
      refine za_iload_n C 2 rfl rfl dX5_vote_38 ?_
      refine za_icmp_ne C 44 (by decide) dX5_vote_39 (fun q7 => ?_) (fun q7 => ?_)
      · have hf := z_neg q7 hf
        refine za_aload_n C 0 rfl rfl dX5_vote_44 ?_
        refine zg_C0_0 C in_X5_vote_X5 fl_X5_vote_10 dX5_vote_45 ?_
        refine zg_C1_10 C in_X5_vote_X2 fl_X5_vote_90 dX5_vote_48 ?_
        refine za_iload_n C 1 rfl rfl dX5_vote_51 ?_
        refine za_iload_n C 2 rfl rfl dX5_vote_52 ?_
        obtain ⟨h8, hf⟩ := z_chk hf
        obtain ⟨N9, eN9, hf⟩ := z_st hf
        refine zs_C13 C h8 eN9 dX5_vote_53 ?_
        refine za_iconst (v := (1 : Int32)) C (by decide) dX5_vote_54 ?_
        obtain ⟨rfl, rfl⟩ := z_ret2 hf
        exact za_iret C F dX5_vote_55
      · have hf := z_pos q7 hf
        refine za_iconst (v := (0 : Int32)) C (by decide) dX5_vote_42 ?_
        obtain ⟨rfl, rfl⟩ := z_ret2 hf
        exact za_iret C F dX5_vote_43
    · have hf := z_pos q5 hf
      refine za_bipush (v := (-3 : Int32)) C (by decide) dX5_vote_26 ?_
      obtain ⟨rfl, rfl⟩ := z_ret2 hf
      exact za_iret C F dX5_vote_28
  · have hf := z_pos q3 hf
    refine za_bipush (v := (-2 : Int32)) C (by decide) dX5_vote_11 ?_
    obtain ⟨rfl, rfl⟩ := z_ret2 hf
    exact za_iret C F dX5_vote_13
theorem in_X5_ticks_X5 : ∀ w ∈ wsX50, w ∈ wsX5_ticks := by decide +kernel
theorem fl_X5_ticks_44 : Cond.fieldLink RX5 44 "ThriceNets" "span" "I" ∈ wsX5_ticks := by decide +kernel
def K_X5_ticks_11 (x1 : Int32) (M : zM) : Option (Int32 × zM) :=
  some ((-2 : Int32), M)
def pX5_ticks (x1 : Int32) (M0 : zM) : Option (Int32 × zM) :=
  (if x1 < (1 : Int32) then (K_X5_ticks_11 x1 M0) else (if x1 ≤ (16 : Int32) then (zlt (M0.1 0 0) (fun v3 => zst (zsI M0 0 0 x1) (fun N4 => some (v3, N4)))) else (K_X5_ticks_11 x1 M0)))
set_option maxHeartbeats 4000000 in
set_option maxRecDepth 100000 in
theorem cX5_ticks_ok (l : Launch) (D : va_G) (ck : Nat → ClassId) (ad : Nat → Nat) (x1 : Int32) (M0 : zM) (r9 : Int32) (M9 : zM) (hf : pX5_ticks x1 M0 = some (r9, M9)) : zc l D ck (wC ad ck) yX5_ticks wsX5_ticks ({ frames := 0, cells := 0, slots := 0, locals := 0 }) [.ref (ad 0), .int x1] M0 (some (.int r9)) M9 := by
  refine zc_of (cc := cX5_ticks) (maxL := 3) (ret := (some .int)) [(0, .ref (ad 0)), (1, .int x1)] (by decide) rfl (Nat.le_of_ble_eq_true rfl) rfl ?_
  intro p e s m args below meth c A Q C F
  have j_11 : ∀ (x1 : Int32) (M : zM), K_X5_ticks_11 x1 M = some (r9, M9) → za_At p l e { frames := 0, cells := 0, slots := 0, locals := 0 } s m args below meth c D A 3 0 0 Q 11 [(0, .ref (ad 0)), (1, .int x1)] [] (wC ad ck M) := by
    intro x1 M hf
    unfold K_X5_ticks_11 at hf
    refine za_bipush (v := (-2 : Int32)) C (by decide) dX5_ticks_11 ?_
    obtain ⟨rfl, rfl⟩ := z_ret2 hf
    exact za_iret C F dX5_ticks_13
  unfold pX5_ticks at hf
  refine za_iload_n C 1 rfl rfl dX5_ticks_0 ?_
  refine za_iconst (v := (1 : Int32)) C (by decide) dX5_ticks_1 ?_
  refine za_icmp_lt C 11 (by decide) dX5_ticks_2 (fun q1 => ?_) (fun q1 => ?_)
  · have hf := z_pos q1 hf
    exact za_sub [0, 1] rfl (j_11 x1 M0 hf)
  · have hf := z_neg q1 hf
    refine za_iload_n C 1 rfl rfl dX5_ticks_5 ?_
    refine za_bipush (v := (16 : Int32)) C (by decide) dX5_ticks_6 ?_
    refine za_icmp_le C 14 (by decide) dX5_ticks_8 (fun q2 => ?_) (fun q2 => ?_)
    · have hf := z_pos q2 hf
      refine za_aload_n C 0 rfl rfl dX5_ticks_14 ?_
      refine zg_C0_5 C in_X5_ticks_X5 fl_X5_ticks_44 dX5_ticks_15 ?_
      obtain ⟨v3, ev3, hf⟩ := z_lt hf
      refine za_istore_n C [(2, .int v3), (0, .ref (ad 0)), (1, .int x1)] ev3 (by decide) rfl rfl dX5_ticks_18 ?_
      refine za_aload_n C 1 rfl rfl dX5_ticks_19 ?_
      refine za_iload_n C 2 rfl rfl dX5_ticks_20 ?_
      obtain ⟨N4, eN4, hf⟩ := z_st hf
      refine zp_C0_5 C in_X5_ticks_X5 fl_X5_ticks_44 eN4 dX5_ticks_21 ?_
      refine za_iload_n C 0 rfl rfl dX5_ticks_24 ?_
      obtain ⟨rfl, rfl⟩ := z_ret2 hf
      exact za_iret C F dX5_ticks_25
    · have hf := z_neg q2 hf
      exact za_sub [0, 1] rfl (j_11 x1 M0 hf)
theorem in_X5_plain_X5 : ∀ w ∈ wsX50, w ∈ wsX5_plain := by decide +kernel
theorem fl_X5_plain_10 : Cond.fieldLink RX5 10 "ThriceNets" "net" "LThriceNets$Net;" ∈ wsX5_plain := by decide +kernel
theorem fl_X5_plain_26 : Cond.fieldLink RX5 26 "ThriceNets" "plainRun" "LThriceNets$PlainRun;" ∈ wsX5_plain := by decide +kernel
theorem fl_X5_plain_19 : Cond.fieldLink RX5 19 "ThriceNets" "sheets" "LThriceNets$Sheets;" ∈ wsX5_plain := by decide +kernel
def K_X5_plain_21 (n : Nat) (x1 : Int32) (x2 : Int32) (M : zM) : Option (Int32 × zM) :=
  some ((-2 : Int32), M)
def pX5_plain (n : Nat) (x1 : Int32) (x2 : Int32) (M0 : zM) : Option (Int32 × zM) :=
  (pX2_isNode x1 M0).bind (fun v2 => (if v2 = 0 then (K_X5_plain_21 n x1 x2 M0) else (if x2 < 0 then (K_X5_plain_21 n x1 x2 M0) else (if x2 < (16 : Int32) then ((pX3_work n M0).bind (fun N7 => (pX3_bit x1 x2 N7).bind (fun v9 => some (v9, N7)))) else (K_X5_plain_21 n x1 x2 M0)))))
set_option maxHeartbeats 4000000 in
set_option maxRecDepth 100000 in
theorem cX5_plain_ok (l : Launch) (D : va_G) (ck : Nat → ClassId) (ad : Nat → Nat) (n : Nat) (x1 : Int32) (x2 : Int32) (M0 : zM) (r9 : Int32) (M9 : zM) (hf : pX5_plain n x1 x2 M0 = some (r9, M9)) : zc l D ck (wC ad ck) yX5_plain wsX5_plain ({ frames := 3, cells := 0, slots := 0, locals := 76 }) [.ref (ad 0), .int x1, .int x2] M0 (some (.int r9)) M9 := by
  refine zc_of (cc := cX5_plain) (maxL := 3) (ret := (some .int)) [(0, .ref (ad 0)), (1, .int x1), (2, .int x2)] (by decide) rfl (Nat.le_of_ble_eq_true rfl) rfl ?_
  intro p e s m args below meth c A Q C F
  have j_21 : ∀ (x1 : Int32) (x2 : Int32) (M : zM), K_X5_plain_21 n x1 x2 M = some (r9, M9) → za_At p l e { frames := 3, cells := 0, slots := 0, locals := 76 } s m args below meth c D A 3 0 0 Q 21 [(0, .ref (ad 0)), (1, .int x1), (2, .int x2)] [] (wC ad ck M) := by
    intro x1 x2 M hf
    unfold K_X5_plain_21 at hf
    refine za_bipush (v := (-2 : Int32)) C (by decide) dX5_plain_21 ?_
    obtain ⟨rfl, rfl⟩ := z_ret2 hf
    exact za_iret C F dX5_plain_23
  unfold pX5_plain at hf
  refine za_aload_n C 0 rfl rfl dX5_plain_0 ?_
  refine zg_C0_0 C in_X5_plain_X5 fl_X5_plain_10 dX5_plain_1 ?_
  refine za_iload_n C 1 rfl rfl dX5_plain_4 ?_
  obtain ⟨v2, hc1, hf⟩ := z_bind hf
  refine za_callV (n := 1) (rest := []) C (cX2_isNode_ok l D ck ad x1 M0 _ hc1) gX5_plain_X2_isNode rfl rfl rfl (by decide +kernel) ⟨Nat.le_of_ble_eq_true rfl, Nat.le_of_ble_eq_true rfl⟩ 1 rfl rfl rfl rfl rfl (Nat.le_of_ble_eq_true rfl) ⟨Nat.zero_le _, Nat.zero_le _⟩ dX5_plain_5 ?_
  refine za_if_eq C 21 (by decide) dX5_plain_8 (fun q3 => ?_) (fun q3 => ?_)
  · have hf := z_pos q3 hf
    exact za_sub [0, 1, 2] rfl (j_21 x1 x2 M0 hf)
  · have hf := z_neg q3 hf
    refine za_iload_n C 2 rfl rfl dX5_plain_11 ?_
    refine za_if_lt C 21 (by decide) dX5_plain_12 (fun q4 => ?_) (fun q4 => ?_)
    · have hf := z_pos q4 hf
      exact za_sub [0, 1, 2] rfl (j_21 x1 x2 M0 hf)
    · have hf := z_neg q4 hf
      refine za_iload_n C 2 rfl rfl dX5_plain_15 ?_
      refine za_bipush (v := (16 : Int32)) C (by decide) dX5_plain_16 ?_
      refine za_icmp_lt C 24 (by decide) dX5_plain_18 (fun q5 => ?_) (fun q5 => ?_)
      · have hf := z_pos q5 hf
        refine za_aload_n C 0 rfl rfl dX5_plain_24 ?_
        refine zg_C0_2 C in_X5_plain_X5 fl_X5_plain_26 dX5_plain_25 ?_
        refine za_aload_n C 0 rfl rfl dX5_plain_28 ?_
        refine zg_C0_0 C in_X5_plain_X5 fl_X5_plain_10 dX5_plain_29 ?_
        refine za_aload_n C 0 rfl rfl dX5_plain_32 ?_
        refine zg_C0_1 C in_X5_plain_X5 fl_X5_plain_19 dX5_plain_33 ?_
        obtain ⟨N7, hc6, hf⟩ := z_bind hf
        refine za_callV (n := 2) (rest := []) C (cX3_work_ok l D ck ad n  M0 _ hc6) gX5_plain_X3_work rfl rfl rfl (by decide +kernel) ⟨Nat.le_of_ble_eq_true rfl, Nat.le_of_ble_eq_true rfl⟩ 3 rfl rfl rfl rfl rfl (Nat.le_of_ble_eq_true rfl) ⟨Nat.zero_le _, Nat.zero_le _⟩ dX5_plain_36 ?_
        refine za_aload_n C 0 rfl rfl dX5_plain_39 ?_
        refine zg_C0_2 C in_X5_plain_X5 fl_X5_plain_26 dX5_plain_40 ?_
        refine za_iload_n C 1 rfl rfl dX5_plain_43 ?_
        refine za_iload_n C 2 rfl rfl dX5_plain_44 ?_
        obtain ⟨v9, hc8, hf⟩ := z_bind hf
        refine za_callV (n := 2) (rest := []) C (cX3_bit_ok l D ck ad x1 x2 N7 _ hc8) gX5_plain_X3_bit rfl rfl rfl (by decide +kernel) ⟨Nat.le_of_ble_eq_true rfl, Nat.le_of_ble_eq_true rfl⟩ 3 rfl rfl rfl rfl rfl (Nat.le_of_ble_eq_true rfl) ⟨Nat.zero_le _, Nat.zero_le _⟩ dX5_plain_45 ?_
        obtain ⟨rfl, rfl⟩ := z_ret2 hf
        exact za_iret C F dX5_plain_48
      · have hf := z_neg q5 hf
        exact za_sub [0, 1, 2] rfl (j_21 x1 x2 M0 hf)
theorem in_X5_copy_X5 : ∀ w ∈ wsX50, w ∈ wsX5_copy := by decide +kernel
theorem fl_X5_copy_10 : Cond.fieldLink RX5 10 "ThriceNets" "net" "LThriceNets$Net;" ∈ wsX5_copy := by decide +kernel
def pX5_copy (n : Nat) (x1 : Int32) (x2 : Int32) (x3 : Int32) (M0 : zM) : Option (Int32 × zM) :=
  (pX2_isCopy x1 x2 M0).bind (fun v2 => (if v2 = 0 then (some ((-2 : Int32), M0)) else (zb2 (pX5_plain n x1 x3 M0) (fun v5 N6 => some (v5, N6)))))
set_option maxHeartbeats 4000000 in
set_option maxRecDepth 100000 in
theorem cX5_copy_ok (l : Launch) (D : va_G) (ck : Nat → ClassId) (ad : Nat → Nat) (n : Nat) (x1 : Int32) (x2 : Int32) (x3 : Int32) (M0 : zM) (r9 : Int32) (M9 : zM) (hf : pX5_copy n x1 x2 x3 M0 = some (r9, M9)) : zc l D ck (wC ad ck) yX5_copy wsX5_copy ({ frames := 4, cells := 0, slots := 0, locals := 98 }) [.ref (ad 0), .int x1, .int x2, .int x3] M0 (some (.int r9)) M9 := by
  refine zc_of (cc := cX5_copy) (maxL := 4) (ret := (some .int)) [(0, .ref (ad 0)), (1, .int x1), (2, .int x2), (3, .int x3)] (by decide) rfl (Nat.le_of_ble_eq_true rfl) rfl ?_
  intro p e s m args below meth c A Q C F
  unfold pX5_copy at hf
  refine za_aload_n C 0 rfl rfl dX5_copy_0 ?_
  refine zg_C0_0 C in_X5_copy_X5 fl_X5_copy_10 dX5_copy_1 ?_
  refine za_iload_n C 1 rfl rfl dX5_copy_4 ?_
  refine za_iload_n C 2 rfl rfl dX5_copy_5 ?_
  obtain ⟨v2, hc1, hf⟩ := z_bind hf
  refine za_callV (n := 2) (rest := []) C (cX2_isCopy_ok l D ck ad x1 x2 M0 _ hc1) gX5_copy_X2_isCopy rfl rfl rfl (by decide +kernel) ⟨Nat.le_of_ble_eq_true rfl, Nat.le_of_ble_eq_true rfl⟩ 1 rfl rfl rfl rfl rfl (Nat.le_of_ble_eq_true rfl) ⟨Nat.zero_le _, Nat.zero_le _⟩ dX5_copy_6 ?_
  refine za_if_ne C 15 (by decide) dX5_copy_9 (fun q3 => ?_) (fun q3 => ?_)
  · have hf := z_neg q3 hf
    refine za_aload_n C 0 rfl rfl dX5_copy_15 ?_
    refine za_iload_n C 1 rfl rfl dX5_copy_16 ?_
    refine za_iload_n C 3 rfl rfl dX5_copy_17 ?_
    obtain ⟨v5, N6, hc4, hf⟩ := z_b2 hf
    refine za_callV (n := 2) (rest := []) C (cX5_plain_ok l D ck ad n x1 x3 M0 _ _ hc4) gX5_copy_X5_plain rfl rfl rfl (by decide +kernel) ⟨Nat.le_of_ble_eq_true rfl, Nat.le_of_ble_eq_true rfl⟩ 0 rfl rfl rfl rfl rfl (Nat.le_of_ble_eq_true rfl) ⟨Nat.zero_le _, Nat.zero_le _⟩ dX5_copy_18 ?_
    obtain ⟨rfl, rfl⟩ := z_ret2 hf
    exact za_iret C F dX5_copy_21
  · have hf := z_pos q3 hf
    refine za_bipush (v := (-2 : Int32)) C (by decide) dX5_copy_12 ?_
    obtain ⟨rfl, rfl⟩ := z_ret2 hf
    exact za_iret C F dX5_copy_14
theorem in_X5_isRunTick_X5 : ∀ w ∈ wsX50, w ∈ wsX5_isRunTick := by decide +kernel
theorem fl_X5_isRunTick_44 : Cond.fieldLink RX5 44 "ThriceNets" "span" "I" ∈ wsX5_isRunTick := by decide +kernel
def K_X5_isRunTick_16 (x1 : Int32) (M0 : zM) : Option (Int32) :=
  some (0 : Int32)
def pX5_isRunTick (x1 : Int32) (M0 : zM) : Option (Int32) :=
  (if x1 < 0 then (K_X5_isRunTick_16 x1 M0) else (if (M0.1 0 0) ≤ x1 then (K_X5_isRunTick_16 x1 M0) else (some (1 : Int32))))
set_option maxHeartbeats 4000000 in
set_option maxRecDepth 100000 in
theorem cX5_isRunTick_ok (l : Launch) (D : va_G) (ck : Nat → ClassId) (ad : Nat → Nat) (x1 : Int32) (M0 : zM) (r9 : Int32) (hf : pX5_isRunTick x1 M0 = some r9) : zc l D ck (wC ad ck) yX5_isRunTick wsX5_isRunTick ({ frames := 0, cells := 0, slots := 0, locals := 0 }) [.ref (ad 0), .int x1] M0 (some (.int r9)) M0 := by
  refine zc_of (cc := cX5_isRunTick) (maxL := 2) (ret := (some .boolean)) [(0, .ref (ad 0)), (1, .int x1)] (by decide) rfl (Nat.le_of_ble_eq_true rfl) rfl ?_
  intro p e s m args below meth c A Q C F
  have j_16 : ∀ (x1 : Int32), K_X5_isRunTick_16 x1 M0 = some r9 → za_At p l e { frames := 0, cells := 0, slots := 0, locals := 0 } s m args below meth c D A 2 0 0 Q 16 [(0, .ref (ad 0)), (1, .int x1)] [] (wC ad ck M0) := by
    intro x1 hf
    unfold K_X5_isRunTick_16 at hf
    refine za_iconst (v := (0 : Int32)) C (by decide) dX5_isRunTick_16 ?_
    obtain rfl := z_ret1 hf
    exact za_zret C F rfl dX5_isRunTick_17
  unfold pX5_isRunTick at hf
  refine za_iload_n C 1 rfl rfl dX5_isRunTick_0 ?_
  refine za_if_lt C 16 (by decide) dX5_isRunTick_1 (fun q1 => ?_) (fun q1 => ?_)
  · have hf := z_pos q1 hf
    exact za_sub [0, 1] rfl (j_16 x1 hf)
  · have hf := z_neg q1 hf
    refine za_iload_n C 1 rfl rfl dX5_isRunTick_4 ?_
    refine za_aload_n C 0 rfl rfl dX5_isRunTick_5 ?_
    refine zg_C0_5 C in_X5_isRunTick_X5 fl_X5_isRunTick_44 dX5_isRunTick_6 ?_
    refine za_icmp_ge C 16 (by decide) dX5_isRunTick_9 (fun q2 => ?_) (fun q2 => ?_)
    · have hf := z_pos q2 hf
      exact za_sub [0, 1] rfl (j_16 x1 hf)
    · have hf := z_neg q2 hf
      refine za_iconst (v := (1 : Int32)) C (by decide) dX5_isRunTick_12 ?_
      refine za_goto C 17 (by decide) dX5_isRunTick_13 ?_
      obtain rfl := z_ret1 hf
      exact za_zret C F rfl dX5_isRunTick_17
theorem in_X5_isFlip_X5 : ∀ w ∈ wsX50, w ∈ wsX5_isFlip := by decide +kernel
theorem fl_X5_isFlip_10 : Cond.fieldLink RX5 10 "ThriceNets" "net" "LThriceNets$Net;" ∈ wsX5_isFlip := by decide +kernel
def K_X5_isFlip_24 (x1 : Int32) (x2 : Int32) (x3 : Int32) (M0 : zM) : Option (Int32) :=
  some (0 : Int32)
def pX5_isFlip (x1 : Int32) (x2 : Int32) (x3 : Int32) (M0 : zM) : Option (Int32) :=
  (pX5_isRunTick x1 M0).bind (fun v2 => (if v2 = 0 then (K_X5_isFlip_24 x1 x2 x3 M0) else ((pX2_isCopy x2 x3 M0).bind (fun v5 => (if v5 = 0 then (K_X5_isFlip_24 x1 x2 x3 M0) else (some (1 : Int32)))))))
set_option maxHeartbeats 4000000 in
set_option maxRecDepth 100000 in
theorem cX5_isFlip_ok (l : Launch) (D : va_G) (ck : Nat → ClassId) (ad : Nat → Nat) (x1 : Int32) (x2 : Int32) (x3 : Int32) (M0 : zM) (r9 : Int32) (hf : pX5_isFlip x1 x2 x3 M0 = some r9) : zc l D ck (wC ad ck) yX5_isFlip wsX5_isFlip ({ frames := 2, cells := 0, slots := 0, locals := 43 }) [.ref (ad 0), .int x1, .int x2, .int x3] M0 (some (.int r9)) M0 := by
  refine zc_of (cc := cX5_isFlip) (maxL := 4) (ret := (some .boolean)) [(0, .ref (ad 0)), (1, .int x1), (2, .int x2), (3, .int x3)] (by decide) rfl (Nat.le_of_ble_eq_true rfl) rfl ?_
  intro p e s m args below meth c A Q C F
  have j_24 : ∀ (x1 : Int32) (x2 : Int32) (x3 : Int32), K_X5_isFlip_24 x1 x2 x3 M0 = some r9 → za_At p l e { frames := 2, cells := 0, slots := 0, locals := 43 } s m args below meth c D A 4 0 0 Q 24 [(0, .ref (ad 0)), (1, .int x1), (2, .int x2), (3, .int x3)] [] (wC ad ck M0) := by
    intro x1 x2 x3 hf
    unfold K_X5_isFlip_24 at hf
    refine za_iconst (v := (0 : Int32)) C (by decide) dX5_isFlip_24 ?_
    obtain rfl := z_ret1 hf
    exact za_zret C F rfl dX5_isFlip_25
  unfold pX5_isFlip at hf
  refine za_aload_n C 0 rfl rfl dX5_isFlip_0 ?_
  refine za_iload_n C 1 rfl rfl dX5_isFlip_1 ?_
  obtain ⟨v2, hc1, hf⟩ := z_bind hf
  refine za_callV (n := 1) (rest := []) C (cX5_isRunTick_ok l D ck ad x1 M0 _ hc1) gX5_isFlip_X5_isRunTick rfl rfl rfl (by decide +kernel) ⟨Nat.le_of_ble_eq_true rfl, Nat.le_of_ble_eq_true rfl⟩ 0 rfl rfl rfl rfl rfl (Nat.le_of_ble_eq_true rfl) ⟨Nat.zero_le _, Nat.zero_le _⟩ dX5_isFlip_2 ?_
  refine za_if_eq C 24 (by decide) dX5_isFlip_5 (fun q3 => ?_) (fun q3 => ?_)
  · have hf := z_pos q3 hf
    exact za_sub [0, 1, 2, 3] rfl (j_24 x1 x2 x3 hf)
  · have hf := z_neg q3 hf
    refine za_aload_n C 0 rfl rfl dX5_isFlip_8 ?_
    refine zg_C0_0 C in_X5_isFlip_X5 fl_X5_isFlip_10 dX5_isFlip_9 ?_
    refine za_iload_n C 2 rfl rfl dX5_isFlip_12 ?_
    refine za_iload_n C 3 rfl rfl dX5_isFlip_13 ?_
    obtain ⟨v5, hc4, hf⟩ := z_bind hf
    refine za_callV (n := 2) (rest := []) C (cX2_isCopy_ok l D ck ad x2 x3 M0 _ hc4) gX5_isFlip_X2_isCopy rfl rfl rfl (by decide +kernel) ⟨Nat.le_of_ble_eq_true rfl, Nat.le_of_ble_eq_true rfl⟩ 1 rfl rfl rfl rfl rfl (Nat.le_of_ble_eq_true rfl) ⟨Nat.zero_le _, Nat.zero_le _⟩ dX5_isFlip_14 ?_
    refine za_if_eq C 24 (by decide) dX5_isFlip_17 (fun q6 => ?_) (fun q6 => ?_)
    · have hf := z_pos q6 hf
      exact za_sub [0, 1, 2, 3] rfl (j_24 x1 x2 x3 hf)
    · have hf := z_neg q6 hf
      refine za_iconst (v := (1 : Int32)) C (by decide) dX5_isFlip_20 ?_
      refine za_goto C 25 (by decide) dX5_isFlip_21 ?_
      obtain rfl := z_ret1 hf
      exact za_zret C F rfl dX5_isFlip_25
theorem in_X5_startRuns_X5 : ∀ w ∈ wsX50, w ∈ wsX5_startRuns := by decide +kernel
theorem fl_X5_startRuns_26 : Cond.fieldLink RX5 26 "ThriceNets" "plainRun" "LThriceNets$PlainRun;" ∈ wsX5_startRuns := by decide +kernel
theorem fl_X5_startRuns_10 : Cond.fieldLink RX5 10 "ThriceNets" "net" "LThriceNets$Net;" ∈ wsX5_startRuns := by decide +kernel
theorem fl_X5_startRuns_19 : Cond.fieldLink RX5 19 "ThriceNets" "sheets" "LThriceNets$Sheets;" ∈ wsX5_startRuns := by decide +kernel
theorem fl_X5_startRuns_33 : Cond.fieldLink RX5 33 "ThriceNets" "lanes" "LThriceNets$Lanes;" ∈ wsX5_startRuns := by decide +kernel
def pX5_startRuns (n : Nat) (M0 : zM) : Option (zM) :=
  (pX3_work n M0).bind (fun N2 => (pX0_begin n N2).bind (fun N4 => some N4))
set_option maxHeartbeats 4000000 in
set_option maxRecDepth 100000 in
theorem cX5_startRuns_ok (l : Launch) (D : va_G) (ck : Nat → ClassId) (ad : Nat → Nat) (n : Nat) (M0 : zM) (M9 : zM) (hf : pX5_startRuns n M0 = some M9) : zc l D ck (wC ad ck) yX5_startRuns wsX5_startRuns ({ frames := 3, cells := 0, slots := 0, locals := 76 }) [.ref (ad 0)] M0 none M9 := by
  refine zc_of (cc := cX5_startRuns) (maxL := 1) (ret := none) [(0, .ref (ad 0))] (by decide) rfl (Nat.le_of_ble_eq_true rfl) rfl ?_
  intro p e s m args below meth c A Q C F
  unfold pX5_startRuns at hf
  refine za_aload_n C 0 rfl rfl dX5_startRuns_0 ?_
  refine zg_C0_2 C in_X5_startRuns_X5 fl_X5_startRuns_26 dX5_startRuns_1 ?_
  refine za_aload_n C 0 rfl rfl dX5_startRuns_4 ?_
  refine zg_C0_0 C in_X5_startRuns_X5 fl_X5_startRuns_10 dX5_startRuns_5 ?_
  refine za_aload_n C 0 rfl rfl dX5_startRuns_8 ?_
  refine zg_C0_1 C in_X5_startRuns_X5 fl_X5_startRuns_19 dX5_startRuns_9 ?_
  obtain ⟨N2, hc1, hf⟩ := z_bind hf
  refine za_callV (n := 2) (rest := []) C (cX3_work_ok l D ck ad n  M0 _ hc1) gX5_startRuns_X3_work rfl rfl rfl (by decide +kernel) ⟨Nat.le_of_ble_eq_true rfl, Nat.le_of_ble_eq_true rfl⟩ 3 rfl rfl rfl rfl rfl (Nat.le_of_ble_eq_true rfl) ⟨Nat.zero_le _, Nat.zero_le _⟩ dX5_startRuns_12 ?_
  refine za_aload_n C 0 rfl rfl dX5_startRuns_15 ?_
  refine zg_C0_3 C in_X5_startRuns_X5 fl_X5_startRuns_33 dX5_startRuns_16 ?_
  obtain ⟨N4, hc3, hf⟩ := z_bind hf
  refine za_callV (n := 0) (rest := []) C (cX0_begin_ok l D ck ad n  N2 _ hc3) gX5_startRuns_X0_begin rfl rfl rfl (by decide +kernel) ⟨Nat.le_of_ble_eq_true rfl, Nat.le_of_ble_eq_true rfl⟩ 4 rfl rfl rfl rfl rfl (Nat.le_of_ble_eq_true rfl) ⟨Nat.zero_le _, Nat.zero_le _⟩ dX5_startRuns_19 ?_
  obtain rfl := z_ret1 hf
  exact za_vret C F dX5_startRuns_22
theorem in_X5_flip_X5 : ∀ w ∈ wsX50, w ∈ wsX5_flip := by decide +kernel
theorem fl_X5_flip_33 : Cond.fieldLink RX5 33 "ThriceNets" "lanes" "LThriceNets$Lanes;" ∈ wsX5_flip := by decide +kernel
theorem fl_X5_flip_10 : Cond.fieldLink RX5 10 "ThriceNets" "net" "LThriceNets$Net;" ∈ wsX5_flip := by decide +kernel
theorem fl_X5_flip_26 : Cond.fieldLink RX5 26 "ThriceNets" "plainRun" "LThriceNets$PlainRun;" ∈ wsX5_flip := by decide +kernel
theorem fl_X5_flip_44 : Cond.fieldLink RX5 44 "ThriceNets" "span" "I" ∈ wsX5_flip := by decide +kernel
def pX5_flip (n : Nat) (x1 : Int32) (x2 : Int32) (x3 : Int32) (M0 : zM) : Option (Int32 × zM) :=
  (pX5_isFlip x1 x2 x3 M0).bind (fun v2 => (if v2 = 0 then (some ((-2 : Int32), M0)) else ((pX5_startRuns n M0).bind (fun N5 => (pX0_mark n x1 x2 x3 N5).bind (fun N7 => zb2 (pX0_runOne n (N7.1 0 0) N7) (fun v9 N10 => some (v9, N10)))))))
set_option maxHeartbeats 4000000 in
set_option maxRecDepth 100000 in
theorem cX5_flip_ok (l : Launch) (D : va_G) (ck : Nat → ClassId) (ad : Nat → Nat) (n : Nat) (x1 : Int32) (x2 : Int32) (x3 : Int32) (M0 : zM) (r9 : Int32) (M9 : zM) (hf : pX5_flip n x1 x2 x3 M0 = some (r9, M9)) : zc l D ck (wC ad ck) yX5_flip wsX5_flip ({ frames := 4, cells := 0, slots := 0, locals := 113 }) [.ref (ad 0), .int x1, .int x2, .int x3] M0 (some (.int r9)) M9 := by
  refine zc_of (cc := cX5_flip) (maxL := 4) (ret := (some .int)) [(0, .ref (ad 0)), (1, .int x1), (2, .int x2), (3, .int x3)] (by decide) rfl (Nat.le_of_ble_eq_true rfl) rfl ?_
  intro p e s m args below meth c A Q C F
  unfold pX5_flip at hf
  refine za_aload_n C 0 rfl rfl dX5_flip_0 ?_
  refine za_iload_n C 1 rfl rfl dX5_flip_1 ?_
  refine za_iload_n C 2 rfl rfl dX5_flip_2 ?_
  refine za_iload_n C 3 rfl rfl dX5_flip_3 ?_
  obtain ⟨v2, hc1, hf⟩ := z_bind hf
  refine za_callV (n := 3) (rest := []) C (cX5_isFlip_ok l D ck ad x1 x2 x3 M0 _ hc1) gX5_flip_X5_isFlip rfl rfl rfl (by decide +kernel) ⟨Nat.le_of_ble_eq_true rfl, Nat.le_of_ble_eq_true rfl⟩ 0 rfl rfl rfl rfl rfl (Nat.le_of_ble_eq_true rfl) ⟨Nat.zero_le _, Nat.zero_le _⟩ dX5_flip_4 ?_
  refine za_if_ne C 13 (by decide) dX5_flip_7 (fun q3 => ?_) (fun q3 => ?_)
  · have hf := z_neg q3 hf
    refine za_aload_n C 0 rfl rfl dX5_flip_13 ?_
    obtain ⟨N5, hc4, hf⟩ := z_bind hf
    refine za_callV (n := 0) (rest := []) C (cX5_startRuns_ok l D ck ad n  M0 _ hc4) gX5_flip_X5_startRuns rfl rfl rfl (by decide +kernel) ⟨Nat.le_of_ble_eq_true rfl, Nat.le_of_ble_eq_true rfl⟩ 0 rfl rfl rfl rfl rfl (Nat.le_of_ble_eq_true rfl) ⟨Nat.zero_le _, Nat.zero_le _⟩ dX5_flip_14 ?_
    refine za_aload_n C 0 rfl rfl dX5_flip_17 ?_
    refine zg_C0_3 C in_X5_flip_X5 fl_X5_flip_33 dX5_flip_18 ?_
    refine za_aload_n C 0 rfl rfl dX5_flip_21 ?_
    refine zg_C0_0 C in_X5_flip_X5 fl_X5_flip_10 dX5_flip_22 ?_
    refine za_iload_n C 1 rfl rfl dX5_flip_25 ?_
    refine za_iload_n C 2 rfl rfl dX5_flip_26 ?_
    refine za_iload_n C 3 rfl rfl dX5_flip_27 ?_
    obtain ⟨N7, hc6, hf⟩ := z_bind hf
    refine za_callV (n := 4) (rest := []) C (cX0_mark_ok l D ck ad n x1 x2 x3 N5 _ hc6) gX5_flip_X0_mark rfl rfl rfl (by decide +kernel) ⟨Nat.le_of_ble_eq_true rfl, Nat.le_of_ble_eq_true rfl⟩ 4 rfl rfl rfl rfl rfl (Nat.le_of_ble_eq_true rfl) ⟨Nat.zero_le _, Nat.zero_le _⟩ dX5_flip_28 ?_
    refine za_aload_n C 0 rfl rfl dX5_flip_31 ?_
    refine zg_C0_3 C in_X5_flip_X5 fl_X5_flip_33 dX5_flip_32 ?_
    refine za_aload_n C 0 rfl rfl dX5_flip_35 ?_
    refine zg_C0_0 C in_X5_flip_X5 fl_X5_flip_10 dX5_flip_36 ?_
    refine za_aload_n C 0 rfl rfl dX5_flip_39 ?_
    refine zg_C0_2 C in_X5_flip_X5 fl_X5_flip_26 dX5_flip_40 ?_
    refine za_aload_n C 0 rfl rfl dX5_flip_43 ?_
    refine zg_C0_5 C in_X5_flip_X5 fl_X5_flip_44 dX5_flip_44 ?_
    obtain ⟨v9, N10, hc8, hf⟩ := z_b2 hf
    refine za_callV (n := 3) (rest := []) C (cX0_runOne_ok l D ck ad n (N7.1 0 0) N7 _ _ hc8) gX5_flip_X0_runOne rfl rfl rfl (by decide +kernel) ⟨Nat.le_of_ble_eq_true rfl, Nat.le_of_ble_eq_true rfl⟩ 4 rfl rfl rfl rfl rfl (Nat.le_of_ble_eq_true rfl) ⟨Nat.zero_le _, Nat.zero_le _⟩ dX5_flip_47 ?_
    obtain ⟨rfl, rfl⟩ := z_ret2 hf
    exact za_iret C F dX5_flip_50
  · have hf := z_pos q3 hf
    refine za_bipush (v := (-2 : Int32)) C (by decide) dX5_flip_10 ?_
    obtain ⟨rfl, rfl⟩ := z_ret2 hf
    exact za_iret C F dX5_flip_12
theorem in_X5_flips_X5 : ∀ w ∈ wsX50, w ∈ wsX5_flips := by decide +kernel
theorem fl_X5_flips_33 : Cond.fieldLink RX5 33 "ThriceNets" "lanes" "LThriceNets$Lanes;" ∈ wsX5_flips := by decide +kernel
theorem fl_X5_flips_10 : Cond.fieldLink RX5 10 "ThriceNets" "net" "LThriceNets$Net;" ∈ wsX5_flips := by decide +kernel
theorem fl_X5_flips_26 : Cond.fieldLink RX5 26 "ThriceNets" "plainRun" "LThriceNets$PlainRun;" ∈ wsX5_flips := by decide +kernel
theorem fl_X5_flips_44 : Cond.fieldLink RX5 44 "ThriceNets" "span" "I" ∈ wsX5_flips := by decide +kernel
def K_X5_flips_47 (n : Nat) (x1 : Int32) (x2 : Int32) (x3 : Int32) (x4 : Int32) (x5 : Int32) (x6 : Int32) (M : zM) : Option (Int32 × zM) :=
  (pX5_startRuns n M).bind (fun N2 => (pX0_mark n x1 x2 x3 N2).bind (fun N4 => (pX0_mark n x4 x5 x6 N4).bind (fun N6 => zb2 (pX0_runOne n (N6.1 0 0) N6) (fun v8 N9 => some (v8, N9)))))
def K_X5_flips_23 (n : Nat) (x1 : Int32) (x2 : Int32) (x3 : Int32) (x4 : Int32) (x5 : Int32) (x6 : Int32) (M : zM) : Option (Int32 × zM) :=
  some ((-2 : Int32), M)
def pX5_flips (n : Nat) (x1 : Int32) (x2 : Int32) (x3 : Int32) (x4 : Int32) (x5 : Int32) (x6 : Int32) (M0 : zM) : Option (Int32 × zM) :=
  (pX5_isFlip x1 x2 x3 M0).bind (fun v11 => (if v11 = 0 then (K_X5_flips_23 n x1 x2 x3 x4 x5 x6 M0) else ((pX5_isFlip x4 x5 x6 M0).bind (fun v14 => (if v14 = 0 then (K_X5_flips_23 n x1 x2 x3 x4 x5 x6 M0) else (if x1 = x4 then (if x2 = x5 then (if x3 = x6 then (some ((-2 : Int32), M0)) else (K_X5_flips_47 n x1 x2 x3 x4 x5 x6 M0)) else (K_X5_flips_47 n x1 x2 x3 x4 x5 x6 M0)) else (K_X5_flips_47 n x1 x2 x3 x4 x5 x6 M0)))))))
set_option maxHeartbeats 4000000 in
set_option maxRecDepth 100000 in
theorem cX5_flips_ok (l : Launch) (D : va_G) (ck : Nat → ClassId) (ad : Nat → Nat) (n : Nat) (x1 : Int32) (x2 : Int32) (x3 : Int32) (x4 : Int32) (x5 : Int32) (x6 : Int32) (M0 : zM) (r9 : Int32) (M9 : zM) (hf : pX5_flips n x1 x2 x3 x4 x5 x6 M0 = some (r9, M9)) : zc l D ck (wC ad ck) yX5_flips wsX5_flips ({ frames := 4, cells := 0, slots := 0, locals := 113 }) [.ref (ad 0), .int x1, .int x2, .int x3, .int x4, .int x5, .int x6] M0 (some (.int r9)) M9 := by
  refine zc_of (cc := cX5_flips) (maxL := 7) (ret := (some .int)) [(0, .ref (ad 0)), (1, .int x1), (2, .int x2), (3, .int x3), (4, .int x4), (5, .int x5), (6, .int x6)] (by decide) rfl (Nat.le_of_ble_eq_true rfl) rfl ?_
  intro p e s m args below meth c A Q C F
  have j_47 : ∀ (x1 : Int32) (x2 : Int32) (x3 : Int32) (x4 : Int32) (x5 : Int32) (x6 : Int32) (M : zM), K_X5_flips_47 n x1 x2 x3 x4 x5 x6 M = some (r9, M9) → za_At p l e { frames := 4, cells := 0, slots := 0, locals := 113 } s m args below meth c D A 7 0 0 Q 47 [(0, .ref (ad 0)), (1, .int x1), (2, .int x2), (3, .int x3), (4, .int x4), (5, .int x5), (6, .int x6)] [] (wC ad ck M) := by
    intro x1 x2 x3 x4 x5 x6 M hf
    unfold K_X5_flips_47 at hf
    refine za_aload_n C 0 rfl rfl dX5_flips_47 ?_
    obtain ⟨N2, hc1, hf⟩ := z_bind hf
    refine za_callV (n := 0) (rest := []) C (cX5_startRuns_ok l D ck ad n  M _ hc1) gX5_flips_X5_startRuns rfl rfl rfl (by decide +kernel) ⟨Nat.le_of_ble_eq_true rfl, Nat.le_of_ble_eq_true rfl⟩ 0 rfl rfl rfl rfl rfl (Nat.le_of_ble_eq_true rfl) ⟨Nat.zero_le _, Nat.zero_le _⟩ dX5_flips_48 ?_
    refine za_aload_n C 0 rfl rfl dX5_flips_51 ?_
    refine zg_C0_3 C in_X5_flips_X5 fl_X5_flips_33 dX5_flips_52 ?_
    refine za_aload_n C 0 rfl rfl dX5_flips_55 ?_
    refine zg_C0_0 C in_X5_flips_X5 fl_X5_flips_10 dX5_flips_56 ?_
    refine za_iload_n C 1 rfl rfl dX5_flips_59 ?_
    refine za_iload_n C 2 rfl rfl dX5_flips_60 ?_
    refine za_iload_n C 3 rfl rfl dX5_flips_61 ?_
    obtain ⟨N4, hc3, hf⟩ := z_bind hf
    refine za_callV (n := 4) (rest := []) C (cX0_mark_ok l D ck ad n x1 x2 x3 N2 _ hc3) gX5_flips_X0_mark rfl rfl rfl (by decide +kernel) ⟨Nat.le_of_ble_eq_true rfl, Nat.le_of_ble_eq_true rfl⟩ 4 rfl rfl rfl rfl rfl (Nat.le_of_ble_eq_true rfl) ⟨Nat.zero_le _, Nat.zero_le _⟩ dX5_flips_62 ?_
    refine za_aload_n C 0 rfl rfl dX5_flips_65 ?_
    refine zg_C0_3 C in_X5_flips_X5 fl_X5_flips_33 dX5_flips_66 ?_
    refine za_aload_n C 0 rfl rfl dX5_flips_69 ?_
    refine zg_C0_0 C in_X5_flips_X5 fl_X5_flips_10 dX5_flips_70 ?_
    refine za_iload C 4 rfl dX5_flips_73 ?_
    refine za_iload C 5 rfl dX5_flips_75 ?_
    refine za_iload C 6 rfl dX5_flips_77 ?_
    obtain ⟨N6, hc5, hf⟩ := z_bind hf
    refine za_callV (n := 4) (rest := []) C (cX0_mark_ok l D ck ad n x4 x5 x6 N4 _ hc5) gX5_flips_X0_mark rfl rfl rfl (by decide +kernel) ⟨Nat.le_of_ble_eq_true rfl, Nat.le_of_ble_eq_true rfl⟩ 4 rfl rfl rfl rfl rfl (Nat.le_of_ble_eq_true rfl) ⟨Nat.zero_le _, Nat.zero_le _⟩ dX5_flips_79 ?_
    refine za_aload_n C 0 rfl rfl dX5_flips_82 ?_
    refine zg_C0_3 C in_X5_flips_X5 fl_X5_flips_33 dX5_flips_83 ?_
    refine za_aload_n C 0 rfl rfl dX5_flips_86 ?_
    refine zg_C0_0 C in_X5_flips_X5 fl_X5_flips_10 dX5_flips_87 ?_
    refine za_aload_n C 0 rfl rfl dX5_flips_90 ?_
    refine zg_C0_2 C in_X5_flips_X5 fl_X5_flips_26 dX5_flips_91 ?_
    refine za_aload_n C 0 rfl rfl dX5_flips_94 ?_
    refine zg_C0_5 C in_X5_flips_X5 fl_X5_flips_44 dX5_flips_95 ?_
    obtain ⟨v8, N9, hc7, hf⟩ := z_b2 hf
    refine za_callV (n := 3) (rest := []) C (cX0_runOne_ok l D ck ad n (N6.1 0 0) N6 _ _ hc7) gX5_flips_X0_runOne rfl rfl rfl (by decide +kernel) ⟨Nat.le_of_ble_eq_true rfl, Nat.le_of_ble_eq_true rfl⟩ 4 rfl rfl rfl rfl rfl (Nat.le_of_ble_eq_true rfl) ⟨Nat.zero_le _, Nat.zero_le _⟩ dX5_flips_98 ?_
    obtain ⟨rfl, rfl⟩ := z_ret2 hf
    exact za_iret C F dX5_flips_101
  have j_23 : ∀ (x1 : Int32) (x2 : Int32) (x3 : Int32) (x4 : Int32) (x5 : Int32) (x6 : Int32) (M : zM), K_X5_flips_23 n x1 x2 x3 x4 x5 x6 M = some (r9, M9) → za_At p l e { frames := 4, cells := 0, slots := 0, locals := 113 } s m args below meth c D A 7 0 0 Q 23 [(0, .ref (ad 0)), (1, .int x1), (2, .int x2), (3, .int x3), (4, .int x4), (5, .int x5), (6, .int x6)] [] (wC ad ck M) := by
    intro x1 x2 x3 x4 x5 x6 M hf
    unfold K_X5_flips_23 at hf
    refine za_bipush (v := (-2 : Int32)) C (by decide) dX5_flips_23 ?_
    obtain ⟨rfl, rfl⟩ := z_ret2 hf
    exact za_iret C F dX5_flips_25
  unfold pX5_flips at hf
  refine za_aload_n C 0 rfl rfl dX5_flips_0 ?_
  refine za_iload_n C 1 rfl rfl dX5_flips_1 ?_
  refine za_iload_n C 2 rfl rfl dX5_flips_2 ?_
  refine za_iload_n C 3 rfl rfl dX5_flips_3 ?_
  obtain ⟨v11, hc10, hf⟩ := z_bind hf
  refine za_callV (n := 3) (rest := []) C (cX5_isFlip_ok l D ck ad x1 x2 x3 M0 _ hc10) gX5_flips_X5_isFlip rfl rfl rfl (by decide +kernel) ⟨Nat.le_of_ble_eq_true rfl, Nat.le_of_ble_eq_true rfl⟩ 0 rfl rfl rfl rfl rfl (Nat.le_of_ble_eq_true rfl) ⟨Nat.zero_le _, Nat.zero_le _⟩ dX5_flips_4 ?_
  refine za_if_eq C 23 (by decide) dX5_flips_7 (fun q12 => ?_) (fun q12 => ?_)
  · have hf := z_pos q12 hf
    exact za_sub [0, 1, 2, 3, 4, 5, 6] rfl (j_23 x1 x2 x3 x4 x5 x6 M0 hf)
  · have hf := z_neg q12 hf
    refine za_aload_n C 0 rfl rfl dX5_flips_10 ?_
    refine za_iload C 4 rfl dX5_flips_11 ?_
    refine za_iload C 5 rfl dX5_flips_13 ?_
    refine za_iload C 6 rfl dX5_flips_15 ?_
    obtain ⟨v14, hc13, hf⟩ := z_bind hf
    refine za_callV (n := 3) (rest := []) C (cX5_isFlip_ok l D ck ad x4 x5 x6 M0 _ hc13) gX5_flips_X5_isFlip rfl rfl rfl (by decide +kernel) ⟨Nat.le_of_ble_eq_true rfl, Nat.le_of_ble_eq_true rfl⟩ 0 rfl rfl rfl rfl rfl (Nat.le_of_ble_eq_true rfl) ⟨Nat.zero_le _, Nat.zero_le _⟩ dX5_flips_17 ?_
    refine za_if_ne C 26 (by decide) dX5_flips_20 (fun q15 => ?_) (fun q15 => ?_)
    · have hf := z_neg q15 hf
      refine za_iload_n C 1 rfl rfl dX5_flips_26 ?_
      refine za_iload C 4 rfl dX5_flips_27 ?_
      refine za_icmp_ne C 47 (by decide) dX5_flips_29 (fun q16 => ?_) (fun q16 => ?_)
      · have hf := z_neg q16 hf
        exact za_sub [0, 1, 2, 3, 4, 5, 6] rfl (j_47 x1 x2 x3 x4 x5 x6 M0 hf)
      · have hf := z_pos q16 hf
        refine za_iload_n C 2 rfl rfl dX5_flips_32 ?_
        refine za_iload C 5 rfl dX5_flips_33 ?_
        refine za_icmp_ne C 47 (by decide) dX5_flips_35 (fun q17 => ?_) (fun q17 => ?_)
        · have hf := z_neg q17 hf
          exact za_sub [0, 1, 2, 3, 4, 5, 6] rfl (j_47 x1 x2 x3 x4 x5 x6 M0 hf)
        · have hf := z_pos q17 hf
          refine za_iload_n C 3 rfl rfl dX5_flips_38 ?_
          refine za_iload C 6 rfl dX5_flips_39 ?_
          refine za_icmp_ne C 47 (by decide) dX5_flips_41 (fun q18 => ?_) (fun q18 => ?_)
          · have hf := z_neg q18 hf
            exact za_sub [0, 1, 2, 3, 4, 5, 6] rfl (j_47 x1 x2 x3 x4 x5 x6 M0 hf)
          · have hf := z_pos q18 hf
            refine za_bipush (v := (-2 : Int32)) C (by decide) dX5_flips_44 ?_
            obtain ⟨rfl, rfl⟩ := z_ret2 hf
            exact za_iret C F dX5_flips_46
    · have hf := z_pos q15 hf
      exact za_sub [0, 1, 2, 3, 4, 5, 6] rfl (j_23 x1 x2 x3 x4 x5 x6 M0 hf)
theorem in_X5_runEachFlip_X5 : ∀ w ∈ wsX50, w ∈ wsX5_runEachFlip := by decide +kernel
theorem fl_X5_runEachFlip_44 : Cond.fieldLink RX5 44 "ThriceNets" "span" "I" ∈ wsX5_runEachFlip := by decide +kernel
theorem fl_X5_runEachFlip_10 : Cond.fieldLink RX5 10 "ThriceNets" "net" "LThriceNets$Net;" ∈ wsX5_runEachFlip := by decide +kernel
theorem fl_X5_runEachFlip_33 : Cond.fieldLink RX5 33 "ThriceNets" "lanes" "LThriceNets$Lanes;" ∈ wsX5_runEachFlip := by decide +kernel
theorem fl_X5_runEachFlip_26 : Cond.fieldLink RX5 26 "ThriceNets" "plainRun" "LThriceNets$PlainRun;" ∈ wsX5_runEachFlip := by decide +kernel
def B_X5_runEachFlip_26 (n : Nat) (x1 : Int32) (x2 : Int32) (x3 : Int32) (x4 : Int32) (x5 : Int32) (M : zM) : Option ((Int32 × zM) ⊕ (Int32 × zM)) :=
  (pX2_copies x4 M).bind (fun v9 => (if v9 ≤ x5 then (some (.inr (x5, M))) else ((pX0_mark n x3 x4 x5 M).bind (fun N12 => (pX0_close n (N12.1 0 0) N12).bind (fun N14 => zlt (x5 + (1 : Int32)) (fun v15 => some (.inl (v15, N14))))))))
def B_X5_runEachFlip_17 (n : Nat) (x1 : Int32) (x2 : Int32) (x3 : Int32) (x4 : Int32) (M : zM) : Option ((Int32 × zM) ⊕ (Int32 × zM)) :=
  (if x2 ≤ x4 then (some (.inr (x4, M))) else (zlt (0 : Int32) (fun v7 => zb2 (zwl (fun q => B_X5_runEachFlip_26 n x1 x2 x3 x4 q.1 q.2) n (v7, M)) (fun v16 N17 => zlt (x4 + (1 : Int32)) (fun v18 => some (.inl (v18, N17)))))))
def B_X5_runEachFlip_6 (n : Nat) (x1 : Int32) (x2 : Int32) (x3 : Int32) (M : zM) : Option ((Int32 × zM) ⊕ (Int32 × zM)) :=
  (if (M.1 0 0) ≤ x3 then (some (.inr (x3, M))) else (zlt x1 (fun v5 => zb2 (zwl (fun q => B_X5_runEachFlip_17 n x1 x2 x3 q.1 q.2) n (v5, M)) (fun v20 N21 => zlt (x3 + (1 : Int32)) (fun v22 => some (.inl (v22, N21)))))))
def pX5_runEachFlip (n : Nat) (x1 : Int32) (x2 : Int32) (M0 : zM) : Option (zM) :=
  (pX5_startRuns n M0).bind (fun N2 => zlt (0 : Int32) (fun v3 => zb2 (zwl (fun q => B_X5_runEachFlip_6 n x1 x2 q.1 q.2) n (v3, N2)) (fun v24 N25 => (pX0_runAll n (N25.1 0 0) N25).bind (fun N27 => some N27))))
set_option maxHeartbeats 4000000 in
set_option maxRecDepth 100000 in
theorem cX5_runEachFlip_ok (l : Launch) (D : va_G) (ck : Nat → ClassId) (ad : Nat → Nat) (n : Nat) (x1 : Int32) (x2 : Int32) (M0 : zM) (M9 : zM) (hf : pX5_runEachFlip n x1 x2 M0 = some M9) : zc l D ck (wC ad ck) yX5_runEachFlip wsX5_runEachFlip ({ frames := 5, cells := 0, slots := 0, locals := 138 }) [.ref (ad 0), .int x1, .int x2] M0 none M9 := by
  refine zc_of (cc := cX5_runEachFlip) (maxL := 6) (ret := none) [(0, .ref (ad 0)), (1, .int x1), (2, .int x2)] (by decide) rfl (Nat.le_of_ble_eq_true rfl) rfl ?_
  intro p e s m args below meth c A Q C F
  unfold pX5_runEachFlip at hf
  refine za_aload_n C 0 rfl rfl dX5_runEachFlip_0 ?_
  obtain ⟨N2, hc1, hf⟩ := z_bind hf
  refine za_callV (n := 0) (rest := []) C (cX5_startRuns_ok l D ck ad n  M0 _ hc1) gX5_runEachFlip_X5_startRuns rfl rfl rfl (by decide +kernel) ⟨Nat.le_of_ble_eq_true rfl, Nat.le_of_ble_eq_true rfl⟩ 0 rfl rfl rfl rfl rfl (Nat.le_of_ble_eq_true rfl) ⟨Nat.zero_le _, Nat.zero_le _⟩ dX5_runEachFlip_1 ?_
  refine za_iconst (v := (0 : Int32)) C (by decide) dX5_runEachFlip_4 ?_
  obtain ⟨v3, ev3, hf⟩ := z_lt hf
  refine za_istore_n C [(3, .int v3), (0, .ref (ad 0)), (1, .int x1), (2, .int x2)] ev3 (by decide) rfl rfl dX5_runEachFlip_5 ?_
  obtain ⟨v24, N25, hw28, hf⟩ := z_b2 hf
  refine za_sub [1, 2, 3, 0] rfl ?_
  refine z_wl (P := fun q => za_At p l e { frames := 5, cells := 0, slots := 0, locals := 138 } s m args below meth c D A 6 0 0 Q 6 [(0, .ref (ad 0)), (1, .int x1), (2, .int x2), (3, .int q.1)] [] (wC ad ck q.2)) (E := fun q => za_At p l e { frames := 5, cells := 0, slots := 0, locals := 138 } s m args below meth c D A 6 0 0 Q 93 [(0, .ref (ad 0)), (1, .int x1), (2, .int x2), (3, .int q.1)] [] (wC ad ck q.2)) ?_ ?_ _ _ hw28
  · intro q o hf hN hE
    obtain ⟨x3, M⟩ := q
    have hf : B_X5_runEachFlip_6 n x1 x2 x3 M = some o := hf
    unfold B_X5_runEachFlip_6 at hf
    refine za_iload_n C 3 rfl rfl dX5_runEachFlip_6 ?_
    refine za_aload_n C 0 rfl rfl dX5_runEachFlip_7 ?_
    refine zg_C0_5 C in_X5_runEachFlip_X5 fl_X5_runEachFlip_44 dX5_runEachFlip_8 ?_
    refine za_icmp_ge C 93 (by decide) dX5_runEachFlip_11 (fun q4 => ?_) (fun q4 => ?_)
    · have hf := z_pos q4 hf
      exact za_sub [0, 1, 2, 3] rfl (hE _ (z_inj hf))
    · have hf := z_neg q4 hf
      refine za_iload_n C 1 rfl rfl dX5_runEachFlip_14 ?_
      obtain ⟨v5, ev5, hf⟩ := z_lt hf
      refine za_istore C [(4, .int v5), (0, .ref (ad 0)), (1, .int x1), (2, .int x2), (3, .int x3)] ev5 (by decide) rfl dX5_runEachFlip_15 ?_
      obtain ⟨v20, N21, hw23, hf⟩ := z_b2 hf
      refine za_sub [1, 2, 3, 4, 0] rfl ?_
      refine z_wl (P := fun q => za_At p l e { frames := 5, cells := 0, slots := 0, locals := 138 } s m args below meth c D A 6 0 0 Q 17 [(0, .ref (ad 0)), (1, .int x1), (2, .int x2), (3, .int x3), (4, .int q.1)] [] (wC ad ck q.2)) (E := fun q => za_At p l e { frames := 5, cells := 0, slots := 0, locals := 138 } s m args below meth c D A 6 0 0 Q 87 [(0, .ref (ad 0)), (1, .int x1), (2, .int x2), (3, .int x3), (4, .int q.1)] [] (wC ad ck q.2)) ?_ ?_ _ _ hw23
      · intro q o hf hN hE
        obtain ⟨x4, M⟩ := q
        have hf : B_X5_runEachFlip_17 n x1 x2 x3 x4 M = some o := hf
        unfold B_X5_runEachFlip_17 at hf
        refine za_iload C 4 rfl dX5_runEachFlip_17 ?_
        refine za_iload_n C 2 rfl rfl dX5_runEachFlip_19 ?_
        refine za_icmp_ge C 87 (by decide) dX5_runEachFlip_20 (fun q6 => ?_) (fun q6 => ?_)
        · have hf := z_pos q6 hf
          exact za_sub [0, 1, 2, 3, 4] rfl (hE _ (z_inj hf))
        · have hf := z_neg q6 hf
          refine za_iconst (v := (0 : Int32)) C (by decide) dX5_runEachFlip_23 ?_
          obtain ⟨v7, ev7, hf⟩ := z_lt hf
          refine za_istore C [(5, .int v7), (0, .ref (ad 0)), (1, .int x1), (2, .int x2), (3, .int x3), (4, .int x4)] ev7 (by decide) rfl dX5_runEachFlip_24 ?_
          obtain ⟨v16, N17, hw19, hf⟩ := z_b2 hf
          refine za_sub [1, 2, 3, 4, 5, 0] rfl ?_
          refine z_wl (P := fun q => za_At p l e { frames := 5, cells := 0, slots := 0, locals := 138 } s m args below meth c D A 6 0 0 Q 26 [(0, .ref (ad 0)), (1, .int x1), (2, .int x2), (3, .int x3), (4, .int x4), (5, .int q.1)] [] (wC ad ck q.2)) (E := fun q => za_At p l e { frames := 5, cells := 0, slots := 0, locals := 138 } s m args below meth c D A 6 0 0 Q 81 [(0, .ref (ad 0)), (1, .int x1), (2, .int x2), (3, .int x3), (4, .int x4), (5, .int q.1)] [] (wC ad ck q.2)) ?_ ?_ _ _ hw19
          · intro q o hf hN hE
            obtain ⟨x5, M⟩ := q
            have hf : B_X5_runEachFlip_26 n x1 x2 x3 x4 x5 M = some o := hf
            unfold B_X5_runEachFlip_26 at hf
            refine za_iload C 5 rfl dX5_runEachFlip_26 ?_
            refine za_aload_n C 0 rfl rfl dX5_runEachFlip_28 ?_
            refine zg_C0_0 C in_X5_runEachFlip_X5 fl_X5_runEachFlip_10 dX5_runEachFlip_29 ?_
            refine za_iload C 4 rfl dX5_runEachFlip_32 ?_
            obtain ⟨v9, hc8, hf⟩ := z_bind hf
            refine za_callV (n := 1) (rest := [.int x5]) C (cX2_copies_ok l D ck ad x4 M _ hc8) gX5_runEachFlip_X2_copies rfl rfl rfl (by decide +kernel) ⟨Nat.le_of_ble_eq_true rfl, Nat.le_of_ble_eq_true rfl⟩ 1 rfl rfl rfl rfl rfl (Nat.le_of_ble_eq_true rfl) ⟨Nat.zero_le _, Nat.zero_le _⟩ dX5_runEachFlip_34 ?_
            refine za_icmp_ge C 81 (by decide) dX5_runEachFlip_37 (fun q10 => ?_) (fun q10 => ?_)
            · have hf := z_pos q10 hf
              exact za_sub [0, 1, 2, 3, 4, 5] rfl (hE _ (z_inj hf))
            · have hf := z_neg q10 hf
              refine za_aload_n C 0 rfl rfl dX5_runEachFlip_40 ?_
              refine zg_C0_3 C in_X5_runEachFlip_X5 fl_X5_runEachFlip_33 dX5_runEachFlip_41 ?_
              refine za_aload_n C 0 rfl rfl dX5_runEachFlip_44 ?_
              refine zg_C0_0 C in_X5_runEachFlip_X5 fl_X5_runEachFlip_10 dX5_runEachFlip_45 ?_
              refine za_iload_n C 3 rfl rfl dX5_runEachFlip_48 ?_
              refine za_iload C 4 rfl dX5_runEachFlip_49 ?_
              refine za_iload C 5 rfl dX5_runEachFlip_51 ?_
              obtain ⟨N12, hc11, hf⟩ := z_bind hf
              refine za_callV (n := 4) (rest := []) C (cX0_mark_ok l D ck ad n x3 x4 x5 M _ hc11) gX5_runEachFlip_X0_mark rfl rfl rfl (by decide +kernel) ⟨Nat.le_of_ble_eq_true rfl, Nat.le_of_ble_eq_true rfl⟩ 4 rfl rfl rfl rfl rfl (Nat.le_of_ble_eq_true rfl) ⟨Nat.zero_le _, Nat.zero_le _⟩ dX5_runEachFlip_53 ?_
              refine za_aload_n C 0 rfl rfl dX5_runEachFlip_56 ?_
              refine zg_C0_3 C in_X5_runEachFlip_X5 fl_X5_runEachFlip_33 dX5_runEachFlip_57 ?_
              refine za_aload_n C 0 rfl rfl dX5_runEachFlip_60 ?_
              refine zg_C0_0 C in_X5_runEachFlip_X5 fl_X5_runEachFlip_10 dX5_runEachFlip_61 ?_
              refine za_aload_n C 0 rfl rfl dX5_runEachFlip_64 ?_
              refine zg_C0_2 C in_X5_runEachFlip_X5 fl_X5_runEachFlip_26 dX5_runEachFlip_65 ?_
              refine za_aload_n C 0 rfl rfl dX5_runEachFlip_68 ?_
              refine zg_C0_5 C in_X5_runEachFlip_X5 fl_X5_runEachFlip_44 dX5_runEachFlip_69 ?_
              obtain ⟨N14, hc13, hf⟩ := z_bind hf
              refine za_callV (n := 3) (rest := []) C (cX0_close_ok l D ck ad n (N12.1 0 0) N12 _ hc13) gX5_runEachFlip_X0_close rfl rfl rfl (by decide +kernel) ⟨Nat.le_of_ble_eq_true rfl, Nat.le_of_ble_eq_true rfl⟩ 4 rfl rfl rfl rfl rfl (Nat.le_of_ble_eq_true rfl) ⟨Nat.zero_le _, Nat.zero_le _⟩ dX5_runEachFlip_72 ?_
              obtain ⟨v15, ev15, hf⟩ := z_lt hf
              refine za_iinc (k9 := (1 : Int32)) C [(5, .int v15), (0, .ref (ad 0)), (1, .int x1), (2, .int x2), (3, .int x3), (4, .int x4)] 5 rfl (by decide) ev15 (by decide) rfl dX5_runEachFlip_75 ?_
              refine za_goto C 26 (by decide) dX5_runEachFlip_78 ?_
              exact za_sub [1, 2, 3, 4, 5, 0] rfl (hN _ (z_inj hf))
          · show za_At p l e { frames := 5, cells := 0, slots := 0, locals := 138 } s m args below meth c D A 6 0 0 Q 81 [(0, .ref (ad 0)), (1, .int x1), (2, .int x2), (3, .int x3), (4, .int x4), (5, .int v16)] [] (wC ad ck N17)
            obtain ⟨v18, ev18, hf⟩ := z_lt hf
            refine za_iinc (k9 := (1 : Int32)) C [(4, .int v18), (0, .ref (ad 0)), (1, .int x1), (2, .int x2), (3, .int x3), (5, .int v16)] 4 rfl (by decide) ev18 (by decide) rfl dX5_runEachFlip_81 ?_
            refine za_goto C 17 (by decide) dX5_runEachFlip_84 ?_
            exact za_sub [1, 2, 3, 4, 0] rfl (hN _ (z_inj hf))
      · show za_At p l e { frames := 5, cells := 0, slots := 0, locals := 138 } s m args below meth c D A 6 0 0 Q 87 [(0, .ref (ad 0)), (1, .int x1), (2, .int x2), (3, .int x3), (4, .int v20)] [] (wC ad ck N21)
        obtain ⟨v22, ev22, hf⟩ := z_lt hf
        refine za_iinc (k9 := (1 : Int32)) C [(3, .int v22), (0, .ref (ad 0)), (1, .int x1), (2, .int x2), (4, .int v20)] 3 rfl (by decide) ev22 (by decide) rfl dX5_runEachFlip_87 ?_
        refine za_goto C 6 (by decide) dX5_runEachFlip_90 ?_
        exact za_sub [1, 2, 3, 0] rfl (hN _ (z_inj hf))
  · show za_At p l e { frames := 5, cells := 0, slots := 0, locals := 138 } s m args below meth c D A 6 0 0 Q 93 [(0, .ref (ad 0)), (1, .int x1), (2, .int x2), (3, .int v24)] [] (wC ad ck N25)
    refine za_aload_n C 0 rfl rfl dX5_runEachFlip_93 ?_
    refine zg_C0_3 C in_X5_runEachFlip_X5 fl_X5_runEachFlip_33 dX5_runEachFlip_94 ?_
    refine za_aload_n C 0 rfl rfl dX5_runEachFlip_97 ?_
    refine zg_C0_0 C in_X5_runEachFlip_X5 fl_X5_runEachFlip_10 dX5_runEachFlip_98 ?_
    refine za_aload_n C 0 rfl rfl dX5_runEachFlip_101 ?_
    refine zg_C0_2 C in_X5_runEachFlip_X5 fl_X5_runEachFlip_26 dX5_runEachFlip_102 ?_
    refine za_aload_n C 0 rfl rfl dX5_runEachFlip_105 ?_
    refine zg_C0_5 C in_X5_runEachFlip_X5 fl_X5_runEachFlip_44 dX5_runEachFlip_106 ?_
    obtain ⟨N27, hc26, hf⟩ := z_bind hf
    refine za_callV (n := 3) (rest := []) C (cX0_runAll_ok l D ck ad n (N25.1 0 0) N25 _ hc26) gX5_runEachFlip_X0_runAll rfl rfl rfl (by decide +kernel) ⟨Nat.le_of_ble_eq_true rfl, Nat.le_of_ble_eq_true rfl⟩ 4 rfl rfl rfl rfl rfl (Nat.le_of_ble_eq_true rfl) ⟨Nat.zero_le _, Nat.zero_le _⟩ dX5_runEachFlip_109 ?_
    obtain rfl := z_ret1 hf
    exact za_vret C F dX5_runEachFlip_112
theorem in_X5_many_X5 : ∀ w ∈ wsX50, w ∈ wsX5_many := by decide +kernel
theorem fl_X5_many_10 : Cond.fieldLink RX5 10 "ThriceNets" "net" "LThriceNets$Net;" ∈ wsX5_many := by decide +kernel
theorem in_X5_many_X2 : ∀ w ∈ wsX20, w ∈ wsX5_many := by decide +kernel
theorem fl_X5_many_55 : Cond.fieldLink RX5 55 "ThriceNets$Net" "size" "I" ∈ wsX5_many := by decide +kernel
theorem fl_X5_many_33 : Cond.fieldLink RX5 33 "ThriceNets" "lanes" "LThriceNets$Lanes;" ∈ wsX5_many := by decide +kernel
theorem in_X5_many_X0 : ∀ w ∈ wsX00, w ∈ wsX5_many := by decide +kernel
theorem fl_X5_many_125 : Cond.fieldLink RX5 125 "ThriceNets$Lanes" "found" "[I" ∈ wsX5_many := by decide +kernel
def K_X5_many_9 (n : Nat) (x1 : Int32) (M : zM) : Option (Int32 × zM) :=
  some ((-2 : Int32), M)
def pX5_many (n : Nat) (x1 : Int32) (M0 : zM) : Option (Int32 × zM) :=
  (if x1 < 0 then (K_X5_many_9 n x1 M0) else (if x1 < (4 : Int32) then ((pX5_runEachFlip n (0 : Int32) (M0.1 2 0) M0).bind (fun N4 => zchk x1 4 (some ((N4.1 24 x1.toNatClampNeg), N4)))) else (K_X5_many_9 n x1 M0)))
set_option maxHeartbeats 4000000 in
set_option maxRecDepth 100000 in
theorem cX5_many_ok (l : Launch) (D : va_G) (ck : Nat → ClassId) (ad : Nat → Nat) (n : Nat) (x1 : Int32) (M0 : zM) (r9 : Int32) (M9 : zM) (hf : pX5_many n x1 M0 = some (r9, M9)) : zc l D ck (wC ad ck) yX5_many wsX5_many ({ frames := 6, cells := 0, slots := 0, locals := 163 }) [.ref (ad 0), .int x1] M0 (some (.int r9)) M9 := by
  refine zc_of (cc := cX5_many) (maxL := 2) (ret := (some .int)) [(0, .ref (ad 0)), (1, .int x1)] (by decide) rfl (Nat.le_of_ble_eq_true rfl) rfl ?_
  intro p e s m args below meth c A Q C F
  have j_9 : ∀ (x1 : Int32) (M : zM), K_X5_many_9 n x1 M = some (r9, M9) → za_At p l e { frames := 6, cells := 0, slots := 0, locals := 163 } s m args below meth c D A 2 0 0 Q 9 [(0, .ref (ad 0)), (1, .int x1)] [] (wC ad ck M) := by
    intro x1 M hf
    unfold K_X5_many_9 at hf
    refine za_bipush (v := (-2 : Int32)) C (by decide) dX5_many_9 ?_
    obtain ⟨rfl, rfl⟩ := z_ret2 hf
    exact za_iret C F dX5_many_11
  unfold pX5_many at hf
  refine za_iload_n C 1 rfl rfl dX5_many_0 ?_
  refine za_if_lt C 9 (by decide) dX5_many_1 (fun q1 => ?_) (fun q1 => ?_)
  · have hf := z_pos q1 hf
    exact za_sub [0, 1] rfl (j_9 x1 M0 hf)
  · have hf := z_neg q1 hf
    refine za_iload_n C 1 rfl rfl dX5_many_4 ?_
    refine za_iconst (v := (4 : Int32)) C (by decide) dX5_many_5 ?_
    refine za_icmp_lt C 12 (by decide) dX5_many_6 (fun q2 => ?_) (fun q2 => ?_)
    · have hf := z_pos q2 hf
      refine za_aload_n C 0 rfl rfl dX5_many_12 ?_
      refine za_iconst (v := (0 : Int32)) C (by decide) dX5_many_13 ?_
      refine za_aload_n C 0 rfl rfl dX5_many_14 ?_
      refine zg_C0_0 C in_X5_many_X5 fl_X5_many_10 dX5_many_15 ?_
      refine zg_C1_0 C in_X5_many_X2 fl_X5_many_55 dX5_many_18 ?_
      obtain ⟨N4, hc3, hf⟩ := z_bind hf
      refine za_callV (n := 2) (rest := []) C (cX5_runEachFlip_ok l D ck ad n (0 : Int32) (M0.1 2 0) M0 _ hc3) gX5_many_X5_runEachFlip rfl rfl rfl (by decide +kernel) ⟨Nat.le_of_ble_eq_true rfl, Nat.le_of_ble_eq_true rfl⟩ 0 rfl rfl rfl rfl rfl (Nat.le_of_ble_eq_true rfl) ⟨Nat.zero_le _, Nat.zero_le _⟩ dX5_many_21 ?_
      refine za_aload_n C 0 rfl rfl dX5_many_24 ?_
      refine zg_C0_3 C in_X5_many_X5 fl_X5_many_33 dX5_many_25 ?_
      refine zg_C4_4 C in_X5_many_X0 fl_X5_many_125 dX5_many_28 ?_
      refine za_iload_n C 1 rfl rfl dX5_many_31 ?_
      obtain ⟨h5, hf⟩ := z_chk hf
      refine zl_C28 C h5 dX5_many_32 ?_
      obtain ⟨rfl, rfl⟩ := z_ret2 hf
      exact za_iret C F dX5_many_33
    · have hf := z_neg q2 hf
      exact za_sub [0, 1] rfl (j_9 x1 M0 hf)
theorem in_X5_first_X5 : ∀ w ∈ wsX50, w ∈ wsX5_first := by decide +kernel
theorem fl_X5_first_10 : Cond.fieldLink RX5 10 "ThriceNets" "net" "LThriceNets$Net;" ∈ wsX5_first := by decide +kernel
theorem in_X5_first_X2 : ∀ w ∈ wsX20, w ∈ wsX5_first := by decide +kernel
theorem fl_X5_first_55 : Cond.fieldLink RX5 55 "ThriceNets$Net" "size" "I" ∈ wsX5_first := by decide +kernel
theorem fl_X5_first_33 : Cond.fieldLink RX5 33 "ThriceNets" "lanes" "LThriceNets$Lanes;" ∈ wsX5_first := by decide +kernel
theorem in_X5_first_X0 : ∀ w ∈ wsX00, w ∈ wsX5_first := by decide +kernel
theorem fl_X5_first_128 : Cond.fieldLink RX5 128 "ThriceNets$Lanes" "firstSeen" "I" ∈ wsX5_first := by decide +kernel
def pX5_first (n : Nat) (M0 : zM) : Option (Int32 × zM) :=
  (pX5_runEachFlip n (0 : Int32) (M0.1 2 0) M0).bind (fun N2 => some ((N2.1 7 0), N2))
set_option maxHeartbeats 4000000 in
set_option maxRecDepth 100000 in
theorem cX5_first_ok (l : Launch) (D : va_G) (ck : Nat → ClassId) (ad : Nat → Nat) (n : Nat) (M0 : zM) (r9 : Int32) (M9 : zM) (hf : pX5_first n M0 = some (r9, M9)) : zc l D ck (wC ad ck) yX5_first wsX5_first ({ frames := 6, cells := 0, slots := 0, locals := 163 }) [.ref (ad 0)] M0 (some (.int r9)) M9 := by
  refine zc_of (cc := cX5_first) (maxL := 1) (ret := (some .int)) [(0, .ref (ad 0))] (by decide) rfl (Nat.le_of_ble_eq_true rfl) rfl ?_
  intro p e s m args below meth c A Q C F
  unfold pX5_first at hf
  refine za_aload_n C 0 rfl rfl dX5_first_0 ?_
  refine za_iconst (v := (0 : Int32)) C (by decide) dX5_first_1 ?_
  refine za_aload_n C 0 rfl rfl dX5_first_2 ?_
  refine zg_C0_0 C in_X5_first_X5 fl_X5_first_10 dX5_first_3 ?_
  refine zg_C1_0 C in_X5_first_X2 fl_X5_first_55 dX5_first_6 ?_
  obtain ⟨N2, hc1, hf⟩ := z_bind hf
  refine za_callV (n := 2) (rest := []) C (cX5_runEachFlip_ok l D ck ad n (0 : Int32) (M0.1 2 0) M0 _ hc1) gX5_first_X5_runEachFlip rfl rfl rfl (by decide +kernel) ⟨Nat.le_of_ble_eq_true rfl, Nat.le_of_ble_eq_true rfl⟩ 0 rfl rfl rfl rfl rfl (Nat.le_of_ble_eq_true rfl) ⟨Nat.zero_le _, Nat.zero_le _⟩ dX5_first_9 ?_
  refine za_aload_n C 0 rfl rfl dX5_first_12 ?_
  refine zg_C0_3 C in_X5_first_X5 fl_X5_first_33 dX5_first_13 ?_
  refine zg_C4_6 C in_X5_first_X0 fl_X5_first_128 dX5_first_16 ?_
  obtain ⟨rfl, rfl⟩ := z_ret2 hf
  exact za_iret C F dX5_first_19
theorem in_X5_masked_X5 : ∀ w ∈ wsX50, w ∈ wsX5_masked := by decide +kernel
theorem fl_X5_masked_10 : Cond.fieldLink RX5 10 "ThriceNets" "net" "LThriceNets$Net;" ∈ wsX5_masked := by decide +kernel
theorem fl_X5_masked_33 : Cond.fieldLink RX5 33 "ThriceNets" "lanes" "LThriceNets$Lanes;" ∈ wsX5_masked := by decide +kernel
def pX5_masked (n : Nat) (x1 : Int32) (M0 : zM) : Option (Int32 × zM) :=
  (pX2_isNode x1 M0).bind (fun v2 => (if v2 = 0 then (some ((-2 : Int32), M0)) else ((pX5_runEachFlip n x1 (x1 + (1 : Int32)) M0).bind (fun N5 => (pX0_allSeen N5).bind (fun v7 => (if v7 = 0 then (some ((1 : Int32), N5)) else (some ((0 : Int32), N5))))))))
set_option maxHeartbeats 4000000 in
set_option maxRecDepth 100000 in
theorem cX5_masked_ok (l : Launch) (D : va_G) (ck : Nat → ClassId) (ad : Nat → Nat) (n : Nat) (x1 : Int32) (M0 : zM) (r9 : Int32) (M9 : zM) (hf : pX5_masked n x1 M0 = some (r9, M9)) : zc l D ck (wC ad ck) yX5_masked wsX5_masked ({ frames := 6, cells := 0, slots := 0, locals := 163 }) [.ref (ad 0), .int x1] M0 (some (.int r9)) M9 := by
  refine zc_of (cc := cX5_masked) (maxL := 2) (ret := (some .int)) [(0, .ref (ad 0)), (1, .int x1)] (by decide) rfl (Nat.le_of_ble_eq_true rfl) rfl ?_
  intro p e s m args below meth c A Q C F
  unfold pX5_masked at hf
  refine za_aload_n C 0 rfl rfl dX5_masked_0 ?_
  refine zg_C0_0 C in_X5_masked_X5 fl_X5_masked_10 dX5_masked_1 ?_
  refine za_iload_n C 1 rfl rfl dX5_masked_4 ?_
  obtain ⟨v2, hc1, hf⟩ := z_bind hf
  refine za_callV (n := 1) (rest := []) C (cX2_isNode_ok l D ck ad x1 M0 _ hc1) gX5_masked_X2_isNode rfl rfl rfl (by decide +kernel) ⟨Nat.le_of_ble_eq_true rfl, Nat.le_of_ble_eq_true rfl⟩ 1 rfl rfl rfl rfl rfl (Nat.le_of_ble_eq_true rfl) ⟨Nat.zero_le _, Nat.zero_le _⟩ dX5_masked_5 ?_
  refine za_if_ne C 14 (by decide) dX5_masked_8 (fun q3 => ?_) (fun q3 => ?_)
  · have hf := z_neg q3 hf
    refine za_aload_n C 0 rfl rfl dX5_masked_14 ?_
    refine za_iload_n C 1 rfl rfl dX5_masked_15 ?_
    refine za_iload_n C 1 rfl rfl dX5_masked_16 ?_
    refine za_iconst (v := (1 : Int32)) C (by decide) dX5_masked_17 ?_
    refine za_iadd C dX5_masked_18 ?_
    obtain ⟨N5, hc4, hf⟩ := z_bind hf
    refine za_callV (n := 2) (rest := []) C (cX5_runEachFlip_ok l D ck ad n x1 (x1 + (1 : Int32)) M0 _ hc4) gX5_masked_X5_runEachFlip rfl rfl rfl (by decide +kernel) ⟨Nat.le_of_ble_eq_true rfl, Nat.le_of_ble_eq_true rfl⟩ 0 rfl rfl rfl rfl rfl (Nat.le_of_ble_eq_true rfl) ⟨Nat.zero_le _, Nat.zero_le _⟩ dX5_masked_19 ?_
    refine za_aload_n C 0 rfl rfl dX5_masked_22 ?_
    refine zg_C0_3 C in_X5_masked_X5 fl_X5_masked_33 dX5_masked_23 ?_
    obtain ⟨v7, hc6, hf⟩ := z_bind hf
    refine za_callV (n := 0) (rest := []) C (cX0_allSeen_ok l D ck ad  N5 _ hc6) gX5_masked_X0_allSeen rfl rfl rfl (by decide +kernel) ⟨Nat.le_of_ble_eq_true rfl, Nat.le_of_ble_eq_true rfl⟩ 4 rfl rfl rfl rfl rfl (Nat.le_of_ble_eq_true rfl) ⟨Nat.zero_le _, Nat.zero_le _⟩ dX5_masked_26 ?_
    refine za_if_ne C 36 (by decide) dX5_masked_29 (fun q8 => ?_) (fun q8 => ?_)
    · have hf := z_neg q8 hf
      refine za_iconst (v := (0 : Int32)) C (by decide) dX5_masked_36 ?_
      obtain ⟨rfl, rfl⟩ := z_ret2 hf
      exact za_iret C F dX5_masked_37
    · have hf := z_pos q8 hf
      refine za_iconst (v := (1 : Int32)) C (by decide) dX5_masked_32 ?_
      refine za_goto C 37 (by decide) dX5_masked_33 ?_
      obtain ⟨rfl, rfl⟩ := z_ret2 hf
      exact za_iret C F dX5_masked_37
  · have hf := z_pos q3 hf
    refine za_bipush (v := (-2 : Int32)) C (by decide) dX5_masked_11 ?_
    obtain ⟨rfl, rfl⟩ := z_ret2 hf
    exact za_iret C F dX5_masked_13
theorem in_X5_runEachPair_X5 : ∀ w ∈ wsX50, w ∈ wsX5_runEachPair := by decide +kernel
theorem fl_X5_runEachPair_10 : Cond.fieldLink RX5 10 "ThriceNets" "net" "LThriceNets$Net;" ∈ wsX5_runEachPair := by decide +kernel
theorem in_X5_runEachPair_X2 : ∀ w ∈ wsX20, w ∈ wsX5_runEachPair := by decide +kernel
theorem fl_X5_runEachPair_55 : Cond.fieldLink RX5 55 "ThriceNets$Net" "size" "I" ∈ wsX5_runEachPair := by decide +kernel
theorem fl_X5_runEachPair_33 : Cond.fieldLink RX5 33 "ThriceNets" "lanes" "LThriceNets$Lanes;" ∈ wsX5_runEachPair := by decide +kernel
theorem fl_X5_runEachPair_26 : Cond.fieldLink RX5 26 "ThriceNets" "plainRun" "LThriceNets$PlainRun;" ∈ wsX5_runEachPair := by decide +kernel
theorem fl_X5_runEachPair_44 : Cond.fieldLink RX5 44 "ThriceNets" "span" "I" ∈ wsX5_runEachPair := by decide +kernel
def K_X5_runEachPair_88 (n : Nat) (x1 : Int32) (x2 : Int32) (x3 : Int32) (M : zM) : Option ((Int32 × zM) ⊕ (Int32 × zM)) :=
  zlt (x3 + (1 : Int32)) (fun v2 => some (.inl (v2, M)))
def B_X5_runEachPair_4 (n : Nat) (x1 : Int32) (x2 : Int32) (x3 : Int32) (M : zM) : Option ((Int32 × zM) ⊕ (Int32 × zM)) :=
  (if ((M.1 2 0) * (3 : Int32)) ≤ x3 then (some (.inr (x3, M))) else ((pX2_isCopy (x3 / (3 : Int32)) (x3 - x3 / (3 : Int32) * (3 : Int32)) M).bind (fun v5 => (if v5 = 0 then (K_X5_runEachPair_88 n x1 x2 x3 M) else ((pX0_mark n x1 (x2 / (3 : Int32)) (x2 - x2 / (3 : Int32) * (3 : Int32)) M).bind (fun N8 => (pX0_mark n x1 (x3 / (3 : Int32)) (x3 - x3 / (3 : Int32) * (3 : Int32)) N8).bind (fun N10 => (pX0_close n (N10.1 0 0) N10).bind (fun N12 => K_X5_runEachPair_88 n x1 x2 x3 N12))))))))
def pX5_runEachPair (n : Nat) (x1 : Int32) (x2 : Int32) (M0 : zM) : Option (zM) :=
  zlt (x2 + (1 : Int32)) (fun v1 => zb2 (zwl (fun q => B_X5_runEachPair_4 n x1 x2 q.1 q.2) n (v1, M0)) (fun v13 N14 => some N14))
set_option maxHeartbeats 4000000 in
set_option maxRecDepth 100000 in
theorem cX5_runEachPair_ok (l : Launch) (D : va_G) (ck : Nat → ClassId) (ad : Nat → Nat) (n : Nat) (x1 : Int32) (x2 : Int32) (M0 : zM) (M9 : zM) (hf : pX5_runEachPair n x1 x2 M0 = some M9) : zc l D ck (wC ad ck) yX5_runEachPair wsX5_runEachPair ({ frames := 5, cells := 0, slots := 0, locals := 138 }) [.ref (ad 0), .int x1, .int x2] M0 none M9 := by
  refine zc_of (cc := cX5_runEachPair) (maxL := 4) (ret := none) [(0, .ref (ad 0)), (1, .int x1), (2, .int x2)] (by decide) rfl (Nat.le_of_ble_eq_true rfl) rfl ?_
  intro p e s m args below meth c A Q C F
  unfold pX5_runEachPair at hf
  refine za_iload_n C 2 rfl rfl dX5_runEachPair_0 ?_
  refine za_iconst (v := (1 : Int32)) C (by decide) dX5_runEachPair_1 ?_
  refine za_iadd C dX5_runEachPair_2 ?_
  obtain ⟨v1, ev1, hf⟩ := z_lt hf
  refine za_istore_n C [(3, .int v1), (0, .ref (ad 0)), (1, .int x1), (2, .int x2)] ev1 (by decide) rfl rfl dX5_runEachPair_3 ?_
  obtain ⟨v13, N14, hw15, hf⟩ := z_b2 hf
  refine za_sub [1, 2, 3, 0] rfl ?_
  refine z_wl (P := fun q => za_At p l e { frames := 5, cells := 0, slots := 0, locals := 138 } s m args below meth c D A 4 0 0 Q 4 [(0, .ref (ad 0)), (1, .int x1), (2, .int x2), (3, .int q.1)] [] (wC ad ck q.2)) (E := fun q => za_At p l e { frames := 5, cells := 0, slots := 0, locals := 138 } s m args below meth c D A 4 0 0 Q 94 [(0, .ref (ad 0)), (1, .int x1), (2, .int x2), (3, .int q.1)] [] (wC ad ck q.2)) ?_ ?_ _ _ hw15
  · intro q o hf hN hE
    obtain ⟨x3, M⟩ := q
    have hf : B_X5_runEachPair_4 n x1 x2 x3 M = some o := hf
    unfold B_X5_runEachPair_4 at hf
    have j_88 : ∀ (x3 : Int32) (M : zM), K_X5_runEachPair_88 n x1 x2 x3 M = some o → za_At p l e { frames := 5, cells := 0, slots := 0, locals := 138 } s m args below meth c D A 4 0 0 Q 88 [(0, .ref (ad 0)), (1, .int x1), (2, .int x2), (3, .int x3)] [] (wC ad ck M) := by
      intro x3 M hf
      unfold K_X5_runEachPair_88 at hf
      obtain ⟨v2, ev2, hf⟩ := z_lt hf
      refine za_iinc (k9 := (1 : Int32)) C [(3, .int v2), (0, .ref (ad 0)), (1, .int x1), (2, .int x2)] 3 rfl (by decide) ev2 (by decide) rfl dX5_runEachPair_88 ?_
      refine za_goto C 4 (by decide) dX5_runEachPair_91 ?_
      exact za_sub [1, 2, 3, 0] rfl (hN _ (z_inj hf))
    refine za_iload_n C 3 rfl rfl dX5_runEachPair_4 ?_
    refine za_aload_n C 0 rfl rfl dX5_runEachPair_5 ?_
    refine zg_C0_0 C in_X5_runEachPair_X5 fl_X5_runEachPair_10 dX5_runEachPair_6 ?_
    refine zg_C1_0 C in_X5_runEachPair_X2 fl_X5_runEachPair_55 dX5_runEachPair_9 ?_
    refine za_iconst (v := (3 : Int32)) C (by decide) dX5_runEachPair_12 ?_
    refine za_imul C dX5_runEachPair_13 ?_
    refine za_icmp_ge C 94 (by decide) dX5_runEachPair_14 (fun q3 => ?_) (fun q3 => ?_)
    · have hf := z_pos q3 hf
      exact za_sub [0, 1, 2, 3] rfl (hE _ (z_inj hf))
    · have hf := z_neg q3 hf
      refine za_aload_n C 0 rfl rfl dX5_runEachPair_17 ?_
      refine zg_C0_0 C in_X5_runEachPair_X5 fl_X5_runEachPair_10 dX5_runEachPair_18 ?_
      refine za_iload_n C 3 rfl rfl dX5_runEachPair_21 ?_
      refine za_iconst (v := (3 : Int32)) C (by decide) dX5_runEachPair_22 ?_
      refine za_idiv C (by decide) dX5_runEachPair_23 ?_
      refine za_iload_n C 3 rfl rfl dX5_runEachPair_24 ?_
      refine za_iconst (v := (3 : Int32)) C (by decide) dX5_runEachPair_25 ?_
      refine za_irem C (by decide) dX5_runEachPair_26 ?_
      obtain ⟨v5, hc4, hf⟩ := z_bind hf
      refine za_callV (n := 2) (rest := []) C (cX2_isCopy_ok l D ck ad (x3 / (3 : Int32)) (x3 - x3 / (3 : Int32) * (3 : Int32)) M _ hc4) gX5_runEachPair_X2_isCopy rfl rfl rfl (by decide +kernel) ⟨Nat.le_of_ble_eq_true rfl, Nat.le_of_ble_eq_true rfl⟩ 1 rfl rfl rfl rfl rfl (Nat.le_of_ble_eq_true rfl) ⟨Nat.zero_le _, Nat.zero_le _⟩ dX5_runEachPair_27 ?_
      refine za_if_eq C 88 (by decide) dX5_runEachPair_30 (fun q6 => ?_) (fun q6 => ?_)
      · have hf := z_pos q6 hf
        exact za_sub [0, 1, 2, 3] rfl (j_88 x3 M hf)
      · have hf := z_neg q6 hf
        refine za_aload_n C 0 rfl rfl dX5_runEachPair_33 ?_
        refine zg_C0_3 C in_X5_runEachPair_X5 fl_X5_runEachPair_33 dX5_runEachPair_34 ?_
        refine za_aload_n C 0 rfl rfl dX5_runEachPair_37 ?_
        refine zg_C0_0 C in_X5_runEachPair_X5 fl_X5_runEachPair_10 dX5_runEachPair_38 ?_
        refine za_iload_n C 1 rfl rfl dX5_runEachPair_41 ?_
        refine za_iload_n C 2 rfl rfl dX5_runEachPair_42 ?_
        refine za_iconst (v := (3 : Int32)) C (by decide) dX5_runEachPair_43 ?_
        refine za_idiv C (by decide) dX5_runEachPair_44 ?_
        refine za_iload_n C 2 rfl rfl dX5_runEachPair_45 ?_
        refine za_iconst (v := (3 : Int32)) C (by decide) dX5_runEachPair_46 ?_
        refine za_irem C (by decide) dX5_runEachPair_47 ?_
        obtain ⟨N8, hc7, hf⟩ := z_bind hf
        refine za_callV (n := 4) (rest := []) C (cX0_mark_ok l D ck ad n x1 (x2 / (3 : Int32)) (x2 - x2 / (3 : Int32) * (3 : Int32)) M _ hc7) gX5_runEachPair_X0_mark rfl rfl rfl (by decide +kernel) ⟨Nat.le_of_ble_eq_true rfl, Nat.le_of_ble_eq_true rfl⟩ 4 rfl rfl rfl rfl rfl (Nat.le_of_ble_eq_true rfl) ⟨Nat.zero_le _, Nat.zero_le _⟩ dX5_runEachPair_48 ?_
        refine za_aload_n C 0 rfl rfl dX5_runEachPair_51 ?_
        refine zg_C0_3 C in_X5_runEachPair_X5 fl_X5_runEachPair_33 dX5_runEachPair_52 ?_
        refine za_aload_n C 0 rfl rfl dX5_runEachPair_55 ?_
        refine zg_C0_0 C in_X5_runEachPair_X5 fl_X5_runEachPair_10 dX5_runEachPair_56 ?_
        refine za_iload_n C 1 rfl rfl dX5_runEachPair_59 ?_
        refine za_iload_n C 3 rfl rfl dX5_runEachPair_60 ?_
        refine za_iconst (v := (3 : Int32)) C (by decide) dX5_runEachPair_61 ?_
        refine za_idiv C (by decide) dX5_runEachPair_62 ?_
        refine za_iload_n C 3 rfl rfl dX5_runEachPair_63 ?_
        refine za_iconst (v := (3 : Int32)) C (by decide) dX5_runEachPair_64 ?_
        refine za_irem C (by decide) dX5_runEachPair_65 ?_
        obtain ⟨N10, hc9, hf⟩ := z_bind hf
        refine za_callV (n := 4) (rest := []) C (cX0_mark_ok l D ck ad n x1 (x3 / (3 : Int32)) (x3 - x3 / (3 : Int32) * (3 : Int32)) N8 _ hc9) gX5_runEachPair_X0_mark rfl rfl rfl (by decide +kernel) ⟨Nat.le_of_ble_eq_true rfl, Nat.le_of_ble_eq_true rfl⟩ 4 rfl rfl rfl rfl rfl (Nat.le_of_ble_eq_true rfl) ⟨Nat.zero_le _, Nat.zero_le _⟩ dX5_runEachPair_66 ?_
        refine za_aload_n C 0 rfl rfl dX5_runEachPair_69 ?_
        refine zg_C0_3 C in_X5_runEachPair_X5 fl_X5_runEachPair_33 dX5_runEachPair_70 ?_
        refine za_aload_n C 0 rfl rfl dX5_runEachPair_73 ?_
        refine zg_C0_0 C in_X5_runEachPair_X5 fl_X5_runEachPair_10 dX5_runEachPair_74 ?_
        refine za_aload_n C 0 rfl rfl dX5_runEachPair_77 ?_
        refine zg_C0_2 C in_X5_runEachPair_X5 fl_X5_runEachPair_26 dX5_runEachPair_78 ?_
        refine za_aload_n C 0 rfl rfl dX5_runEachPair_81 ?_
        refine zg_C0_5 C in_X5_runEachPair_X5 fl_X5_runEachPair_44 dX5_runEachPair_82 ?_
        obtain ⟨N12, hc11, hf⟩ := z_bind hf
        refine za_callV (n := 3) (rest := []) C (cX0_close_ok l D ck ad n (N10.1 0 0) N10 _ hc11) gX5_runEachPair_X0_close rfl rfl rfl (by decide +kernel) ⟨Nat.le_of_ble_eq_true rfl, Nat.le_of_ble_eq_true rfl⟩ 4 rfl rfl rfl rfl rfl (Nat.le_of_ble_eq_true rfl) ⟨Nat.zero_le _, Nat.zero_le _⟩ dX5_runEachPair_85 ?_
        exact za_sub [0, 1, 2, 3] rfl (j_88 x3 N12 hf)
  · show za_At p l e { frames := 5, cells := 0, slots := 0, locals := 138 } s m args below meth c D A 4 0 0 Q 94 [(0, .ref (ad 0)), (1, .int x1), (2, .int x2), (3, .int v13)] [] (wC ad ck N14)
    obtain rfl := z_ret1 hf
    exact za_vret C F dX5_runEachPair_94
theorem in_X5_pairs_X5 : ∀ w ∈ wsX50, w ∈ wsX5_pairs := by decide +kernel
theorem fl_X5_pairs_10 : Cond.fieldLink RX5 10 "ThriceNets" "net" "LThriceNets$Net;" ∈ wsX5_pairs := by decide +kernel
theorem in_X5_pairs_X2 : ∀ w ∈ wsX20, w ∈ wsX5_pairs := by decide +kernel
theorem fl_X5_pairs_55 : Cond.fieldLink RX5 55 "ThriceNets$Net" "size" "I" ∈ wsX5_pairs := by decide +kernel
theorem fl_X5_pairs_33 : Cond.fieldLink RX5 33 "ThriceNets" "lanes" "LThriceNets$Lanes;" ∈ wsX5_pairs := by decide +kernel
theorem fl_X5_pairs_26 : Cond.fieldLink RX5 26 "ThriceNets" "plainRun" "LThriceNets$PlainRun;" ∈ wsX5_pairs := by decide +kernel
theorem fl_X5_pairs_44 : Cond.fieldLink RX5 44 "ThriceNets" "span" "I" ∈ wsX5_pairs := by decide +kernel
def K_X5_pairs_52 (n : Nat) (x1 : Int32) (x2 : Int32) (M : zM) : Option ((Int32 × zM) ⊕ (Int32 × zM)) :=
  zlt (x2 + (1 : Int32)) (fun v7 => some (.inl (v7, M)))
def B_X5_pairs_17 (n : Nat) (x1 : Int32) (x2 : Int32) (M : zM) : Option ((Int32 × zM) ⊕ (Int32 × zM)) :=
  (if ((M.1 2 0) * (3 : Int32)) ≤ x2 then (some (.inr (x2, M))) else ((pX2_isCopy (x2 / (3 : Int32)) (x2 - x2 / (3 : Int32) * (3 : Int32)) M).bind (fun v10 => (if v10 = 0 then (K_X5_pairs_52 n x1 x2 M) else ((pX5_runEachPair n x1 x2 M).bind (fun N13 => K_X5_pairs_52 n x1 x2 N13))))))
def pX5_pairs (n : Nat) (x1 : Int32) (M0 : zM) : Option (Int32 × zM) :=
  (pX5_isRunTick x1 M0).bind (fun v2 => (if v2 = 0 then (some ((-2 : Int32), M0)) else ((pX5_startRuns n M0).bind (fun N5 => zlt (0 : Int32) (fun v6 => zb2 (zwl (fun q => B_X5_pairs_17 n x1 q.1 q.2) n (v6, N5)) (fun v14 N15 => (pX0_runAll n (N15.1 0 0) N15).bind (fun N17 => (pX0_allSeen N17).bind (fun v19 => some (v19, N17)))))))))
set_option maxHeartbeats 4000000 in
set_option maxRecDepth 100000 in
theorem cX5_pairs_ok (l : Launch) (D : va_G) (ck : Nat → ClassId) (ad : Nat → Nat) (n : Nat) (x1 : Int32) (M0 : zM) (r9 : Int32) (M9 : zM) (hf : pX5_pairs n x1 M0 = some (r9, M9)) : zc l D ck (wC ad ck) yX5_pairs wsX5_pairs ({ frames := 6, cells := 0, slots := 0, locals := 161 }) [.ref (ad 0), .int x1] M0 (some (.int r9)) M9 := by
  refine zc_of (cc := cX5_pairs) (maxL := 3) (ret := (some .int)) [(0, .ref (ad 0)), (1, .int x1)] (by decide) rfl (Nat.le_of_ble_eq_true rfl) rfl ?_
  intro p e s m args below meth c A Q C F
  unfold pX5_pairs at hf
  refine za_aload_n C 0 rfl rfl dX5_pairs_0 ?_
  refine za_iload_n C 1 rfl rfl dX5_pairs_1 ?_
  obtain ⟨v2, hc1, hf⟩ := z_bind hf
  refine za_callV (n := 1) (rest := []) C (cX5_isRunTick_ok l D ck ad x1 M0 _ hc1) gX5_pairs_X5_isRunTick rfl rfl rfl (by decide +kernel) ⟨Nat.le_of_ble_eq_true rfl, Nat.le_of_ble_eq_true rfl⟩ 0 rfl rfl rfl rfl rfl (Nat.le_of_ble_eq_true rfl) ⟨Nat.zero_le _, Nat.zero_le _⟩ dX5_pairs_2 ?_
  refine za_if_ne C 11 (by decide) dX5_pairs_5 (fun q3 => ?_) (fun q3 => ?_)
  · have hf := z_neg q3 hf
    refine za_aload_n C 0 rfl rfl dX5_pairs_11 ?_
    obtain ⟨N5, hc4, hf⟩ := z_bind hf
    refine za_callV (n := 0) (rest := []) C (cX5_startRuns_ok l D ck ad n  M0 _ hc4) gX5_pairs_X5_startRuns rfl rfl rfl (by decide +kernel) ⟨Nat.le_of_ble_eq_true rfl, Nat.le_of_ble_eq_true rfl⟩ 0 rfl rfl rfl rfl rfl (Nat.le_of_ble_eq_true rfl) ⟨Nat.zero_le _, Nat.zero_le _⟩ dX5_pairs_12 ?_
    refine za_iconst (v := (0 : Int32)) C (by decide) dX5_pairs_15 ?_
    obtain ⟨v6, ev6, hf⟩ := z_lt hf
    refine za_istore_n C [(2, .int v6), (0, .ref (ad 0)), (1, .int x1)] ev6 (by decide) rfl rfl dX5_pairs_16 ?_
    obtain ⟨v14, N15, hw20, hf⟩ := z_b2 hf
    refine za_sub [1, 2, 0] rfl ?_
    refine z_wl (P := fun q => za_At p l e { frames := 6, cells := 0, slots := 0, locals := 161 } s m args below meth c D A 3 0 0 Q 17 [(0, .ref (ad 0)), (1, .int x1), (2, .int q.1)] [] (wC ad ck q.2)) (E := fun q => za_At p l e { frames := 6, cells := 0, slots := 0, locals := 161 } s m args below meth c D A 3 0 0 Q 58 [(0, .ref (ad 0)), (1, .int x1), (2, .int q.1)] [] (wC ad ck q.2)) ?_ ?_ _ _ hw20
    · intro q o hf hN hE
      obtain ⟨x2, M⟩ := q
      have hf : B_X5_pairs_17 n x1 x2 M = some o := hf
      unfold B_X5_pairs_17 at hf
      have j_52 : ∀ (x2 : Int32) (M : zM), K_X5_pairs_52 n x1 x2 M = some o → za_At p l e { frames := 6, cells := 0, slots := 0, locals := 161 } s m args below meth c D A 3 0 0 Q 52 [(0, .ref (ad 0)), (1, .int x1), (2, .int x2)] [] (wC ad ck M) := by
        intro x2 M hf
        unfold K_X5_pairs_52 at hf
        obtain ⟨v7, ev7, hf⟩ := z_lt hf
        refine za_iinc (k9 := (1 : Int32)) C [(2, .int v7), (0, .ref (ad 0)), (1, .int x1)] 2 rfl (by decide) ev7 (by decide) rfl dX5_pairs_52 ?_
        refine za_goto C 17 (by decide) dX5_pairs_55 ?_
        exact za_sub [1, 2, 0] rfl (hN _ (z_inj hf))
      refine za_iload_n C 2 rfl rfl dX5_pairs_17 ?_
      refine za_aload_n C 0 rfl rfl dX5_pairs_18 ?_
      refine zg_C0_0 C in_X5_pairs_X5 fl_X5_pairs_10 dX5_pairs_19 ?_
      refine zg_C1_0 C in_X5_pairs_X2 fl_X5_pairs_55 dX5_pairs_22 ?_
      refine za_iconst (v := (3 : Int32)) C (by decide) dX5_pairs_25 ?_
      refine za_imul C dX5_pairs_26 ?_
      refine za_icmp_ge C 58 (by decide) dX5_pairs_27 (fun q8 => ?_) (fun q8 => ?_)
      · have hf := z_pos q8 hf
        exact za_sub [0, 1, 2] rfl (hE _ (z_inj hf))
      · have hf := z_neg q8 hf
        refine za_aload_n C 0 rfl rfl dX5_pairs_30 ?_
        refine zg_C0_0 C in_X5_pairs_X5 fl_X5_pairs_10 dX5_pairs_31 ?_
        refine za_iload_n C 2 rfl rfl dX5_pairs_34 ?_
        refine za_iconst (v := (3 : Int32)) C (by decide) dX5_pairs_35 ?_
        refine za_idiv C (by decide) dX5_pairs_36 ?_
        refine za_iload_n C 2 rfl rfl dX5_pairs_37 ?_
        refine za_iconst (v := (3 : Int32)) C (by decide) dX5_pairs_38 ?_
        refine za_irem C (by decide) dX5_pairs_39 ?_
        obtain ⟨v10, hc9, hf⟩ := z_bind hf
        refine za_callV (n := 2) (rest := []) C (cX2_isCopy_ok l D ck ad (x2 / (3 : Int32)) (x2 - x2 / (3 : Int32) * (3 : Int32)) M _ hc9) gX5_pairs_X2_isCopy rfl rfl rfl (by decide +kernel) ⟨Nat.le_of_ble_eq_true rfl, Nat.le_of_ble_eq_true rfl⟩ 1 rfl rfl rfl rfl rfl (Nat.le_of_ble_eq_true rfl) ⟨Nat.zero_le _, Nat.zero_le _⟩ dX5_pairs_40 ?_
        refine za_if_eq C 52 (by decide) dX5_pairs_43 (fun q11 => ?_) (fun q11 => ?_)
        · have hf := z_pos q11 hf
          exact za_sub [0, 1, 2] rfl (j_52 x2 M hf)
        · have hf := z_neg q11 hf
          refine za_aload_n C 0 rfl rfl dX5_pairs_46 ?_
          refine za_iload_n C 1 rfl rfl dX5_pairs_47 ?_
          refine za_iload_n C 2 rfl rfl dX5_pairs_48 ?_
          obtain ⟨N13, hc12, hf⟩ := z_bind hf
          refine za_callV (n := 2) (rest := []) C (cX5_runEachPair_ok l D ck ad n x1 x2 M _ hc12) gX5_pairs_X5_runEachPair rfl rfl rfl (by decide +kernel) ⟨Nat.le_of_ble_eq_true rfl, Nat.le_of_ble_eq_true rfl⟩ 0 rfl rfl rfl rfl rfl (Nat.le_of_ble_eq_true rfl) ⟨Nat.zero_le _, Nat.zero_le _⟩ dX5_pairs_49 ?_
          exact za_sub [0, 1, 2] rfl (j_52 x2 N13 hf)
    · show za_At p l e { frames := 6, cells := 0, slots := 0, locals := 161 } s m args below meth c D A 3 0 0 Q 58 [(0, .ref (ad 0)), (1, .int x1), (2, .int v14)] [] (wC ad ck N15)
      refine za_aload_n C 0 rfl rfl dX5_pairs_58 ?_
      refine zg_C0_3 C in_X5_pairs_X5 fl_X5_pairs_33 dX5_pairs_59 ?_
      refine za_aload_n C 0 rfl rfl dX5_pairs_62 ?_
      refine zg_C0_0 C in_X5_pairs_X5 fl_X5_pairs_10 dX5_pairs_63 ?_
      refine za_aload_n C 0 rfl rfl dX5_pairs_66 ?_
      refine zg_C0_2 C in_X5_pairs_X5 fl_X5_pairs_26 dX5_pairs_67 ?_
      refine za_aload_n C 0 rfl rfl dX5_pairs_70 ?_
      refine zg_C0_5 C in_X5_pairs_X5 fl_X5_pairs_44 dX5_pairs_71 ?_
      obtain ⟨N17, hc16, hf⟩ := z_bind hf
      refine za_callV (n := 3) (rest := []) C (cX0_runAll_ok l D ck ad n (N15.1 0 0) N15 _ hc16) gX5_pairs_X0_runAll rfl rfl rfl (by decide +kernel) ⟨Nat.le_of_ble_eq_true rfl, Nat.le_of_ble_eq_true rfl⟩ 4 rfl rfl rfl rfl rfl (Nat.le_of_ble_eq_true rfl) ⟨Nat.zero_le _, Nat.zero_le _⟩ dX5_pairs_74 ?_
      refine za_aload_n C 0 rfl rfl dX5_pairs_77 ?_
      refine zg_C0_3 C in_X5_pairs_X5 fl_X5_pairs_33 dX5_pairs_78 ?_
      obtain ⟨v19, hc18, hf⟩ := z_bind hf
      refine za_callV (n := 0) (rest := []) C (cX0_allSeen_ok l D ck ad  N17 _ hc18) gX5_pairs_X0_allSeen rfl rfl rfl (by decide +kernel) ⟨Nat.le_of_ble_eq_true rfl, Nat.le_of_ble_eq_true rfl⟩ 4 rfl rfl rfl rfl rfl (Nat.le_of_ble_eq_true rfl) ⟨Nat.zero_le _, Nat.zero_le _⟩ dX5_pairs_81 ?_
      obtain ⟨rfl, rfl⟩ := z_ret2 hf
      exact za_iret C F dX5_pairs_84
  · have hf := z_pos q3 hf
    refine za_bipush (v := (-2 : Int32)) C (by decide) dX5_pairs_8 ?_
    obtain ⟨rfl, rfl⟩ := z_ret2 hf
    exact za_iret C F dX5_pairs_10
theorem in_X5_leads_X5 : ∀ w ∈ wsX50, w ∈ wsX5_leads := by decide +kernel
theorem fl_X5_leads_10 : Cond.fieldLink RX5 10 "ThriceNets" "net" "LThriceNets$Net;" ∈ wsX5_leads := by decide +kernel
theorem fl_X5_leads_40 : Cond.fieldLink RX5 40 "ThriceNets" "loops" "LThriceNets$Loops;" ∈ wsX5_leads := by decide +kernel
theorem in_X5_leads_X1 : ∀ w ∈ wsX10, w ∈ wsX5_leads := by decide +kernel
theorem fl_X5_leads_152 : Cond.fieldLink RX5 152 "ThriceNets$Loops" "ledBy" "[I" ∈ wsX5_leads := by decide +kernel
def K_X5_leads_22 (n : Nat) (x1 : Int32) (x2 : Int32) (M : zM) : Option (Int32 × zM) :=
  some ((-2 : Int32), M)
def pX5_leads (n : Nat) (x1 : Int32) (x2 : Int32) (M0 : zM) : Option (Int32 × zM) :=
  (pX2_isStoreNumber x1 M0).bind (fun v2 => (if v2 = 0 then (K_X5_leads_22 n x1 x2 M0) else ((pX2_isStoreNumber x2 M0).bind (fun v5 => (if v5 = 0 then (K_X5_leads_22 n x1 x2 M0) else ((pX1_trace n M0).bind (fun N8 => zchk x2 24 (some ((((N8.1 26 x2.toNatClampNeg) >>> (x1 &&& 31)) &&& (1 : Int32)), N8)))))))))
set_option maxHeartbeats 4000000 in
set_option maxRecDepth 100000 in
theorem cX5_leads_ok (l : Launch) (D : va_G) (ck : Nat → ClassId) (ad : Nat → Nat) (n : Nat) (x1 : Int32) (x2 : Int32) (M0 : zM) (r9 : Int32) (M9 : zM) (hf : pX5_leads n x1 x2 M0 = some (r9, M9)) : zc l D ck (wC ad ck) yX5_leads wsX5_leads ({ frames := 1, cells := 0, slots := 0, locals := 23 }) [.ref (ad 0), .int x1, .int x2] M0 (some (.int r9)) M9 := by
  refine zc_of (cc := cX5_leads) (maxL := 3) (ret := (some .int)) [(0, .ref (ad 0)), (1, .int x1), (2, .int x2)] (by decide) rfl (Nat.le_of_ble_eq_true rfl) rfl ?_
  intro p e s m args below meth c A Q C F
  have j_22 : ∀ (x1 : Int32) (x2 : Int32) (M : zM), K_X5_leads_22 n x1 x2 M = some (r9, M9) → za_At p l e { frames := 1, cells := 0, slots := 0, locals := 23 } s m args below meth c D A 3 0 0 Q 22 [(0, .ref (ad 0)), (1, .int x1), (2, .int x2)] [] (wC ad ck M) := by
    intro x1 x2 M hf
    unfold K_X5_leads_22 at hf
    refine za_bipush (v := (-2 : Int32)) C (by decide) dX5_leads_22 ?_
    obtain ⟨rfl, rfl⟩ := z_ret2 hf
    exact za_iret C F dX5_leads_24
  unfold pX5_leads at hf
  refine za_aload_n C 0 rfl rfl dX5_leads_0 ?_
  refine zg_C0_0 C in_X5_leads_X5 fl_X5_leads_10 dX5_leads_1 ?_
  refine za_iload_n C 1 rfl rfl dX5_leads_4 ?_
  obtain ⟨v2, hc1, hf⟩ := z_bind hf
  refine za_callV (n := 1) (rest := []) C (cX2_isStoreNumber_ok l D ck ad x1 M0 _ hc1) gX5_leads_X2_isStoreNumber rfl rfl rfl (by decide +kernel) ⟨Nat.le_of_ble_eq_true rfl, Nat.le_of_ble_eq_true rfl⟩ 1 rfl rfl rfl rfl rfl (Nat.le_of_ble_eq_true rfl) ⟨Nat.zero_le _, Nat.zero_le _⟩ dX5_leads_5 ?_
  refine za_if_eq C 22 (by decide) dX5_leads_8 (fun q3 => ?_) (fun q3 => ?_)
  · have hf := z_pos q3 hf
    exact za_sub [0, 1, 2] rfl (j_22 x1 x2 M0 hf)
  · have hf := z_neg q3 hf
    refine za_aload_n C 0 rfl rfl dX5_leads_11 ?_
    refine zg_C0_0 C in_X5_leads_X5 fl_X5_leads_10 dX5_leads_12 ?_
    refine za_iload_n C 2 rfl rfl dX5_leads_15 ?_
    obtain ⟨v5, hc4, hf⟩ := z_bind hf
    refine za_callV (n := 1) (rest := []) C (cX2_isStoreNumber_ok l D ck ad x2 M0 _ hc4) gX5_leads_X2_isStoreNumber rfl rfl rfl (by decide +kernel) ⟨Nat.le_of_ble_eq_true rfl, Nat.le_of_ble_eq_true rfl⟩ 1 rfl rfl rfl rfl rfl (Nat.le_of_ble_eq_true rfl) ⟨Nat.zero_le _, Nat.zero_le _⟩ dX5_leads_16 ?_
    refine za_if_ne C 25 (by decide) dX5_leads_19 (fun q6 => ?_) (fun q6 => ?_)
    · have hf := z_neg q6 hf
      refine za_aload_n C 0 rfl rfl dX5_leads_25 ?_
      refine zg_C0_4 C in_X5_leads_X5 fl_X5_leads_40 dX5_leads_26 ?_
      refine za_aload_n C 0 rfl rfl dX5_leads_29 ?_
      refine zg_C0_0 C in_X5_leads_X5 fl_X5_leads_10 dX5_leads_30 ?_
      obtain ⟨N8, hc7, hf⟩ := z_bind hf
      refine za_callV (n := 1) (rest := []) C (cX1_trace_ok l D ck ad n  M0 _ hc7) gX5_leads_X1_trace rfl rfl rfl (by decide +kernel) ⟨Nat.le_of_ble_eq_true rfl, Nat.le_of_ble_eq_true rfl⟩ 5 rfl rfl rfl rfl rfl (Nat.le_of_ble_eq_true rfl) ⟨Nat.zero_le _, Nat.zero_le _⟩ dX5_leads_33 ?_
      refine za_aload_n C 0 rfl rfl dX5_leads_36 ?_
      refine zg_C0_4 C in_X5_leads_X5 fl_X5_leads_40 dX5_leads_37 ?_
      refine zg_C5_1 C in_X5_leads_X1 fl_X5_leads_152 dX5_leads_40 ?_
      refine za_iload_n C 2 rfl rfl dX5_leads_43 ?_
      obtain ⟨h9, hf⟩ := z_chk hf
      refine zl_C30 C h9 dX5_leads_44 ?_
      refine za_iload_n C 1 rfl rfl dX5_leads_45 ?_
      refine za_ishr C dX5_leads_46 ?_
      refine za_iconst (v := (1 : Int32)) C (by decide) dX5_leads_47 ?_
      refine za_iand C dX5_leads_48 ?_
      obtain ⟨rfl, rfl⟩ := z_ret2 hf
      exact za_iret C F dX5_leads_49
    · have hf := z_pos q6 hf
      exact za_sub [0, 1, 2] rfl (j_22 x1 x2 M0 hf)
theorem in_X5_breaks_X5 : ∀ w ∈ wsX50, w ∈ wsX5_breaks := by decide +kernel
theorem fl_X5_breaks_10 : Cond.fieldLink RX5 10 "ThriceNets" "net" "LThriceNets$Net;" ∈ wsX5_breaks := by decide +kernel
theorem in_X5_breaks_X2 : ∀ w ∈ wsX20, w ∈ wsX5_breaks := by decide +kernel
theorem fl_X5_breaks_155 : Cond.fieldLink RX5 155 "ThriceNets$Net" "stores" "I" ∈ wsX5_breaks := by decide +kernel
theorem fl_X5_breaks_40 : Cond.fieldLink RX5 40 "ThriceNets" "loops" "LThriceNets$Loops;" ∈ wsX5_breaks := by decide +kernel
def pX5_breaks (n : Nat) (x1 : Int32) (M0 : zM) : Option (Int32 × zM) :=
  (if ((Int32.toUInt32 x1 >>> (Int32.toUInt32 (M0.1 4 0) &&& Int32.toUInt32 31)).toInt32) = 0 then (if (M0.1 4 0) ≤ (12 : Int32) then ((pX1_trace n M0).bind (fun N4 => (pX1_allBroken n x1 N4).bind (fun v6 => (if v6 = 0 then (some ((0 : Int32), N4)) else (some ((1 : Int32), N4)))))) else (some ((-3 : Int32), M0))) else (some ((-2 : Int32), M0)))
set_option maxHeartbeats 4000000 in
set_option maxRecDepth 100000 in
theorem cX5_breaks_ok (l : Launch) (D : va_G) (ck : Nat → ClassId) (ad : Nat → Nat) (n : Nat) (x1 : Int32) (M0 : zM) (r9 : Int32) (M9 : zM) (hf : pX5_breaks n x1 M0 = some (r9, M9)) : zc l D ck (wC ad ck) yX5_breaks wsX5_breaks ({ frames := 1, cells := 0, slots := 0, locals := 25 }) [.ref (ad 0), .int x1] M0 (some (.int r9)) M9 := by
  refine zc_of (cc := cX5_breaks) (maxL := 2) (ret := (some .int)) [(0, .ref (ad 0)), (1, .int x1)] (by decide) rfl (Nat.le_of_ble_eq_true rfl) rfl ?_
  intro p e s m args below meth c A Q C F
  unfold pX5_breaks at hf
  refine za_iload_n C 1 rfl rfl dX5_breaks_0 ?_
  refine za_aload_n C 0 rfl rfl dX5_breaks_1 ?_
  refine zg_C0_0 C in_X5_breaks_X5 fl_X5_breaks_10 dX5_breaks_2 ?_
  refine zg_C1_2 C in_X5_breaks_X2 fl_X5_breaks_155 dX5_breaks_5 ?_
  refine za_iushr C dX5_breaks_8 ?_
  refine za_if_eq C 15 (by decide) dX5_breaks_9 (fun q1 => ?_) (fun q1 => ?_)
  · have hf := z_pos q1 hf
    refine za_aload_n C 0 rfl rfl dX5_breaks_15 ?_
    refine zg_C0_0 C in_X5_breaks_X5 fl_X5_breaks_10 dX5_breaks_16 ?_
    refine zg_C1_2 C in_X5_breaks_X2 fl_X5_breaks_155 dX5_breaks_19 ?_
    refine za_bipush (v := (12 : Int32)) C (by decide) dX5_breaks_22 ?_
    refine za_icmp_le C 30 (by decide) dX5_breaks_24 (fun q2 => ?_) (fun q2 => ?_)
    · have hf := z_pos q2 hf
      refine za_aload_n C 0 rfl rfl dX5_breaks_30 ?_
      refine zg_C0_4 C in_X5_breaks_X5 fl_X5_breaks_40 dX5_breaks_31 ?_
      refine za_aload_n C 0 rfl rfl dX5_breaks_34 ?_
      refine zg_C0_0 C in_X5_breaks_X5 fl_X5_breaks_10 dX5_breaks_35 ?_
      obtain ⟨N4, hc3, hf⟩ := z_bind hf
      refine za_callV (n := 1) (rest := []) C (cX1_trace_ok l D ck ad n  M0 _ hc3) gX5_breaks_X1_trace rfl rfl rfl (by decide +kernel) ⟨Nat.le_of_ble_eq_true rfl, Nat.le_of_ble_eq_true rfl⟩ 5 rfl rfl rfl rfl rfl (Nat.le_of_ble_eq_true rfl) ⟨Nat.zero_le _, Nat.zero_le _⟩ dX5_breaks_38 ?_
      refine za_aload_n C 0 rfl rfl dX5_breaks_41 ?_
      refine zg_C0_4 C in_X5_breaks_X5 fl_X5_breaks_40 dX5_breaks_42 ?_
      refine za_iload_n C 1 rfl rfl dX5_breaks_45 ?_
      obtain ⟨v6, hc5, hf⟩ := z_bind hf
      refine za_callV (n := 1) (rest := []) C (cX1_allBroken_ok l D ck ad n x1 N4 _ hc5) gX5_breaks_X1_allBroken rfl rfl rfl (by decide +kernel) ⟨Nat.le_of_ble_eq_true rfl, Nat.le_of_ble_eq_true rfl⟩ 5 rfl rfl rfl rfl rfl (Nat.le_of_ble_eq_true rfl) ⟨Nat.zero_le _, Nat.zero_le _⟩ dX5_breaks_46 ?_
      refine za_if_eq C 56 (by decide) dX5_breaks_49 (fun q7 => ?_) (fun q7 => ?_)
      · have hf := z_pos q7 hf
        refine za_iconst (v := (0 : Int32)) C (by decide) dX5_breaks_56 ?_
        obtain ⟨rfl, rfl⟩ := z_ret2 hf
        exact za_iret C F dX5_breaks_57
      · have hf := z_neg q7 hf
        refine za_iconst (v := (1 : Int32)) C (by decide) dX5_breaks_52 ?_
        refine za_goto C 57 (by decide) dX5_breaks_53 ?_
        obtain ⟨rfl, rfl⟩ := z_ret2 hf
        exact za_iret C F dX5_breaks_57
    · have hf := z_neg q2 hf
      refine za_bipush (v := (-3 : Int32)) C (by decide) dX5_breaks_27 ?_
      obtain ⟨rfl, rfl⟩ := z_ret2 hf
      exact za_iret C F dX5_breaks_29
  · have hf := z_neg q1 hf
    refine za_bipush (v := (-2 : Int32)) C (by decide) dX5_breaks_12 ?_
    obtain ⟨rfl, rfl⟩ := z_ret2 hf
    exact za_iret C F dX5_breaks_14
theorem in_X5_best_X5 : ∀ w ∈ wsX50, w ∈ wsX5_best := by decide +kernel
theorem fl_X5_best_10 : Cond.fieldLink RX5 10 "ThriceNets" "net" "LThriceNets$Net;" ∈ wsX5_best := by decide +kernel
theorem in_X5_best_X2 : ∀ w ∈ wsX20, w ∈ wsX5_best := by decide +kernel
theorem fl_X5_best_155 : Cond.fieldLink RX5 155 "ThriceNets$Net" "stores" "I" ∈ wsX5_best := by decide +kernel
theorem fl_X5_best_40 : Cond.fieldLink RX5 40 "ThriceNets" "loops" "LThriceNets$Loops;" ∈ wsX5_best := by decide +kernel
def pX5_best (n : Nat) (M0 : zM) : Option (Int32 × zM) :=
  (if (M0.1 4 0) ≤ (12 : Int32) then ((pX1_trace n M0).bind (fun N3 => (pX1_cheapest n N3).bind (fun v5 => some (v5, N3)))) else (some ((-3 : Int32), M0)))
set_option maxHeartbeats 4000000 in
set_option maxRecDepth 100000 in
theorem cX5_best_ok (l : Launch) (D : va_G) (ck : Nat → ClassId) (ad : Nat → Nat) (n : Nat) (M0 : zM) (r9 : Int32) (M9 : zM) (hf : pX5_best n M0 = some (r9, M9)) : zc l D ck (wC ad ck) yX5_best wsX5_best ({ frames := 2, cells := 0, slots := 0, locals := 52 }) [.ref (ad 0)] M0 (some (.int r9)) M9 := by
  refine zc_of (cc := cX5_best) (maxL := 1) (ret := (some .int)) [(0, .ref (ad 0))] (by decide) rfl (Nat.le_of_ble_eq_true rfl) rfl ?_
  intro p e s m args below meth c A Q C F
  unfold pX5_best at hf
  refine za_aload_n C 0 rfl rfl dX5_best_0 ?_
  refine zg_C0_0 C in_X5_best_X5 fl_X5_best_10 dX5_best_1 ?_
  refine zg_C1_2 C in_X5_best_X2 fl_X5_best_155 dX5_best_4 ?_
  refine za_bipush (v := (12 : Int32)) C (by decide) dX5_best_7 ?_
  refine za_icmp_le C 15 (by decide) dX5_best_9 (fun q1 => ?_) (fun q1 => ?_)
  · have hf := z_pos q1 hf
    refine za_aload_n C 0 rfl rfl dX5_best_15 ?_
    refine zg_C0_4 C in_X5_best_X5 fl_X5_best_40 dX5_best_16 ?_
    refine za_aload_n C 0 rfl rfl dX5_best_19 ?_
    refine zg_C0_0 C in_X5_best_X5 fl_X5_best_10 dX5_best_20 ?_
    obtain ⟨N3, hc2, hf⟩ := z_bind hf
    refine za_callV (n := 1) (rest := []) C (cX1_trace_ok l D ck ad n  M0 _ hc2) gX5_best_X1_trace rfl rfl rfl (by decide +kernel) ⟨Nat.le_of_ble_eq_true rfl, Nat.le_of_ble_eq_true rfl⟩ 5 rfl rfl rfl rfl rfl (Nat.le_of_ble_eq_true rfl) ⟨Nat.zero_le _, Nat.zero_le _⟩ dX5_best_23 ?_
    refine za_aload_n C 0 rfl rfl dX5_best_26 ?_
    refine zg_C0_4 C in_X5_best_X5 fl_X5_best_40 dX5_best_27 ?_
    refine za_aload_n C 0 rfl rfl dX5_best_30 ?_
    refine zg_C0_0 C in_X5_best_X5 fl_X5_best_10 dX5_best_31 ?_
    obtain ⟨v5, hc4, hf⟩ := z_bind hf
    refine za_callV (n := 1) (rest := []) C (cX1_cheapest_ok l D ck ad n  N3 _ hc4) gX5_best_X1_cheapest rfl rfl rfl (by decide +kernel) ⟨Nat.le_of_ble_eq_true rfl, Nat.le_of_ble_eq_true rfl⟩ 5 rfl rfl rfl rfl rfl (Nat.le_of_ble_eq_true rfl) ⟨Nat.zero_le _, Nat.zero_le _⟩ dX5_best_34 ?_
    obtain ⟨rfl, rfl⟩ := z_ret2 hf
    exact za_iret C F dX5_best_37
  · have hf := z_neg q1 hf
    refine za_bipush (v := (-3 : Int32)) C (by decide) dX5_best_12 ?_
    obtain ⟨rfl, rfl⟩ := z_ret2 hf
    exact za_iret C F dX5_best_14
theorem in_X5_harden_X5 : ∀ w ∈ wsX50, w ∈ wsX5_harden := by decide +kernel
theorem fl_X5_harden_10 : Cond.fieldLink RX5 10 "ThriceNets" "net" "LThriceNets$Net;" ∈ wsX5_harden := by decide +kernel
theorem in_X5_harden_X2 : ∀ w ∈ wsX20, w ∈ wsX5_harden := by decide +kernel
theorem fl_X5_harden_55 : Cond.fieldLink RX5 55 "ThriceNets$Net" "size" "I" ∈ wsX5_harden := by decide +kernel
theorem fl_X5_harden_87 : Cond.fieldLink RX5 87 "ThriceNets$Net" "thrice" "[Z" ∈ wsX5_harden := by decide +kernel
theorem fl_X5_harden_90 : Cond.fieldLink RX5 90 "ThriceNets$Net" "voted" "[Z" ∈ wsX5_harden := by decide +kernel
theorem fl_X5_harden_168 : Cond.fieldLink RX5 168 "ThriceNets$Net" "kind" "[I" ∈ wsX5_harden := by decide +kernel
theorem fl_X5_harden_171 : Cond.fieldLink RX5 171 "ThriceNets$Net" "number" "[I" ∈ wsX5_harden := by decide +kernel
def K_X5_harden_77 (n : Nat) (v4 : Int32) (x2 : Int32) (y0 : Int32) (y1 : Int32) (M : zM) : Option ((Int32 × zM) ⊕ (Int32 × zM)) :=
  zchk y1 24 (zst (zsI M 17 y1.toNatClampNeg (vp_nar .boolean y0)) (fun N8 => zlt (x2 + (1 : Int32)) (fun v9 => some (.inl (v9, N8)))))
def K_X5_harden_76 (n : Nat) (v4 : Int32) (x2 : Int32) (y0 : Int32) (M : zM) : Option ((Int32 × zM) ⊕ (Int32 × zM)) :=
  K_X5_harden_77 n v4 x2 (0 : Int32) y0 M
def B_X5_harden_13 (n : Nat) (v4 : Int32) (x2 : Int32) (M : zM) : Option ((Int32 × zM) ⊕ (Int32 × zM)) :=
  (if (M.1 2 0) ≤ x2 then (some (.inr (x2, M))) else (zchk x2 24 (zst (zsI M 16 x2.toNatClampNeg (vp_nar .boolean (1 : Int32))) (fun N12 => zchk x2 24 ((if (N12.1 10 x2.toNatClampNeg) = (5 : Int32) then (zchk x2 24 ((if ((v4 >>> ((N12.1 13 x2.toNatClampNeg) &&& 31)) &&& (1 : Int32)) = (1 : Int32) then (K_X5_harden_77 n v4 x2 (1 : Int32) x2 N12) else (K_X5_harden_76 n v4 x2 x2 N12)))) else (K_X5_harden_76 n v4 x2 x2 N12)))))))
def pX5_harden (n : Nat) (M0 : zM) : Option (Int32 × zM) :=
  zb2 (pX5_best n M0) (fun v2 N3 => zlt v2 (fun v4 => (if 0 ≤ v4 then (zlt (0 : Int32) (fun v6 => zb2 (zwl (fun q => B_X5_harden_13 n v4 q.1 q.2) n (v6, N3)) (fun v17 N18 => (pJ6_bitCount_0f7a4 v4 N18).bind (fun v20 => some (v20, N18))))) else (some (v4, N3)))))
set_option maxHeartbeats 4000000 in
set_option maxRecDepth 100000 in
theorem cX5_harden_ok (l : Launch) (D : va_G) (ck : Nat → ClassId) (ad : Nat → Nat) (n : Nat) (M0 : zM) (r9 : Int32) (M9 : zM) (hf : pX5_harden n M0 = some (r9, M9)) : zc l D ck (wC ad ck) yX5_harden wsX5_harden ({ frames := 3, cells := 0, slots := 0, locals := 72 }) [.ref (ad 0)] M0 (some (.int r9)) M9 := by
  refine zc_of (cc := cX5_harden) (maxL := 3) (ret := (some .int)) [(0, .ref (ad 0))] (by decide) rfl (Nat.le_of_ble_eq_true rfl) rfl ?_
  intro p e s m args below meth c A Q C F
  unfold pX5_harden at hf
  refine za_aload_n C 0 rfl rfl dX5_harden_0 ?_
  obtain ⟨v2, N3, hc1, hf⟩ := z_b2 hf
  refine za_callV (n := 0) (rest := []) C (cX5_best_ok l D ck ad n  M0 _ _ hc1) gX5_harden_X5_best rfl rfl rfl (by decide +kernel) ⟨Nat.le_of_ble_eq_true rfl, Nat.le_of_ble_eq_true rfl⟩ 0 rfl rfl rfl rfl rfl (Nat.le_of_ble_eq_true rfl) ⟨Nat.zero_le _, Nat.zero_le _⟩ dX5_harden_1 ?_
  obtain ⟨v4, ev4, hf⟩ := z_lt hf
  refine za_istore_n C [(1, .int v4), (0, .ref (ad 0))] ev4 (by decide) rfl rfl dX5_harden_4 ?_
  refine za_iload_n C 0 rfl rfl dX5_harden_5 ?_
  refine za_if_ge C 11 (by decide) dX5_harden_6 (fun q5 => ?_) (fun q5 => ?_)
  · have hf := z_pos q5 hf
    refine za_iconst (v := (0 : Int32)) C (by decide) dX5_harden_11 ?_
    obtain ⟨v6, ev6, hf⟩ := z_lt hf
    refine za_istore_n C [(2, .int v6), (1, .int v4), (0, .ref (ad 0))] ev6 (by decide) rfl rfl dX5_harden_12 ?_
    obtain ⟨v17, N18, hw21, hf⟩ := z_b2 hf
    refine za_sub [2, 1, 0] rfl ?_
    refine z_wl (P := fun q => za_At p l e { frames := 3, cells := 0, slots := 0, locals := 72 } s m args below meth c D A 3 0 0 Q 13 [(0, .ref (ad 0)), (1, .int v4), (2, .int q.1)] [] (wC ad ck q.2)) (E := fun q => za_At p l e { frames := 3, cells := 0, slots := 0, locals := 72 } s m args below meth c D A 3 0 0 Q 84 [(0, .ref (ad 0)), (1, .int v4), (2, .int q.1)] [] (wC ad ck q.2)) ?_ ?_ _ _ hw21
    · intro q o hf hN hE
      obtain ⟨x2, M⟩ := q
      have hf : B_X5_harden_13 n v4 x2 M = some o := hf
      unfold B_X5_harden_13 at hf
      have j_77 : ∀ (x2 : Int32) (y0 : Int32) (y1 : Int32) (M : zM), K_X5_harden_77 n v4 x2 y0 y1 M = some o → za_At p l e { frames := 3, cells := 0, slots := 0, locals := 72 } s m args below meth c D A 3 0 0 Q 77 [(0, .ref (ad 0)), (1, .int v4), (2, .int x2)] [.int y0, .int y1, .ref (ad 13)] (wC ad ck M) := by
        intro x2 y0 y1 M hf
        unfold K_X5_harden_77 at hf
        obtain ⟨h7, hf⟩ := z_chk hf
        obtain ⟨N8, eN8, hf⟩ := z_st hf
        refine zs_C13 C h7 eN8 dX5_harden_77 ?_
        obtain ⟨v9, ev9, hf⟩ := z_lt hf
        refine za_iinc (k9 := (1 : Int32)) C [(2, .int v9), (0, .ref (ad 0)), (1, .int v4)] 2 rfl (by decide) ev9 (by decide) rfl dX5_harden_78 ?_
        refine za_goto C 13 (by decide) dX5_harden_81 ?_
        exact za_sub [1, 2, 0] rfl (hN _ (z_inj hf))
      have j_76 : ∀ (x2 : Int32) (y0 : Int32) (M : zM), K_X5_harden_76 n v4 x2 y0 M = some o → za_At p l e { frames := 3, cells := 0, slots := 0, locals := 72 } s m args below meth c D A 3 0 0 Q 76 [(0, .ref (ad 0)), (1, .int v4), (2, .int x2)] [.int y0, .ref (ad 13)] (wC ad ck M) := by
        intro x2 y0 M hf
        unfold K_X5_harden_76 at hf
        refine za_iconst (v := (0 : Int32)) C (by decide) dX5_harden_76 ?_
        exact za_sub [0, 1, 2] rfl (j_77 x2 (0 : Int32) y0 M hf)
      refine za_iload_n C 2 rfl rfl dX5_harden_13 ?_
      refine za_aload_n C 0 rfl rfl dX5_harden_14 ?_
      refine zg_C0_0 C in_X5_harden_X5 fl_X5_harden_10 dX5_harden_15 ?_
      refine zg_C1_0 C in_X5_harden_X2 fl_X5_harden_55 dX5_harden_18 ?_
      refine za_icmp_ge C 84 (by decide) dX5_harden_21 (fun q10 => ?_) (fun q10 => ?_)
      · have hf := z_pos q10 hf
        exact za_sub [0, 1, 2] rfl (hE _ (z_inj hf))
      · have hf := z_neg q10 hf
        refine za_aload_n C 0 rfl rfl dX5_harden_24 ?_
        refine zg_C0_0 C in_X5_harden_X5 fl_X5_harden_10 dX5_harden_25 ?_
        refine zg_C1_9 C in_X5_harden_X2 fl_X5_harden_87 dX5_harden_28 ?_
        refine za_iload_n C 2 rfl rfl dX5_harden_31 ?_
        refine za_iconst (v := (1 : Int32)) C (by decide) dX5_harden_32 ?_
        obtain ⟨h11, hf⟩ := z_chk hf
        obtain ⟨N12, eN12, hf⟩ := z_st hf
        refine zs_C12 C h11 eN12 dX5_harden_33 ?_
        refine za_aload_n C 0 rfl rfl dX5_harden_34 ?_
        refine zg_C0_0 C in_X5_harden_X5 fl_X5_harden_10 dX5_harden_35 ?_
        refine zg_C1_10 C in_X5_harden_X2 fl_X5_harden_90 dX5_harden_38 ?_
        refine za_iload_n C 2 rfl rfl dX5_harden_41 ?_
        refine za_aload_n C 0 rfl rfl dX5_harden_42 ?_
        refine zg_C0_0 C in_X5_harden_X5 fl_X5_harden_10 dX5_harden_43 ?_
        refine zg_C1_3 C in_X5_harden_X2 fl_X5_harden_168 dX5_harden_46 ?_
        refine za_iload_n C 2 rfl rfl dX5_harden_49 ?_
        obtain ⟨h13, hf⟩ := z_chk hf
        refine zl_C6 C h13 dX5_harden_50 ?_
        refine za_iconst (v := (5 : Int32)) C (by decide) dX5_harden_51 ?_
        refine za_icmp_ne C 76 (by decide) dX5_harden_52 (fun q14 => ?_) (fun q14 => ?_)
        · have hf := z_neg q14 hf
          exact za_sub [0, 1, 2] rfl (j_76 x2 x2 N12 hf)
        · have hf := z_pos q14 hf
          refine za_iload_n C 1 rfl rfl dX5_harden_55 ?_
          refine za_aload_n C 0 rfl rfl dX5_harden_56 ?_
          refine zg_C0_0 C in_X5_harden_X5 fl_X5_harden_10 dX5_harden_57 ?_
          refine zg_C1_6 C in_X5_harden_X2 fl_X5_harden_171 dX5_harden_60 ?_
          refine za_iload_n C 2 rfl rfl dX5_harden_63 ?_
          obtain ⟨h15, hf⟩ := z_chk hf
          refine zl_C9 C h15 dX5_harden_64 ?_
          refine za_ishr C dX5_harden_65 ?_
          refine za_iconst (v := (1 : Int32)) C (by decide) dX5_harden_66 ?_
          refine za_iand C dX5_harden_67 ?_
          refine za_iconst (v := (1 : Int32)) C (by decide) dX5_harden_68 ?_
          refine za_icmp_ne C 76 (by decide) dX5_harden_69 (fun q16 => ?_) (fun q16 => ?_)
          · have hf := z_neg q16 hf
            exact za_sub [0, 1, 2] rfl (j_76 x2 x2 N12 hf)
          · have hf := z_pos q16 hf
            refine za_iconst (v := (1 : Int32)) C (by decide) dX5_harden_72 ?_
            refine za_goto C 77 (by decide) dX5_harden_73 ?_
            exact za_sub [0, 1, 2] rfl (j_77 x2 (1 : Int32) x2 N12 hf)
    · show za_At p l e { frames := 3, cells := 0, slots := 0, locals := 72 } s m args below meth c D A 3 0 0 Q 84 [(0, .ref (ad 0)), (1, .int v4), (2, .int v17)] [] (wC ad ck N18)
      refine za_iload_n C 1 rfl rfl dX5_harden_84 ?_
      obtain ⟨v20, hc19, hf⟩ := z_bind hf
      refine za_callS (n := 1) (rest := []) C (cJ6_bitCount_0f7a4_ok l D ck ad v4 N18 _ hc19) gX5_harden_J6_bitCount_0f7a4 rfl rfl rfl (by decide +kernel) ⟨Nat.le_of_ble_eq_true rfl, Nat.le_of_ble_eq_true rfl⟩ rfl rfl (Nat.le_of_ble_eq_true rfl) ⟨Nat.zero_le _, Nat.zero_le _⟩ dX5_harden_85 ?_
      obtain ⟨rfl, rfl⟩ := z_ret2 hf
      exact za_iret C F dX5_harden_88
  · have hf := z_neg q5 hf
    refine za_iload_n C 0 rfl rfl dX5_harden_9 ?_
    obtain ⟨rfl, rfl⟩ := z_ret2 hf
    exact za_iret C F dX5_harden_10
theorem in_X5_voter_X5 : ∀ w ∈ wsX50, w ∈ wsX5_voter := by decide +kernel
theorem fl_X5_voter_48 : Cond.fieldLink RX5 48 "ThriceNets" "voterPrice" "I" ∈ wsX5_voter := by decide +kernel
def pX5_voter (x1 : Int32) (M0 : zM) : Option (Int32 × zM) :=
  (pX5_isPrice x1 M0).bind (fun v2 => (if v2 = 0 then (some ((-2 : Int32), M0)) else (zlt (M0.1 1 0) (fun v4 => zst (zsI M0 1 0 x1) (fun N5 => some (v4, N5))))))
set_option maxHeartbeats 4000000 in
set_option maxRecDepth 100000 in
theorem cX5_voter_ok (l : Launch) (D : va_G) (ck : Nat → ClassId) (ad : Nat → Nat) (x1 : Int32) (M0 : zM) (r9 : Int32) (M9 : zM) (hf : pX5_voter x1 M0 = some (r9, M9)) : zc l D ck (wC ad ck) yX5_voter wsX5_voter ({ frames := 1, cells := 0, slots := 0, locals := 20 }) [.ref (ad 0), .int x1] M0 (some (.int r9)) M9 := by
  refine zc_of (cc := cX5_voter) (maxL := 3) (ret := (some .int)) [(0, .ref (ad 0)), (1, .int x1)] (by decide) rfl (Nat.le_of_ble_eq_true rfl) rfl ?_
  intro p e s m args below meth c A Q C F
  unfold pX5_voter at hf
  refine za_iload_n C 1 rfl rfl dX5_voter_0 ?_
  obtain ⟨v2, hc1, hf⟩ := z_bind hf
  refine za_callS (n := 1) (rest := []) C (cX5_isPrice_ok l D ck ad x1 M0 _ hc1) gX5_voter_X5_isPrice rfl rfl rfl (by decide +kernel) ⟨Nat.le_of_ble_eq_true rfl, Nat.le_of_ble_eq_true rfl⟩ rfl rfl (Nat.le_of_ble_eq_true rfl) ⟨Nat.zero_le _, Nat.zero_le _⟩ dX5_voter_1 ?_
  refine za_if_ne C 10 (by decide) dX5_voter_4 (fun q3 => ?_) (fun q3 => ?_)
  · have hf := z_neg q3 hf
    refine za_aload_n C 0 rfl rfl dX5_voter_10 ?_
    refine zg_C0_6 C in_X5_voter_X5 fl_X5_voter_48 dX5_voter_11 ?_
    obtain ⟨v4, ev4, hf⟩ := z_lt hf
    refine za_istore_n C [(2, .int v4), (0, .ref (ad 0)), (1, .int x1)] ev4 (by decide) rfl rfl dX5_voter_14 ?_
    refine za_aload_n C 1 rfl rfl dX5_voter_15 ?_
    refine za_iload_n C 2 rfl rfl dX5_voter_16 ?_
    obtain ⟨N5, eN5, hf⟩ := z_st hf
    refine zp_C0_6 C in_X5_voter_X5 fl_X5_voter_48 eN5 dX5_voter_17 ?_
    refine za_iload_n C 0 rfl rfl dX5_voter_20 ?_
    obtain ⟨rfl, rfl⟩ := z_ret2 hf
    exact za_iret C F dX5_voter_21
  · have hf := z_pos q3 hf
    refine za_bipush (v := (-2 : Int32)) C (by decide) dX5_voter_7 ?_
    obtain ⟨rfl, rfl⟩ := z_ret2 hf
    exact za_iret C F dX5_voter_9
theorem in_X5_cost_X5 : ∀ w ∈ wsX50, w ∈ wsX5_cost := by decide +kernel
theorem fl_X5_cost_10 : Cond.fieldLink RX5 10 "ThriceNets" "net" "LThriceNets$Net;" ∈ wsX5_cost := by decide +kernel
theorem in_X5_cost_X2 : ∀ w ∈ wsX20, w ∈ wsX5_cost := by decide +kernel
theorem fl_X5_cost_55 : Cond.fieldLink RX5 55 "ThriceNets$Net" "size" "I" ∈ wsX5_cost := by decide +kernel
theorem fl_X5_cost_80 : Cond.fieldLink RX5 80 "ThriceNets$Net" "price" "[I" ∈ wsX5_cost := by decide +kernel
theorem fl_X5_cost_90 : Cond.fieldLink RX5 90 "ThriceNets$Net" "voted" "[Z" ∈ wsX5_cost := by decide +kernel
theorem fl_X5_cost_48 : Cond.fieldLink RX5 48 "ThriceNets" "voterPrice" "I" ∈ wsX5_cost := by decide +kernel
def K_X5_cost_57 (n : Nat) (x1 : Int32) (x2 : Int32) (M0 : zM) : Option ((Int32 × Int32) ⊕ (Int32 × Int32)) :=
  zlt (x2 + (1 : Int32)) (fun v3 => some (.inl (x1, v3)))
def B_X5_cost_4 (n : Nat) (x1 : Int32) (x2 : Int32) (M0 : zM) : Option ((Int32 × Int32) ⊕ (Int32 × Int32)) :=
  (if (M0.1 2 0) ≤ x2 then (some (.inr (x1, x2))) else (zchk x2 24 ((pX2_copies x2 M0).bind (fun v7 => zlt (x1 + ((M0.1 14 x2.toNatClampNeg) * v7)) (fun v8 => zchk x2 24 ((if (M0.1 17 x2.toNatClampNeg) = 0 then (K_X5_cost_57 n v8 x2 M0) else (zlt (v8 + ((M0.1 1 0) * (3 : Int32))) (fun v11 => K_X5_cost_57 n v11 x2 M0)))))))))
def pX5_cost (n : Nat) (M0 : zM) : Option (Int32) :=
  zlt (0 : Int32) (fun v1 => zlt (0 : Int32) (fun v2 => zb2 (zwl (fun q => B_X5_cost_4 n q.1 q.2 M0) n (v1, v2)) (fun v12 v13 => some v12)))
set_option maxHeartbeats 4000000 in
set_option maxRecDepth 100000 in
theorem cX5_cost_ok (l : Launch) (D : va_G) (ck : Nat → ClassId) (ad : Nat → Nat) (n : Nat) (M0 : zM) (r9 : Int32) (hf : pX5_cost n M0 = some r9) : zc l D ck (wC ad ck) yX5_cost wsX5_cost ({ frames := 1, cells := 0, slots := 0, locals := 21 }) [.ref (ad 0)] M0 (some (.int r9)) M0 := by
  refine zc_of (cc := cX5_cost) (maxL := 3) (ret := (some .int)) [(0, .ref (ad 0))] (by decide) rfl (Nat.le_of_ble_eq_true rfl) rfl ?_
  intro p e s m args below meth c A Q C F
  unfold pX5_cost at hf
  refine za_iconst (v := (0 : Int32)) C (by decide) dX5_cost_0 ?_
  obtain ⟨v1, ev1, hf⟩ := z_lt hf
  refine za_istore_n C [(1, .int v1), (0, .ref (ad 0))] ev1 (by decide) rfl rfl dX5_cost_1 ?_
  refine za_iconst (v := (0 : Int32)) C (by decide) dX5_cost_2 ?_
  obtain ⟨v2, ev2, hf⟩ := z_lt hf
  refine za_istore_n C [(2, .int v2), (1, .int v1), (0, .ref (ad 0))] ev2 (by decide) rfl rfl dX5_cost_3 ?_
  obtain ⟨v12, v13, hw14, hf⟩ := z_b2 hf
  refine za_sub [2, 1, 0] rfl ?_
  refine z_wl (P := fun q => za_At p l e { frames := 1, cells := 0, slots := 0, locals := 21 } s m args below meth c D A 3 0 0 Q 4 [(0, .ref (ad 0)), (1, .int q.1), (2, .int q.2)] [] (wC ad ck M0)) (E := fun q => za_At p l e { frames := 1, cells := 0, slots := 0, locals := 21 } s m args below meth c D A 3 0 0 Q 63 [(0, .ref (ad 0)), (1, .int q.1), (2, .int q.2)] [] (wC ad ck M0)) ?_ ?_ _ _ hw14
  · intro q o hf hN hE
    obtain ⟨x1, x2⟩ := q
    have hf : B_X5_cost_4 n x1 x2 M0 = some o := hf
    unfold B_X5_cost_4 at hf
    have j_57 : ∀ (x1 : Int32) (x2 : Int32), K_X5_cost_57 n x1 x2 M0 = some o → za_At p l e { frames := 1, cells := 0, slots := 0, locals := 21 } s m args below meth c D A 3 0 0 Q 57 [(0, .ref (ad 0)), (1, .int x1), (2, .int x2)] [] (wC ad ck M0) := by
      intro x1 x2 hf
      unfold K_X5_cost_57 at hf
      obtain ⟨v3, ev3, hf⟩ := z_lt hf
      refine za_iinc (k9 := (1 : Int32)) C [(2, .int v3), (0, .ref (ad 0)), (1, .int x1)] 2 rfl (by decide) ev3 (by decide) rfl dX5_cost_57 ?_
      refine za_goto C 4 (by decide) dX5_cost_60 ?_
      exact za_sub [1, 2, 0] rfl (hN _ (z_inj hf))
    refine za_iload_n C 2 rfl rfl dX5_cost_4 ?_
    refine za_aload_n C 0 rfl rfl dX5_cost_5 ?_
    refine zg_C0_0 C in_X5_cost_X5 fl_X5_cost_10 dX5_cost_6 ?_
    refine zg_C1_0 C in_X5_cost_X2 fl_X5_cost_55 dX5_cost_9 ?_
    refine za_icmp_ge C 63 (by decide) dX5_cost_12 (fun q4 => ?_) (fun q4 => ?_)
    · have hf := z_pos q4 hf
      exact za_sub [0, 1, 2] rfl (hE _ (z_inj hf))
    · have hf := z_neg q4 hf
      refine za_iload_n C 1 rfl rfl dX5_cost_15 ?_
      refine za_aload_n C 0 rfl rfl dX5_cost_16 ?_
      refine zg_C0_0 C in_X5_cost_X5 fl_X5_cost_10 dX5_cost_17 ?_
      refine zg_C1_7 C in_X5_cost_X2 fl_X5_cost_80 dX5_cost_20 ?_
      refine za_iload_n C 2 rfl rfl dX5_cost_23 ?_
      obtain ⟨h5, hf⟩ := z_chk hf
      refine zl_C10 C h5 dX5_cost_24 ?_
      refine za_aload_n C 0 rfl rfl dX5_cost_25 ?_
      refine zg_C0_0 C in_X5_cost_X5 fl_X5_cost_10 dX5_cost_26 ?_
      refine za_iload_n C 2 rfl rfl dX5_cost_29 ?_
      obtain ⟨v7, hc6, hf⟩ := z_bind hf
      refine za_callV (n := 1) (rest := [.int (M0.1 14 x2.toNatClampNeg), .int x1]) C (cX2_copies_ok l D ck ad x2 M0 _ hc6) gX5_cost_X2_copies rfl rfl rfl (by decide +kernel) ⟨Nat.le_of_ble_eq_true rfl, Nat.le_of_ble_eq_true rfl⟩ 1 rfl rfl rfl rfl rfl (Nat.le_of_ble_eq_true rfl) ⟨Nat.zero_le _, Nat.zero_le _⟩ dX5_cost_30 ?_
      refine za_imul C dX5_cost_33 ?_
      refine za_iadd C dX5_cost_34 ?_
      obtain ⟨v8, ev8, hf⟩ := z_lt hf
      refine za_istore_n C [(1, .int v8), (0, .ref (ad 0)), (2, .int x2)] ev8 (by decide) rfl rfl dX5_cost_35 ?_
      refine za_aload_n C 1 rfl rfl dX5_cost_36 ?_
      refine zg_C0_0 C in_X5_cost_X5 fl_X5_cost_10 dX5_cost_37 ?_
      refine zg_C1_10 C in_X5_cost_X2 fl_X5_cost_90 dX5_cost_40 ?_
      refine za_iload_n C 2 rfl rfl dX5_cost_43 ?_
      obtain ⟨h9, hf⟩ := z_chk hf
      refine zl_C13 C h9 dX5_cost_44 ?_
      refine za_if_eq C 57 (by decide) dX5_cost_45 (fun q10 => ?_) (fun q10 => ?_)
      · have hf := z_pos q10 hf
        exact za_sub [1, 0, 2] rfl (j_57 v8 x2 hf)
      · have hf := z_neg q10 hf
        refine za_iload_n C 0 rfl rfl dX5_cost_48 ?_
        refine za_aload_n C 1 rfl rfl dX5_cost_49 ?_
        refine zg_C0_6 C in_X5_cost_X5 fl_X5_cost_48 dX5_cost_50 ?_
        refine za_iconst (v := (3 : Int32)) C (by decide) dX5_cost_53 ?_
        refine za_imul C dX5_cost_54 ?_
        refine za_iadd C dX5_cost_55 ?_
        obtain ⟨v11, ev11, hf⟩ := z_lt hf
        refine za_istore_n C [(1, .int v11), (0, .ref (ad 0)), (2, .int x2)] ev11 (by decide) rfl rfl dX5_cost_56 ?_
        exact za_sub [1, 0, 2] rfl (j_57 v11 x2 hf)
  · show za_At p l e { frames := 1, cells := 0, slots := 0, locals := 21 } s m args below meth c D A 3 0 0 Q 63 [(0, .ref (ad 0)), (1, .int v12), (2, .int v13)] [] (wC ad ck M0)
    refine za_iload_n C 1 rfl rfl dX5_cost_63 ?_
    obtain rfl := z_ret1 hf
    exact za_iret C F dX5_cost_64
theorem in_X5_slow_X5 : ∀ w ∈ wsX50, w ∈ wsX5_slow := by decide +kernel
theorem fl_X5_slow_10 : Cond.fieldLink RX5 10 "ThriceNets" "net" "LThriceNets$Net;" ∈ wsX5_slow := by decide +kernel
def pX5_slow (n : Nat) (M0 : zM) : Option (Int32 × zM) :=
  zb2 (pX2_slowness n M0) (fun v2 N3 => some (v2, N3))
set_option maxHeartbeats 4000000 in
set_option maxRecDepth 100000 in
theorem cX5_slow_ok (l : Launch) (D : va_G) (ck : Nat → ClassId) (ad : Nat → Nat) (n : Nat) (M0 : zM) (r9 : Int32) (M9 : zM) (hf : pX5_slow n M0 = some (r9, M9)) : zc l D ck (wC ad ck) yX5_slow wsX5_slow ({ frames := 2, cells := 0, slots := 0, locals := 63 }) [.ref (ad 0)] M0 (some (.int r9)) M9 := by
  refine zc_of (cc := cX5_slow) (maxL := 1) (ret := (some .int)) [(0, .ref (ad 0))] (by decide) rfl (Nat.le_of_ble_eq_true rfl) rfl ?_
  intro p e s m args below meth c A Q C F
  unfold pX5_slow at hf
  refine za_aload_n C 0 rfl rfl dX5_slow_0 ?_
  refine zg_C0_0 C in_X5_slow_X5 fl_X5_slow_10 dX5_slow_1 ?_
  obtain ⟨v2, N3, hc1, hf⟩ := z_b2 hf
  refine za_callV (n := 0) (rest := []) C (cX2_slowness_ok l D ck ad n  M0 _ _ hc1) gX5_slow_X2_slowness rfl rfl rfl (by decide +kernel) ⟨Nat.le_of_ble_eq_true rfl, Nat.le_of_ble_eq_true rfl⟩ 1 rfl rfl rfl rfl rfl (Nat.le_of_ble_eq_true rfl) ⟨Nat.zero_le _, Nat.zero_le _⟩ dX5_slow_4 ?_
  obtain ⟨rfl, rfl⟩ := z_ret2 hf
  exact za_iret C F dX5_slow_7
def K_X5_isSheet_13 (x0 : Int32) (M0 : zM) : Option (Int32) :=
  some (0 : Int32)
def pX5_isSheet (x0 : Int32) (M0 : zM) : Option (Int32) :=
  (if x0 < 0 then (K_X5_isSheet_13 x0 M0) else (if (4 : Int32) ≤ x0 then (K_X5_isSheet_13 x0 M0) else (some (1 : Int32))))
set_option maxHeartbeats 4000000 in
set_option maxRecDepth 100000 in
theorem cX5_isSheet_ok (l : Launch) (D : va_G) (ck : Nat → ClassId) (ad : Nat → Nat) (x0 : Int32) (M0 : zM) (r9 : Int32) (hf : pX5_isSheet x0 M0 = some r9) : zc l D ck (wC ad ck) yX5_isSheet wsX5_isSheet ({ frames := 0, cells := 0, slots := 0, locals := 0 }) [.int x0] M0 (some (.int r9)) M0 := by
  refine zc_of (cc := cX5_isSheet) (maxL := 1) (ret := (some .boolean)) [(0, .int x0)] (by decide) rfl (Nat.le_of_ble_eq_true rfl) rfl ?_
  intro p e s m args below meth c A Q C F
  have j_13 : ∀ (x0 : Int32), K_X5_isSheet_13 x0 M0 = some r9 → za_At p l e { frames := 0, cells := 0, slots := 0, locals := 0 } s m args below meth c D A 1 0 0 Q 13 [(0, .int x0)] [] (wC ad ck M0) := by
    intro x0 hf
    unfold K_X5_isSheet_13 at hf
    refine za_iconst (v := (0 : Int32)) C (by decide) dX5_isSheet_13 ?_
    obtain rfl := z_ret1 hf
    exact za_zret C F rfl dX5_isSheet_14
  unfold pX5_isSheet at hf
  refine za_iload_n C 0 rfl rfl dX5_isSheet_0 ?_
  refine za_if_lt C 13 (by decide) dX5_isSheet_1 (fun q1 => ?_) (fun q1 => ?_)
  · have hf := z_pos q1 hf
    exact za_sub [0] rfl (j_13 x0 hf)
  · have hf := z_neg q1 hf
    refine za_iload_n C 0 rfl rfl dX5_isSheet_4 ?_
    refine za_iconst (v := (4 : Int32)) C (by decide) dX5_isSheet_5 ?_
    refine za_icmp_ge C 13 (by decide) dX5_isSheet_6 (fun q2 => ?_) (fun q2 => ?_)
    · have hf := z_pos q2 hf
      exact za_sub [0] rfl (j_13 x0 hf)
    · have hf := z_neg q2 hf
      refine za_iconst (v := (1 : Int32)) C (by decide) dX5_isSheet_9 ?_
      refine za_goto C 14 (by decide) dX5_isSheet_10 ?_
      obtain rfl := z_ret1 hf
      exact za_zret C F rfl dX5_isSheet_14
def K_X5_isForm_13 (x0 : Int32) (M0 : zM) : Option (Int32) :=
  some (0 : Int32)
def pX5_isForm (x0 : Int32) (M0 : zM) : Option (Int32) :=
  (if x0 < 0 then (K_X5_isForm_13 x0 M0) else (if (3 : Int32) ≤ x0 then (K_X5_isForm_13 x0 M0) else (some (1 : Int32))))
set_option maxHeartbeats 4000000 in
set_option maxRecDepth 100000 in
theorem cX5_isForm_ok (l : Launch) (D : va_G) (ck : Nat → ClassId) (ad : Nat → Nat) (x0 : Int32) (M0 : zM) (r9 : Int32) (hf : pX5_isForm x0 M0 = some r9) : zc l D ck (wC ad ck) yX5_isForm wsX5_isForm ({ frames := 0, cells := 0, slots := 0, locals := 0 }) [.int x0] M0 (some (.int r9)) M0 := by
  refine zc_of (cc := cX5_isForm) (maxL := 1) (ret := (some .boolean)) [(0, .int x0)] (by decide) rfl (Nat.le_of_ble_eq_true rfl) rfl ?_
  intro p e s m args below meth c A Q C F
  have j_13 : ∀ (x0 : Int32), K_X5_isForm_13 x0 M0 = some r9 → za_At p l e { frames := 0, cells := 0, slots := 0, locals := 0 } s m args below meth c D A 1 0 0 Q 13 [(0, .int x0)] [] (wC ad ck M0) := by
    intro x0 hf
    unfold K_X5_isForm_13 at hf
    refine za_iconst (v := (0 : Int32)) C (by decide) dX5_isForm_13 ?_
    obtain rfl := z_ret1 hf
    exact za_zret C F rfl dX5_isForm_14
  unfold pX5_isForm at hf
  refine za_iload_n C 0 rfl rfl dX5_isForm_0 ?_
  refine za_if_lt C 13 (by decide) dX5_isForm_1 (fun q1 => ?_) (fun q1 => ?_)
  · have hf := z_pos q1 hf
    exact za_sub [0] rfl (j_13 x0 hf)
  · have hf := z_neg q1 hf
    refine za_iload_n C 0 rfl rfl dX5_isForm_4 ?_
    refine za_iconst (v := (3 : Int32)) C (by decide) dX5_isForm_5 ?_
    refine za_icmp_ge C 13 (by decide) dX5_isForm_6 (fun q2 => ?_) (fun q2 => ?_)
    · have hf := z_pos q2 hf
      exact za_sub [0] rfl (j_13 x0 hf)
    · have hf := z_neg q2 hf
      refine za_iconst (v := (1 : Int32)) C (by decide) dX5_isForm_9 ?_
      refine za_goto C 14 (by decide) dX5_isForm_10 ?_
      obtain rfl := z_ret1 hf
      exact za_zret C F rfl dX5_isForm_14
theorem in_X5_finding_X5 : ∀ w ∈ wsX50, w ∈ wsX5_finding := by decide +kernel
theorem fl_X5_finding_19 : Cond.fieldLink RX5 19 "ThriceNets" "sheets" "LThriceNets$Sheets;" ∈ wsX5_finding := by decide +kernel
theorem in_X5_finding_X4 : ∀ w ∈ wsX40, w ∈ wsX5_finding := by decide +kernel
theorem fl_X5_finding_215 : Cond.fieldLink RX5 215 "ThriceNets$Sheets" "latest" "I" ∈ wsX5_finding := by decide +kernel
def pX5_finding (x1 : Int32) (M0 : zM) : Option (Int32 × zM) :=
  zst (zsI M0 5 0 x1) (fun N1 => some (((-10 : Int32) - x1), N1))
set_option maxHeartbeats 4000000 in
set_option maxRecDepth 100000 in
theorem cX5_finding_ok (l : Launch) (D : va_G) (ck : Nat → ClassId) (ad : Nat → Nat) (x1 : Int32) (M0 : zM) (r9 : Int32) (M9 : zM) (hf : pX5_finding x1 M0 = some (r9, M9)) : zc l D ck (wC ad ck) yX5_finding wsX5_finding ({ frames := 0, cells := 0, slots := 0, locals := 0 }) [.ref (ad 0), .int x1] M0 (some (.int r9)) M9 := by
  refine zc_of (cc := cX5_finding) (maxL := 2) (ret := (some .int)) [(0, .ref (ad 0)), (1, .int x1)] (by decide) rfl (Nat.le_of_ble_eq_true rfl) rfl ?_
  intro p e s m args below meth c A Q C F
  unfold pX5_finding at hf
  refine za_aload_n C 0 rfl rfl dX5_finding_0 ?_
  refine zg_C0_1 C in_X5_finding_X5 fl_X5_finding_19 dX5_finding_1 ?_
  refine za_iload_n C 1 rfl rfl dX5_finding_4 ?_
  obtain ⟨N1, eN1, hf⟩ := z_st hf
  refine zp_C2_3 C in_X5_finding_X4 fl_X5_finding_215 eN1 dX5_finding_5 ?_
  refine za_bipush (v := (-10 : Int32)) C (by decide) dX5_finding_8 ?_
  refine za_iload_n C 1 rfl rfl dX5_finding_10 ?_
  refine za_isub C dX5_finding_11 ?_
  obtain ⟨rfl, rfl⟩ := z_ret2 hf
  exact za_iret C F dX5_finding_12
theorem in_X5_sheet_X5 : ∀ w ∈ wsX50, w ∈ wsX5_sheet := by decide +kernel
theorem fl_X5_sheet_19 : Cond.fieldLink RX5 19 "ThriceNets" "sheets" "LThriceNets$Sheets;" ∈ wsX5_sheet := by decide +kernel
def K_X5_sheet_20 (n : Nat) (x1 : Int32) (x2 : Int32) (x3 : Int32) (M : zM) : Option (Int32 × zM) :=
  some ((-2 : Int32), M)
def pX5_sheet (n : Nat) (x1 : Int32) (x2 : Int32) (x3 : Int32) (M0 : zM) : Option (Int32 × zM) :=
  (pX5_isSheet x1 M0).bind (fun v2 => (if v2 = 0 then (K_X5_sheet_20 n x1 x2 x3 M0) else ((pX5_isForm x2 M0).bind (fun v5 => (if v5 = 0 then (K_X5_sheet_20 n x1 x2 x3 M0) else (if x3 ≤ (60 : Int32) then (if 0 ≤ x3 then ((pX4_renew n x1 x2 x3 M0).bind (fun N10 => some (x3, N10))) else (zb2 (pX5_finding (5 : Int32) M0) (fun v12 N13 => some (v12, N13)))) else (K_X5_sheet_20 n x1 x2 x3 M0)))))))
set_option maxHeartbeats 4000000 in
set_option maxRecDepth 100000 in
theorem cX5_sheet_ok (l : Launch) (D : va_G) (ck : Nat → ClassId) (ad : Nat → Nat) (n : Nat) (x1 : Int32) (x2 : Int32) (x3 : Int32) (M0 : zM) (r9 : Int32) (M9 : zM) (hf : pX5_sheet n x1 x2 x3 M0 = some (r9, M9)) : zc l D ck (wC ad ck) yX5_sheet wsX5_sheet ({ frames := 2, cells := 0, slots := 0, locals := 46 }) [.ref (ad 0), .int x1, .int x2, .int x3] M0 (some (.int r9)) M9 := by
  refine zc_of (cc := cX5_sheet) (maxL := 4) (ret := (some .int)) [(0, .ref (ad 0)), (1, .int x1), (2, .int x2), (3, .int x3)] (by decide) rfl (Nat.le_of_ble_eq_true rfl) rfl ?_
  intro p e s m args below meth c A Q C F
  have j_20 : ∀ (x1 : Int32) (x2 : Int32) (x3 : Int32) (M : zM), K_X5_sheet_20 n x1 x2 x3 M = some (r9, M9) → za_At p l e { frames := 2, cells := 0, slots := 0, locals := 46 } s m args below meth c D A 4 0 0 Q 20 [(0, .ref (ad 0)), (1, .int x1), (2, .int x2), (3, .int x3)] [] (wC ad ck M) := by
    intro x1 x2 x3 M hf
    unfold K_X5_sheet_20 at hf
    refine za_bipush (v := (-2 : Int32)) C (by decide) dX5_sheet_20 ?_
    obtain ⟨rfl, rfl⟩ := z_ret2 hf
    exact za_iret C F dX5_sheet_22
  unfold pX5_sheet at hf
  refine za_iload_n C 1 rfl rfl dX5_sheet_0 ?_
  obtain ⟨v2, hc1, hf⟩ := z_bind hf
  refine za_callS (n := 1) (rest := []) C (cX5_isSheet_ok l D ck ad x1 M0 _ hc1) gX5_sheet_X5_isSheet rfl rfl rfl (by decide +kernel) ⟨Nat.le_of_ble_eq_true rfl, Nat.le_of_ble_eq_true rfl⟩ rfl rfl (Nat.le_of_ble_eq_true rfl) ⟨Nat.zero_le _, Nat.zero_le _⟩ dX5_sheet_1 ?_
  refine za_if_eq C 20 (by decide) dX5_sheet_4 (fun q3 => ?_) (fun q3 => ?_)
  · have hf := z_pos q3 hf
    exact za_sub [0, 1, 2, 3] rfl (j_20 x1 x2 x3 M0 hf)
  · have hf := z_neg q3 hf
    refine za_iload_n C 2 rfl rfl dX5_sheet_7 ?_
    obtain ⟨v5, hc4, hf⟩ := z_bind hf
    refine za_callS (n := 1) (rest := []) C (cX5_isForm_ok l D ck ad x2 M0 _ hc4) gX5_sheet_X5_isForm rfl rfl rfl (by decide +kernel) ⟨Nat.le_of_ble_eq_true rfl, Nat.le_of_ble_eq_true rfl⟩ rfl rfl (Nat.le_of_ble_eq_true rfl) ⟨Nat.zero_le _, Nat.zero_le _⟩ dX5_sheet_8 ?_
    refine za_if_eq C 20 (by decide) dX5_sheet_11 (fun q6 => ?_) (fun q6 => ?_)
    · have hf := z_pos q6 hf
      exact za_sub [0, 1, 2, 3] rfl (j_20 x1 x2 x3 M0 hf)
    · have hf := z_neg q6 hf
      refine za_iload_n C 3 rfl rfl dX5_sheet_14 ?_
      refine za_bipush (v := (60 : Int32)) C (by decide) dX5_sheet_15 ?_
      refine za_icmp_le C 23 (by decide) dX5_sheet_17 (fun q7 => ?_) (fun q7 => ?_)
      · have hf := z_pos q7 hf
        refine za_iload_n C 3 rfl rfl dX5_sheet_23 ?_
        refine za_if_ge C 33 (by decide) dX5_sheet_24 (fun q8 => ?_) (fun q8 => ?_)
        · have hf := z_pos q8 hf
          refine za_aload_n C 0 rfl rfl dX5_sheet_33 ?_
          refine zg_C0_1 C in_X5_sheet_X5 fl_X5_sheet_19 dX5_sheet_34 ?_
          refine za_iload_n C 1 rfl rfl dX5_sheet_37 ?_
          refine za_iload_n C 2 rfl rfl dX5_sheet_38 ?_
          refine za_iload_n C 3 rfl rfl dX5_sheet_39 ?_
          obtain ⟨N10, hc9, hf⟩ := z_bind hf
          refine za_callV (n := 3) (rest := []) C (cX4_renew_ok l D ck ad n x1 x2 x3 M0 _ hc9) gX5_sheet_X4_renew rfl rfl rfl (by decide +kernel) ⟨Nat.le_of_ble_eq_true rfl, Nat.le_of_ble_eq_true rfl⟩ 2 rfl rfl rfl rfl rfl (Nat.le_of_ble_eq_true rfl) ⟨Nat.zero_le _, Nat.zero_le _⟩ dX5_sheet_40 ?_
          refine za_iload_n C 3 rfl rfl dX5_sheet_43 ?_
          obtain ⟨rfl, rfl⟩ := z_ret2 hf
          exact za_iret C F dX5_sheet_44
        · have hf := z_neg q8 hf
          refine za_aload_n C 0 rfl rfl dX5_sheet_27 ?_
          refine za_iconst (v := (5 : Int32)) C (by decide) dX5_sheet_28 ?_
          obtain ⟨v12, N13, hc11, hf⟩ := z_b2 hf
          refine za_callV (n := 1) (rest := []) C (cX5_finding_ok l D ck ad (5 : Int32) M0 _ _ hc11) gX5_sheet_X5_finding rfl rfl rfl (by decide +kernel) ⟨Nat.le_of_ble_eq_true rfl, Nat.le_of_ble_eq_true rfl⟩ 0 rfl rfl rfl rfl rfl (Nat.le_of_ble_eq_true rfl) ⟨Nat.zero_le _, Nat.zero_le _⟩ dX5_sheet_29 ?_
          obtain ⟨rfl, rfl⟩ := z_ret2 hf
          exact za_iret C F dX5_sheet_32
      · have hf := z_neg q7 hf
        exact za_sub [0, 1, 2, 3] rfl (j_20 x1 x2 x3 M0 hf)
theorem in_X5_lose_X5 : ∀ w ∈ wsX50, w ∈ wsX5_lose := by decide +kernel
theorem fl_X5_lose_19 : Cond.fieldLink RX5 19 "ThriceNets" "sheets" "LThriceNets$Sheets;" ∈ wsX5_lose := by decide +kernel
theorem in_X5_lose_X4 : ∀ w ∈ wsX40, w ∈ wsX5_lose := by decide +kernel
theorem fl_X5_lose_199 : Cond.fieldLink RX5 199 "ThriceNets$Sheets" "form" "[I" ∈ wsX5_lose := by decide +kernel
theorem fl_X5_lose_202 : Cond.fieldLink RX5 202 "ThriceNets$Sheets" "size" "[I" ∈ wsX5_lose := by decide +kernel
def pX5_lose (x1 : Int32) (M0 : zM) : Option (Int32 × zM) :=
  (pX5_isSheet x1 M0).bind (fun v2 => (if v2 = 0 then (some ((-2 : Int32), M0)) else (zchk x1 4 ((if (M0.1 20 x1.toNatClampNeg) = (-1 : Int32) then (zb2 (pX5_finding (1 : Int32) M0) (fun v10 N11 => some (v10, N11))) else (zchk x1 4 (zst (zsI M0 20 x1.toNatClampNeg (-1 : Int32)) (fun N7 => zchk x1 4 (some ((N7.1 21 x1.toNatClampNeg), N7))))))))))
set_option maxHeartbeats 4000000 in
set_option maxRecDepth 100000 in
theorem cX5_lose_ok (l : Launch) (D : va_G) (ck : Nat → ClassId) (ad : Nat → Nat) (x1 : Int32) (M0 : zM) (r9 : Int32) (M9 : zM) (hf : pX5_lose x1 M0 = some (r9, M9)) : zc l D ck (wC ad ck) yX5_lose wsX5_lose ({ frames := 1, cells := 0, slots := 0, locals := 21 }) [.ref (ad 0), .int x1] M0 (some (.int r9)) M9 := by
  refine zc_of (cc := cX5_lose) (maxL := 2) (ret := (some .int)) [(0, .ref (ad 0)), (1, .int x1)] (by decide) rfl (Nat.le_of_ble_eq_true rfl) rfl ?_
  intro p e s m args below meth c A Q C F
  unfold pX5_lose at hf
  refine za_iload_n C 1 rfl rfl dX5_lose_0 ?_
  obtain ⟨v2, hc1, hf⟩ := z_bind hf
  refine za_callS (n := 1) (rest := []) C (cX5_isSheet_ok l D ck ad x1 M0 _ hc1) gX5_lose_X5_isSheet rfl rfl rfl (by decide +kernel) ⟨Nat.le_of_ble_eq_true rfl, Nat.le_of_ble_eq_true rfl⟩ rfl rfl (Nat.le_of_ble_eq_true rfl) ⟨Nat.zero_le _, Nat.zero_le _⟩ dX5_lose_1 ?_
  refine za_if_ne C 10 (by decide) dX5_lose_4 (fun q3 => ?_) (fun q3 => ?_)
  · have hf := z_neg q3 hf
    refine za_aload_n C 0 rfl rfl dX5_lose_10 ?_
    refine zg_C0_1 C in_X5_lose_X5 fl_X5_lose_19 dX5_lose_11 ?_
    refine zg_C2_0 C in_X5_lose_X4 fl_X5_lose_199 dX5_lose_14 ?_
    refine za_iload_n C 1 rfl rfl dX5_lose_17 ?_
    obtain ⟨h4, hf⟩ := z_chk hf
    refine zl_C16 C h4 dX5_lose_18 ?_
    refine za_iconst (v := (-1 : Int32)) C (by decide) dX5_lose_19 ?_
    refine za_icmp_ne C 29 (by decide) dX5_lose_20 (fun q5 => ?_) (fun q5 => ?_)
    · have hf := z_neg q5 hf
      refine za_aload_n C 0 rfl rfl dX5_lose_29 ?_
      refine zg_C0_1 C in_X5_lose_X5 fl_X5_lose_19 dX5_lose_30 ?_
      refine zg_C2_0 C in_X5_lose_X4 fl_X5_lose_199 dX5_lose_33 ?_
      refine za_iload_n C 1 rfl rfl dX5_lose_36 ?_
      refine za_iconst (v := (-1 : Int32)) C (by decide) dX5_lose_37 ?_
      obtain ⟨h6, hf⟩ := z_chk hf
      obtain ⟨N7, eN7, hf⟩ := z_st hf
      refine zs_C16 C h6 eN7 dX5_lose_38 ?_
      refine za_aload_n C 0 rfl rfl dX5_lose_39 ?_
      refine zg_C0_1 C in_X5_lose_X5 fl_X5_lose_19 dX5_lose_40 ?_
      refine zg_C2_1 C in_X5_lose_X4 fl_X5_lose_202 dX5_lose_43 ?_
      refine za_iload_n C 1 rfl rfl dX5_lose_46 ?_
      obtain ⟨h8, hf⟩ := z_chk hf
      refine zl_C17 C h8 dX5_lose_47 ?_
      obtain ⟨rfl, rfl⟩ := z_ret2 hf
      exact za_iret C F dX5_lose_48
    · have hf := z_pos q5 hf
      refine za_aload_n C 0 rfl rfl dX5_lose_23 ?_
      refine za_iconst (v := (1 : Int32)) C (by decide) dX5_lose_24 ?_
      obtain ⟨v10, N11, hc9, hf⟩ := z_b2 hf
      refine za_callV (n := 1) (rest := []) C (cX5_finding_ok l D ck ad (1 : Int32) M0 _ _ hc9) gX5_lose_X5_finding rfl rfl rfl (by decide +kernel) ⟨Nat.le_of_ble_eq_true rfl, Nat.le_of_ble_eq_true rfl⟩ 0 rfl rfl rfl rfl rfl (Nat.le_of_ble_eq_true rfl) ⟨Nat.zero_le _, Nat.zero_le _⟩ dX5_lose_25 ?_
      obtain ⟨rfl, rfl⟩ := z_ret2 hf
      exact za_iret C F dX5_lose_28
  · have hf := z_pos q3 hf
    refine za_bipush (v := (-2 : Int32)) C (by decide) dX5_lose_7 ?_
    obtain ⟨rfl, rfl⟩ := z_ret2 hf
    exact za_iret C F dX5_lose_9
theorem in_X5_put_X5 : ∀ w ∈ wsX50, w ∈ wsX5_put := by decide +kernel
theorem fl_X5_put_19 : Cond.fieldLink RX5 19 "ThriceNets" "sheets" "LThriceNets$Sheets;" ∈ wsX5_put := by decide +kernel
theorem in_X5_put_X4 : ∀ w ∈ wsX40, w ∈ wsX5_put := by decide +kernel
theorem fl_X5_put_207 : Cond.fieldLink RX5 207 "ThriceNets$Sheets" "item" "[[I" ∈ wsX5_put := by decide +kernel
def K_X5_put_14 (x1 : Int32) (x2 : Int32) (x3 : Int32) (x4 : Int32) (M : zM) : Option (Int32 × zM) :=
  some ((-2 : Int32), M)
def pX5_put (x1 : Int32) (x2 : Int32) (x3 : Int32) (x4 : Int32) (M0 : zM) : Option (Int32 × zM) :=
  (pX5_isSheet x1 M0).bind (fun v2 => (if v2 = 0 then (K_X5_put_14 x1 x2 x3 x4 M0) else ((pX5_isForm x2 M0).bind (fun v5 => (if v5 = 0 then (K_X5_put_14 x1 x2 x3 x4 M0) else ((pX4_wrongOf x1 x2 x3 M0).bind (fun v8 => zlt v8 (fun v9 => (if v9 = 0 then (zchk x1 4 ((pX4_narrowed x2 x4 M0).bind (fun v13 => zchk x3 60 (zst (zsI M0 (30 + x1.toNatClampNeg) x3.toNatClampNeg v13) (fun N15 => some ((1 : Int32), N15)))))) else (zb2 (pX5_finding v9 M0) (fun v17 N18 => some (v17, N18))))))))))))
set_option maxHeartbeats 4000000 in
set_option maxRecDepth 100000 in
theorem cX5_put_ok (l : Launch) (D : va_G) (ck : Nat → ClassId) (ad : Nat → Nat) (x1 : Int32) (x2 : Int32) (x3 : Int32) (x4 : Int32) (M0 : zM) (r9 : Int32) (M9 : zM) (hf : pX5_put x1 x2 x3 x4 M0 = some (r9, M9)) : zc l D ck (wC ad ck) yX5_put wsX5_put ({ frames := 1, cells := 0, slots := 0, locals := 23 }) [.ref (ad 0), .int x1, .int x2, .int x3, .int x4] M0 (some (.int r9)) M9 := by
  refine zc_of (cc := cX5_put) (maxL := 6) (ret := (some .int)) [(0, .ref (ad 0)), (1, .int x1), (2, .int x2), (3, .int x3), (4, .int x4)] (by decide) rfl (Nat.le_of_ble_eq_true rfl) rfl ?_
  intro p e s m args below meth c A Q C F
  have j_14 : ∀ (x1 : Int32) (x2 : Int32) (x3 : Int32) (x4 : Int32) (M : zM), K_X5_put_14 x1 x2 x3 x4 M = some (r9, M9) → za_At p l e { frames := 1, cells := 0, slots := 0, locals := 23 } s m args below meth c D A 6 0 0 Q 14 [(0, .ref (ad 0)), (1, .int x1), (2, .int x2), (3, .int x3), (4, .int x4)] [] (wC ad ck M) := by
    intro x1 x2 x3 x4 M hf
    unfold K_X5_put_14 at hf
    refine za_bipush (v := (-2 : Int32)) C (by decide) dX5_put_14 ?_
    obtain ⟨rfl, rfl⟩ := z_ret2 hf
    exact za_iret C F dX5_put_16
  unfold pX5_put at hf
  refine za_iload_n C 1 rfl rfl dX5_put_0 ?_
  obtain ⟨v2, hc1, hf⟩ := z_bind hf
  refine za_callS (n := 1) (rest := []) C (cX5_isSheet_ok l D ck ad x1 M0 _ hc1) gX5_put_X5_isSheet rfl rfl rfl (by decide +kernel) ⟨Nat.le_of_ble_eq_true rfl, Nat.le_of_ble_eq_true rfl⟩ rfl rfl (Nat.le_of_ble_eq_true rfl) ⟨Nat.zero_le _, Nat.zero_le _⟩ dX5_put_1 ?_
  refine za_if_eq C 14 (by decide) dX5_put_4 (fun q3 => ?_) (fun q3 => ?_)
  · have hf := z_pos q3 hf
    exact za_sub [0, 1, 2, 3, 4] rfl (j_14 x1 x2 x3 x4 M0 hf)
  · have hf := z_neg q3 hf
    refine za_iload_n C 2 rfl rfl dX5_put_7 ?_
    obtain ⟨v5, hc4, hf⟩ := z_bind hf
    refine za_callS (n := 1) (rest := []) C (cX5_isForm_ok l D ck ad x2 M0 _ hc4) gX5_put_X5_isForm rfl rfl rfl (by decide +kernel) ⟨Nat.le_of_ble_eq_true rfl, Nat.le_of_ble_eq_true rfl⟩ rfl rfl (Nat.le_of_ble_eq_true rfl) ⟨Nat.zero_le _, Nat.zero_le _⟩ dX5_put_8 ?_
    refine za_if_ne C 17 (by decide) dX5_put_11 (fun q6 => ?_) (fun q6 => ?_)
    · have hf := z_neg q6 hf
      refine za_aload_n C 0 rfl rfl dX5_put_17 ?_
      refine zg_C0_1 C in_X5_put_X5 fl_X5_put_19 dX5_put_18 ?_
      refine za_iload_n C 1 rfl rfl dX5_put_21 ?_
      refine za_iload_n C 2 rfl rfl dX5_put_22 ?_
      refine za_iload_n C 3 rfl rfl dX5_put_23 ?_
      obtain ⟨v8, hc7, hf⟩ := z_bind hf
      refine za_callV (n := 3) (rest := []) C (cX4_wrongOf_ok l D ck ad x1 x2 x3 M0 _ hc7) gX5_put_X4_wrongOf rfl rfl rfl (by decide +kernel) ⟨Nat.le_of_ble_eq_true rfl, Nat.le_of_ble_eq_true rfl⟩ 2 rfl rfl rfl rfl rfl (Nat.le_of_ble_eq_true rfl) ⟨Nat.zero_le _, Nat.zero_le _⟩ dX5_put_24 ?_
      obtain ⟨v9, ev9, hf⟩ := z_lt hf
      refine za_istore C [(5, .int v9), (0, .ref (ad 0)), (1, .int x1), (2, .int x2), (3, .int x3), (4, .int x4)] ev9 (by decide) rfl dX5_put_27 ?_
      refine za_iload C 0 rfl dX5_put_29 ?_
      refine za_if_eq C 41 (by decide) dX5_put_31 (fun q10 => ?_) (fun q10 => ?_)
      · have hf := z_pos q10 hf
        refine za_aload_n C 1 rfl rfl dX5_put_41 ?_
        refine zg_C0_1 C in_X5_put_X5 fl_X5_put_19 dX5_put_42 ?_
        refine zg_C2_2 C in_X5_put_X4 fl_X5_put_207 dX5_put_45 ?_
        refine za_iload_n C 2 rfl rfl dX5_put_48 ?_
        obtain ⟨h11, hf⟩ := z_chk hf
        refine zl_item C h11 dX5_put_49 ?_
        refine za_iload_n C 4 rfl rfl dX5_put_50 ?_
        refine za_iload_n C 3 rfl rfl dX5_put_51 ?_
        refine za_iload C 5 rfl dX5_put_52 ?_
        obtain ⟨v13, hc12, hf⟩ := z_bind hf
        refine za_callS (n := 2) (rest := [.int x3, .ref (ad (19 + x1.toNatClampNeg))]) C (cX4_narrowed_ok l D ck ad x2 x4 M0 _ hc12) gX5_put_X4_narrowed rfl rfl rfl (by decide +kernel) ⟨Nat.le_of_ble_eq_true rfl, Nat.le_of_ble_eq_true rfl⟩ rfl rfl (Nat.le_of_ble_eq_true rfl) ⟨Nat.zero_le _, Nat.zero_le _⟩ dX5_put_54 ?_
        obtain ⟨h14, hf⟩ := z_chk hf
        obtain ⟨N15, eN15, hf⟩ := z_st hf
        refine zs_row C h11 h14 eN15 dX5_put_57 ?_
        refine za_iconst (v := (1 : Int32)) C (by decide) dX5_put_58 ?_
        obtain ⟨rfl, rfl⟩ := z_ret2 hf
        exact za_iret C F dX5_put_59
      · have hf := z_neg q10 hf
        refine za_aload_n C 1 rfl rfl dX5_put_34 ?_
        refine za_iload C 0 rfl dX5_put_35 ?_
        obtain ⟨v17, N18, hc16, hf⟩ := z_b2 hf
        refine za_callV (n := 1) (rest := []) C (cX5_finding_ok l D ck ad v9 M0 _ _ hc16) gX5_put_X5_finding rfl rfl rfl (by decide +kernel) ⟨Nat.le_of_ble_eq_true rfl, Nat.le_of_ble_eq_true rfl⟩ 0 rfl rfl rfl rfl rfl (Nat.le_of_ble_eq_true rfl) ⟨Nat.zero_le _, Nat.zero_le _⟩ dX5_put_37 ?_
        obtain ⟨rfl, rfl⟩ := z_ret2 hf
        exact za_iret C F dX5_put_40
    · have hf := z_pos q6 hf
      exact za_sub [0, 1, 2, 3, 4] rfl (j_14 x1 x2 x3 x4 M0 hf)
theorem cn_X5_get_214 : Jvm.Cond.constant RX5 214 (-2147483648) ∈ wsX5_get := by decide +kernel
theorem in_X5_get_X5 : ∀ w ∈ wsX50, w ∈ wsX5_get := by decide +kernel
theorem fl_X5_get_19 : Cond.fieldLink RX5 19 "ThriceNets" "sheets" "LThriceNets$Sheets;" ∈ wsX5_get := by decide +kernel
theorem in_X5_get_X4 : ∀ w ∈ wsX40, w ∈ wsX5_get := by decide +kernel
theorem fl_X5_get_207 : Cond.fieldLink RX5 207 "ThriceNets$Sheets" "item" "[[I" ∈ wsX5_get := by decide +kernel
theorem fl_X5_get_215 : Cond.fieldLink RX5 215 "ThriceNets$Sheets" "latest" "I" ∈ wsX5_get := by decide +kernel
def K_X5_get_14 (x1 : Int32) (x2 : Int32) (x3 : Int32) (M : zM) : Option (Int32 × zM) :=
  some ((-2147483648 : Int32), M)
def pX5_get (x1 : Int32) (x2 : Int32) (x3 : Int32) (M0 : zM) : Option (Int32 × zM) :=
  (pX5_isSheet x1 M0).bind (fun v2 => (if v2 = 0 then (K_X5_get_14 x1 x2 x3 M0) else ((pX5_isForm x2 M0).bind (fun v5 => (if v5 = 0 then (K_X5_get_14 x1 x2 x3 M0) else ((pX4_wrongOf x1 x2 x3 M0).bind (fun v8 => zlt v8 (fun v9 => (if v9 = 0 then (zchk x1 4 (zchk x3 60 (some ((M0.1 (30 + x1.toNatClampNeg) x3.toNatClampNeg), M0)))) else (zst (zsI M0 5 0 v9) (fun N13 => some ((-2147483648 : Int32), N13))))))))))))
set_option maxHeartbeats 4000000 in
set_option maxRecDepth 100000 in
theorem cX5_get_ok (l : Launch) (D : va_G) (ck : Nat → ClassId) (ad : Nat → Nat) (x1 : Int32) (x2 : Int32) (x3 : Int32) (M0 : zM) (r9 : Int32) (M9 : zM) (hf : pX5_get x1 x2 x3 M0 = some (r9, M9)) : zc l D ck (wC ad ck) yX5_get wsX5_get ({ frames := 1, cells := 0, slots := 0, locals := 23 }) [.ref (ad 0), .int x1, .int x2, .int x3] M0 (some (.int r9)) M9 := by
  refine zc_of (cc := cX5_get) (maxL := 5) (ret := (some .int)) [(0, .ref (ad 0)), (1, .int x1), (2, .int x2), (3, .int x3)] (by decide) rfl (Nat.le_of_ble_eq_true rfl) rfl ?_
  intro p e s m args below meth c A Q C F
  have j_14 : ∀ (x1 : Int32) (x2 : Int32) (x3 : Int32) (M : zM), K_X5_get_14 x1 x2 x3 M = some (r9, M9) → za_At p l e { frames := 1, cells := 0, slots := 0, locals := 23 } s m args below meth c D A 5 0 0 Q 14 [(0, .ref (ad 0)), (1, .int x1), (2, .int x2), (3, .int x3)] [] (wC ad ck M) := by
    intro x1 x2 x3 M hf
    unfold K_X5_get_14 at hf
    refine za_ldc (v := (-2147483648 : Int32)) C cn_X5_get_214 dX5_get_14 ?_
    obtain ⟨rfl, rfl⟩ := z_ret2 hf
    exact za_iret C F dX5_get_16
  unfold pX5_get at hf
  refine za_iload_n C 1 rfl rfl dX5_get_0 ?_
  obtain ⟨v2, hc1, hf⟩ := z_bind hf
  refine za_callS (n := 1) (rest := []) C (cX5_isSheet_ok l D ck ad x1 M0 _ hc1) gX5_get_X5_isSheet rfl rfl rfl (by decide +kernel) ⟨Nat.le_of_ble_eq_true rfl, Nat.le_of_ble_eq_true rfl⟩ rfl rfl (Nat.le_of_ble_eq_true rfl) ⟨Nat.zero_le _, Nat.zero_le _⟩ dX5_get_1 ?_
  refine za_if_eq C 14 (by decide) dX5_get_4 (fun q3 => ?_) (fun q3 => ?_)
  · have hf := z_pos q3 hf
    exact za_sub [0, 1, 2, 3] rfl (j_14 x1 x2 x3 M0 hf)
  · have hf := z_neg q3 hf
    refine za_iload_n C 2 rfl rfl dX5_get_7 ?_
    obtain ⟨v5, hc4, hf⟩ := z_bind hf
    refine za_callS (n := 1) (rest := []) C (cX5_isForm_ok l D ck ad x2 M0 _ hc4) gX5_get_X5_isForm rfl rfl rfl (by decide +kernel) ⟨Nat.le_of_ble_eq_true rfl, Nat.le_of_ble_eq_true rfl⟩ rfl rfl (Nat.le_of_ble_eq_true rfl) ⟨Nat.zero_le _, Nat.zero_le _⟩ dX5_get_8 ?_
    refine za_if_ne C 17 (by decide) dX5_get_11 (fun q6 => ?_) (fun q6 => ?_)
    · have hf := z_neg q6 hf
      refine za_aload_n C 0 rfl rfl dX5_get_17 ?_
      refine zg_C0_1 C in_X5_get_X5 fl_X5_get_19 dX5_get_18 ?_
      refine za_iload_n C 1 rfl rfl dX5_get_21 ?_
      refine za_iload_n C 2 rfl rfl dX5_get_22 ?_
      refine za_iload_n C 3 rfl rfl dX5_get_23 ?_
      obtain ⟨v8, hc7, hf⟩ := z_bind hf
      refine za_callV (n := 3) (rest := []) C (cX4_wrongOf_ok l D ck ad x1 x2 x3 M0 _ hc7) gX5_get_X4_wrongOf rfl rfl rfl (by decide +kernel) ⟨Nat.le_of_ble_eq_true rfl, Nat.le_of_ble_eq_true rfl⟩ 2 rfl rfl rfl rfl rfl (Nat.le_of_ble_eq_true rfl) ⟨Nat.zero_le _, Nat.zero_le _⟩ dX5_get_24 ?_
      obtain ⟨v9, ev9, hf⟩ := z_lt hf
      refine za_istore C [(4, .int v9), (0, .ref (ad 0)), (1, .int x1), (2, .int x2), (3, .int x3)] ev9 (by decide) rfl dX5_get_27 ?_
      refine za_iload C 0 rfl dX5_get_29 ?_
      refine za_if_eq C 46 (by decide) dX5_get_31 (fun q10 => ?_) (fun q10 => ?_)
      · have hf := z_pos q10 hf
        refine za_aload_n C 1 rfl rfl dX5_get_46 ?_
        refine zg_C0_1 C in_X5_get_X5 fl_X5_get_19 dX5_get_47 ?_
        refine zg_C2_2 C in_X5_get_X4 fl_X5_get_207 dX5_get_50 ?_
        refine za_iload_n C 2 rfl rfl dX5_get_53 ?_
        obtain ⟨h11, hf⟩ := z_chk hf
        refine zl_item C h11 dX5_get_54 ?_
        refine za_iload_n C 4 rfl rfl dX5_get_55 ?_
        obtain ⟨h12, hf⟩ := z_chk hf
        refine zl_row C h11 h12 dX5_get_56 ?_
        obtain ⟨rfl, rfl⟩ := z_ret2 hf
        exact za_iret C F dX5_get_57
      · have hf := z_neg q10 hf
        refine za_aload_n C 1 rfl rfl dX5_get_34 ?_
        refine zg_C0_1 C in_X5_get_X5 fl_X5_get_19 dX5_get_35 ?_
        refine za_iload C 0 rfl dX5_get_38 ?_
        obtain ⟨N13, eN13, hf⟩ := z_st hf
        refine zp_C2_3 C in_X5_get_X4 fl_X5_get_215 eN13 dX5_get_40 ?_
        refine za_ldc (v := (-2147483648 : Int32)) C cn_X5_get_214 dX5_get_43 ?_
        obtain ⟨rfl, rfl⟩ := z_ret2 hf
        exact za_iret C F dX5_get_45
    · have hf := z_pos q6 hf
      exact za_sub [0, 1, 2, 3] rfl (j_14 x1 x2 x3 M0 hf)
theorem in_X5_move_X5 : ∀ w ∈ wsX50, w ∈ wsX5_move := by decide +kernel
theorem fl_X5_move_19 : Cond.fieldLink RX5 19 "ThriceNets" "sheets" "LThriceNets$Sheets;" ∈ wsX5_move := by decide +kernel
theorem in_X5_move_X4 : ∀ w ∈ wsX40, w ∈ wsX5_move := by decide +kernel
theorem fl_X5_move_199 : Cond.fieldLink RX5 199 "ThriceNets$Sheets" "form" "[I" ∈ wsX5_move := by decide +kernel
theorem fl_X5_move_207 : Cond.fieldLink RX5 207 "ThriceNets$Sheets" "item" "[[I" ∈ wsX5_move := by decide +kernel
theorem wd_X5_move_ac1 : Cond.methodLink RX5 221 arraycopyName ∈ wsX5_move := by decide +kernel
theorem wd_X5_move_ac2 : Cond.native arraycopyName ∈ wsX5_move := by decide +kernel
theorem wd_X5_move_ac3 : Cond.static arraycopyName ∈ wsX5_move := by decide +kernel
theorem wd_X5_move_ac4 : Cond.initialized "java/lang/System" ∈ wsX5_move := by decide +kernel
def K_X5_move_105 (x1 : Int32) (x2 : Int32) (x3 : Int32) (x4 : Int32) (x5 : Int32) (M : zM) : Option (Int32 × zM) :=
  zb2 (pX5_finding (2 : Int32) M) (fun v2 N3 => some (v2, N3))
def K_X5_move_43 (x1 : Int32) (x2 : Int32) (x3 : Int32) (x4 : Int32) (x5 : Int32) (M : zM) : Option (Int32 × zM) :=
  zb2 (pX5_finding (1 : Int32) M) (fun v5 N6 => some (v5, N6))
def K_X5_move_14 (x1 : Int32) (x2 : Int32) (x3 : Int32) (x4 : Int32) (x5 : Int32) (M : zM) : Option (Int32 × zM) :=
  some ((-2 : Int32), M)
def pX5_move (x1 : Int32) (x2 : Int32) (x3 : Int32) (x4 : Int32) (x5 : Int32) (M0 : zM) : Option (Int32 × zM) :=
  (pX5_isSheet x1 M0).bind (fun v8 => (if v8 = 0 then (K_X5_move_14 x1 x2 x3 x4 x5 M0) else ((pX5_isSheet x3 M0).bind (fun v11 => (if v11 = 0 then (K_X5_move_14 x1 x2 x3 x4 x5 M0) else (zchk x1 4 ((if (M0.1 20 x1.toNatClampNeg) = (-1 : Int32) then (K_X5_move_43 x1 x2 x3 x4 x5 M0) else (zchk x3 4 ((if (M0.1 20 x3.toNatClampNeg) = (-1 : Int32) then (K_X5_move_43 x1 x2 x3 x4 x5 M0) else (zchk x1 4 (zchk x3 4 ((if (M0.1 20 x1.toNatClampNeg) = (M0.1 20 x3.toNatClampNeg) then ((pX4_hasItems x1 x2 x5 M0).bind (fun v21 => (if v21 = 0 then (K_X5_move_105 x1 x2 x3 x4 x5 M0) else ((pX4_hasItems x3 x4 x5 M0).bind (fun v24 => (if v24 = 0 then (K_X5_move_105 x1 x2 x3 x4 x5 M0) else (zchk x1 4 (zchk x3 4 (zcpk (zcp x2 x4 x5 60 60) (zst (zcI M0 (30 + x3.toNatClampNeg) (va_cpy (M0.1 (30 + x1.toNatClampNeg)) (M0.1 (30 + x3.toNatClampNeg)) x2.toNatClampNeg x4.toNatClampNeg x5.toNatClampNeg)) (fun N28 => some ((1 : Int32), N28)))))))))))) else (zb2 (pX5_finding (4 : Int32) M0) (fun v31 N32 => some (v31, N32))))))))))))))))))
set_option maxHeartbeats 4000000 in
set_option maxRecDepth 100000 in
theorem cX5_move_ok (l : Launch) (D : va_G) (ck : Nat → ClassId) (ad : Nat → Nat) (x1 : Int32) (x2 : Int32) (x3 : Int32) (x4 : Int32) (x5 : Int32) (M0 : zM) (r9 : Int32) (M9 : zM) (hf : pX5_move x1 x2 x3 x4 x5 M0 = some (r9, M9)) : zc l D ck (wC ad ck) yX5_move wsX5_move ({ frames := 1, cells := 0, slots := 0, locals := 40 }) [.ref (ad 0), .int x1, .int x2, .int x3, .int x4, .int x5] M0 (some (.int r9)) M9 := by
  refine zc_of (cc := cX5_move) (maxL := 6) (ret := (some .int)) [(0, .ref (ad 0)), (1, .int x1), (2, .int x2), (3, .int x3), (4, .int x4), (5, .int x5)] (by decide) rfl (Nat.le_of_ble_eq_true rfl) rfl ?_
  intro p e s m args below meth c A Q C F
  have j_105 : ∀ (x1 : Int32) (x2 : Int32) (x3 : Int32) (x4 : Int32) (x5 : Int32) (M : zM), K_X5_move_105 x1 x2 x3 x4 x5 M = some (r9, M9) → za_At p l e { frames := 1, cells := 0, slots := 0, locals := 40 } s m args below meth c D A 6 0 0 Q 105 [(0, .ref (ad 0)), (1, .int x1), (2, .int x2), (3, .int x3), (4, .int x4), (5, .int x5)] [] (wC ad ck M) := by
    intro x1 x2 x3 x4 x5 M hf
    unfold K_X5_move_105 at hf
    refine za_aload_n C 0 rfl rfl dX5_move_105 ?_
    refine za_iconst (v := (2 : Int32)) C (by decide) dX5_move_106 ?_
    obtain ⟨v2, N3, hc1, hf⟩ := z_b2 hf
    refine za_callV (n := 1) (rest := []) C (cX5_finding_ok l D ck ad (2 : Int32) M _ _ hc1) gX5_move_X5_finding rfl rfl rfl (by decide +kernel) ⟨Nat.le_of_ble_eq_true rfl, Nat.le_of_ble_eq_true rfl⟩ 0 rfl rfl rfl rfl rfl (Nat.le_of_ble_eq_true rfl) ⟨Nat.zero_le _, Nat.zero_le _⟩ dX5_move_107 ?_
    obtain ⟨rfl, rfl⟩ := z_ret2 hf
    exact za_iret C F dX5_move_110
  have j_43 : ∀ (x1 : Int32) (x2 : Int32) (x3 : Int32) (x4 : Int32) (x5 : Int32) (M : zM), K_X5_move_43 x1 x2 x3 x4 x5 M = some (r9, M9) → za_At p l e { frames := 1, cells := 0, slots := 0, locals := 40 } s m args below meth c D A 6 0 0 Q 43 [(0, .ref (ad 0)), (1, .int x1), (2, .int x2), (3, .int x3), (4, .int x4), (5, .int x5)] [] (wC ad ck M) := by
    intro x1 x2 x3 x4 x5 M hf
    unfold K_X5_move_43 at hf
    refine za_aload_n C 0 rfl rfl dX5_move_43 ?_
    refine za_iconst (v := (1 : Int32)) C (by decide) dX5_move_44 ?_
    obtain ⟨v5, N6, hc4, hf⟩ := z_b2 hf
    refine za_callV (n := 1) (rest := []) C (cX5_finding_ok l D ck ad (1 : Int32) M _ _ hc4) gX5_move_X5_finding rfl rfl rfl (by decide +kernel) ⟨Nat.le_of_ble_eq_true rfl, Nat.le_of_ble_eq_true rfl⟩ 0 rfl rfl rfl rfl rfl (Nat.le_of_ble_eq_true rfl) ⟨Nat.zero_le _, Nat.zero_le _⟩ dX5_move_45 ?_
    obtain ⟨rfl, rfl⟩ := z_ret2 hf
    exact za_iret C F dX5_move_48
  have j_14 : ∀ (x1 : Int32) (x2 : Int32) (x3 : Int32) (x4 : Int32) (x5 : Int32) (M : zM), K_X5_move_14 x1 x2 x3 x4 x5 M = some (r9, M9) → za_At p l e { frames := 1, cells := 0, slots := 0, locals := 40 } s m args below meth c D A 6 0 0 Q 14 [(0, .ref (ad 0)), (1, .int x1), (2, .int x2), (3, .int x3), (4, .int x4), (5, .int x5)] [] (wC ad ck M) := by
    intro x1 x2 x3 x4 x5 M hf
    unfold K_X5_move_14 at hf
    refine za_bipush (v := (-2 : Int32)) C (by decide) dX5_move_14 ?_
    obtain ⟨rfl, rfl⟩ := z_ret2 hf
    exact za_iret C F dX5_move_16
  unfold pX5_move at hf
  refine za_iload_n C 1 rfl rfl dX5_move_0 ?_
  obtain ⟨v8, hc7, hf⟩ := z_bind hf
  refine za_callS (n := 1) (rest := []) C (cX5_isSheet_ok l D ck ad x1 M0 _ hc7) gX5_move_X5_isSheet rfl rfl rfl (by decide +kernel) ⟨Nat.le_of_ble_eq_true rfl, Nat.le_of_ble_eq_true rfl⟩ rfl rfl (Nat.le_of_ble_eq_true rfl) ⟨Nat.zero_le _, Nat.zero_le _⟩ dX5_move_1 ?_
  refine za_if_eq C 14 (by decide) dX5_move_4 (fun q9 => ?_) (fun q9 => ?_)
  · have hf := z_pos q9 hf
    exact za_sub [0, 1, 2, 3, 4, 5] rfl (j_14 x1 x2 x3 x4 x5 M0 hf)
  · have hf := z_neg q9 hf
    refine za_iload_n C 3 rfl rfl dX5_move_7 ?_
    obtain ⟨v11, hc10, hf⟩ := z_bind hf
    refine za_callS (n := 1) (rest := []) C (cX5_isSheet_ok l D ck ad x3 M0 _ hc10) gX5_move_X5_isSheet rfl rfl rfl (by decide +kernel) ⟨Nat.le_of_ble_eq_true rfl, Nat.le_of_ble_eq_true rfl⟩ rfl rfl (Nat.le_of_ble_eq_true rfl) ⟨Nat.zero_le _, Nat.zero_le _⟩ dX5_move_8 ?_
    refine za_if_ne C 17 (by decide) dX5_move_11 (fun q12 => ?_) (fun q12 => ?_)
    · have hf := z_neg q12 hf
      refine za_aload_n C 0 rfl rfl dX5_move_17 ?_
      refine zg_C0_1 C in_X5_move_X5 fl_X5_move_19 dX5_move_18 ?_
      refine zg_C2_0 C in_X5_move_X4 fl_X5_move_199 dX5_move_21 ?_
      refine za_iload_n C 1 rfl rfl dX5_move_24 ?_
      obtain ⟨h13, hf⟩ := z_chk hf
      refine zl_C16 C h13 dX5_move_25 ?_
      refine za_iconst (v := (-1 : Int32)) C (by decide) dX5_move_26 ?_
      refine za_icmp_eq C 43 (by decide) dX5_move_27 (fun q14 => ?_) (fun q14 => ?_)
      · have hf := z_pos q14 hf
        exact za_sub [0, 1, 2, 3, 4, 5] rfl (j_43 x1 x2 x3 x4 x5 M0 hf)
      · have hf := z_neg q14 hf
        refine za_aload_n C 0 rfl rfl dX5_move_30 ?_
        refine zg_C0_1 C in_X5_move_X5 fl_X5_move_19 dX5_move_31 ?_
        refine zg_C2_0 C in_X5_move_X4 fl_X5_move_199 dX5_move_34 ?_
        refine za_iload_n C 3 rfl rfl dX5_move_37 ?_
        obtain ⟨h15, hf⟩ := z_chk hf
        refine zl_C16 C h15 dX5_move_38 ?_
        refine za_iconst (v := (-1 : Int32)) C (by decide) dX5_move_39 ?_
        refine za_icmp_ne C 49 (by decide) dX5_move_40 (fun q16 => ?_) (fun q16 => ?_)
        · have hf := z_neg q16 hf
          refine za_aload_n C 0 rfl rfl dX5_move_49 ?_
          refine zg_C0_1 C in_X5_move_X5 fl_X5_move_19 dX5_move_50 ?_
          refine zg_C2_0 C in_X5_move_X4 fl_X5_move_199 dX5_move_53 ?_
          refine za_iload_n C 1 rfl rfl dX5_move_56 ?_
          obtain ⟨h17, hf⟩ := z_chk hf
          refine zl_C16 C h17 dX5_move_57 ?_
          refine za_aload_n C 0 rfl rfl dX5_move_58 ?_
          refine zg_C0_1 C in_X5_move_X5 fl_X5_move_19 dX5_move_59 ?_
          refine zg_C2_0 C in_X5_move_X4 fl_X5_move_199 dX5_move_62 ?_
          refine za_iload_n C 3 rfl rfl dX5_move_65 ?_
          obtain ⟨h18, hf⟩ := z_chk hf
          refine zl_C16 C h18 dX5_move_66 ?_
          refine za_icmp_eq C 76 (by decide) dX5_move_67 (fun q19 => ?_) (fun q19 => ?_)
          · have hf := z_pos q19 hf
            refine za_aload_n C 0 rfl rfl dX5_move_76 ?_
            refine zg_C0_1 C in_X5_move_X5 fl_X5_move_19 dX5_move_77 ?_
            refine za_iload_n C 1 rfl rfl dX5_move_80 ?_
            refine za_iload_n C 2 rfl rfl dX5_move_81 ?_
            refine za_iload C 5 rfl dX5_move_82 ?_
            obtain ⟨v21, hc20, hf⟩ := z_bind hf
            refine za_callV (n := 3) (rest := []) C (cX4_hasItems_ok l D ck ad x1 x2 x5 M0 _ hc20) gX5_move_X4_hasItems rfl rfl rfl (by decide +kernel) ⟨Nat.le_of_ble_eq_true rfl, Nat.le_of_ble_eq_true rfl⟩ 2 rfl rfl rfl rfl rfl (Nat.le_of_ble_eq_true rfl) ⟨Nat.zero_le _, Nat.zero_le _⟩ dX5_move_84 ?_
            refine za_if_eq C 105 (by decide) dX5_move_87 (fun q22 => ?_) (fun q22 => ?_)
            · have hf := z_pos q22 hf
              exact za_sub [0, 1, 2, 3, 4, 5] rfl (j_105 x1 x2 x3 x4 x5 M0 hf)
            · have hf := z_neg q22 hf
              refine za_aload_n C 0 rfl rfl dX5_move_90 ?_
              refine zg_C0_1 C in_X5_move_X5 fl_X5_move_19 dX5_move_91 ?_
              refine za_iload_n C 3 rfl rfl dX5_move_94 ?_
              refine za_iload C 4 rfl dX5_move_95 ?_
              refine za_iload C 5 rfl dX5_move_97 ?_
              obtain ⟨v24, hc23, hf⟩ := z_bind hf
              refine za_callV (n := 3) (rest := []) C (cX4_hasItems_ok l D ck ad x3 x4 x5 M0 _ hc23) gX5_move_X4_hasItems rfl rfl rfl (by decide +kernel) ⟨Nat.le_of_ble_eq_true rfl, Nat.le_of_ble_eq_true rfl⟩ 2 rfl rfl rfl rfl rfl (Nat.le_of_ble_eq_true rfl) ⟨Nat.zero_le _, Nat.zero_le _⟩ dX5_move_99 ?_
              refine za_if_ne C 111 (by decide) dX5_move_102 (fun q25 => ?_) (fun q25 => ?_)
              · have hf := z_neg q25 hf
                refine za_aload_n C 0 rfl rfl dX5_move_111 ?_
                refine zg_C0_1 C in_X5_move_X5 fl_X5_move_19 dX5_move_112 ?_
                refine zg_C2_2 C in_X5_move_X4 fl_X5_move_207 dX5_move_115 ?_
                refine za_iload_n C 1 rfl rfl dX5_move_118 ?_
                obtain ⟨h26, hf⟩ := z_chk hf
                refine zl_item C h26 dX5_move_119 ?_
                refine za_iload_n C 2 rfl rfl dX5_move_120 ?_
                refine za_aload_n C 0 rfl rfl dX5_move_121 ?_
                refine zg_C0_1 C in_X5_move_X5 fl_X5_move_19 dX5_move_122 ?_
                refine zg_C2_2 C in_X5_move_X4 fl_X5_move_207 dX5_move_125 ?_
                refine za_iload_n C 3 rfl rfl dX5_move_128 ?_
                obtain ⟨h27, hf⟩ := z_chk hf
                refine zl_item C h27 dX5_move_129 ?_
                refine za_iload C 4 rfl dX5_move_130 ?_
                refine za_iload C 5 rfl dX5_move_132 ?_
                obtain ⟨h29, hf⟩ := z_cp hf
                obtain ⟨N28, eN28, hf⟩ := z_st hf
                refine za_copyi C wd_X5_move_ac1 wd_X5_move_ac2 wd_X5_move_ac3 wd_X5_move_ac4 (19 + x1.toNatClampNeg) (19 + x3.toNatClampNeg) (wC_row h26) (wC_row h27) h29.1 h29.2.1 h29.2.2.1 h29.2.2.2.1 h29.2.2.2.2 (Nat.le_of_ble_eq_true rfl) (Nat.le_of_ble_eq_true rfl) (wC_rowc h27 eN28) dX5_move_134 ?_
                refine za_iconst (v := (1 : Int32)) C (by decide) dX5_move_137 ?_
                obtain ⟨rfl, rfl⟩ := z_ret2 hf
                exact za_iret C F dX5_move_138
              · have hf := z_pos q25 hf
                exact za_sub [0, 1, 2, 3, 4, 5] rfl (j_105 x1 x2 x3 x4 x5 M0 hf)
          · have hf := z_neg q19 hf
            refine za_aload_n C 0 rfl rfl dX5_move_70 ?_
            refine za_iconst (v := (4 : Int32)) C (by decide) dX5_move_71 ?_
            obtain ⟨v31, N32, hc30, hf⟩ := z_b2 hf
            refine za_callV (n := 1) (rest := []) C (cX5_finding_ok l D ck ad (4 : Int32) M0 _ _ hc30) gX5_move_X5_finding rfl rfl rfl (by decide +kernel) ⟨Nat.le_of_ble_eq_true rfl, Nat.le_of_ble_eq_true rfl⟩ 0 rfl rfl rfl rfl rfl (Nat.le_of_ble_eq_true rfl) ⟨Nat.zero_le _, Nat.zero_le _⟩ dX5_move_72 ?_
            obtain ⟨rfl, rfl⟩ := z_ret2 hf
            exact za_iret C F dX5_move_75
        · have hf := z_pos q16 hf
          exact za_sub [0, 1, 2, 3, 4, 5] rfl (j_43 x1 x2 x3 x4 x5 M0 hf)
    · have hf := z_pos q12 hf
      exact za_sub [0, 1, 2, 3, 4, 5] rfl (j_14 x1 x2 x3 x4 x5 M0 hf)
def K_X5_howMany_19 (n : Nat) (x1 : Int32) (x2 : Int32) (M0 : zM) : Option ((Int32 × Int32) ⊕ (Int32 × Int32)) :=
  zlt (x2 + (1 : Int32)) (fun v3 => some (.inl (x1, v3)))
def B_X5_howMany_4 (n : Nat) (la va : Nat) (x1 : Int32) (x2 : Int32) (M0 : zM) : Option ((Int32 × Int32) ⊕ (Int32 × Int32)) :=
  (if (nI la) ≤ x2 then (some (.inr (x1, x2))) else (zchk x2 la ((if (M0.1 va x2.toNatClampNeg) = 0 then (K_X5_howMany_19 n x1 x2 M0) else (zlt (x1 + (1 : Int32)) (fun v7 => K_X5_howMany_19 n v7 x2 M0))))))
def pX5_howMany (n : Nat) (la va : Nat) (M0 : zM) : Option (Int32) :=
  zlt (0 : Int32) (fun v1 => zlt (0 : Int32) (fun v2 => zb2 (zwl (fun q => B_X5_howMany_4 n la va q.1 q.2 M0) n (v1, v2)) (fun v8 v9 => some v8)))
set_option maxHeartbeats 4000000 in
set_option maxRecDepth 100000 in
theorem cX5_howMany_ok (l : Launch) (D : va_G) (ck : Nat → ClassId) (wf : zM → va_W) {ka aa la va : Nat} (hget : ∀ M : zM, (wf M)[ka]? = some (aa, .inl (ck 1, la, .inl (M.1 va)))) (n : Nat) (M0 : zM) (r9 : Int32) (hf : pX5_howMany n la va M0 = some r9) : zc l D ck (wf) yX5_howMany wsX5_howMany ({ frames := 0, cells := 0, slots := 0, locals := 0 }) [.ref aa] M0 (some (.int r9)) M0 := by
  refine zc_of (cc := cX5_howMany) (maxL := 3) (ret := (some .int)) [(0, .ref aa)] (by decide) rfl (Nat.le_of_ble_eq_true rfl) rfl ?_
  intro p e s m args below meth c A Q C F
  unfold pX5_howMany at hf
  refine za_iconst (v := (0 : Int32)) C (by decide) dX5_howMany_0 ?_
  obtain ⟨v1, ev1, hf⟩ := z_lt hf
  refine za_istore_n C [(1, .int v1), (0, .ref aa)] ev1 (by decide) rfl rfl dX5_howMany_1 ?_
  refine za_iconst (v := (0 : Int32)) C (by decide) dX5_howMany_2 ?_
  obtain ⟨v2, ev2, hf⟩ := z_lt hf
  refine za_istore_n C [(2, .int v2), (1, .int v1), (0, .ref aa)] ev2 (by decide) rfl rfl dX5_howMany_3 ?_
  obtain ⟨v8, v9, hw10, hf⟩ := z_b2 hf
  refine za_sub [2, 1, 0] rfl ?_
  refine z_wl (P := fun q => za_At p l e { frames := 0, cells := 0, slots := 0, locals := 0 } s m args below meth c D A 3 0 0 Q 4 [(0, .ref aa), (1, .int q.1), (2, .int q.2)] [] (wf M0)) (E := fun q => za_At p l e { frames := 0, cells := 0, slots := 0, locals := 0 } s m args below meth c D A 3 0 0 Q 25 [(0, .ref aa), (1, .int q.1), (2, .int q.2)] [] (wf M0)) ?_ ?_ _ _ hw10
  · intro q o hf hN hE
    obtain ⟨x1, x2⟩ := q
    have hf : B_X5_howMany_4 n la va x1 x2 M0 = some o := hf
    unfold B_X5_howMany_4 at hf
    have j_19 : ∀ (x1 : Int32) (x2 : Int32), K_X5_howMany_19 n x1 x2 M0 = some o → za_At p l e { frames := 0, cells := 0, slots := 0, locals := 0 } s m args below meth c D A 3 0 0 Q 19 [(0, .ref aa), (1, .int x1), (2, .int x2)] [] (wf M0) := by
      intro x1 x2 hf
      unfold K_X5_howMany_19 at hf
      obtain ⟨v3, ev3, hf⟩ := z_lt hf
      refine za_iinc (k9 := (1 : Int32)) C [(2, .int v3), (0, .ref aa), (1, .int x1)] 2 rfl (by decide) ev3 (by decide) rfl dX5_howMany_19 ?_
      refine za_goto C 4 (by decide) dX5_howMany_22 ?_
      exact za_sub [1, 2, 0] rfl (hN _ (z_inj hf))
    refine za_iload_n C 2 rfl rfl dX5_howMany_4 ?_
    refine za_aload_n C 0 rfl rfl dX5_howMany_5 ?_
    refine za_alenZ C ka (hget _) dX5_howMany_6 ?_
    refine za_icmp_ge C 25 (by decide) dX5_howMany_7 (fun q4 => ?_) (fun q4 => ?_)
    · have hf := z_pos q4 hf
      exact za_sub [0, 1, 2] rfl (hE _ (z_inj hf))
    · have hf := z_neg q4 hf
      refine za_aload_n C 0 rfl rfl dX5_howMany_10 ?_
      refine za_iload_n C 2 rfl rfl dX5_howMany_11 ?_
      obtain ⟨h5, hf⟩ := z_chk hf
      refine za_zald C ka (hget _) h5 dX5_howMany_12 ?_
      refine za_if_eq C 19 (by decide) dX5_howMany_13 (fun q6 => ?_) (fun q6 => ?_)
      · have hf := z_pos q6 hf
        exact za_sub [0, 1, 2] rfl (j_19 x1 x2 hf)
      · have hf := z_neg q6 hf
        obtain ⟨v7, ev7, hf⟩ := z_lt hf
        refine za_iinc (k9 := (1 : Int32)) C [(1, .int v7), (0, .ref aa), (2, .int x2)] 1 rfl (by decide) ev7 (by decide) rfl dX5_howMany_16 ?_
        exact za_sub [1, 0, 2] rfl (j_19 v7 x2 hf)
  · show za_At p l e { frames := 0, cells := 0, slots := 0, locals := 0 } s m args below meth c D A 3 0 0 Q 25 [(0, .ref aa), (1, .int v8), (2, .int v9)] [] (wf M0)
    refine za_iload_n C 1 rfl rfl dX5_howMany_25 ?_
    obtain rfl := z_ret1 hf
    exact za_iret C F dX5_howMany_26
theorem in_X5_count_X5 : ∀ w ∈ wsX50, w ∈ wsX5_count := by decide +kernel
theorem fl_X5_count_10 : Cond.fieldLink RX5 10 "ThriceNets" "net" "LThriceNets$Net;" ∈ wsX5_count := by decide +kernel
theorem in_X5_count_X2 : ∀ w ∈ wsX20, w ∈ wsX5_count := by decide +kernel
theorem fl_X5_count_55 : Cond.fieldLink RX5 55 "ThriceNets$Net" "size" "I" ∈ wsX5_count := by decide +kernel
theorem fl_X5_count_227 : Cond.fieldLink RX5 227 "ThriceNets$Net" "inputs" "I" ∈ wsX5_count := by decide +kernel
theorem fl_X5_count_155 : Cond.fieldLink RX5 155 "ThriceNets$Net" "stores" "I" ∈ wsX5_count := by decide +kernel
theorem fl_X5_count_73 : Cond.fieldLink RX5 73 "ThriceNets$Net" "output" "[Z" ∈ wsX5_count := by decide +kernel
theorem fl_X5_count_87 : Cond.fieldLink RX5 87 "ThriceNets$Net" "thrice" "[Z" ∈ wsX5_count := by decide +kernel
theorem fl_X5_count_90 : Cond.fieldLink RX5 90 "ThriceNets$Net" "voted" "[Z" ∈ wsX5_count := by decide +kernel
theorem fl_X5_count_19 : Cond.fieldLink RX5 19 "ThriceNets" "sheets" "LThriceNets$Sheets;" ∈ wsX5_count := by decide +kernel
theorem in_X5_count_X4 : ∀ w ∈ wsX40, w ∈ wsX5_count := by decide +kernel
theorem fl_X5_count_215 : Cond.fieldLink RX5 215 "ThriceNets$Sheets" "latest" "I" ∈ wsX5_count := by decide +kernel
theorem fl_X5_count_44 : Cond.fieldLink RX5 44 "ThriceNets" "span" "I" ∈ wsX5_count := by decide +kernel
theorem fl_X5_count_48 : Cond.fieldLink RX5 48 "ThriceNets" "voterPrice" "I" ∈ wsX5_count := by decide +kernel
def pX5_count (n : Nat) (x1 : Int32) (M0 : zM) : Option (Int32) :=
  (if x1 = (0 : Int32) then (some (M0.1 2 0)) else (if x1 = (1 : Int32) then (some (M0.1 3 0)) else (if x1 = (2 : Int32) then (some (M0.1 4 0)) else (if x1 = (3 : Int32) then ((pX5_howMany n 24 15 M0).bind (fun v6 => some v6)) else (if x1 = (4 : Int32) then ((pX5_howMany n 24 16 M0).bind (fun v9 => some v9)) else (if x1 = (5 : Int32) then ((pX5_howMany n 24 17 M0).bind (fun v12 => some v12)) else (if x1 = (6 : Int32) then (some (M0.1 5 0)) else (if x1 = (7 : Int32) then (some (M0.1 0 0)) else (if x1 = (8 : Int32) then (some (M0.1 1 0)) else (some (-2 : Int32)))))))))))
set_option maxHeartbeats 4000000 in
set_option maxRecDepth 100000 in
theorem cX5_count_ok (l : Launch) (D : va_G) (ck : Nat → ClassId) (ad : Nat → Nat) (n : Nat) (x1 : Int32) (M0 : zM) (r9 : Int32) (hf : pX5_count n x1 M0 = some r9) : zc l D ck (wC ad ck) yX5_count wsX5_count ({ frames := 1, cells := 0, slots := 0, locals := 22 }) [.ref (ad 0), .int x1] M0 (some (.int r9)) M0 := by
  refine zc_of (cc := cX5_count) (maxL := 2) (ret := (some .int)) [(0, .ref (ad 0)), (1, .int x1)] (by decide) rfl (Nat.le_of_ble_eq_true rfl) rfl ?_
  intro p e s m args below meth c A Q C F
  unfold pX5_count at hf
  refine za_iload_n C 1 rfl rfl dX5_count_0 ?_
  by_cases q1 : x1 = (0 : Int32)
  · have hf := z_pos q1 hf
    refine za_tsIn C 52 (0) q1 (by decide) (by decide) rfl (by decide) dX5_count_1 ?_
    refine za_aload_n C 0 rfl rfl dX5_count_52 ?_
    refine zg_C0_0 C in_X5_count_X5 fl_X5_count_10 dX5_count_53 ?_
    refine zg_C1_0 C in_X5_count_X2 fl_X5_count_55 dX5_count_56 ?_
    obtain rfl := z_ret1 hf
    exact za_iret C F dX5_count_59
  · have hf := z_neg q1 hf
    by_cases q2 : x1 = (1 : Int32)
    · have hf := z_pos q2 hf
      refine za_tsIn C 60 (1) q2 (by decide) (by decide) rfl (by decide) dX5_count_1 ?_
      refine za_aload_n C 0 rfl rfl dX5_count_60 ?_
      refine zg_C0_0 C in_X5_count_X5 fl_X5_count_10 dX5_count_61 ?_
      refine zg_C1_1 C in_X5_count_X2 fl_X5_count_227 dX5_count_64 ?_
      obtain rfl := z_ret1 hf
      exact za_iret C F dX5_count_67
    · have hf := z_neg q2 hf
      by_cases q3 : x1 = (2 : Int32)
      · have hf := z_pos q3 hf
        refine za_tsIn C 68 (2) q3 (by decide) (by decide) rfl (by decide) dX5_count_1 ?_
        refine za_aload_n C 0 rfl rfl dX5_count_68 ?_
        refine zg_C0_0 C in_X5_count_X5 fl_X5_count_10 dX5_count_69 ?_
        refine zg_C1_2 C in_X5_count_X2 fl_X5_count_155 dX5_count_72 ?_
        obtain rfl := z_ret1 hf
        exact za_iret C F dX5_count_75
      · have hf := z_neg q3 hf
        by_cases q4 : x1 = (3 : Int32)
        · have hf := z_pos q4 hf
          refine za_tsIn C 76 (3) q4 (by decide) (by decide) rfl (by decide) dX5_count_1 ?_
          refine za_aload_n C 0 rfl rfl dX5_count_76 ?_
          refine zg_C0_0 C in_X5_count_X5 fl_X5_count_10 dX5_count_77 ?_
          refine zg_C1_8 C in_X5_count_X2 fl_X5_count_73 dX5_count_80 ?_
          obtain ⟨v6, hc5, hf⟩ := z_bind hf
          refine za_callS (n := 1) (rest := []) C (cX5_howMany_ok l D ck (wC ad ck) (ka := 11) (fun M => rfl) n  M0 _ hc5) gX5_count_X5_howMany rfl rfl rfl (by decide +kernel) ⟨Nat.le_of_ble_eq_true rfl, Nat.le_of_ble_eq_true rfl⟩ rfl rfl (Nat.le_of_ble_eq_true rfl) ⟨Nat.zero_le _, Nat.zero_le _⟩ dX5_count_83 ?_
          obtain rfl := z_ret1 hf
          exact za_iret C F dX5_count_86
        · have hf := z_neg q4 hf
          by_cases q7 : x1 = (4 : Int32)
          · have hf := z_pos q7 hf
            refine za_tsIn C 87 (4) q7 (by decide) (by decide) rfl (by decide) dX5_count_1 ?_
            refine za_aload_n C 0 rfl rfl dX5_count_87 ?_
            refine zg_C0_0 C in_X5_count_X5 fl_X5_count_10 dX5_count_88 ?_
            refine zg_C1_9 C in_X5_count_X2 fl_X5_count_87 dX5_count_91 ?_
            obtain ⟨v9, hc8, hf⟩ := z_bind hf
            refine za_callS (n := 1) (rest := []) C (cX5_howMany_ok l D ck (wC ad ck) (ka := 12) (fun M => rfl) n  M0 _ hc8) gX5_count_X5_howMany rfl rfl rfl (by decide +kernel) ⟨Nat.le_of_ble_eq_true rfl, Nat.le_of_ble_eq_true rfl⟩ rfl rfl (Nat.le_of_ble_eq_true rfl) ⟨Nat.zero_le _, Nat.zero_le _⟩ dX5_count_94 ?_
            obtain rfl := z_ret1 hf
            exact za_iret C F dX5_count_97
          · have hf := z_neg q7 hf
            by_cases q10 : x1 = (5 : Int32)
            · have hf := z_pos q10 hf
              refine za_tsIn C 98 (5) q10 (by decide) (by decide) rfl (by decide) dX5_count_1 ?_
              refine za_aload_n C 0 rfl rfl dX5_count_98 ?_
              refine zg_C0_0 C in_X5_count_X5 fl_X5_count_10 dX5_count_99 ?_
              refine zg_C1_10 C in_X5_count_X2 fl_X5_count_90 dX5_count_102 ?_
              obtain ⟨v12, hc11, hf⟩ := z_bind hf
              refine za_callS (n := 1) (rest := []) C (cX5_howMany_ok l D ck (wC ad ck) (ka := 13) (fun M => rfl) n  M0 _ hc11) gX5_count_X5_howMany rfl rfl rfl (by decide +kernel) ⟨Nat.le_of_ble_eq_true rfl, Nat.le_of_ble_eq_true rfl⟩ rfl rfl (Nat.le_of_ble_eq_true rfl) ⟨Nat.zero_le _, Nat.zero_le _⟩ dX5_count_105 ?_
              obtain rfl := z_ret1 hf
              exact za_iret C F dX5_count_108
            · have hf := z_neg q10 hf
              by_cases q13 : x1 = (6 : Int32)
              · have hf := z_pos q13 hf
                refine za_tsIn C 109 (6) q13 (by decide) (by decide) rfl (by decide) dX5_count_1 ?_
                refine za_aload_n C 0 rfl rfl dX5_count_109 ?_
                refine zg_C0_1 C in_X5_count_X5 fl_X5_count_19 dX5_count_110 ?_
                refine zg_C2_3 C in_X5_count_X4 fl_X5_count_215 dX5_count_113 ?_
                obtain rfl := z_ret1 hf
                exact za_iret C F dX5_count_116
              · have hf := z_neg q13 hf
                by_cases q14 : x1 = (7 : Int32)
                · have hf := z_pos q14 hf
                  refine za_tsIn C 117 (7) q14 (by decide) (by decide) rfl (by decide) dX5_count_1 ?_
                  refine za_aload_n C 0 rfl rfl dX5_count_117 ?_
                  refine zg_C0_5 C in_X5_count_X5 fl_X5_count_44 dX5_count_118 ?_
                  obtain rfl := z_ret1 hf
                  exact za_iret C F dX5_count_121
                · have hf := z_neg q14 hf
                  by_cases q15 : x1 = (8 : Int32)
                  · have hf := z_pos q15 hf
                    refine za_tsIn C 122 (8) q15 (by decide) (by decide) rfl (by decide) dX5_count_1 ?_
                    refine za_aload_n C 0 rfl rfl dX5_count_122 ?_
                    refine zg_C0_6 C in_X5_count_X5 fl_X5_count_48 dX5_count_123 ?_
                    obtain rfl := z_ret1 hf
                    exact za_iret C F dX5_count_126
                  · have hf := z_neg q15 hf
                    refine za_tsOut C 127 (by have u0 := lv_neT (a := 0) q1 (by decide); have u1 := lv_neT (a := 1) q2 (by decide); have u2 := lv_neT (a := 2) q3 (by decide); have u3 := lv_neT (a := 3) q4 (by decide); have u4 := lv_neT (a := 4) q7 (by decide); have u5 := lv_neT (a := 5) q10 (by decide); have u6 := lv_neT (a := 6) q13 (by decide); have u7 := lv_neT (a := 7) q14 (by decide); have u8 := lv_neT (a := 8) q15 (by decide); omega) (by decide) dX5_count_1 ?_
                    refine za_bipush (v := (-2 : Int32)) C (by decide) dX5_count_127 ?_
                    obtain rfl := z_ret1 hf
                    exact za_iret C F dX5_count_129
theorem cn_X5_digest_234 : Jvm.Cond.constantLong RX5 234 (17) ∈ wsX5_digest := by decide +kernel
theorem cn_X5_digest_236 : Jvm.Cond.constantLong RX5 236 (31) ∈ wsX5_digest := by decide +kernel
theorem in_X5_digest_X5 : ∀ w ∈ wsX50, w ∈ wsX5_digest := by decide +kernel
theorem fl_X5_digest_10 : Cond.fieldLink RX5 10 "ThriceNets" "net" "LThriceNets$Net;" ∈ wsX5_digest := by decide +kernel
theorem in_X5_digest_X2 : ∀ w ∈ wsX20, w ∈ wsX5_digest := by decide +kernel
theorem fl_X5_digest_55 : Cond.fieldLink RX5 55 "ThriceNets$Net" "size" "I" ∈ wsX5_digest := by decide +kernel
theorem fl_X5_digest_26 : Cond.fieldLink RX5 26 "ThriceNets" "plainRun" "LThriceNets$PlainRun;" ∈ wsX5_digest := by decide +kernel
theorem fl_X5_digest_19 : Cond.fieldLink RX5 19 "ThriceNets" "sheets" "LThriceNets$Sheets;" ∈ wsX5_digest := by decide +kernel
theorem fl_X5_digest_73 : Cond.fieldLink RX5 73 "ThriceNets$Net" "output" "[Z" ∈ wsX5_digest := by decide +kernel
theorem fl_X5_digest_44 : Cond.fieldLink RX5 44 "ThriceNets" "span" "I" ∈ wsX5_digest := by decide +kernel
def K_X5_digest_31 (n : Nat) (x1 : Int64) (x3 : Int32) (M0 : zM) : Option ((Int64 × Int32) ⊕ (Int64 × Int32)) :=
  zlt (x3 + (1 : Int32)) (fun v3 => some (.inl (x1, v3)))
def B_X5_digest_6 (n : Nat) (x1 : Int64) (x3 : Int32) (M0 : zM) : Option ((Int64 × Int32) ⊕ (Int64 × Int32)) :=
  (if (8 : Int32) < x3 then (some (.inr (x1, x3))) else (if x3 = (6 : Int32) then (K_X5_digest_31 n x1 x3 M0) else ((pX5_count n x3 M0).bind (fun v7 => zlt (((31 : Int64) * x1) + (Int32.toInt64 v7)) (fun v8 => K_X5_digest_31 n v8 x3 M0)))))
def B_X5_digest_53 (n : Nat) (x1 : Int64) (x3 : Int32) (x4 : Int32) (M0 : zM) : Option ((Int64 × Int32) ⊕ (Int64 × Int32)) :=
  (if (6 : Int32) < x4 then (some (.inr (x1, x4))) else ((pX2_fact x3 x4 M0).bind (fun v16 => zlt (((31 : Int64) * x1) + (Int32.toInt64 v16)) (fun v17 => zlt (x4 + (1 : Int32)) (fun v18 => some (.inl (v17, v18)))))))
def B_X5_digest_39 (n : Nat) (x1 : Int64) (x3 : Int32) (M0 : zM) : Option ((Int64 × Int32) ⊕ (Int64 × Int32)) :=
  (if (M0.1 2 0) ≤ x3 then (some (.inr (x1, x3))) else (zlt (1 : Int32) (fun v13 => zb2 (zwl (fun q => B_X5_digest_53 n q.1 x3 q.2 M0) n (x1, v13)) (fun v19 v20 => zlt (x3 + (1 : Int32)) (fun v21 => some (.inl (v19, v21)))))))
def K_X5_digest_166 (n : Nat) (x1 : Int64) (x3 : Int32) (N26 : zM) : Option ((Int64 × Int32) ⊕ (Int64 × Int32)) :=
  zlt (x3 + (1 : Int32)) (fun v28 => some (.inl (x1, v28)))
def B_X5_digest_133 (n : Nat) (x1 : Int64) (x3 : Int32) (x4 : Int32) (N26 : zM) : Option ((Int64 × Int32) ⊕ (Int64 × Int32)) :=
  (if (N26.1 0 0) ≤ x4 then (some (.inr (x1, x4))) else ((pX3_bit x3 x4 N26).bind (fun v35 => zlt (((31 : Int64) * x1) + (Int32.toInt64 v35)) (fun v36 => zlt (x4 + (1 : Int32)) (fun v37 => some (.inl (v36, v37)))))))
def B_X5_digest_107 (n : Nat) (x1 : Int64) (x3 : Int32) (N26 : zM) : Option ((Int64 × Int32) ⊕ (Int64 × Int32)) :=
  (if (N26.1 2 0) ≤ x3 then (some (.inr (x1, x3))) else (zchk x3 24 ((if (N26.1 15 x3.toNatClampNeg) = 0 then (K_X5_digest_166 n x1 x3 N26) else (zlt (0 : Int32) (fun v32 => zb2 (zwl (fun q => B_X5_digest_133 n q.1 x3 q.2 N26) n (x1, v32)) (fun v38 v39 => K_X5_digest_166 n v38 x3 N26)))))))
def pX5_digest (n : Nat) (M0 : zM) : Option (Int64 × zM) :=
  zlt (17 : Int64) (fun v1 => zlt (0 : Int32) (fun v2 => zb2 (zwl (fun q => B_X5_digest_6 n q.1 q.2 M0) n (v1, v2)) (fun v9 v10 => zlt (0 : Int32) (fun v11 => zb2 (zwl (fun q => B_X5_digest_39 n q.1 q.2 M0) n (v9, v11)) (fun v23 v24 => (pX3_work n M0).bind (fun N26 => zlt (0 : Int32) (fun v27 => zb2 (zwl (fun q => B_X5_digest_107 n q.1 q.2 N26) n (v23, v27)) (fun v41 v42 => (pX5_cost n N26).bind (fun v44 => some ((((31 : Int64) * v41) + (Int32.toInt64 v44)), N26))))))))))
set_option maxHeartbeats 4000000 in
set_option maxRecDepth 100000 in
theorem cX5_digest_ok (l : Launch) (D : va_G) (ck : Nat → ClassId) (ad : Nat → Nat) (n : Nat) (M0 : zM) (r9 : Int64) (M9 : zM) (hf : pX5_digest n M0 = some (r9, M9)) : zc l D ck (wC ad ck) yX5_digest wsX5_digest ({ frames := 3, cells := 0, slots := 0, locals := 76 }) [.ref (ad 0)] M0 (some (.long r9)) M9 := by
  refine zc_of (cc := cX5_digest) (maxL := 5) (ret := (some .long)) [(0, .ref (ad 0))] (by decide) rfl (Nat.le_of_ble_eq_true rfl) rfl ?_
  intro p e s m args below meth c A Q C F
  unfold pX5_digest at hf
  refine za_ldc2 (v := (17 : Int64)) C cn_X5_digest_234 dX5_digest_0 ?_
  obtain ⟨v1, ev1, hf⟩ := z_lt hf
  refine za_lstore_n C [(1, .long v1), (0, .ref (ad 0))] ev1 (by decide) rfl rfl dX5_digest_3 ?_
  refine za_iconst (v := (0 : Int32)) C (by decide) dX5_digest_4 ?_
  obtain ⟨v2, ev2, hf⟩ := z_lt hf
  refine za_istore_n C [(3, .int v2), (1, .long v1), (0, .ref (ad 0))] ev2 (by decide) rfl rfl dX5_digest_5 ?_
  obtain ⟨v9, v10, hw47, hf⟩ := z_b2 hf
  refine za_sub [2, 1, 0] rfl ?_
  refine z_wl (P := fun q => za_At p l e { frames := 3, cells := 0, slots := 0, locals := 76 } s m args below meth c D A 5 0 0 Q 6 [(0, .ref (ad 0)), (1, .long q.1), (3, .int q.2)] [] (wC ad ck M0)) (E := fun q => za_At p l e { frames := 3, cells := 0, slots := 0, locals := 76 } s m args below meth c D A 5 0 0 Q 37 [(0, .ref (ad 0)), (1, .long q.1), (3, .int q.2)] [] (wC ad ck M0)) ?_ ?_ _ _ hw47
  · intro q o hf hN hE
    obtain ⟨x1, x3⟩ := q
    have hf : B_X5_digest_6 n x1 x3 M0 = some o := hf
    unfold B_X5_digest_6 at hf
    have j_31 : ∀ (x1 : Int64) (x3 : Int32), K_X5_digest_31 n x1 x3 M0 = some o → za_At p l e { frames := 3, cells := 0, slots := 0, locals := 76 } s m args below meth c D A 5 0 0 Q 31 [(0, .ref (ad 0)), (1, .long x1), (3, .int x3)] [] (wC ad ck M0) := by
      intro x1 x3 hf
      unfold K_X5_digest_31 at hf
      obtain ⟨v3, ev3, hf⟩ := z_lt hf
      refine za_iinc (k9 := (1 : Int32)) C [(3, .int v3), (0, .ref (ad 0)), (1, .long x1)] 2 rfl (by decide) ev3 (by decide) rfl dX5_digest_31 ?_
      refine za_goto C 6 (by decide) dX5_digest_34 ?_
      exact za_sub [1, 2, 0] rfl (hN _ (z_inj hf))
    refine za_iload_n C 2 rfl rfl dX5_digest_6 ?_
    refine za_bipush (v := (8 : Int32)) C (by decide) dX5_digest_7 ?_
    refine za_icmp_gt C 37 (by decide) dX5_digest_9 (fun q4 => ?_) (fun q4 => ?_)
    · have hf := z_pos q4 hf
      exact za_sub [0, 1, 2] rfl (hE _ (z_inj hf))
    · have hf := z_neg q4 hf
      refine za_iload_n C 2 rfl rfl dX5_digest_12 ?_
      refine za_bipush (v := (6 : Int32)) C (by decide) dX5_digest_13 ?_
      refine za_icmp_eq C 31 (by decide) dX5_digest_15 (fun q5 => ?_) (fun q5 => ?_)
      · have hf := z_pos q5 hf
        exact za_sub [0, 1, 2] rfl (j_31 x1 x3 hf)
      · have hf := z_neg q5 hf
        refine za_ldc2 (v := (31 : Int64)) C cn_X5_digest_236 dX5_digest_18 ?_
        refine za_lload_n C 1 rfl rfl dX5_digest_21 ?_
        refine za_lmul C dX5_digest_22 ?_
        refine za_aload_n C 0 rfl rfl dX5_digest_23 ?_
        refine za_iload_n C 2 rfl rfl dX5_digest_24 ?_
        obtain ⟨v7, hc6, hf⟩ := z_bind hf
        refine za_callV (n := 1) (rest := [.long ((31 : Int64) * x1)]) C (cX5_count_ok l D ck ad n x3 M0 _ hc6) gX5_digest_X5_count rfl rfl rfl (by decide +kernel) ⟨Nat.le_of_ble_eq_true rfl, Nat.le_of_ble_eq_true rfl⟩ 0 rfl rfl rfl rfl rfl (Nat.le_of_ble_eq_true rfl) ⟨Nat.zero_le _, Nat.zero_le _⟩ dX5_digest_25 ?_
        refine za_i2l C dX5_digest_28 ?_
        refine za_ladd C dX5_digest_29 ?_
        obtain ⟨v8, ev8, hf⟩ := z_lt hf
        refine za_lstore_n C [(1, .long v8), (0, .ref (ad 0)), (3, .int x3)] ev8 (by decide) rfl rfl dX5_digest_30 ?_
        exact za_sub [1, 0, 2] rfl (j_31 v8 x3 hf)
  · show za_At p l e { frames := 3, cells := 0, slots := 0, locals := 76 } s m args below meth c D A 5 0 0 Q 37 [(0, .ref (ad 0)), (1, .long v9), (3, .int v10)] [] (wC ad ck M0)
    refine za_iconst (v := (0 : Int32)) C (by decide) dX5_digest_37 ?_
    obtain ⟨v11, ev11, hf⟩ := z_lt hf
    refine za_istore_n C [(3, .int v11), (0, .ref (ad 0)), (1, .long v9)] ev11 (by decide) rfl rfl dX5_digest_38 ?_
    obtain ⟨v23, v24, hw46, hf⟩ := z_b2 hf
    refine za_sub [1, 2, 0] rfl ?_
    refine z_wl (P := fun q => za_At p l e { frames := 3, cells := 0, slots := 0, locals := 76 } s m args below meth c D A 5 0 0 Q 39 [(0, .ref (ad 0)), (1, .long q.1), (3, .int q.2)] [] (wC ad ck M0)) (E := fun q => za_At p l e { frames := 3, cells := 0, slots := 0, locals := 76 } s m args below meth c D A 5 0 0 Q 90 [(0, .ref (ad 0)), (1, .long q.1), (3, .int q.2)] [] (wC ad ck M0)) ?_ ?_ _ _ hw46
    · intro q o hf hN hE
      obtain ⟨x1, x3⟩ := q
      have hf : B_X5_digest_39 n x1 x3 M0 = some o := hf
      unfold B_X5_digest_39 at hf
      refine za_iload_n C 2 rfl rfl dX5_digest_39 ?_
      refine za_aload_n C 0 rfl rfl dX5_digest_40 ?_
      refine zg_C0_0 C in_X5_digest_X5 fl_X5_digest_10 dX5_digest_41 ?_
      refine zg_C1_0 C in_X5_digest_X2 fl_X5_digest_55 dX5_digest_44 ?_
      refine za_icmp_ge C 90 (by decide) dX5_digest_47 (fun q12 => ?_) (fun q12 => ?_)
      · have hf := z_pos q12 hf
        exact za_sub [0, 1, 2] rfl (hE _ (z_inj hf))
      · have hf := z_neg q12 hf
        refine za_iconst (v := (1 : Int32)) C (by decide) dX5_digest_50 ?_
        obtain ⟨v13, ev13, hf⟩ := z_lt hf
        refine za_istore C [(4, .int v13), (0, .ref (ad 0)), (1, .long x1), (3, .int x3)] ev13 (by decide) rfl dX5_digest_51 ?_
        obtain ⟨v19, v20, hw22, hf⟩ := z_b2 hf
        refine za_sub [1, 2, 3, 0] rfl ?_
        refine z_wl (P := fun q => za_At p l e { frames := 3, cells := 0, slots := 0, locals := 76 } s m args below meth c D A 5 0 0 Q 53 [(0, .ref (ad 0)), (1, .long q.1), (3, .int x3), (4, .int q.2)] [] (wC ad ck M0)) (E := fun q => za_At p l e { frames := 3, cells := 0, slots := 0, locals := 76 } s m args below meth c D A 5 0 0 Q 84 [(0, .ref (ad 0)), (1, .long q.1), (3, .int x3), (4, .int q.2)] [] (wC ad ck M0)) ?_ ?_ _ _ hw22
        · intro q o hf hN hE
          obtain ⟨x1, x4⟩ := q
          have hf : B_X5_digest_53 n x1 x3 x4 M0 = some o := hf
          unfold B_X5_digest_53 at hf
          refine za_iload C 3 rfl dX5_digest_53 ?_
          refine za_bipush (v := (6 : Int32)) C (by decide) dX5_digest_55 ?_
          refine za_icmp_gt C 84 (by decide) dX5_digest_57 (fun q14 => ?_) (fun q14 => ?_)
          · have hf := z_pos q14 hf
            exact za_sub [0, 1, 2, 3] rfl (hE _ (z_inj hf))
          · have hf := z_neg q14 hf
            refine za_ldc2 (v := (31 : Int64)) C cn_X5_digest_236 dX5_digest_60 ?_
            refine za_lload_n C 1 rfl rfl dX5_digest_63 ?_
            refine za_lmul C dX5_digest_64 ?_
            refine za_aload_n C 0 rfl rfl dX5_digest_65 ?_
            refine zg_C0_0 C in_X5_digest_X5 fl_X5_digest_10 dX5_digest_66 ?_
            refine za_iload_n C 2 rfl rfl dX5_digest_69 ?_
            refine za_iload C 3 rfl dX5_digest_70 ?_
            obtain ⟨v16, hc15, hf⟩ := z_bind hf
            refine za_callV (n := 2) (rest := [.long ((31 : Int64) * x1)]) C (cX2_fact_ok l D ck ad x3 x4 M0 _ hc15) gX5_digest_X2_fact rfl rfl rfl (by decide +kernel) ⟨Nat.le_of_ble_eq_true rfl, Nat.le_of_ble_eq_true rfl⟩ 1 rfl rfl rfl rfl rfl (Nat.le_of_ble_eq_true rfl) ⟨Nat.zero_le _, Nat.zero_le _⟩ dX5_digest_72 ?_
            refine za_i2l C dX5_digest_75 ?_
            refine za_ladd C dX5_digest_76 ?_
            obtain ⟨v17, ev17, hf⟩ := z_lt hf
            refine za_lstore_n C [(1, .long v17), (0, .ref (ad 0)), (3, .int x3), (4, .int x4)] ev17 (by decide) rfl rfl dX5_digest_77 ?_
            obtain ⟨v18, ev18, hf⟩ := z_lt hf
            refine za_iinc (k9 := (1 : Int32)) C [(4, .int v18), (1, .long v17), (0, .ref (ad 0)), (3, .int x3)] 3 rfl (by decide) ev18 (by decide) rfl dX5_digest_78 ?_
            refine za_goto C 53 (by decide) dX5_digest_81 ?_
            exact za_sub [2, 1, 3, 0] rfl (hN _ (z_inj hf))
        · show za_At p l e { frames := 3, cells := 0, slots := 0, locals := 76 } s m args below meth c D A 5 0 0 Q 84 [(0, .ref (ad 0)), (1, .long v19), (3, .int x3), (4, .int v20)] [] (wC ad ck M0)
          obtain ⟨v21, ev21, hf⟩ := z_lt hf
          refine za_iinc (k9 := (1 : Int32)) C [(3, .int v21), (0, .ref (ad 0)), (1, .long v19), (4, .int v20)] 2 rfl (by decide) ev21 (by decide) rfl dX5_digest_84 ?_
          refine za_goto C 39 (by decide) dX5_digest_87 ?_
          exact za_sub [1, 2, 0] rfl (hN _ (z_inj hf))
    · show za_At p l e { frames := 3, cells := 0, slots := 0, locals := 76 } s m args below meth c D A 5 0 0 Q 90 [(0, .ref (ad 0)), (1, .long v23), (3, .int v24)] [] (wC ad ck M0)
      refine za_aload_n C 0 rfl rfl dX5_digest_90 ?_
      refine zg_C0_2 C in_X5_digest_X5 fl_X5_digest_26 dX5_digest_91 ?_
      refine za_aload_n C 0 rfl rfl dX5_digest_94 ?_
      refine zg_C0_0 C in_X5_digest_X5 fl_X5_digest_10 dX5_digest_95 ?_
      refine za_aload_n C 0 rfl rfl dX5_digest_98 ?_
      refine zg_C0_1 C in_X5_digest_X5 fl_X5_digest_19 dX5_digest_99 ?_
      obtain ⟨N26, hc25, hf⟩ := z_bind hf
      refine za_callV (n := 2) (rest := []) C (cX3_work_ok l D ck ad n  M0 _ hc25) gX5_digest_X3_work rfl rfl rfl (by decide +kernel) ⟨Nat.le_of_ble_eq_true rfl, Nat.le_of_ble_eq_true rfl⟩ 3 rfl rfl rfl rfl rfl (Nat.le_of_ble_eq_true rfl) ⟨Nat.zero_le _, Nat.zero_le _⟩ dX5_digest_102 ?_
      refine za_iconst (v := (0 : Int32)) C (by decide) dX5_digest_105 ?_
      obtain ⟨v27, ev27, hf⟩ := z_lt hf
      refine za_istore_n C [(3, .int v27), (0, .ref (ad 0)), (1, .long v23)] ev27 (by decide) rfl rfl dX5_digest_106 ?_
      obtain ⟨v41, v42, hw45, hf⟩ := z_b2 hf
      refine za_sub [1, 2, 0] rfl ?_
      refine z_wl (P := fun q => za_At p l e { frames := 3, cells := 0, slots := 0, locals := 76 } s m args below meth c D A 5 0 0 Q 107 [(0, .ref (ad 0)), (1, .long q.1), (3, .int q.2)] [] (wC ad ck N26)) (E := fun q => za_At p l e { frames := 3, cells := 0, slots := 0, locals := 76 } s m args below meth c D A 5 0 0 Q 172 [(0, .ref (ad 0)), (1, .long q.1), (3, .int q.2)] [] (wC ad ck N26)) ?_ ?_ _ _ hw45
      · intro q o hf hN hE
        obtain ⟨x1, x3⟩ := q
        have hf : B_X5_digest_107 n x1 x3 N26 = some o := hf
        unfold B_X5_digest_107 at hf
        have j_166 : ∀ (x1 : Int64) (x3 : Int32), K_X5_digest_166 n x1 x3 N26 = some o → za_At p l e { frames := 3, cells := 0, slots := 0, locals := 76 } s m args below meth c D A 5 0 0 Q 166 [(0, .ref (ad 0)), (1, .long x1), (3, .int x3)] [] (wC ad ck N26) := by
          intro x1 x3 hf
          unfold K_X5_digest_166 at hf
          obtain ⟨v28, ev28, hf⟩ := z_lt hf
          refine za_iinc (k9 := (1 : Int32)) C [(3, .int v28), (0, .ref (ad 0)), (1, .long x1)] 2 rfl (by decide) ev28 (by decide) rfl dX5_digest_166 ?_
          refine za_goto C 107 (by decide) dX5_digest_169 ?_
          exact za_sub [1, 2, 0] rfl (hN _ (z_inj hf))
        refine za_iload_n C 2 rfl rfl dX5_digest_107 ?_
        refine za_aload_n C 0 rfl rfl dX5_digest_108 ?_
        refine zg_C0_0 C in_X5_digest_X5 fl_X5_digest_10 dX5_digest_109 ?_
        refine zg_C1_0 C in_X5_digest_X2 fl_X5_digest_55 dX5_digest_112 ?_
        refine za_icmp_ge C 172 (by decide) dX5_digest_115 (fun q29 => ?_) (fun q29 => ?_)
        · have hf := z_pos q29 hf
          exact za_sub [0, 1, 2] rfl (hE _ (z_inj hf))
        · have hf := z_neg q29 hf
          refine za_aload_n C 0 rfl rfl dX5_digest_118 ?_
          refine zg_C0_0 C in_X5_digest_X5 fl_X5_digest_10 dX5_digest_119 ?_
          refine zg_C1_8 C in_X5_digest_X2 fl_X5_digest_73 dX5_digest_122 ?_
          refine za_iload_n C 2 rfl rfl dX5_digest_125 ?_
          obtain ⟨h30, hf⟩ := z_chk hf
          refine zl_C11 C h30 dX5_digest_126 ?_
          refine za_if_eq C 166 (by decide) dX5_digest_127 (fun q31 => ?_) (fun q31 => ?_)
          · have hf := z_pos q31 hf
            exact za_sub [0, 1, 2] rfl (j_166 x1 x3 hf)
          · have hf := z_neg q31 hf
            refine za_iconst (v := (0 : Int32)) C (by decide) dX5_digest_130 ?_
            obtain ⟨v32, ev32, hf⟩ := z_lt hf
            refine za_istore C [(4, .int v32), (0, .ref (ad 0)), (1, .long x1), (3, .int x3)] ev32 (by decide) rfl dX5_digest_131 ?_
            obtain ⟨v38, v39, hw40, hf⟩ := z_b2 hf
            refine za_sub [1, 2, 3, 0] rfl ?_
            refine z_wl (P := fun q => za_At p l e { frames := 3, cells := 0, slots := 0, locals := 76 } s m args below meth c D A 5 0 0 Q 133 [(0, .ref (ad 0)), (1, .long q.1), (3, .int x3), (4, .int q.2)] [] (wC ad ck N26)) (E := fun q => za_At p l e { frames := 3, cells := 0, slots := 0, locals := 76 } s m args below meth c D A 5 0 0 Q 166 [(0, .ref (ad 0)), (1, .long q.1), (3, .int x3)] [] (wC ad ck N26)) ?_ ?_ _ _ hw40
            · intro q o hf hN hE
              obtain ⟨x1, x4⟩ := q
              have hf : B_X5_digest_133 n x1 x3 x4 N26 = some o := hf
              unfold B_X5_digest_133 at hf
              refine za_iload C 3 rfl dX5_digest_133 ?_
              refine za_aload_n C 0 rfl rfl dX5_digest_135 ?_
              refine zg_C0_5 C in_X5_digest_X5 fl_X5_digest_44 dX5_digest_136 ?_
              refine za_icmp_ge C 166 (by decide) dX5_digest_139 (fun q33 => ?_) (fun q33 => ?_)
              · have hf := z_pos q33 hf
                exact za_sub [0, 1, 2] rfl (hE _ (z_inj hf))
              · have hf := z_neg q33 hf
                refine za_ldc2 (v := (31 : Int64)) C cn_X5_digest_236 dX5_digest_142 ?_
                refine za_lload_n C 1 rfl rfl dX5_digest_145 ?_
                refine za_lmul C dX5_digest_146 ?_
                refine za_aload_n C 0 rfl rfl dX5_digest_147 ?_
                refine zg_C0_2 C in_X5_digest_X5 fl_X5_digest_26 dX5_digest_148 ?_
                refine za_iload_n C 2 rfl rfl dX5_digest_151 ?_
                refine za_iload C 3 rfl dX5_digest_152 ?_
                obtain ⟨v35, hc34, hf⟩ := z_bind hf
                refine za_callV (n := 2) (rest := [.long ((31 : Int64) * x1)]) C (cX3_bit_ok l D ck ad x3 x4 N26 _ hc34) gX5_digest_X3_bit rfl rfl rfl (by decide +kernel) ⟨Nat.le_of_ble_eq_true rfl, Nat.le_of_ble_eq_true rfl⟩ 3 rfl rfl rfl rfl rfl (Nat.le_of_ble_eq_true rfl) ⟨Nat.zero_le _, Nat.zero_le _⟩ dX5_digest_154 ?_
                refine za_i2l C dX5_digest_157 ?_
                refine za_ladd C dX5_digest_158 ?_
                obtain ⟨v36, ev36, hf⟩ := z_lt hf
                refine za_lstore_n C [(1, .long v36), (0, .ref (ad 0)), (3, .int x3), (4, .int x4)] ev36 (by decide) rfl rfl dX5_digest_159 ?_
                obtain ⟨v37, ev37, hf⟩ := z_lt hf
                refine za_iinc (k9 := (1 : Int32)) C [(4, .int v37), (1, .long v36), (0, .ref (ad 0)), (3, .int x3)] 3 rfl (by decide) ev37 (by decide) rfl dX5_digest_160 ?_
                refine za_goto C 133 (by decide) dX5_digest_163 ?_
                exact za_sub [2, 1, 3, 0] rfl (hN _ (z_inj hf))
            · show za_At p l e { frames := 3, cells := 0, slots := 0, locals := 76 } s m args below meth c D A 5 0 0 Q 166 [(0, .ref (ad 0)), (1, .long v38), (3, .int x3)] [] (wC ad ck N26)
              exact za_sub [0, 1, 2] rfl (j_166 v38 x3 hf)
      · show za_At p l e { frames := 3, cells := 0, slots := 0, locals := 76 } s m args below meth c D A 5 0 0 Q 172 [(0, .ref (ad 0)), (1, .long v41), (3, .int v42)] [] (wC ad ck N26)
        refine za_ldc2 (v := (31 : Int64)) C cn_X5_digest_236 dX5_digest_172 ?_
        refine za_lload_n C 1 rfl rfl dX5_digest_175 ?_
        refine za_lmul C dX5_digest_176 ?_
        refine za_aload_n C 0 rfl rfl dX5_digest_177 ?_
        obtain ⟨v44, hc43, hf⟩ := z_bind hf
        refine za_callV (n := 0) (rest := [.long ((31 : Int64) * v41)]) C (cX5_cost_ok l D ck ad n  N26 _ hc43) gX5_digest_X5_cost rfl rfl rfl (by decide +kernel) ⟨Nat.le_of_ble_eq_true rfl, Nat.le_of_ble_eq_true rfl⟩ 0 rfl rfl rfl rfl rfl (Nat.le_of_ble_eq_true rfl) ⟨Nat.zero_le _, Nat.zero_le _⟩ dX5_digest_178 ?_
        refine za_i2l C dX5_digest_181 ?_
        refine za_ladd C dX5_digest_182 ?_
        obtain ⟨rfl, rfl⟩ := z_ret2 hf
        exact za_lret C F dX5_digest_183
