def B_J7_fill_d0a16_6 (n : Nat) (la va : Nat) (x1 : Int64) (x3 : Int32) (v2 : Int32) (M : zM) : Option ((Int32 × zM) ⊕ (Int32 × zM)) :=
  (if v2 ≤ x3 then (some (.inr (x3, M))) else (zchk x3 la (zst (zsL M va x3.toNatClampNeg x1) (fun N5 => zlt (x3 + (1 : Int32)) (fun v6 => some (.inl (v6, N5)))))))
def pJ7_fill_d0a16 (n : Nat) (la va : Nat) (x1 : Int64) (M0 : zM) : Option (zM) :=
  zlt (0 : Int32) (fun v1 => zlt (nI la) (fun v2 => zb2 (zwl (fun q => B_J7_fill_d0a16_6 n la va x1 q.1 v2 q.2) n (v1, M0)) (fun v7 N8 => some N8)))
set_option maxHeartbeats 4000000 in
set_option maxRecDepth 100000 in
theorem cJ7_fill_d0a16_ok (l : Launch) (D : va_G) (ck : Nat → ClassId) (wf : zM → va_W) {ka aa la va : Nat} (hget : ∀ M : zM, (wf M)[ka]? = some (aa, .inl (ck 2, la, .inr (.inl (M.2 va))))) (hset : ∀ (M : zM) (i : Nat) (x : Int64), (wf M).set ka (aa, .inl (ck 2, la, .inr (.inl (vp_updL (M.2 va) i x)))) = wf (zsL M va i x)) (n : Nat) (x1 : Int64) (M0 : zM) (M9 : zM) (hf : pJ7_fill_d0a16 n la va x1 M0 = some M9) : zc l D ck (wf) yJ7_fill_d0a16 wsJ7_fill_d0a16 ({ frames := 0, cells := 0, slots := 0, locals := 0 }) [.ref aa, .long x1] M0 none M9 := by
  refine zc_of (cc := cJ7_fill_d0a16) (maxL := 5) (ret := none) [(0, .ref aa), (1, .long x1)] (by decide) rfl (Nat.le_of_ble_eq_true rfl) rfl ?_
  intro p e s m args below meth c A Q C F
  unfold pJ7_fill_d0a16 at hf
  refine za_iconst (v := (0 : Int32)) C (by decide) dJ7_fill_d0a16_0 ?_
  obtain ⟨v1, ev1, hf⟩ := z_lt hf
  refine za_istore_n C [(3, .int v1), (0, .ref aa), (1, .long x1)] ev1 (by decide) rfl rfl dJ7_fill_d0a16_1 ?_
  refine za_aload_n C 1 rfl rfl dJ7_fill_d0a16_2 ?_
  refine za_alenL C ka (hget _) dJ7_fill_d0a16_3 ?_
  obtain ⟨v2, ev2, hf⟩ := z_lt hf
  refine za_istore C [(4, .int v2), (3, .int v1), (0, .ref aa), (1, .long x1)] ev2 (by decide) rfl dJ7_fill_d0a16_4 ?_
  obtain ⟨v7, N8, hw9, hf⟩ := z_b2 hf
  refine za_sub [2, 3, 1, 0] rfl ?_
  refine z_wl (P := fun q => za_At p l e { frames := 0, cells := 0, slots := 0, locals := 0 } s m args below meth c D A 5 0 0 Q 6 [(0, .ref aa), (1, .long x1), (3, .int q.1), (4, .int v2)] [] (wf q.2)) (E := fun q => za_At p l e { frames := 0, cells := 0, slots := 0, locals := 0 } s m args below meth c D A 5 0 0 Q 22 [(0, .ref aa), (1, .long x1), (3, .int q.1), (4, .int v2)] [] (wf q.2)) ?_ ?_ _ _ hw9
  · intro q o hf hN hE
    obtain ⟨x3, M⟩ := q
    have hf : B_J7_fill_d0a16_6 n la va x1 x3 v2 M = some o := hf
    unfold B_J7_fill_d0a16_6 at hf
    refine za_iload_n C 2 rfl rfl dJ7_fill_d0a16_6 ?_
    refine za_iload C 3 rfl dJ7_fill_d0a16_7 ?_
    refine za_icmp_ge C 22 (by decide) dJ7_fill_d0a16_9 (fun q3 => ?_) (fun q3 => ?_)
    · have hf := z_pos q3 hf
      exact za_sub [0, 1, 2, 3] rfl (hE _ (z_inj hf))
    · have hf := z_neg q3 hf
      refine za_aload_n C 0 rfl rfl dJ7_fill_d0a16_12 ?_
      refine za_iload_n C 2 rfl rfl dJ7_fill_d0a16_13 ?_
      refine za_lload_n C 1 rfl rfl dJ7_fill_d0a16_14 ?_
      obtain ⟨h4, hf⟩ := z_chk hf
      obtain ⟨N5, eN5, hf⟩ := z_st hf
      refine za_last (w' := wf N5) C ka (hget _) h4 (by rw [eN5]; exact hset _ _ _) dJ7_fill_d0a16_15 ?_
      obtain ⟨v6, ev6, hf⟩ := z_lt hf
      refine za_iinc (k9 := (1 : Int32)) C [(3, .int v6), (0, .ref aa), (1, .long x1), (4, .int v2)] 2 rfl (by decide) ev6 (by decide) rfl dJ7_fill_d0a16_16 ?_
      refine za_goto C 6 (by decide) dJ7_fill_d0a16_19 ?_
      exact za_sub [1, 2, 0, 3] rfl (hN _ (z_inj hf))
  · show za_At p l e { frames := 0, cells := 0, slots := 0, locals := 0 } s m args below meth c D A 5 0 0 Q 22 [(0, .ref aa), (1, .long x1), (3, .int v7), (4, .int v2)] [] (wf N8)
    obtain rfl := z_ret1 hf
    exact za_vret C F dJ7_fill_d0a16_22
def B_J7_fill_53178_5 (n : Nat) (la va : Nat) (x1 : Int32) (x2 : Int32) (v2 : Int32) (M : zM) : Option ((Int32 × zM) ⊕ (Int32 × zM)) :=
  (if v2 ≤ x2 then (some (.inr (x2, M))) else (zchk x2 la (zst (zsI M va x2.toNatClampNeg x1) (fun N5 => zlt (x2 + (1 : Int32)) (fun v6 => some (.inl (v6, N5)))))))
def pJ7_fill_53178 (n : Nat) (la va : Nat) (x1 : Int32) (M0 : zM) : Option (zM) :=
  zlt (0 : Int32) (fun v1 => zlt (nI la) (fun v2 => zb2 (zwl (fun q => B_J7_fill_53178_5 n la va x1 q.1 v2 q.2) n (v1, M0)) (fun v7 N8 => some N8)))
set_option maxHeartbeats 4000000 in
set_option maxRecDepth 100000 in
theorem cJ7_fill_53178_ok (l : Launch) (D : va_G) (ck : Nat → ClassId) (wf : zM → va_W) {ka aa la va : Nat} (hget : ∀ M : zM, (wf M)[ka]? = some (aa, .inl (ck 0, la, .inl (M.1 va)))) (hset : ∀ (M : zM) (i : Nat) (x : Int32), (wf M).set ka (aa, .inl (ck 0, la, .inl (upd (M.1 va) i x))) = wf (zsI M va i x)) (n : Nat) (x1 : Int32) (M0 : zM) (M9 : zM) (hf : pJ7_fill_53178 n la va x1 M0 = some M9) : zc l D ck (wf) yJ7_fill_53178 wsJ7_fill_53178 ({ frames := 0, cells := 0, slots := 0, locals := 0 }) [.ref aa, .int x1] M0 none M9 := by
  refine zc_of (cc := cJ7_fill_53178) (maxL := 4) (ret := none) [(0, .ref aa), (1, .int x1)] (by decide) rfl (Nat.le_of_ble_eq_true rfl) rfl ?_
  intro p e s m args below meth c A Q C F
  unfold pJ7_fill_53178 at hf
  refine za_iconst (v := (0 : Int32)) C (by decide) dJ7_fill_53178_0 ?_
  obtain ⟨v1, ev1, hf⟩ := z_lt hf
  refine za_istore_n C [(2, .int v1), (0, .ref aa), (1, .int x1)] ev1 (by decide) rfl rfl dJ7_fill_53178_1 ?_
  refine za_aload_n C 1 rfl rfl dJ7_fill_53178_2 ?_
  refine za_alenI C ka (hget _) dJ7_fill_53178_3 ?_
  obtain ⟨v2, ev2, hf⟩ := z_lt hf
  refine za_istore_n C [(3, .int v2), (2, .int v1), (0, .ref aa), (1, .int x1)] ev2 (by decide) rfl rfl dJ7_fill_53178_4 ?_
  obtain ⟨v7, N8, hw9, hf⟩ := z_b2 hf
  refine za_sub [2, 3, 1, 0] rfl ?_
  refine z_wl (P := fun q => za_At p l e { frames := 0, cells := 0, slots := 0, locals := 0 } s m args below meth c D A 4 0 0 Q 5 [(0, .ref aa), (1, .int x1), (2, .int q.1), (3, .int v2)] [] (wf q.2)) (E := fun q => za_At p l e { frames := 0, cells := 0, slots := 0, locals := 0 } s m args below meth c D A 4 0 0 Q 20 [(0, .ref aa), (1, .int x1), (2, .int q.1), (3, .int v2)] [] (wf q.2)) ?_ ?_ _ _ hw9
  · intro q o hf hN hE
    obtain ⟨x2, M⟩ := q
    have hf : B_J7_fill_53178_5 n la va x1 x2 v2 M = some o := hf
    unfold B_J7_fill_53178_5 at hf
    refine za_iload_n C 2 rfl rfl dJ7_fill_53178_5 ?_
    refine za_iload_n C 3 rfl rfl dJ7_fill_53178_6 ?_
    refine za_icmp_ge C 20 (by decide) dJ7_fill_53178_7 (fun q3 => ?_) (fun q3 => ?_)
    · have hf := z_pos q3 hf
      exact za_sub [0, 1, 2, 3] rfl (hE _ (z_inj hf))
    · have hf := z_neg q3 hf
      refine za_aload_n C 0 rfl rfl dJ7_fill_53178_10 ?_
      refine za_iload_n C 2 rfl rfl dJ7_fill_53178_11 ?_
      refine za_iload_n C 1 rfl rfl dJ7_fill_53178_12 ?_
      obtain ⟨h4, hf⟩ := z_chk hf
      obtain ⟨N5, eN5, hf⟩ := z_st hf
      refine za_iast (w' := wf N5) C ka (hget _) h4 (by rw [eN5]; exact hset _ _ _) dJ7_fill_53178_13 ?_
      obtain ⟨v6, ev6, hf⟩ := z_lt hf
      refine za_iinc (k9 := (1 : Int32)) C [(2, .int v6), (0, .ref aa), (1, .int x1), (3, .int v2)] 2 rfl (by decide) ev6 (by decide) rfl dJ7_fill_53178_14 ?_
      refine za_goto C 5 (by decide) dJ7_fill_53178_17 ?_
      exact za_sub [1, 2, 0, 3] rfl (hN _ (z_inj hf))
  · show za_At p l e { frames := 0, cells := 0, slots := 0, locals := 0 } s m args below meth c D A 4 0 0 Q 20 [(0, .ref aa), (1, .int x1), (2, .int v7), (3, .int v2)] [] (wf N8)
    obtain rfl := z_ret1 hf
    exact za_vret C F dJ7_fill_53178_20
theorem in_X0_begin_X0 : ∀ w ∈ wsX00, w ∈ wsX0_begin := by decide +kernel
theorem fl_X0_begin_9 : Cond.fieldLink RX0 9 "ThriceNets$Lanes" "flipped" "[J" ∈ wsX0_begin := by decide +kernel
theorem fl_X0_begin_25 : Cond.fieldLink RX0 25 "ThriceNets$Lanes" "found" "[I" ∈ wsX0_begin := by decide +kernel
theorem fl_X0_begin_37 : Cond.fieldLink RX0 37 "ThriceNets$Lanes" "used" "I" ∈ wsX0_begin := by decide +kernel
theorem fl_X0_begin_41 : Cond.fieldLink RX0 41 "ThriceNets$Lanes" "firstSeen" "I" ∈ wsX0_begin := by decide +kernel
def pX0_begin (n : Nat) (M0 : zM) : Option (zM) :=
  (pJ7_fill_d0a16 n 1152 2 (0 : Int64) M0).bind (fun N2 => (pJ7_fill_53178 n 4 24 (0 : Int32) N2).bind (fun N4 => zst (zsI N4 6 0 (0 : Int32)) (fun N5 => zst (zsI N5 7 0 (-1 : Int32)) (fun N6 => some N6))))
set_option maxHeartbeats 4000000 in
set_option maxRecDepth 100000 in
theorem cX0_begin_ok (l : Launch) (D : va_G) (ck : Nat → ClassId) (ad : Nat → Nat) (n : Nat) (M0 : zM) (M9 : zM) (hf : pX0_begin n M0 = some M9) : zc l D ck (wC ad ck) yX0_begin wsX0_begin ({ frames := 1, cells := 0, slots := 0, locals := 24 }) [.ref (ad 4)] M0 none M9 := by
  refine zc_of (cc := cX0_begin) (maxL := 1) (ret := none) [(0, .ref (ad 4))] (by decide) rfl (Nat.le_of_ble_eq_true rfl) rfl ?_
  intro p e s m args below meth c A Q C F
  unfold pX0_begin at hf
  refine za_aload_n C 0 rfl rfl dX0_begin_0 ?_
  refine zg_C4_0 C in_X0_begin_X0 fl_X0_begin_9 dX0_begin_1 ?_
  refine za_lconst (v := (0 : Int64)) C (by decide) dX0_begin_4 ?_
  obtain ⟨N2, hc1, hf⟩ := z_bind hf
  refine za_callS (n := 2) (rest := []) C (cJ7_fill_d0a16_ok l D ck (wC ad ck) (ka := 24) (fun M => rfl) (fun M i x => zw_C24 rfl) n (0 : Int64) M0 _ hc1) gX0_begin_J7_fill_d0a16 rfl rfl rfl (by decide +kernel) ⟨Nat.le_of_ble_eq_true rfl, Nat.le_of_ble_eq_true rfl⟩ rfl rfl (Nat.le_of_ble_eq_true rfl) ⟨Nat.zero_le _, Nat.zero_le _⟩ dX0_begin_5 ?_
  refine za_aload_n C 0 rfl rfl dX0_begin_8 ?_
  refine zg_C4_4 C in_X0_begin_X0 fl_X0_begin_25 dX0_begin_9 ?_
  refine za_iconst (v := (0 : Int32)) C (by decide) dX0_begin_12 ?_
  obtain ⟨N4, hc3, hf⟩ := z_bind hf
  refine za_callS (n := 2) (rest := []) C (cJ7_fill_53178_ok l D ck (wC ad ck) (ka := 28) (fun M => rfl) (fun M i x => zw_C28 rfl) n (0 : Int32) N2 _ hc3) gX0_begin_J7_fill_53178 rfl rfl rfl (by decide +kernel) ⟨Nat.le_of_ble_eq_true rfl, Nat.le_of_ble_eq_true rfl⟩ rfl rfl (Nat.le_of_ble_eq_true rfl) ⟨Nat.zero_le _, Nat.zero_le _⟩ dX0_begin_13 ?_
  refine za_aload_n C 0 rfl rfl dX0_begin_16 ?_
  refine za_iconst (v := (0 : Int32)) C (by decide) dX0_begin_17 ?_
  obtain ⟨N5, eN5, hf⟩ := z_st hf
  refine zp_C4_5 C in_X0_begin_X0 fl_X0_begin_37 eN5 dX0_begin_18 ?_
  refine za_aload_n C 0 rfl rfl dX0_begin_21 ?_
  refine za_iconst (v := (-1 : Int32)) C (by decide) dX0_begin_22 ?_
  obtain ⟨N6, eN6, hf⟩ := z_st hf
  refine zp_C4_6 C in_X0_begin_X0 fl_X0_begin_41 eN6 dX0_begin_23 ?_
  obtain rfl := z_ret1 hf
  exact za_vret C F dX0_begin_26
theorem in_X0_mark_X0 : ∀ w ∈ wsX00, w ∈ wsX0_mark := by decide +kernel
theorem fl_X0_mark_9 : Cond.fieldLink RX0 9 "ThriceNets$Lanes" "flipped" "[J" ∈ wsX0_mark := by decide +kernel
theorem fl_X0_mark_37 : Cond.fieldLink RX0 37 "ThriceNets$Lanes" "used" "I" ∈ wsX0_mark := by decide +kernel
theorem in_X0_mark_X2 : ∀ w ∈ wsX20, w ∈ wsX0_mark := by decide +kernel
theorem fl_X0_mark_44 : Cond.fieldLink RX0 44 "ThriceNets$Net" "thrice" "[Z" ∈ wsX0_mark := by decide +kernel
theorem fl_X0_mark_21 : Cond.fieldLink RX0 21 "ThriceNets$Lanes" "name" "[I" ∈ wsX0_mark := by decide +kernel
def K_X0_mark_54 (n : Nat) (x2 : Int32) (x3 : Int32) (x4 : Int32) (v1 : Int32) (x6 : Int32) (M : zM) : Option ((Int32 × zM) ⊕ (Int32 × zM)) :=
  zlt (x6 + (1 : Int32)) (fun v3 => some (.inl (v3, M)))
def K_X0_mark_35 (n : Nat) (x2 : Int32) (x3 : Int32) (x4 : Int32) (v1 : Int32) (x6 : Int32) (M : zM) : Option ((Int32 × zM) ⊕ (Int32 × zM)) :=
  zchk (v1 + x6) 1152 (zchk (v1 + x6) 1152 (zst (zsL M 2 (v1 + x6).toNatClampNeg ((M.2 2 (v1 + x6).toNatClampNeg) ^^^ ((1 : Int64) <<< (Int32.toInt64 (M.1 6 0) &&& 63)))) (fun N6 => K_X0_mark_54 n x2 x3 x4 v1 x6 N6)))
def B_X0_mark_13 (n : Nat) (x2 : Int32) (x3 : Int32) (x4 : Int32) (v1 : Int32) (x6 : Int32) (M : zM) : Option ((Int32 × zM) ⊕ (Int32 × zM)) :=
  (if (3 : Int32) ≤ x6 then (some (.inr (x6, M))) else (if x6 = x4 then (K_X0_mark_35 n x2 x3 x4 v1 x6 M) else (zchk x3 24 ((if (M.1 16 x3.toNatClampNeg) = 0 then (K_X0_mark_35 n x2 x3 x4 v1 x6 M) else (K_X0_mark_54 n x2 x3 x4 v1 x6 M))))))
def pX0_mark (n : Nat) (x2 : Int32) (x3 : Int32) (x4 : Int32) (M0 : zM) : Option (zM) :=
  zlt (((x2 * (24 : Int32)) + x3) * (3 : Int32)) (fun v1 => zlt (0 : Int32) (fun v2 => zb2 (zwl (fun q => B_X0_mark_13 n x2 x3 x4 v1 q.1 q.2) n (v2, M0)) (fun v11 N12 => zchk (N12.1 6 0) 64 (zst (zsI N12 23 (N12.1 6 0).toNatClampNeg ((((10000 : Int32) * x2) + ((10 : Int32) * x3)) + x4)) (fun N14 => some N14)))))
set_option maxHeartbeats 4000000 in
set_option maxRecDepth 100000 in
theorem cX0_mark_ok (l : Launch) (D : va_G) (ck : Nat → ClassId) (ad : Nat → Nat) (n : Nat) (x2 : Int32) (x3 : Int32) (x4 : Int32) (M0 : zM) (M9 : zM) (hf : pX0_mark n x2 x3 x4 M0 = some M9) : zc l D ck (wC ad ck) yX0_mark wsX0_mark ({ frames := 0, cells := 0, slots := 0, locals := 0 }) [.ref (ad 4), .ref (ad 1), .int x2, .int x3, .int x4] M0 none M9 := by
  refine zc_of (cc := cX0_mark) (maxL := 7) (ret := none) [(0, .ref (ad 4)), (1, .ref (ad 1)), (2, .int x2), (3, .int x3), (4, .int x4)] (by decide) rfl (Nat.le_of_ble_eq_true rfl) rfl ?_
  intro p e s m args below meth c A Q C F
  unfold pX0_mark at hf
  refine za_iload_n C 2 rfl rfl dX0_mark_0 ?_
  refine za_bipush (v := (24 : Int32)) C (by decide) dX0_mark_1 ?_
  refine za_imul C dX0_mark_3 ?_
  refine za_iload_n C 3 rfl rfl dX0_mark_4 ?_
  refine za_iadd C dX0_mark_5 ?_
  refine za_iconst (v := (3 : Int32)) C (by decide) dX0_mark_6 ?_
  refine za_imul C dX0_mark_7 ?_
  obtain ⟨v1, ev1, hf⟩ := z_lt hf
  refine za_istore C [(5, .int v1), (0, .ref (ad 4)), (1, .ref (ad 1)), (2, .int x2), (3, .int x3), (4, .int x4)] ev1 (by decide) rfl dX0_mark_8 ?_
  refine za_iconst (v := (0 : Int32)) C (by decide) dX0_mark_10 ?_
  obtain ⟨v2, ev2, hf⟩ := z_lt hf
  refine za_istore C [(6, .int v2), (5, .int v1), (0, .ref (ad 4)), (1, .ref (ad 1)), (2, .int x2), (3, .int x3), (4, .int x4)] ev2 (by decide) rfl dX0_mark_11 ?_
  obtain ⟨v11, N12, hw15, hf⟩ := z_b2 hf
  refine za_sub [2, 3, 4, 5, 6, 1, 0] rfl ?_
  refine z_wl (P := fun q => za_At p l e { frames := 0, cells := 0, slots := 0, locals := 0 } s m args below meth c D A 7 0 0 Q 13 [(0, .ref (ad 4)), (1, .ref (ad 1)), (2, .int x2), (3, .int x3), (4, .int x4), (5, .int v1), (6, .int q.1)] [] (wC ad ck q.2)) (E := fun q => za_At p l e { frames := 0, cells := 0, slots := 0, locals := 0 } s m args below meth c D A 7 0 0 Q 60 [(0, .ref (ad 4)), (1, .ref (ad 1)), (2, .int x2), (3, .int x3), (4, .int x4), (5, .int v1), (6, .int q.1)] [] (wC ad ck q.2)) ?_ ?_ _ _ hw15
  · intro q o hf hN hE
    obtain ⟨x6, M⟩ := q
    have hf : B_X0_mark_13 n x2 x3 x4 v1 x6 M = some o := hf
    unfold B_X0_mark_13 at hf
    have j_54 : ∀ (x6 : Int32) (M : zM), K_X0_mark_54 n x2 x3 x4 v1 x6 M = some o → za_At p l e { frames := 0, cells := 0, slots := 0, locals := 0 } s m args below meth c D A 7 0 0 Q 54 [(0, .ref (ad 4)), (1, .ref (ad 1)), (2, .int x2), (3, .int x3), (4, .int x4), (5, .int v1), (6, .int x6)] [] (wC ad ck M) := by
      intro x6 M hf
      unfold K_X0_mark_54 at hf
      obtain ⟨v3, ev3, hf⟩ := z_lt hf
      refine za_iinc (k9 := (1 : Int32)) C [(6, .int v3), (0, .ref (ad 4)), (1, .ref (ad 1)), (2, .int x2), (3, .int x3), (4, .int x4), (5, .int v1)] 6 rfl (by decide) ev3 (by decide) rfl dX0_mark_54 ?_
      refine za_goto C 13 (by decide) dX0_mark_57 ?_
      exact za_sub [1, 2, 3, 4, 5, 6, 0] rfl (hN _ (z_inj hf))
    have j_35 : ∀ (x6 : Int32) (M : zM), K_X0_mark_35 n x2 x3 x4 v1 x6 M = some o → za_At p l e { frames := 0, cells := 0, slots := 0, locals := 0 } s m args below meth c D A 7 0 0 Q 35 [(0, .ref (ad 4)), (1, .ref (ad 1)), (2, .int x2), (3, .int x3), (4, .int x4), (5, .int v1), (6, .int x6)] [] (wC ad ck M) := by
      intro x6 M hf
      unfold K_X0_mark_35 at hf
      refine za_aload_n C 0 rfl rfl dX0_mark_35 ?_
      refine zg_C4_0 C in_X0_mark_X0 fl_X0_mark_9 dX0_mark_36 ?_
      refine za_iload C 5 rfl dX0_mark_39 ?_
      refine za_iload C 6 rfl dX0_mark_41 ?_
      refine za_iadd C dX0_mark_43 ?_
      refine za_dup2 C rfl rfl dX0_mark_44 ?_
      obtain ⟨h4, hf⟩ := z_chk hf
      refine zl_C24 C h4 dX0_mark_45 ?_
      refine za_lconst (v := (1 : Int64)) C (by decide) dX0_mark_46 ?_
      refine za_aload_n C 0 rfl rfl dX0_mark_47 ?_
      refine zg_C4_5 C in_X0_mark_X0 fl_X0_mark_37 dX0_mark_48 ?_
      refine za_lshl C dX0_mark_51 ?_
      refine za_lxor C dX0_mark_52 ?_
      obtain ⟨h5, hf⟩ := z_chk hf
      obtain ⟨N6, eN6, hf⟩ := z_st hf
      refine zs_C24 C h5 eN6 dX0_mark_53 ?_
      exact za_sub [0, 1, 2, 3, 4, 5, 6] rfl (j_54 x6 N6 hf)
    refine za_iload C 6 rfl dX0_mark_13 ?_
    refine za_iconst (v := (3 : Int32)) C (by decide) dX0_mark_15 ?_
    refine za_icmp_ge C 60 (by decide) dX0_mark_16 (fun q7 => ?_) (fun q7 => ?_)
    · have hf := z_pos q7 hf
      exact za_sub [0, 1, 2, 3, 4, 5, 6] rfl (hE _ (z_inj hf))
    · have hf := z_neg q7 hf
      refine za_iload C 6 rfl dX0_mark_19 ?_
      refine za_iload C 4 rfl dX0_mark_21 ?_
      refine za_icmp_eq C 35 (by decide) dX0_mark_23 (fun q8 => ?_) (fun q8 => ?_)
      · have hf := z_pos q8 hf
        exact za_sub [0, 1, 2, 3, 4, 5, 6] rfl (j_35 x6 M hf)
      · have hf := z_neg q8 hf
        refine za_aload_n C 1 rfl rfl dX0_mark_26 ?_
        refine zg_C1_9 C in_X0_mark_X2 fl_X0_mark_44 dX0_mark_27 ?_
        refine za_iload_n C 3 rfl rfl dX0_mark_30 ?_
        obtain ⟨h9, hf⟩ := z_chk hf
        refine zl_C12 C h9 dX0_mark_31 ?_
        refine za_if_ne C 54 (by decide) dX0_mark_32 (fun q10 => ?_) (fun q10 => ?_)
        · have hf := z_neg q10 hf
          exact za_sub [0, 1, 2, 3, 4, 5, 6] rfl (j_54 x6 M hf)
        · have hf := z_pos q10 hf
          exact za_sub [0, 1, 2, 3, 4, 5, 6] rfl (j_35 x6 M hf)
  · show za_At p l e { frames := 0, cells := 0, slots := 0, locals := 0 } s m args below meth c D A 7 0 0 Q 60 [(0, .ref (ad 4)), (1, .ref (ad 1)), (2, .int x2), (3, .int x3), (4, .int x4), (5, .int v1), (6, .int v11)] [] (wC ad ck N12)
    refine za_aload_n C 0 rfl rfl dX0_mark_60 ?_
    refine zg_C4_3 C in_X0_mark_X0 fl_X0_mark_21 dX0_mark_61 ?_
    refine za_aload_n C 0 rfl rfl dX0_mark_64 ?_
    refine zg_C4_5 C in_X0_mark_X0 fl_X0_mark_37 dX0_mark_65 ?_
    refine za_sipush (v := (10000 : Int32)) C (by decide) dX0_mark_68 ?_
    refine za_iload_n C 2 rfl rfl dX0_mark_71 ?_
    refine za_imul C dX0_mark_72 ?_
    refine za_bipush (v := (10 : Int32)) C (by decide) dX0_mark_73 ?_
    refine za_iload_n C 3 rfl rfl dX0_mark_75 ?_
    refine za_imul C dX0_mark_76 ?_
    refine za_iadd C dX0_mark_77 ?_
    refine za_iload C 4 rfl dX0_mark_78 ?_
    refine za_iadd C dX0_mark_80 ?_
    obtain ⟨h13, hf⟩ := z_chk hf
    obtain ⟨N14, eN14, hf⟩ := z_st hf
    refine zs_C27 C h13 eN14 dX0_mark_81 ?_
    obtain rfl := z_ret1 hf
    exact za_vret C F dX0_mark_82
theorem in_X0_settle_X0 : ∀ w ∈ wsX00, w ∈ wsX0_settle := by decide +kernel
theorem fl_X0_settle_15 : Cond.fieldLink RX0 15 "ThriceNets$Lanes" "has" "[J" ∈ wsX0_settle := by decide +kernel
theorem fl_X0_settle_9 : Cond.fieldLink RX0 9 "ThriceNets$Lanes" "flipped" "[J" ∈ wsX0_settle := by decide +kernel
def B_X0_settle_17 (n : Nat) (x1 : Int32) (x2 : Int32) (v1 : Int32) (v2 : Int32) (x5 : Int32) (M : zM) : Option ((Int32 × zM) ⊕ (Int32 × zM)) :=
  (if (3 : Int32) ≤ x5 then (some (.inr (x5, M))) else (zchk (v1 + x5) 96 (zchk (v2 + x5) 1152 (zchk (v1 + x5) 96 (zst (zsL M 3 (v1 + x5).toNatClampNeg ((M.2 3 (v1 + x5).toNatClampNeg) ^^^ (M.2 2 (v2 + x5).toNatClampNeg))) (fun N8 => zlt (x5 + (1 : Int32)) (fun v9 => some (.inl (v9, N8)))))))))
def pX0_settle (n : Nat) (x1 : Int32) (x2 : Int32) (M0 : zM) : Option (zM) :=
  zlt (x1 * (4 : Int32)) (fun v1 => zlt (((x2 * (24 : Int32)) + x1) * (3 : Int32)) (fun v2 => zlt (0 : Int32) (fun v3 => zb2 (zwl (fun q => B_X0_settle_17 n x1 x2 v1 v2 q.1 q.2) n (v3, M0)) (fun v10 N11 => zchk v1 96 (zlt (N11.2 3 v1.toNatClampNeg) (fun v13 => zchk (v1 + (1 : Int32)) 96 (zlt (N11.2 3 (v1 + (1 : Int32)).toNatClampNeg) (fun v15 => zchk (v1 + (2 : Int32)) 96 (zlt (N11.2 3 (v1 + (2 : Int32)).toNatClampNeg) (fun v17 => zchk (v1 + (3 : Int32)) 96 (zst (zsL N11 3 (v1 + (3 : Int32)).toNatClampNeg (((v13 &&& v15) ||| (v13 &&& v17)) ||| (v15 &&& v17))) (fun N19 => some N19))))))))))))
set_option maxHeartbeats 4000000 in
set_option maxRecDepth 100000 in
theorem cX0_settle_ok (l : Launch) (D : va_G) (ck : Nat → ClassId) (ad : Nat → Nat) (n : Nat) (x1 : Int32) (x2 : Int32) (M0 : zM) (M9 : zM) (hf : pX0_settle n x1 x2 M0 = some M9) : zc l D ck (wC ad ck) yX0_settle wsX0_settle ({ frames := 0, cells := 0, slots := 0, locals := 0 }) [.ref (ad 4), .int x1, .int x2] M0 none M9 := by
  refine zc_of (cc := cX0_settle) (maxL := 11) (ret := none) [(0, .ref (ad 4)), (1, .int x1), (2, .int x2)] (by decide) rfl (Nat.le_of_ble_eq_true rfl) rfl ?_
  intro p e s m args below meth c A Q C F
  unfold pX0_settle at hf
  refine za_iload_n C 1 rfl rfl dX0_settle_0 ?_
  refine za_iconst (v := (4 : Int32)) C (by decide) dX0_settle_1 ?_
  refine za_imul C dX0_settle_2 ?_
  obtain ⟨v1, ev1, hf⟩ := z_lt hf
  refine za_istore_n C [(3, .int v1), (0, .ref (ad 4)), (1, .int x1), (2, .int x2)] ev1 (by decide) rfl rfl dX0_settle_3 ?_
  refine za_iload_n C 3 rfl rfl dX0_settle_4 ?_
  refine za_bipush (v := (24 : Int32)) C (by decide) dX0_settle_5 ?_
  refine za_imul C dX0_settle_7 ?_
  refine za_iload_n C 2 rfl rfl dX0_settle_8 ?_
  refine za_iadd C dX0_settle_9 ?_
  refine za_iconst (v := (3 : Int32)) C (by decide) dX0_settle_10 ?_
  refine za_imul C dX0_settle_11 ?_
  obtain ⟨v2, ev2, hf⟩ := z_lt hf
  refine za_istore C [(4, .int v2), (3, .int v1), (0, .ref (ad 4)), (1, .int x1), (2, .int x2)] ev2 (by decide) rfl dX0_settle_12 ?_
  refine za_iconst (v := (0 : Int32)) C (by decide) dX0_settle_14 ?_
  obtain ⟨v3, ev3, hf⟩ := z_lt hf
  refine za_istore C [(5, .int v3), (4, .int v2), (3, .int v1), (0, .ref (ad 4)), (1, .int x1), (2, .int x2)] ev3 (by decide) rfl dX0_settle_15 ?_
  obtain ⟨v10, N11, hw20, hf⟩ := z_b2 hf
  refine za_sub [3, 4, 5, 2, 1, 0] rfl ?_
  refine z_wl (P := fun q => za_At p l e { frames := 0, cells := 0, slots := 0, locals := 0 } s m args below meth c D A 11 0 0 Q 17 [(0, .ref (ad 4)), (1, .int x1), (2, .int x2), (3, .int v1), (4, .int v2), (5, .int q.1)] [] (wC ad ck q.2)) (E := fun q => za_At p l e { frames := 0, cells := 0, slots := 0, locals := 0 } s m args below meth c D A 11 0 0 Q 51 [(0, .ref (ad 4)), (1, .int x1), (2, .int x2), (3, .int v1), (4, .int v2), (5, .int q.1)] [] (wC ad ck q.2)) ?_ ?_ _ _ hw20
  · intro q o hf hN hE
    obtain ⟨x5, M⟩ := q
    have hf : B_X0_settle_17 n x1 x2 v1 v2 x5 M = some o := hf
    unfold B_X0_settle_17 at hf
    refine za_iload C 5 rfl dX0_settle_17 ?_
    refine za_iconst (v := (3 : Int32)) C (by decide) dX0_settle_19 ?_
    refine za_icmp_ge C 51 (by decide) dX0_settle_20 (fun q4 => ?_) (fun q4 => ?_)
    · have hf := z_pos q4 hf
      exact za_sub [0, 1, 2, 3, 4, 5] rfl (hE _ (z_inj hf))
    · have hf := z_neg q4 hf
      refine za_aload_n C 0 rfl rfl dX0_settle_23 ?_
      refine zg_C4_1 C in_X0_settle_X0 fl_X0_settle_15 dX0_settle_24 ?_
      refine za_iload_n C 3 rfl rfl dX0_settle_27 ?_
      refine za_iload C 5 rfl dX0_settle_28 ?_
      refine za_iadd C dX0_settle_30 ?_
      refine za_dup2 C rfl rfl dX0_settle_31 ?_
      obtain ⟨h5, hf⟩ := z_chk hf
      refine zl_C25 C h5 dX0_settle_32 ?_
      refine za_aload_n C 0 rfl rfl dX0_settle_33 ?_
      refine zg_C4_0 C in_X0_settle_X0 fl_X0_settle_9 dX0_settle_34 ?_
      refine za_iload C 4 rfl dX0_settle_37 ?_
      refine za_iload C 5 rfl dX0_settle_39 ?_
      refine za_iadd C dX0_settle_41 ?_
      obtain ⟨h6, hf⟩ := z_chk hf
      refine zl_C24 C h6 dX0_settle_42 ?_
      refine za_lxor C dX0_settle_43 ?_
      obtain ⟨h7, hf⟩ := z_chk hf
      obtain ⟨N8, eN8, hf⟩ := z_st hf
      refine zs_C25 C h7 eN8 dX0_settle_44 ?_
      obtain ⟨v9, ev9, hf⟩ := z_lt hf
      refine za_iinc (k9 := (1 : Int32)) C [(5, .int v9), (0, .ref (ad 4)), (1, .int x1), (2, .int x2), (3, .int v1), (4, .int v2)] 5 rfl (by decide) ev9 (by decide) rfl dX0_settle_45 ?_
      refine za_goto C 17 (by decide) dX0_settle_48 ?_
      exact za_sub [1, 2, 3, 4, 5, 0] rfl (hN _ (z_inj hf))
  · show za_At p l e { frames := 0, cells := 0, slots := 0, locals := 0 } s m args below meth c D A 11 0 0 Q 51 [(0, .ref (ad 4)), (1, .int x1), (2, .int x2), (3, .int v1), (4, .int v2), (5, .int v10)] [] (wC ad ck N11)
    refine za_aload_n C 0 rfl rfl dX0_settle_51 ?_
    refine zg_C4_1 C in_X0_settle_X0 fl_X0_settle_15 dX0_settle_52 ?_
    refine za_iload_n C 3 rfl rfl dX0_settle_55 ?_
    obtain ⟨h12, hf⟩ := z_chk hf
    refine zl_C25 C h12 dX0_settle_56 ?_
    obtain ⟨v13, ev13, hf⟩ := z_lt hf
    refine za_lstore C [(5, .long v13), (0, .ref (ad 4)), (1, .int x1), (2, .int x2), (3, .int v1), (4, .int v2)] ev13 (by decide) rfl dX0_settle_57 ?_
    refine za_aload_n C 1 rfl rfl dX0_settle_59 ?_
    refine zg_C4_1 C in_X0_settle_X0 fl_X0_settle_15 dX0_settle_60 ?_
    refine za_iload_n C 4 rfl rfl dX0_settle_63 ?_
    refine za_iconst (v := (1 : Int32)) C (by decide) dX0_settle_64 ?_
    refine za_iadd C dX0_settle_65 ?_
    obtain ⟨h14, hf⟩ := z_chk hf
    refine zl_C25 C h14 dX0_settle_66 ?_
    obtain ⟨v15, ev15, hf⟩ := z_lt hf
    refine za_lstore C [(7, .long v15), (5, .long v13), (0, .ref (ad 4)), (1, .int x1), (2, .int x2), (3, .int v1), (4, .int v2)] ev15 (by decide) rfl dX0_settle_67 ?_
    refine za_aload_n C 2 rfl rfl dX0_settle_69 ?_
    refine zg_C4_1 C in_X0_settle_X0 fl_X0_settle_15 dX0_settle_70 ?_
    refine za_iload_n C 5 rfl rfl dX0_settle_73 ?_
    refine za_iconst (v := (2 : Int32)) C (by decide) dX0_settle_74 ?_
    refine za_iadd C dX0_settle_75 ?_
    obtain ⟨h16, hf⟩ := z_chk hf
    refine zl_C25 C h16 dX0_settle_76 ?_
    obtain ⟨v17, ev17, hf⟩ := z_lt hf
    refine za_lstore C [(9, .long v17), (7, .long v15), (5, .long v13), (0, .ref (ad 4)), (1, .int x1), (2, .int x2), (3, .int v1), (4, .int v2)] ev17 (by decide) rfl dX0_settle_77 ?_
    refine za_aload_n C 3 rfl rfl dX0_settle_79 ?_
    refine zg_C4_1 C in_X0_settle_X0 fl_X0_settle_15 dX0_settle_80 ?_
    refine za_iload_n C 6 rfl rfl dX0_settle_83 ?_
    refine za_iconst (v := (3 : Int32)) C (by decide) dX0_settle_84 ?_
    refine za_iadd C dX0_settle_85 ?_
    refine za_lload C 2 rfl dX0_settle_86 ?_
    refine za_lload C 1 rfl dX0_settle_88 ?_
    refine za_land C dX0_settle_90 ?_
    refine za_lload C 2 rfl dX0_settle_91 ?_
    refine za_lload C 0 rfl dX0_settle_93 ?_
    refine za_land C dX0_settle_95 ?_
    refine za_lor C dX0_settle_96 ?_
    refine za_lload C 1 rfl dX0_settle_97 ?_
    refine za_lload C 0 rfl dX0_settle_99 ?_
    refine za_land C dX0_settle_101 ?_
    refine za_lor C dX0_settle_102 ?_
    obtain ⟨h18, hf⟩ := z_chk hf
    obtain ⟨N19, eN19, hf⟩ := z_st hf
    refine zs_C25 C h18 eN19 dX0_settle_103 ?_
    obtain rfl := z_ret1 hf
    exact za_vret C F dX0_settle_104
theorem in_X3_wide_X3 : ∀ w ∈ wsX30, w ∈ wsX3_wide := by decide +kernel
theorem fl_X3_wide_9 : Cond.fieldLink RX3 9 "ThriceNets$PlainRun" "word" "[I" ∈ wsX3_wide := by decide +kernel
def pX3_wide (x1 : Int32) (x2 : Int32) (M0 : zM) : Option (Int64) :=
  zchk x2 17 (some (-(Int32.toInt64 (((M0.1 22 x2.toNatClampNeg) >>> (x1 &&& 31)) &&& (1 : Int32)))))
set_option maxHeartbeats 4000000 in
set_option maxRecDepth 100000 in
theorem cX3_wide_ok (l : Launch) (D : va_G) (ck : Nat → ClassId) (ad : Nat → Nat) (x1 : Int32) (x2 : Int32) (M0 : zM) (r9 : Int64) (hf : pX3_wide x1 x2 M0 = some r9) : zc l D ck (wC ad ck) yX3_wide wsX3_wide ({ frames := 0, cells := 0, slots := 0, locals := 0 }) [.ref (ad 3), .int x1, .int x2] M0 (some (.long r9)) M0 := by
  refine zc_of (cc := cX3_wide) (maxL := 3) (ret := (some .long)) [(0, .ref (ad 3)), (1, .int x1), (2, .int x2)] (by decide) rfl (Nat.le_of_ble_eq_true rfl) rfl ?_
  intro p e s m args below meth c A Q C F
  unfold pX3_wide at hf
  refine za_aload_n C 0 rfl rfl dX3_wide_0 ?_
  refine zg_C3_0 C in_X3_wide_X3 fl_X3_wide_9 dX3_wide_1 ?_
  refine za_iload_n C 2 rfl rfl dX3_wide_4 ?_
  obtain ⟨h1, hf⟩ := z_chk hf
  refine zl_C23 C h1 dX3_wide_5 ?_
  refine za_iload_n C 1 rfl rfl dX3_wide_6 ?_
  refine za_ishr C dX3_wide_7 ?_
  refine za_iconst (v := (1 : Int32)) C (by decide) dX3_wide_8 ?_
  refine za_iand C dX3_wide_9 ?_
  refine za_i2l C dX3_wide_10 ?_
  refine za_lneg C dX3_wide_11 ?_
  obtain rfl := z_ret1 hf
  exact za_lret C F dX3_wide_12
theorem cn_X2_gate_67 : Jvm.Cond.constantLong RX2 67 (-1) ∈ wsX2_gate := by decide +kernel
def pX2_gate (x0 : Int32) (x1 : Int64) (x3 : Int64) (M0 : zM) : Option (Int64) :=
  (if x0 = (1 : Int32) then (some (x1 ^^^ (-1 : Int64))) else (if x0 = (2 : Int32) then (some (x1 &&& x3)) else (if x0 = (3 : Int32) then (some (x1 ||| x3)) else (some (x1 ^^^ x3)))))
set_option maxHeartbeats 4000000 in
set_option maxRecDepth 100000 in
theorem cX2_gate_ok (l : Launch) (D : va_G) (ck : Nat → ClassId) (ad : Nat → Nat) (x0 : Int32) (x1 : Int64) (x3 : Int64) (M0 : zM) (r9 : Int64) (hf : pX2_gate x0 x1 x3 M0 = some r9) : zc l D ck (wC ad ck) yX2_gate wsX2_gate ({ frames := 0, cells := 0, slots := 0, locals := 0 }) [.int x0, .long x1, .long x3] M0 (some (.long r9)) M0 := by
  refine zc_of (cc := cX2_gate) (maxL := 5) (ret := (some .long)) [(0, .int x0), (1, .long x1), (3, .long x3)] (by decide) rfl (Nat.le_of_ble_eq_true rfl) rfl ?_
  intro p e s m args below meth c A Q C F
  unfold pX2_gate at hf
  refine za_iload_n C 0 rfl rfl dX2_gate_0 ?_
  by_cases q1 : x0 = (1 : Int32)
  · have hf := z_pos q1 hf
    refine za_tsIn C 28 (1) q1 (by decide) (by decide) rfl (by decide) dX2_gate_1 ?_
    refine za_lload_n C 1 rfl rfl dX2_gate_28 ?_
    refine za_ldc2 (v := (-1 : Int64)) C cn_X2_gate_67 dX2_gate_29 ?_
    refine za_lxor C dX2_gate_32 ?_
    obtain rfl := z_ret1 hf
    exact za_lret C F dX2_gate_33
  · have hf := z_neg q1 hf
    by_cases q2 : x0 = (2 : Int32)
    · have hf := z_pos q2 hf
      refine za_tsIn C 34 (2) q2 (by decide) (by decide) rfl (by decide) dX2_gate_1 ?_
      refine za_lload_n C 1 rfl rfl dX2_gate_34 ?_
      refine za_lload_n C 2 rfl rfl dX2_gate_35 ?_
      refine za_land C dX2_gate_36 ?_
      obtain rfl := z_ret1 hf
      exact za_lret C F dX2_gate_37
    · have hf := z_neg q2 hf
      by_cases q3 : x0 = (3 : Int32)
      · have hf := z_pos q3 hf
        refine za_tsIn C 38 (3) q3 (by decide) (by decide) rfl (by decide) dX2_gate_1 ?_
        refine za_lload_n C 1 rfl rfl dX2_gate_38 ?_
        refine za_lload_n C 2 rfl rfl dX2_gate_39 ?_
        refine za_lor C dX2_gate_40 ?_
        obtain rfl := z_ret1 hf
        exact za_lret C F dX2_gate_41
      · have hf := z_neg q3 hf
        refine za_tsOut C 42 (by have u1 := lv_neT (a := 1) q1 (by decide); have u2 := lv_neT (a := 2) q2 (by decide); have u3 := lv_neT (a := 3) q3 (by decide); omega) (by decide) dX2_gate_1 ?_
        refine za_lload_n C 1 rfl rfl dX2_gate_42 ?_
        refine za_lload_n C 2 rfl rfl dX2_gate_43 ?_
        refine za_lxor C dX2_gate_44 ?_
        obtain rfl := z_ret1 hf
        exact za_lret C F dX2_gate_45
theorem in_X0_workOut_X0 : ∀ w ∈ wsX00, w ∈ wsX0_workOut := by decide +kernel
theorem fl_X0_workOut_15 : Cond.fieldLink RX0 15 "ThriceNets$Lanes" "has" "[J" ∈ wsX0_workOut := by decide +kernel
theorem in_X0_workOut_X2 : ∀ w ∈ wsX20, w ∈ wsX0_workOut := by decide +kernel
theorem fl_X0_workOut_81 : Cond.fieldLink RX0 81 "ThriceNets$Net" "kind" "[I" ∈ wsX0_workOut := by decide +kernel
theorem fl_X0_workOut_104 : Cond.fieldLink RX0 104 "ThriceNets$Net" "a" "[I" ∈ wsX0_workOut := by decide +kernel
theorem fl_X0_workOut_107 : Cond.fieldLink RX0 107 "ThriceNets$Net" "b" "[I" ∈ wsX0_workOut := by decide +kernel
theorem fl_X0_workOut_44 : Cond.fieldLink RX0 44 "ThriceNets$Net" "thrice" "[Z" ∈ wsX0_workOut := by decide +kernel
def K_X0_workOut_130 (n : Nat) (x3 : Int32) (x4 : Int32) (x5 : Int32) (x6 : Int32) (M : zM) : Option ((Int32 × zM) ⊕ (Int32 × zM)) :=
  zlt (x5 + (1 : Int32)) (fun v2 => some (.inl (v2, M)))
def K_X0_workOut_108 (n : Nat) (x3 : Int32) (x4 : Int32) (x5 : Int32) (x6 : Int32) (x7 : Int32) (x8 : Int64) (y0 : Int64) (M : zM) : Option ((Int32 × zM) ⊕ (Int32 × zM)) :=
  zlt y0 (fun v3 => zchk x3 24 ((pX2_gate (M.1 10 x3.toNatClampNeg) x8 v3 M).bind (fun v6 => zchk x6 96 (zst (zsL M 3 x6.toNatClampNeg v6) (fun N8 => K_X0_workOut_130 n x3 x4 x5 x6 N8)))))
def K_X0_workOut_58 (n : Nat) (x3 : Int32) (x4 : Int32) (x5 : Int32) (x6 : Int32) (y0 : Int32) (M : zM) : Option ((Int32 × zM) ⊕ (Int32 × zM)) :=
  zlt y0 (fun v9 => zchk x3 24 (zchk (((M.1 11 x3.toNatClampNeg) * (4 : Int32)) + v9) 96 (zlt (M.2 3 (((M.1 11 x3.toNatClampNeg) * (4 : Int32)) + v9).toNatClampNeg) (fun v12 => zchk x3 24 ((if (M.1 12 x3.toNatClampNeg) = (-1 : Int32) then (K_X0_workOut_108 n x3 x4 x5 x6 v9 v12 (0 : Int64) M) else (zchk x3 24 (zchk (((M.1 12 x3.toNatClampNeg) * (4 : Int32)) + v9) 96 (K_X0_workOut_108 n x3 x4 x5 x6 v9 v12 (M.2 3 (((M.1 12 x3.toNatClampNeg) * (4 : Int32)) + v9).toNatClampNeg) M)))))))))
def B_X0_workOut_3 (n : Nat) (x3 : Int32) (x4 : Int32) (x5 : Int32) (M : zM) : Option ((Int32 × zM) ⊕ (Int32 × zM)) :=
  (if (3 : Int32) ≤ x5 then (some (.inr (x5, M))) else (zlt ((x3 * (4 : Int32)) + x5) (fun v18 => zchk x3 24 ((if (M.1 10 x3.toNatClampNeg) = 0 then ((pX3_wide x3 x4 M).bind (fun v24 => zchk v18 96 (zst (zsL M 3 v18.toNatClampNeg v24) (fun N26 => K_X0_workOut_130 n x3 x4 x5 v18 N26)))) else (zchk x3 24 ((if (M.1 16 x3.toNatClampNeg) = 0 then (K_X0_workOut_58 n x3 x4 x5 v18 (3 : Int32) M) else (K_X0_workOut_58 n x3 x4 x5 v18 x5 M)))))))))
def pX0_workOut (n : Nat) (x3 : Int32) (x4 : Int32) (M0 : zM) : Option (zM) :=
  zlt (0 : Int32) (fun v1 => zb2 (zwl (fun q => B_X0_workOut_3 n x3 x4 q.1 q.2) n (v1, M0)) (fun v27 N28 => some N28))
set_option maxHeartbeats 4000000 in
set_option maxRecDepth 100000 in
theorem cX0_workOut_ok (l : Launch) (D : va_G) (ck : Nat → ClassId) (ad : Nat → Nat) (n : Nat) (x3 : Int32) (x4 : Int32) (M0 : zM) (M9 : zM) (hf : pX0_workOut n x3 x4 M0 = some M9) : zc l D ck (wC ad ck) yX0_workOut wsX0_workOut ({ frames := 1, cells := 0, slots := 0, locals := 24 }) [.ref (ad 4), .ref (ad 1), .ref (ad 3), .int x3, .int x4] M0 none M9 := by
  refine zc_of (cc := cX0_workOut) (maxL := 12) (ret := none) [(0, .ref (ad 4)), (1, .ref (ad 1)), (2, .ref (ad 3)), (3, .int x3), (4, .int x4)] (by decide) rfl (Nat.le_of_ble_eq_true rfl) rfl ?_
  intro p e s m args below meth c A Q C F
  unfold pX0_workOut at hf
  refine za_iconst (v := (0 : Int32)) C (by decide) dX0_workOut_0 ?_
  obtain ⟨v1, ev1, hf⟩ := z_lt hf
  refine za_istore C [(5, .int v1), (0, .ref (ad 4)), (1, .ref (ad 1)), (2, .ref (ad 3)), (3, .int x3), (4, .int x4)] ev1 (by decide) rfl dX0_workOut_1 ?_
  obtain ⟨v27, N28, hw29, hf⟩ := z_b2 hf
  refine za_sub [1, 2, 3, 4, 5, 0] rfl ?_
  refine z_wl (P := fun q => za_At p l e { frames := 1, cells := 0, slots := 0, locals := 24 } s m args below meth c D A 12 0 0 Q 3 [(0, .ref (ad 4)), (1, .ref (ad 1)), (2, .ref (ad 3)), (3, .int x3), (4, .int x4), (5, .int q.1)] [] (wC ad ck q.2)) (E := fun q => za_At p l e { frames := 1, cells := 0, slots := 0, locals := 24 } s m args below meth c D A 12 0 0 Q 136 [(0, .ref (ad 4)), (1, .ref (ad 1)), (2, .ref (ad 3)), (3, .int x3), (4, .int x4), (5, .int q.1)] [] (wC ad ck q.2)) ?_ ?_ _ _ hw29
  · intro q o hf hN hE
    obtain ⟨x5, M⟩ := q
    have hf : B_X0_workOut_3 n x3 x4 x5 M = some o := hf
    unfold B_X0_workOut_3 at hf
    have j_130 : ∀ (x5 : Int32) (x6 : Int32) (M : zM), K_X0_workOut_130 n x3 x4 x5 x6 M = some o → za_At p l e { frames := 1, cells := 0, slots := 0, locals := 24 } s m args below meth c D A 12 0 0 Q 130 [(0, .ref (ad 4)), (1, .ref (ad 1)), (2, .ref (ad 3)), (3, .int x3), (4, .int x4), (5, .int x5), (6, .int x6)] [] (wC ad ck M) := by
      intro x5 x6 M hf
      unfold K_X0_workOut_130 at hf
      obtain ⟨v2, ev2, hf⟩ := z_lt hf
      refine za_iinc (k9 := (1 : Int32)) C [(5, .int v2), (0, .ref (ad 4)), (1, .ref (ad 1)), (2, .ref (ad 3)), (3, .int x3), (4, .int x4), (6, .int x6)] 5 rfl (by decide) ev2 (by decide) rfl dX0_workOut_130 ?_
      refine za_goto C 3 (by decide) dX0_workOut_133 ?_
      exact za_sub [1, 2, 3, 4, 5, 0] rfl (hN _ (z_inj hf))
    have j_108 : ∀ (x5 : Int32) (x6 : Int32) (x7 : Int32) (x8 : Int64) (y0 : Int64) (M : zM), K_X0_workOut_108 n x3 x4 x5 x6 x7 x8 y0 M = some o → za_At p l e { frames := 1, cells := 0, slots := 0, locals := 24 } s m args below meth c D A 12 0 0 Q 108 [(0, .ref (ad 4)), (1, .ref (ad 1)), (2, .ref (ad 3)), (3, .int x3), (4, .int x4), (5, .int x5), (6, .int x6), (7, .int x7), (8, .long x8)] [.long y0] (wC ad ck M) := by
      intro x5 x6 x7 x8 y0 M hf
      unfold K_X0_workOut_108 at hf
      obtain ⟨v3, ev3, hf⟩ := z_lt hf
      refine za_lstore C [(10, .long v3), (0, .ref (ad 4)), (1, .ref (ad 1)), (2, .ref (ad 3)), (3, .int x3), (4, .int x4), (5, .int x5), (6, .int x6), (7, .int x7), (8, .long x8)] ev3 (by decide) rfl dX0_workOut_108 ?_
      refine za_aload_n C 1 rfl rfl dX0_workOut_110 ?_
      refine zg_C4_1 C in_X0_workOut_X0 fl_X0_workOut_15 dX0_workOut_111 ?_
      refine za_iload C 7 rfl dX0_workOut_114 ?_
      refine za_aload_n C 2 rfl rfl dX0_workOut_116 ?_
      refine zg_C1_3 C in_X0_workOut_X2 fl_X0_workOut_81 dX0_workOut_117 ?_
      refine za_iload_n C 4 rfl rfl dX0_workOut_120 ?_
      obtain ⟨h4, hf⟩ := z_chk hf
      refine zl_C6 C h4 dX0_workOut_121 ?_
      refine za_lload C 9 rfl dX0_workOut_122 ?_
      refine za_lload C 0 rfl dX0_workOut_124 ?_
      obtain ⟨v6, hc5, hf⟩ := z_bind hf
      refine za_callS (n := 3) (rest := [.int x6, .ref (ad 25)]) C (cX2_gate_ok l D ck ad (M.1 10 x3.toNatClampNeg) x8 v3 M _ hc5) gX0_workOut_X2_gate rfl rfl rfl (by decide +kernel) ⟨Nat.le_of_ble_eq_true rfl, Nat.le_of_ble_eq_true rfl⟩ rfl rfl (Nat.le_of_ble_eq_true rfl) ⟨Nat.zero_le _, Nat.zero_le _⟩ dX0_workOut_126 ?_
      obtain ⟨h7, hf⟩ := z_chk hf
      obtain ⟨N8, eN8, hf⟩ := z_st hf
      refine zs_C25 C h7 eN8 dX0_workOut_129 ?_
      exact za_sub [1, 2, 3, 4, 5, 6, 7] rfl (j_130 x5 x6 N8 hf)
    have j_58 : ∀ (x5 : Int32) (x6 : Int32) (y0 : Int32) (M : zM), K_X0_workOut_58 n x3 x4 x5 x6 y0 M = some o → za_At p l e { frames := 1, cells := 0, slots := 0, locals := 24 } s m args below meth c D A 12 0 0 Q 58 [(0, .ref (ad 4)), (1, .ref (ad 1)), (2, .ref (ad 3)), (3, .int x3), (4, .int x4), (5, .int x5), (6, .int x6)] [.int y0] (wC ad ck M) := by
      intro x5 x6 y0 M hf
      unfold K_X0_workOut_58 at hf
      obtain ⟨v9, ev9, hf⟩ := z_lt hf
      refine za_istore C [(7, .int v9), (0, .ref (ad 4)), (1, .ref (ad 1)), (2, .ref (ad 3)), (3, .int x3), (4, .int x4), (5, .int x5), (6, .int x6)] ev9 (by decide) rfl dX0_workOut_58 ?_
      refine za_aload_n C 1 rfl rfl dX0_workOut_60 ?_
      refine zg_C4_1 C in_X0_workOut_X0 fl_X0_workOut_15 dX0_workOut_61 ?_
      refine za_aload_n C 2 rfl rfl dX0_workOut_64 ?_
      refine zg_C1_4 C in_X0_workOut_X2 fl_X0_workOut_104 dX0_workOut_65 ?_
      refine za_iload_n C 4 rfl rfl dX0_workOut_68 ?_
      obtain ⟨h10, hf⟩ := z_chk hf
      refine zl_C7 C h10 dX0_workOut_69 ?_
      refine za_iconst (v := (4 : Int32)) C (by decide) dX0_workOut_70 ?_
      refine za_imul C dX0_workOut_71 ?_
      refine za_iload C 0 rfl dX0_workOut_72 ?_
      refine za_iadd C dX0_workOut_74 ?_
      obtain ⟨h11, hf⟩ := z_chk hf
      refine zl_C25 C h11 dX0_workOut_75 ?_
      obtain ⟨v12, ev12, hf⟩ := z_lt hf
      refine za_lstore C [(8, .long v12), (7, .int v9), (0, .ref (ad 4)), (1, .ref (ad 1)), (2, .ref (ad 3)), (3, .int x3), (4, .int x4), (5, .int x5), (6, .int x6)] ev12 (by decide) rfl dX0_workOut_76 ?_
      refine za_aload_n C 3 rfl rfl dX0_workOut_78 ?_
      refine zg_C1_5 C in_X0_workOut_X2 fl_X0_workOut_107 dX0_workOut_79 ?_
      refine za_iload_n C 5 rfl rfl dX0_workOut_82 ?_
      obtain ⟨h13, hf⟩ := z_chk hf
      refine zl_C8 C h13 dX0_workOut_83 ?_
      refine za_iconst (v := (-1 : Int32)) C (by decide) dX0_workOut_84 ?_
      refine za_icmp_ne C 92 (by decide) dX0_workOut_85 (fun q14 => ?_) (fun q14 => ?_)
      · have hf := z_neg q14 hf
        refine za_aload_n C 2 rfl rfl dX0_workOut_92 ?_
        refine zg_C4_1 C in_X0_workOut_X0 fl_X0_workOut_15 dX0_workOut_93 ?_
        refine za_aload_n C 3 rfl rfl dX0_workOut_96 ?_
        refine zg_C1_5 C in_X0_workOut_X2 fl_X0_workOut_107 dX0_workOut_97 ?_
        refine za_iload_n C 5 rfl rfl dX0_workOut_100 ?_
        obtain ⟨h15, hf⟩ := z_chk hf
        refine zl_C8 C h15 dX0_workOut_101 ?_
        refine za_iconst (v := (4 : Int32)) C (by decide) dX0_workOut_102 ?_
        refine za_imul C dX0_workOut_103 ?_
        refine za_iload C 1 rfl dX0_workOut_104 ?_
        refine za_iadd C dX0_workOut_106 ?_
        obtain ⟨h16, hf⟩ := z_chk hf
        refine zl_C25 C h16 dX0_workOut_107 ?_
        exact za_sub [2, 3, 4, 5, 6, 7, 8, 1, 0] rfl (j_108 x5 x6 v9 v12 (M.2 3 (((M.1 12 x3.toNatClampNeg) * (4 : Int32)) + v9).toNatClampNeg) M hf)
      · have hf := z_pos q14 hf
        refine za_lconst (v := (0 : Int64)) C (by decide) dX0_workOut_88 ?_
        refine za_goto C 108 (by decide) dX0_workOut_89 ?_
        exact za_sub [2, 3, 4, 5, 6, 7, 8, 1, 0] rfl (j_108 x5 x6 v9 v12 (0 : Int64) M hf)
    refine za_iload C 5 rfl dX0_workOut_3 ?_
    refine za_iconst (v := (3 : Int32)) C (by decide) dX0_workOut_5 ?_
    refine za_icmp_ge C 136 (by decide) dX0_workOut_6 (fun q17 => ?_) (fun q17 => ?_)
    · have hf := z_pos q17 hf
      exact za_sub [0, 1, 2, 3, 4, 5] rfl (hE _ (z_inj hf))
    · have hf := z_neg q17 hf
      refine za_iload_n C 3 rfl rfl dX0_workOut_9 ?_
      refine za_iconst (v := (4 : Int32)) C (by decide) dX0_workOut_10 ?_
      refine za_imul C dX0_workOut_11 ?_
      refine za_iload C 5 rfl dX0_workOut_12 ?_
      refine za_iadd C dX0_workOut_14 ?_
      obtain ⟨v18, ev18, hf⟩ := z_lt hf
      refine za_istore C [(6, .int v18), (0, .ref (ad 4)), (1, .ref (ad 1)), (2, .ref (ad 3)), (3, .int x3), (4, .int x4), (5, .int x5)] ev18 (by decide) rfl dX0_workOut_15 ?_
      refine za_aload_n C 2 rfl rfl dX0_workOut_17 ?_
      refine zg_C1_3 C in_X0_workOut_X2 fl_X0_workOut_81 dX0_workOut_18 ?_
      refine za_iload_n C 4 rfl rfl dX0_workOut_21 ?_
      obtain ⟨h19, hf⟩ := z_chk hf
      refine zl_C6 C h19 dX0_workOut_22 ?_
      refine za_if_ne C 43 (by decide) dX0_workOut_23 (fun q20 => ?_) (fun q20 => ?_)
      · have hf := z_neg q20 hf
        refine za_aload_n C 2 rfl rfl dX0_workOut_43 ?_
        refine zg_C1_9 C in_X0_workOut_X2 fl_X0_workOut_44 dX0_workOut_44 ?_
        refine za_iload_n C 4 rfl rfl dX0_workOut_47 ?_
        obtain ⟨h21, hf⟩ := z_chk hf
        refine zl_C12 C h21 dX0_workOut_48 ?_
        refine za_if_eq C 57 (by decide) dX0_workOut_49 (fun q22 => ?_) (fun q22 => ?_)
        · have hf := z_pos q22 hf
          refine za_iconst (v := (3 : Int32)) C (by decide) dX0_workOut_57 ?_
          exact za_sub [1, 2, 3, 4, 5, 6, 0] rfl (j_58 x5 v18 (3 : Int32) M hf)
        · have hf := z_neg q22 hf
          refine za_iload C 6 rfl dX0_workOut_52 ?_
          refine za_goto C 58 (by decide) dX0_workOut_54 ?_
          exact za_sub [1, 2, 3, 4, 5, 6, 0] rfl (j_58 x5 v18 x5 M hf)
      · have hf := z_pos q20 hf
        refine za_aload_n C 1 rfl rfl dX0_workOut_26 ?_
        refine zg_C4_1 C in_X0_workOut_X0 fl_X0_workOut_15 dX0_workOut_27 ?_
        refine za_iload C 0 rfl dX0_workOut_30 ?_
        refine za_aload_n C 3 rfl rfl dX0_workOut_32 ?_
        refine za_iload_n C 4 rfl rfl dX0_workOut_33 ?_
        refine za_iload C 5 rfl dX0_workOut_34 ?_
        obtain ⟨v24, hc23, hf⟩ := z_bind hf
        refine za_callV (n := 2) (rest := [.int v18, .ref (ad 25)]) C (cX3_wide_ok l D ck ad x3 x4 M _ hc23) gX0_workOut_X3_wide rfl rfl rfl (by decide +kernel) ⟨Nat.le_of_ble_eq_true rfl, Nat.le_of_ble_eq_true rfl⟩ 3 rfl rfl rfl rfl rfl (Nat.le_of_ble_eq_true rfl) ⟨Nat.zero_le _, Nat.zero_le _⟩ dX0_workOut_36 ?_
        obtain ⟨h25, hf⟩ := z_chk hf
        obtain ⟨N26, eN26, hf⟩ := z_st hf
        refine zs_C25 C h25 eN26 dX0_workOut_39 ?_
        refine za_goto C 130 (by decide) dX0_workOut_40 ?_
        exact za_sub [1, 2, 3, 4, 5, 6, 0] rfl (j_130 x5 v18 N26 hf)
  · show za_At p l e { frames := 1, cells := 0, slots := 0, locals := 24 } s m args below meth c D A 12 0 0 Q 136 [(0, .ref (ad 4)), (1, .ref (ad 1)), (2, .ref (ad 3)), (3, .int x3), (4, .int x4), (5, .int v27)] [] (wC ad ck N28)
    obtain rfl := z_ret1 hf
    exact za_vret C F dX0_workOut_136
theorem in_X0_lookAtOutputs_X2 : ∀ w ∈ wsX20, w ∈ wsX0_lookAtOutputs := by decide +kernel
theorem fl_X0_lookAtOutputs_78 : Cond.fieldLink RX0 78 "ThriceNets$Net" "size" "I" ∈ wsX0_lookAtOutputs := by decide +kernel
theorem fl_X0_lookAtOutputs_114 : Cond.fieldLink RX0 114 "ThriceNets$Net" "output" "[Z" ∈ wsX0_lookAtOutputs := by decide +kernel
theorem in_X0_lookAtOutputs_X0 : ∀ w ∈ wsX00, w ∈ wsX0_lookAtOutputs := by decide +kernel
theorem fl_X0_lookAtOutputs_61 : Cond.fieldLink RX0 61 "ThriceNets$Lanes" "seen" "J" ∈ wsX0_lookAtOutputs := by decide +kernel
theorem fl_X0_lookAtOutputs_15 : Cond.fieldLink RX0 15 "ThriceNets$Lanes" "has" "[J" ∈ wsX0_lookAtOutputs := by decide +kernel
def K_X0_lookAtOutputs_50 (n : Nat) (x3 : Int32) (x4 : Int32) (M : zM) : Option ((Int32 × zM) ⊕ (Int32 × zM)) :=
  zlt (x4 + (1 : Int32)) (fun v2 => some (.inl (v2, M)))
def B_X0_lookAtOutputs_3 (n : Nat) (x3 : Int32) (x4 : Int32) (M : zM) : Option ((Int32 × zM) ⊕ (Int32 × zM)) :=
  (if (M.1 2 0) ≤ x4 then (some (.inr (x4, M))) else (zchk x4 24 ((if (M.1 15 x4.toNatClampNeg) = 0 then (K_X0_lookAtOutputs_50 n x3 x4 M) else (zchk ((x4 * (4 : Int32)) + (3 : Int32)) 96 ((pX3_wide x4 x3 M).bind (fun v8 => zst (zsL M 0 0 ((M.2 0 0) ||| ((M.2 3 ((x4 * (4 : Int32)) + (3 : Int32)).toNatClampNeg) ^^^ v8))) (fun N9 => K_X0_lookAtOutputs_50 n x3 x4 N9))))))))
def pX0_lookAtOutputs (n : Nat) (x3 : Int32) (M0 : zM) : Option (zM) :=
  zlt (0 : Int32) (fun v1 => zb2 (zwl (fun q => B_X0_lookAtOutputs_3 n x3 q.1 q.2) n (v1, M0)) (fun v10 N11 => some N11))
set_option maxHeartbeats 4000000 in
set_option maxRecDepth 100000 in
theorem cX0_lookAtOutputs_ok (l : Launch) (D : va_G) (ck : Nat → ClassId) (ad : Nat → Nat) (n : Nat) (x3 : Int32) (M0 : zM) (M9 : zM) (hf : pX0_lookAtOutputs n x3 M0 = some M9) : zc l D ck (wC ad ck) yX0_lookAtOutputs wsX0_lookAtOutputs ({ frames := 1, cells := 0, slots := 0, locals := 22 }) [.ref (ad 4), .ref (ad 1), .ref (ad 3), .int x3] M0 none M9 := by
  refine zc_of (cc := cX0_lookAtOutputs) (maxL := 5) (ret := none) [(0, .ref (ad 4)), (1, .ref (ad 1)), (2, .ref (ad 3)), (3, .int x3)] (by decide) rfl (Nat.le_of_ble_eq_true rfl) rfl ?_
  intro p e s m args below meth c A Q C F
  unfold pX0_lookAtOutputs at hf
  refine za_iconst (v := (0 : Int32)) C (by decide) dX0_lookAtOutputs_0 ?_
  obtain ⟨v1, ev1, hf⟩ := z_lt hf
  refine za_istore C [(4, .int v1), (0, .ref (ad 4)), (1, .ref (ad 1)), (2, .ref (ad 3)), (3, .int x3)] ev1 (by decide) rfl dX0_lookAtOutputs_1 ?_
  obtain ⟨v10, N11, hw12, hf⟩ := z_b2 hf
  refine za_sub [1, 2, 3, 4, 0] rfl ?_
  refine z_wl (P := fun q => za_At p l e { frames := 1, cells := 0, slots := 0, locals := 22 } s m args below meth c D A 5 0 0 Q 3 [(0, .ref (ad 4)), (1, .ref (ad 1)), (2, .ref (ad 3)), (3, .int x3), (4, .int q.1)] [] (wC ad ck q.2)) (E := fun q => za_At p l e { frames := 1, cells := 0, slots := 0, locals := 22 } s m args below meth c D A 5 0 0 Q 56 [(0, .ref (ad 4)), (1, .ref (ad 1)), (2, .ref (ad 3)), (3, .int x3), (4, .int q.1)] [] (wC ad ck q.2)) ?_ ?_ _ _ hw12
  · intro q o hf hN hE
    obtain ⟨x4, M⟩ := q
    have hf : B_X0_lookAtOutputs_3 n x3 x4 M = some o := hf
    unfold B_X0_lookAtOutputs_3 at hf
    have j_50 : ∀ (x4 : Int32) (M : zM), K_X0_lookAtOutputs_50 n x3 x4 M = some o → za_At p l e { frames := 1, cells := 0, slots := 0, locals := 22 } s m args below meth c D A 5 0 0 Q 50 [(0, .ref (ad 4)), (1, .ref (ad 1)), (2, .ref (ad 3)), (3, .int x3), (4, .int x4)] [] (wC ad ck M) := by
      intro x4 M hf
      unfold K_X0_lookAtOutputs_50 at hf
      obtain ⟨v2, ev2, hf⟩ := z_lt hf
      refine za_iinc (k9 := (1 : Int32)) C [(4, .int v2), (0, .ref (ad 4)), (1, .ref (ad 1)), (2, .ref (ad 3)), (3, .int x3)] 4 rfl (by decide) ev2 (by decide) rfl dX0_lookAtOutputs_50 ?_
      refine za_goto C 3 (by decide) dX0_lookAtOutputs_53 ?_
      exact za_sub [1, 2, 3, 4, 0] rfl (hN _ (z_inj hf))
    refine za_iload C 4 rfl dX0_lookAtOutputs_3 ?_
    refine za_aload_n C 1 rfl rfl dX0_lookAtOutputs_5 ?_
    refine zg_C1_0 C in_X0_lookAtOutputs_X2 fl_X0_lookAtOutputs_78 dX0_lookAtOutputs_6 ?_
    refine za_icmp_ge C 56 (by decide) dX0_lookAtOutputs_9 (fun q3 => ?_) (fun q3 => ?_)
    · have hf := z_pos q3 hf
      exact za_sub [0, 1, 2, 3, 4] rfl (hE _ (z_inj hf))
    · have hf := z_neg q3 hf
      refine za_aload_n C 1 rfl rfl dX0_lookAtOutputs_12 ?_
      refine zg_C1_8 C in_X0_lookAtOutputs_X2 fl_X0_lookAtOutputs_114 dX0_lookAtOutputs_13 ?_
      refine za_iload C 4 rfl dX0_lookAtOutputs_16 ?_
      obtain ⟨h4, hf⟩ := z_chk hf
      refine zl_C11 C h4 dX0_lookAtOutputs_18 ?_
      refine za_if_eq C 50 (by decide) dX0_lookAtOutputs_19 (fun q5 => ?_) (fun q5 => ?_)
      · have hf := z_pos q5 hf
        exact za_sub [0, 1, 2, 3, 4] rfl (j_50 x4 M hf)
      · have hf := z_neg q5 hf
        refine za_aload_n C 0 rfl rfl dX0_lookAtOutputs_22 ?_
        refine za_dup C rfl dX0_lookAtOutputs_23 ?_
        refine zg_C4_7 C in_X0_lookAtOutputs_X0 fl_X0_lookAtOutputs_61 dX0_lookAtOutputs_24 ?_
        refine za_aload_n C 0 rfl rfl dX0_lookAtOutputs_27 ?_
        refine zg_C4_1 C in_X0_lookAtOutputs_X0 fl_X0_lookAtOutputs_15 dX0_lookAtOutputs_28 ?_
        refine za_iload C 4 rfl dX0_lookAtOutputs_31 ?_
        refine za_iconst (v := (4 : Int32)) C (by decide) dX0_lookAtOutputs_33 ?_
        refine za_imul C dX0_lookAtOutputs_34 ?_
        refine za_iconst (v := (3 : Int32)) C (by decide) dX0_lookAtOutputs_35 ?_
        refine za_iadd C dX0_lookAtOutputs_36 ?_
        obtain ⟨h6, hf⟩ := z_chk hf
        refine zl_C25 C h6 dX0_lookAtOutputs_37 ?_
        refine za_aload_n C 2 rfl rfl dX0_lookAtOutputs_38 ?_
        refine za_iload C 4 rfl dX0_lookAtOutputs_39 ?_
        refine za_iload_n C 3 rfl rfl dX0_lookAtOutputs_41 ?_
        obtain ⟨v8, hc7, hf⟩ := z_bind hf
        refine za_callV (n := 2) (rest := [.long (M.2 3 ((x4 * (4 : Int32)) + (3 : Int32)).toNatClampNeg), .long (M.2 0 0), .ref (ad 4)]) C (cX3_wide_ok l D ck ad x4 x3 M _ hc7) gX0_lookAtOutputs_X3_wide rfl rfl rfl (by decide +kernel) ⟨Nat.le_of_ble_eq_true rfl, Nat.le_of_ble_eq_true rfl⟩ 3 rfl rfl rfl rfl rfl (Nat.le_of_ble_eq_true rfl) ⟨Nat.zero_le _, Nat.zero_le _⟩ dX0_lookAtOutputs_42 ?_
        refine za_lxor C dX0_lookAtOutputs_45 ?_
        refine za_lor C dX0_lookAtOutputs_46 ?_
        obtain ⟨N9, eN9, hf⟩ := z_st hf
        refine zp_C4_7 C in_X0_lookAtOutputs_X0 fl_X0_lookAtOutputs_61 eN9 dX0_lookAtOutputs_47 ?_
        exact za_sub [0, 1, 2, 3, 4] rfl (j_50 x4 N9 hf)
  · show za_At p l e { frames := 1, cells := 0, slots := 0, locals := 22 } s m args below meth c D A 5 0 0 Q 56 [(0, .ref (ad 4)), (1, .ref (ad 1)), (2, .ref (ad 3)), (3, .int x3), (4, .int v10)] [] (wC ad ck N11)
    obtain rfl := z_ret1 hf
    exact za_vret C F dX0_lookAtOutputs_56
theorem in_X0_feedStores_X0 : ∀ w ∈ wsX00, w ∈ wsX0_feedStores := by decide +kernel
theorem fl_X0_feedStores_18 : Cond.fieldLink RX0 18 "ThriceNets$Lanes" "taken" "[J" ∈ wsX0_feedStores := by decide +kernel
theorem fl_X0_feedStores_15 : Cond.fieldLink RX0 15 "ThriceNets$Lanes" "has" "[J" ∈ wsX0_feedStores := by decide +kernel
theorem in_X0_feedStores_X2 : ∀ w ∈ wsX20, w ∈ wsX0_feedStores := by decide +kernel
theorem fl_X0_feedStores_104 : Cond.fieldLink RX0 104 "ThriceNets$Net" "a" "[I" ∈ wsX0_feedStores := by decide +kernel
theorem fl_X0_feedStores_68 : Cond.fieldLink RX0 68 "ThriceNets$Net" "stores" "I" ∈ wsX0_feedStores := by decide +kernel
theorem fl_X0_feedStores_71 : Cond.fieldLink RX0 71 "ThriceNets$Net" "storeNode" "[I" ∈ wsX0_feedStores := by decide +kernel
theorem fl_X0_feedStores_44 : Cond.fieldLink RX0 44 "ThriceNets$Net" "thrice" "[Z" ∈ wsX0_feedStores := by decide +kernel
theorem fl_X0_feedStores_117 : Cond.fieldLink RX0 117 "ThriceNets$Net" "voted" "[Z" ∈ wsX0_feedStores := by decide +kernel
theorem wd_X0_feedStores_ac1 : Cond.methodLink RX0 120 arraycopyName ∈ wsX0_feedStores := by decide +kernel
theorem wd_X0_feedStores_ac2 : Cond.native arraycopyName ∈ wsX0_feedStores := by decide +kernel
theorem wd_X0_feedStores_ac3 : Cond.static arraycopyName ∈ wsX0_feedStores := by decide +kernel
theorem wd_X0_feedStores_ac4 : Cond.initialized "java/lang/System" ∈ wsX0_feedStores := by decide +kernel
def K_X0_feedStores_84 (n : Nat) (x2 : Int32) (x3 : Int32) (v2 : Int32) (x5 : Int32) (y0 : Int32) (y1 : Int32) (y3 : Int32) (M : zM) : Option ((Int32 × zM) ⊕ (Int32 × zM)) :=
  zchk (y1 + y0) 96 (zchk y3 72 (zst (zsL M 4 y3.toNatClampNeg (M.2 3 (y1 + y0).toNatClampNeg)) (fun N6 => zlt (x5 + (1 : Int32)) (fun v7 => some (.inl (v7, N6))))))
def B_X0_feedStores_45 (n : Nat) (x2 : Int32) (x3 : Int32) (v2 : Int32) (x5 : Int32) (M : zM) : Option ((Int32 × zM) ⊕ (Int32 × zM)) :=
  (if (3 : Int32) ≤ x5 then (some (.inr (x5, M))) else (zchk x3 24 ((if v2 = 0 then (K_X0_feedStores_84 n x2 x3 v2 x5 (3 : Int32) ((M.1 11 x3.toNatClampNeg) * (4 : Int32)) ((x2 * (3 : Int32)) + x5) M) else (K_X0_feedStores_84 n x2 x3 v2 x5 x5 ((M.1 11 x3.toNatClampNeg) * (4 : Int32)) ((x2 * (3 : Int32)) + x5) M)))))
def K_X0_feedStores_40 (n : Nat) (x2 : Int32) (x3 : Int32) (y0 : Int32) (M : zM) : Option ((Int32 × zM) ⊕ (Int32 × zM)) :=
  zlt y0 (fun v2 => zlt (0 : Int32) (fun v3 => zb2 (zwl (fun q => B_X0_feedStores_45 n x2 x3 v2 q.1 q.2) n (v3, M)) (fun v11 N12 => zlt (x2 + (1 : Int32)) (fun v13 => some (.inl (v13, N12))))))
def K_X0_feedStores_39 (n : Nat) (x2 : Int32) (x3 : Int32) (M : zM) : Option ((Int32 × zM) ⊕ (Int32 × zM)) :=
  K_X0_feedStores_40 n x2 x3 (0 : Int32) M
def B_X0_feedStores_2 (n : Nat) (x2 : Int32) (M : zM) : Option ((Int32 × zM) ⊕ (Int32 × zM)) :=
  (if (M.1 4 0) ≤ x2 then (some (.inr (x2, M))) else (zchk x2 24 (zlt (M.1 18 x2.toNatClampNeg) (fun v17 => zchk v17 24 ((if (M.1 16 v17.toNatClampNeg) = 0 then (K_X0_feedStores_39 n x2 v17 M) else (zchk v17 24 ((if (M.1 17 v17.toNatClampNeg) = 0 then (K_X0_feedStores_40 n x2 v17 (1 : Int32) M) else (K_X0_feedStores_39 n x2 v17 M))))))))))
def B_X0_feedStores_101 (n : Nat) (x2 : Int32) (M : zM) : Option ((Int32 × zM) ⊕ (Int32 × zM)) :=
  (if (M.1 4 0) ≤ x2 then (some (.inr (x2, M))) else (zchk x2 24 (zcpk (zcp (x2 * (3 : Int32)) ((M.1 18 x2.toNatClampNeg) * (4 : Int32)) (3 : Int32) 72 96) (zst (zcL M 3 (va_cpy (M.2 4) (M.2 3) (x2 * (3 : Int32)).toNatClampNeg ((M.1 18 x2.toNatClampNeg) * (4 : Int32)).toNatClampNeg (3 : Int32).toNatClampNeg)) (fun N27 => zlt (x2 + (1 : Int32)) (fun v29 => some (.inl (v29, N27))))))))
def pX0_feedStores (n : Nat) (M0 : zM) : Option (zM) :=
  zlt (0 : Int32) (fun v1 => zb2 (zwl (fun q => B_X0_feedStores_2 n q.1 q.2) n (v1, M0)) (fun v22 N23 => zlt (0 : Int32) (fun v24 => zb2 (zwl (fun q => B_X0_feedStores_101 n q.1 q.2) n (v24, N23)) (fun v30 N31 => some N31))))
set_option maxHeartbeats 4000000 in
set_option maxRecDepth 100000 in
theorem cX0_feedStores_ok (l : Launch) (D : va_G) (ck : Nat → ClassId) (ad : Nat → Nat) (n : Nat) (M0 : zM) (M9 : zM) (hf : pX0_feedStores n M0 = some M9) : zc l D ck (wC ad ck) yX0_feedStores wsX0_feedStores ({ frames := 1, cells := 0, slots := 0, locals := 40 }) [.ref (ad 4), .ref (ad 1)] M0 none M9 := by
  refine zc_of (cc := cX0_feedStores) (maxL := 6) (ret := none) [(0, .ref (ad 4)), (1, .ref (ad 1))] (by decide) rfl (Nat.le_of_ble_eq_true rfl) rfl ?_
  intro p e s m args below meth c A Q C F
  unfold pX0_feedStores at hf
  refine za_iconst (v := (0 : Int32)) C (by decide) dX0_feedStores_0 ?_
  obtain ⟨v1, ev1, hf⟩ := z_lt hf
  refine za_istore_n C [(2, .int v1), (0, .ref (ad 4)), (1, .ref (ad 1))] ev1 (by decide) rfl rfl dX0_feedStores_1 ?_
  obtain ⟨v22, N23, hw33, hf⟩ := z_b2 hf
  refine za_sub [1, 2, 0] rfl ?_
  refine z_wl (P := fun q => za_At p l e { frames := 1, cells := 0, slots := 0, locals := 40 } s m args below meth c D A 6 0 0 Q 2 [(0, .ref (ad 4)), (1, .ref (ad 1)), (2, .int q.1)] [] (wC ad ck q.2)) (E := fun q => za_At p l e { frames := 1, cells := 0, slots := 0, locals := 40 } s m args below meth c D A 6 0 0 Q 99 [(0, .ref (ad 4)), (1, .ref (ad 1)), (2, .int q.1)] [] (wC ad ck q.2)) ?_ ?_ _ _ hw33
  · intro q o hf hN hE
    obtain ⟨x2, M⟩ := q
    have hf : B_X0_feedStores_2 n x2 M = some o := hf
    unfold B_X0_feedStores_2 at hf
    have j_40 : ∀ (x2 : Int32) (x3 : Int32) (y0 : Int32) (M : zM), K_X0_feedStores_40 n x2 x3 y0 M = some o → za_At p l e { frames := 1, cells := 0, slots := 0, locals := 40 } s m args below meth c D A 6 0 0 Q 40 [(0, .ref (ad 4)), (1, .ref (ad 1)), (2, .int x2), (3, .int x3)] [.int y0] (wC ad ck M) := by
      intro x2 x3 y0 M hf
      unfold K_X0_feedStores_40 at hf
      obtain ⟨v2, ev2, hf⟩ := z_lt hf
      refine za_istore C [(4, .int v2), (0, .ref (ad 4)), (1, .ref (ad 1)), (2, .int x2), (3, .int x3)] ev2 (by decide) rfl dX0_feedStores_40 ?_
      refine za_iconst (v := (0 : Int32)) C (by decide) dX0_feedStores_42 ?_
      obtain ⟨v3, ev3, hf⟩ := z_lt hf
      refine za_istore C [(5, .int v3), (4, .int v2), (0, .ref (ad 4)), (1, .ref (ad 1)), (2, .int x2), (3, .int x3)] ev3 (by decide) rfl dX0_feedStores_43 ?_
      obtain ⟨v11, N12, hw14, hf⟩ := z_b2 hf
      refine za_sub [2, 3, 4, 5, 1, 0] rfl ?_
      refine z_wl (P := fun q => za_At p l e { frames := 1, cells := 0, slots := 0, locals := 40 } s m args below meth c D A 6 0 0 Q 45 [(0, .ref (ad 4)), (1, .ref (ad 1)), (2, .int x2), (3, .int x3), (4, .int v2), (5, .int q.1)] [] (wC ad ck q.2)) (E := fun q => za_At p l e { frames := 1, cells := 0, slots := 0, locals := 40 } s m args below meth c D A 6 0 0 Q 93 [(0, .ref (ad 4)), (1, .ref (ad 1)), (2, .int x2), (3, .int x3), (4, .int v2), (5, .int q.1)] [] (wC ad ck q.2)) ?_ ?_ _ _ hw14
      · intro q o hf hN hE
        obtain ⟨x5, M⟩ := q
        have hf : B_X0_feedStores_45 n x2 x3 v2 x5 M = some o := hf
        unfold B_X0_feedStores_45 at hf
        have j_84 : ∀ (x5 : Int32) (y0 : Int32) (y1 : Int32) (y3 : Int32) (M : zM), K_X0_feedStores_84 n x2 x3 v2 x5 y0 y1 y3 M = some o → za_At p l e { frames := 1, cells := 0, slots := 0, locals := 40 } s m args below meth c D A 6 0 0 Q 84 [(0, .ref (ad 4)), (1, .ref (ad 1)), (2, .int x2), (3, .int x3), (4, .int v2), (5, .int x5)] [.int y0, .int y1, .ref (ad 25), .int y3, .ref (ad 26)] (wC ad ck M) := by
          intro x5 y0 y1 y3 M hf
          unfold K_X0_feedStores_84 at hf
          refine za_iadd C dX0_feedStores_84 ?_
          obtain ⟨h4, hf⟩ := z_chk hf
          refine zl_C25 C h4 dX0_feedStores_85 ?_
          obtain ⟨h5, hf⟩ := z_chk hf
          obtain ⟨N6, eN6, hf⟩ := z_st hf
          refine zs_C26 C h5 eN6 dX0_feedStores_86 ?_
          obtain ⟨v7, ev7, hf⟩ := z_lt hf
          refine za_iinc (k9 := (1 : Int32)) C [(5, .int v7), (0, .ref (ad 4)), (1, .ref (ad 1)), (2, .int x2), (3, .int x3), (4, .int v2)] 5 rfl (by decide) ev7 (by decide) rfl dX0_feedStores_87 ?_
          refine za_goto C 45 (by decide) dX0_feedStores_90 ?_
          exact za_sub [1, 2, 3, 4, 5, 0] rfl (hN _ (z_inj hf))
        refine za_iload C 5 rfl dX0_feedStores_45 ?_
        refine za_iconst (v := (3 : Int32)) C (by decide) dX0_feedStores_47 ?_
        refine za_icmp_ge C 93 (by decide) dX0_feedStores_48 (fun q8 => ?_) (fun q8 => ?_)
        · have hf := z_pos q8 hf
          exact za_sub [0, 1, 2, 3, 4, 5] rfl (hE _ (z_inj hf))
        · have hf := z_neg q8 hf
          refine za_aload_n C 0 rfl rfl dX0_feedStores_51 ?_
          refine zg_C4_2 C in_X0_feedStores_X0 fl_X0_feedStores_18 dX0_feedStores_52 ?_
          refine za_iload_n C 2 rfl rfl dX0_feedStores_55 ?_
          refine za_iconst (v := (3 : Int32)) C (by decide) dX0_feedStores_56 ?_
          refine za_imul C dX0_feedStores_57 ?_
          refine za_iload C 5 rfl dX0_feedStores_58 ?_
          refine za_iadd C dX0_feedStores_60 ?_
          refine za_aload_n C 0 rfl rfl dX0_feedStores_61 ?_
          refine zg_C4_1 C in_X0_feedStores_X0 fl_X0_feedStores_15 dX0_feedStores_62 ?_
          refine za_aload_n C 1 rfl rfl dX0_feedStores_65 ?_
          refine zg_C1_4 C in_X0_feedStores_X2 fl_X0_feedStores_104 dX0_feedStores_66 ?_
          refine za_iload_n C 3 rfl rfl dX0_feedStores_69 ?_
          obtain ⟨h9, hf⟩ := z_chk hf
          refine zl_C7 C h9 dX0_feedStores_70 ?_
          refine za_iconst (v := (4 : Int32)) C (by decide) dX0_feedStores_71 ?_
          refine za_imul C dX0_feedStores_72 ?_
          refine za_iload C 4 rfl dX0_feedStores_73 ?_
          refine za_if_eq C 83 (by decide) dX0_feedStores_75 (fun q10 => ?_) (fun q10 => ?_)
          · have hf := z_pos q10 hf
            refine za_iconst (v := (3 : Int32)) C (by decide) dX0_feedStores_83 ?_
            exact za_sub [0, 1, 2, 3, 4, 5] rfl (j_84 x5 (3 : Int32) ((M.1 11 x3.toNatClampNeg) * (4 : Int32)) ((x2 * (3 : Int32)) + x5) M hf)
          · have hf := z_neg q10 hf
            refine za_iload C 5 rfl dX0_feedStores_78 ?_
            refine za_goto C 84 (by decide) dX0_feedStores_80 ?_
            exact za_sub [0, 1, 2, 3, 4, 5] rfl (j_84 x5 x5 ((M.1 11 x3.toNatClampNeg) * (4 : Int32)) ((x2 * (3 : Int32)) + x5) M hf)
      · show za_At p l e { frames := 1, cells := 0, slots := 0, locals := 40 } s m args below meth c D A 6 0 0 Q 93 [(0, .ref (ad 4)), (1, .ref (ad 1)), (2, .int x2), (3, .int x3), (4, .int v2), (5, .int v11)] [] (wC ad ck N12)
        obtain ⟨v13, ev13, hf⟩ := z_lt hf
        refine za_iinc (k9 := (1 : Int32)) C [(2, .int v13), (0, .ref (ad 4)), (1, .ref (ad 1)), (3, .int x3), (4, .int v2), (5, .int v11)] 2 rfl (by decide) ev13 (by decide) rfl dX0_feedStores_93 ?_
        refine za_goto C 2 (by decide) dX0_feedStores_96 ?_
        exact za_sub [1, 2, 0] rfl (hN _ (z_inj hf))
    have j_39 : ∀ (x2 : Int32) (x3 : Int32) (M : zM), K_X0_feedStores_39 n x2 x3 M = some o → za_At p l e { frames := 1, cells := 0, slots := 0, locals := 40 } s m args below meth c D A 6 0 0 Q 39 [(0, .ref (ad 4)), (1, .ref (ad 1)), (2, .int x2), (3, .int x3)] [] (wC ad ck M) := by
      intro x2 x3 M hf
      unfold K_X0_feedStores_39 at hf
      refine za_iconst (v := (0 : Int32)) C (by decide) dX0_feedStores_39 ?_
      exact za_sub [0, 1, 2, 3] rfl (j_40 x2 x3 (0 : Int32) M hf)
    refine za_iload_n C 2 rfl rfl dX0_feedStores_2 ?_
    refine za_aload_n C 1 rfl rfl dX0_feedStores_3 ?_
    refine zg_C1_2 C in_X0_feedStores_X2 fl_X0_feedStores_68 dX0_feedStores_4 ?_
    refine za_icmp_ge C 99 (by decide) dX0_feedStores_7 (fun q15 => ?_) (fun q15 => ?_)
    · have hf := z_pos q15 hf
      exact za_sub [0, 1, 2] rfl (hE _ (z_inj hf))
    · have hf := z_neg q15 hf
      refine za_aload_n C 1 rfl rfl dX0_feedStores_10 ?_
      refine zg_C1_11 C in_X0_feedStores_X2 fl_X0_feedStores_71 dX0_feedStores_11 ?_
      refine za_iload_n C 2 rfl rfl dX0_feedStores_14 ?_
      obtain ⟨h16, hf⟩ := z_chk hf
      refine zl_C14 C h16 dX0_feedStores_15 ?_
      obtain ⟨v17, ev17, hf⟩ := z_lt hf
      refine za_istore_n C [(3, .int v17), (0, .ref (ad 4)), (1, .ref (ad 1)), (2, .int x2)] ev17 (by decide) rfl rfl dX0_feedStores_16 ?_
      refine za_aload_n C 2 rfl rfl dX0_feedStores_17 ?_
      refine zg_C1_9 C in_X0_feedStores_X2 fl_X0_feedStores_44 dX0_feedStores_18 ?_
      refine za_iload_n C 0 rfl rfl dX0_feedStores_21 ?_
      obtain ⟨h18, hf⟩ := z_chk hf
      refine zl_C12 C h18 dX0_feedStores_22 ?_
      refine za_if_eq C 39 (by decide) dX0_feedStores_23 (fun q19 => ?_) (fun q19 => ?_)
      · have hf := z_pos q19 hf
        exact za_sub [1, 2, 3, 0] rfl (j_39 x2 v17 M hf)
      · have hf := z_neg q19 hf
        refine za_aload_n C 2 rfl rfl dX0_feedStores_26 ?_
        refine zg_C1_10 C in_X0_feedStores_X2 fl_X0_feedStores_117 dX0_feedStores_27 ?_
        refine za_iload_n C 0 rfl rfl dX0_feedStores_30 ?_
        obtain ⟨h20, hf⟩ := z_chk hf
        refine zl_C13 C h20 dX0_feedStores_31 ?_
        refine za_if_ne C 39 (by decide) dX0_feedStores_32 (fun q21 => ?_) (fun q21 => ?_)
        · have hf := z_neg q21 hf
          exact za_sub [1, 2, 3, 0] rfl (j_39 x2 v17 M hf)
        · have hf := z_pos q21 hf
          refine za_iconst (v := (1 : Int32)) C (by decide) dX0_feedStores_35 ?_
          refine za_goto C 40 (by decide) dX0_feedStores_36 ?_
          exact za_sub [1, 2, 3, 0] rfl (j_40 x2 v17 (1 : Int32) M hf)
  · show za_At p l e { frames := 1, cells := 0, slots := 0, locals := 40 } s m args below meth c D A 6 0 0 Q 99 [(0, .ref (ad 4)), (1, .ref (ad 1)), (2, .int v22)] [] (wC ad ck N23)
    refine za_iconst (v := (0 : Int32)) C (by decide) dX0_feedStores_99 ?_
    obtain ⟨v24, ev24, hf⟩ := z_lt hf
    refine za_istore_n C [(2, .int v24), (0, .ref (ad 4)), (1, .ref (ad 1))] ev24 (by decide) rfl rfl dX0_feedStores_100 ?_
    obtain ⟨v30, N31, hw32, hf⟩ := z_b2 hf
    refine za_sub [1, 2, 0] rfl ?_
    refine z_wl (P := fun q => za_At p l e { frames := 1, cells := 0, slots := 0, locals := 40 } s m args below meth c D A 6 0 0 Q 101 [(0, .ref (ad 4)), (1, .ref (ad 1)), (2, .int q.1)] [] (wC ad ck q.2)) (E := fun q => za_At p l e { frames := 1, cells := 0, slots := 0, locals := 40 } s m args below meth c D A 6 0 0 Q 138 [(0, .ref (ad 4)), (1, .ref (ad 1)), (2, .int q.1)] [] (wC ad ck q.2)) ?_ ?_ _ _ hw32
    · intro q o hf hN hE
      obtain ⟨x2, M⟩ := q
      have hf : B_X0_feedStores_101 n x2 M = some o := hf
      unfold B_X0_feedStores_101 at hf
      refine za_iload_n C 2 rfl rfl dX0_feedStores_101 ?_
      refine za_aload_n C 1 rfl rfl dX0_feedStores_102 ?_
      refine zg_C1_2 C in_X0_feedStores_X2 fl_X0_feedStores_68 dX0_feedStores_103 ?_
      refine za_icmp_ge C 138 (by decide) dX0_feedStores_106 (fun q25 => ?_) (fun q25 => ?_)
      · have hf := z_pos q25 hf
        exact za_sub [0, 1, 2] rfl (hE _ (z_inj hf))
      · have hf := z_neg q25 hf
        refine za_aload_n C 0 rfl rfl dX0_feedStores_109 ?_
        refine zg_C4_2 C in_X0_feedStores_X0 fl_X0_feedStores_18 dX0_feedStores_110 ?_
        refine za_iload_n C 2 rfl rfl dX0_feedStores_113 ?_
        refine za_iconst (v := (3 : Int32)) C (by decide) dX0_feedStores_114 ?_
        refine za_imul C dX0_feedStores_115 ?_
        refine za_aload_n C 0 rfl rfl dX0_feedStores_116 ?_
        refine zg_C4_1 C in_X0_feedStores_X0 fl_X0_feedStores_15 dX0_feedStores_117 ?_
        refine za_aload_n C 1 rfl rfl dX0_feedStores_120 ?_
        refine zg_C1_11 C in_X0_feedStores_X2 fl_X0_feedStores_71 dX0_feedStores_121 ?_
        refine za_iload_n C 2 rfl rfl dX0_feedStores_124 ?_
        obtain ⟨h26, hf⟩ := z_chk hf
        refine zl_C14 C h26 dX0_feedStores_125 ?_
        refine za_iconst (v := (4 : Int32)) C (by decide) dX0_feedStores_126 ?_
        refine za_imul C dX0_feedStores_127 ?_
        refine za_iconst (v := (3 : Int32)) C (by decide) dX0_feedStores_128 ?_
        obtain ⟨h28, hf⟩ := z_cp hf
        obtain ⟨N27, eN27, hf⟩ := z_st hf
        refine za_copyl (w' := wC ad ck N27) C wd_X0_feedStores_ac1 wd_X0_feedStores_ac2 wd_X0_feedStores_ac3 wd_X0_feedStores_ac4 26 25 rfl rfl h28.1 h28.2.1 h28.2.2.1 h28.2.2.2.1 h28.2.2.2.2 (Nat.le_of_ble_eq_true rfl) (Nat.le_of_ble_eq_true rfl) (by rw [eN27]; rfl) dX0_feedStores_129 ?_
        obtain ⟨v29, ev29, hf⟩ := z_lt hf
        refine za_iinc (k9 := (1 : Int32)) C [(2, .int v29), (0, .ref (ad 4)), (1, .ref (ad 1))] 2 rfl (by decide) ev29 (by decide) rfl dX0_feedStores_132 ?_
        refine za_goto C 101 (by decide) dX0_feedStores_135 ?_
        exact za_sub [1, 2, 0] rfl (hN _ (z_inj hf))
    · show za_At p l e { frames := 1, cells := 0, slots := 0, locals := 40 } s m args below meth c D A 6 0 0 Q 138 [(0, .ref (ad 4)), (1, .ref (ad 1)), (2, .int v30)] [] (wC ad ck N31)
      obtain rfl := z_ret1 hf
      exact za_vret C F dX0_feedStores_138
theorem in_X0_lookAtStores_X2 : ∀ w ∈ wsX20, w ∈ wsX0_lookAtStores := by decide +kernel
theorem fl_X0_lookAtStores_68 : Cond.fieldLink RX0 68 "ThriceNets$Net" "stores" "I" ∈ wsX0_lookAtStores := by decide +kernel
theorem fl_X0_lookAtStores_71 : Cond.fieldLink RX0 71 "ThriceNets$Net" "storeNode" "[I" ∈ wsX0_lookAtStores := by decide +kernel
theorem in_X0_lookAtStores_X0 : ∀ w ∈ wsX00, w ∈ wsX0_lookAtStores := by decide +kernel
theorem fl_X0_lookAtStores_65 : Cond.fieldLink RX0 65 "ThriceNets$Lanes" "lingers" "J" ∈ wsX0_lookAtStores := by decide +kernel
theorem fl_X0_lookAtStores_15 : Cond.fieldLink RX0 15 "ThriceNets$Lanes" "has" "[J" ∈ wsX0_lookAtStores := by decide +kernel
def B_X0_lookAtStores_24 (n : Nat) (x3 : Int32) (x4 : Int32) (v4 : Int32) (x6 : Int32) (M : zM) : Option ((Int32 × zM) ⊕ (Int32 × zM)) :=
  (if (3 : Int32) ≤ x6 then (some (.inr (x6, M))) else (zchk ((v4 * (4 : Int32)) + x6) 96 ((pX3_wide v4 x3 M).bind (fun v9 => zst (zsL M 1 0 ((M.2 1 0) ||| ((M.2 3 ((v4 * (4 : Int32)) + x6).toNatClampNeg) ^^^ v9))) (fun N10 => zlt (x6 + (1 : Int32)) (fun v11 => some (.inl (v11, N10))))))))
def B_X0_lookAtStores_3 (n : Nat) (x3 : Int32) (x4 : Int32) (M : zM) : Option ((Int32 × zM) ⊕ (Int32 × zM)) :=
  (if (M.1 4 0) ≤ x4 then (some (.inr (x4, M))) else (zchk x4 24 (zlt (M.1 18 x4.toNatClampNeg) (fun v4 => zlt (0 : Int32) (fun v5 => zb2 (zwl (fun q => B_X0_lookAtStores_24 n x3 x4 v4 q.1 q.2) n (v5, M)) (fun v12 N13 => zlt (x4 + (1 : Int32)) (fun v14 => some (.inl (v14, N13)))))))))
def pX0_lookAtStores (n : Nat) (x3 : Int32) (M0 : zM) : Option (zM) :=
  zlt (0 : Int32) (fun v1 => zb2 (zwl (fun q => B_X0_lookAtStores_3 n x3 q.1 q.2) n (v1, M0)) (fun v16 N17 => some N17))
set_option maxHeartbeats 4000000 in
set_option maxRecDepth 100000 in
theorem cX0_lookAtStores_ok (l : Launch) (D : va_G) (ck : Nat → ClassId) (ad : Nat → Nat) (n : Nat) (x3 : Int32) (M0 : zM) (M9 : zM) (hf : pX0_lookAtStores n x3 M0 = some M9) : zc l D ck (wC ad ck) yX0_lookAtStores wsX0_lookAtStores ({ frames := 1, cells := 0, slots := 0, locals := 22 }) [.ref (ad 4), .ref (ad 1), .ref (ad 3), .int x3] M0 none M9 := by
  refine zc_of (cc := cX0_lookAtStores) (maxL := 7) (ret := none) [(0, .ref (ad 4)), (1, .ref (ad 1)), (2, .ref (ad 3)), (3, .int x3)] (by decide) rfl (Nat.le_of_ble_eq_true rfl) rfl ?_
  intro p e s m args below meth c A Q C F
  unfold pX0_lookAtStores at hf
  refine za_iconst (v := (0 : Int32)) C (by decide) dX0_lookAtStores_0 ?_
  obtain ⟨v1, ev1, hf⟩ := z_lt hf
  refine za_istore C [(4, .int v1), (0, .ref (ad 4)), (1, .ref (ad 1)), (2, .ref (ad 3)), (3, .int x3)] ev1 (by decide) rfl dX0_lookAtStores_1 ?_
  obtain ⟨v16, N17, hw18, hf⟩ := z_b2 hf
  refine za_sub [1, 2, 3, 4, 0] rfl ?_
  refine z_wl (P := fun q => za_At p l e { frames := 1, cells := 0, slots := 0, locals := 22 } s m args below meth c D A 7 0 0 Q 3 [(0, .ref (ad 4)), (1, .ref (ad 1)), (2, .ref (ad 3)), (3, .int x3), (4, .int q.1)] [] (wC ad ck q.2)) (E := fun q => za_At p l e { frames := 1, cells := 0, slots := 0, locals := 22 } s m args below meth c D A 7 0 0 Q 71 [(0, .ref (ad 4)), (1, .ref (ad 1)), (2, .ref (ad 3)), (3, .int x3), (4, .int q.1)] [] (wC ad ck q.2)) ?_ ?_ _ _ hw18
  · intro q o hf hN hE
    obtain ⟨x4, M⟩ := q
    have hf : B_X0_lookAtStores_3 n x3 x4 M = some o := hf
    unfold B_X0_lookAtStores_3 at hf
    refine za_iload C 4 rfl dX0_lookAtStores_3 ?_
    refine za_aload_n C 1 rfl rfl dX0_lookAtStores_5 ?_
    refine zg_C1_2 C in_X0_lookAtStores_X2 fl_X0_lookAtStores_68 dX0_lookAtStores_6 ?_
    refine za_icmp_ge C 71 (by decide) dX0_lookAtStores_9 (fun q2 => ?_) (fun q2 => ?_)
    · have hf := z_pos q2 hf
      exact za_sub [0, 1, 2, 3, 4] rfl (hE _ (z_inj hf))
    · have hf := z_neg q2 hf
      refine za_aload_n C 1 rfl rfl dX0_lookAtStores_12 ?_
      refine zg_C1_11 C in_X0_lookAtStores_X2 fl_X0_lookAtStores_71 dX0_lookAtStores_13 ?_
      refine za_iload C 4 rfl dX0_lookAtStores_16 ?_
      obtain ⟨h3, hf⟩ := z_chk hf
      refine zl_C14 C h3 dX0_lookAtStores_18 ?_
      obtain ⟨v4, ev4, hf⟩ := z_lt hf
      refine za_istore C [(5, .int v4), (0, .ref (ad 4)), (1, .ref (ad 1)), (2, .ref (ad 3)), (3, .int x3), (4, .int x4)] ev4 (by decide) rfl dX0_lookAtStores_19 ?_
      refine za_iconst (v := (0 : Int32)) C (by decide) dX0_lookAtStores_21 ?_
      obtain ⟨v5, ev5, hf⟩ := z_lt hf
      refine za_istore C [(6, .int v5), (5, .int v4), (0, .ref (ad 4)), (1, .ref (ad 1)), (2, .ref (ad 3)), (3, .int x3), (4, .int x4)] ev5 (by decide) rfl dX0_lookAtStores_22 ?_
      obtain ⟨v12, N13, hw15, hf⟩ := z_b2 hf
      refine za_sub [2, 3, 4, 5, 6, 1, 0] rfl ?_
      refine z_wl (P := fun q => za_At p l e { frames := 1, cells := 0, slots := 0, locals := 22 } s m args below meth c D A 7 0 0 Q 24 [(0, .ref (ad 4)), (1, .ref (ad 1)), (2, .ref (ad 3)), (3, .int x3), (4, .int x4), (5, .int v4), (6, .int q.1)] [] (wC ad ck q.2)) (E := fun q => za_At p l e { frames := 1, cells := 0, slots := 0, locals := 22 } s m args below meth c D A 7 0 0 Q 65 [(0, .ref (ad 4)), (1, .ref (ad 1)), (2, .ref (ad 3)), (3, .int x3), (4, .int x4), (5, .int v4), (6, .int q.1)] [] (wC ad ck q.2)) ?_ ?_ _ _ hw15
      · intro q o hf hN hE
        obtain ⟨x6, M⟩ := q
        have hf : B_X0_lookAtStores_24 n x3 x4 v4 x6 M = some o := hf
        unfold B_X0_lookAtStores_24 at hf
        refine za_iload C 6 rfl dX0_lookAtStores_24 ?_
        refine za_iconst (v := (3 : Int32)) C (by decide) dX0_lookAtStores_26 ?_
        refine za_icmp_ge C 65 (by decide) dX0_lookAtStores_27 (fun q6 => ?_) (fun q6 => ?_)
        · have hf := z_pos q6 hf
          exact za_sub [0, 1, 2, 3, 4, 5, 6] rfl (hE _ (z_inj hf))
        · have hf := z_neg q6 hf
          refine za_aload_n C 0 rfl rfl dX0_lookAtStores_30 ?_
          refine za_dup C rfl dX0_lookAtStores_31 ?_
          refine zg_C4_8 C in_X0_lookAtStores_X0 fl_X0_lookAtStores_65 dX0_lookAtStores_32 ?_
          refine za_aload_n C 0 rfl rfl dX0_lookAtStores_35 ?_
          refine zg_C4_1 C in_X0_lookAtStores_X0 fl_X0_lookAtStores_15 dX0_lookAtStores_36 ?_
          refine za_iload C 5 rfl dX0_lookAtStores_39 ?_
          refine za_iconst (v := (4 : Int32)) C (by decide) dX0_lookAtStores_41 ?_
          refine za_imul C dX0_lookAtStores_42 ?_
          refine za_iload C 6 rfl dX0_lookAtStores_43 ?_
          refine za_iadd C dX0_lookAtStores_45 ?_
          obtain ⟨h7, hf⟩ := z_chk hf
          refine zl_C25 C h7 dX0_lookAtStores_46 ?_
          refine za_aload_n C 2 rfl rfl dX0_lookAtStores_47 ?_
          refine za_iload C 5 rfl dX0_lookAtStores_48 ?_
          refine za_iload_n C 3 rfl rfl dX0_lookAtStores_50 ?_
          obtain ⟨v9, hc8, hf⟩ := z_bind hf
          refine za_callV (n := 2) (rest := [.long (M.2 3 ((v4 * (4 : Int32)) + x6).toNatClampNeg), .long (M.2 1 0), .ref (ad 4)]) C (cX3_wide_ok l D ck ad v4 x3 M _ hc8) gX0_lookAtStores_X3_wide rfl rfl rfl (by decide +kernel) ⟨Nat.le_of_ble_eq_true rfl, Nat.le_of_ble_eq_true rfl⟩ 3 rfl rfl rfl rfl rfl (Nat.le_of_ble_eq_true rfl) ⟨Nat.zero_le _, Nat.zero_le _⟩ dX0_lookAtStores_51 ?_
          refine za_lxor C dX0_lookAtStores_54 ?_
          refine za_lor C dX0_lookAtStores_55 ?_
          obtain ⟨N10, eN10, hf⟩ := z_st hf
          refine zp_C4_8 C in_X0_lookAtStores_X0 fl_X0_lookAtStores_65 eN10 dX0_lookAtStores_56 ?_
          obtain ⟨v11, ev11, hf⟩ := z_lt hf
          refine za_iinc (k9 := (1 : Int32)) C [(6, .int v11), (0, .ref (ad 4)), (1, .ref (ad 1)), (2, .ref (ad 3)), (3, .int x3), (4, .int x4), (5, .int v4)] 6 rfl (by decide) ev11 (by decide) rfl dX0_lookAtStores_59 ?_
          refine za_goto C 24 (by decide) dX0_lookAtStores_62 ?_
          exact za_sub [1, 2, 3, 4, 5, 6, 0] rfl (hN _ (z_inj hf))
      · show za_At p l e { frames := 1, cells := 0, slots := 0, locals := 22 } s m args below meth c D A 7 0 0 Q 65 [(0, .ref (ad 4)), (1, .ref (ad 1)), (2, .ref (ad 3)), (3, .int x3), (4, .int x4), (5, .int v4), (6, .int v12)] [] (wC ad ck N13)
        obtain ⟨v14, ev14, hf⟩ := z_lt hf
        refine za_iinc (k9 := (1 : Int32)) C [(4, .int v14), (0, .ref (ad 4)), (1, .ref (ad 1)), (2, .ref (ad 3)), (3, .int x3), (5, .int v4), (6, .int v12)] 4 rfl (by decide) ev14 (by decide) rfl dX0_lookAtStores_65 ?_
        refine za_goto C 3 (by decide) dX0_lookAtStores_68 ?_
        exact za_sub [1, 2, 3, 4, 0] rfl (hN _ (z_inj hf))
  · show za_At p l e { frames := 1, cells := 0, slots := 0, locals := 22 } s m args below meth c D A 7 0 0 Q 71 [(0, .ref (ad 4)), (1, .ref (ad 1)), (2, .ref (ad 3)), (3, .int x3), (4, .int v16)] [] (wC ad ck N17)
    obtain rfl := z_ret1 hf
    exact za_vret C F dX0_lookAtStores_71
theorem in_X0_run_X0 : ∀ w ∈ wsX00, w ∈ wsX0_run := by decide +kernel
theorem fl_X0_run_61 : Cond.fieldLink RX0 61 "ThriceNets$Lanes" "seen" "J" ∈ wsX0_run := by decide +kernel
theorem fl_X0_run_65 : Cond.fieldLink RX0 65 "ThriceNets$Lanes" "lingers" "J" ∈ wsX0_run := by decide +kernel
theorem fl_X0_run_15 : Cond.fieldLink RX0 15 "ThriceNets$Lanes" "has" "[J" ∈ wsX0_run := by decide +kernel
theorem in_X0_run_X2 : ∀ w ∈ wsX20, w ∈ wsX0_run := by decide +kernel
theorem fl_X0_run_68 : Cond.fieldLink RX0 68 "ThriceNets$Net" "stores" "I" ∈ wsX0_run := by decide +kernel
theorem fl_X0_run_71 : Cond.fieldLink RX0 71 "ThriceNets$Net" "storeNode" "[I" ∈ wsX0_run := by decide +kernel
theorem fl_X0_run_78 : Cond.fieldLink RX0 78 "ThriceNets$Net" "size" "I" ∈ wsX0_run := by decide +kernel
theorem fl_X0_run_81 : Cond.fieldLink RX0 81 "ThriceNets$Net" "kind" "[I" ∈ wsX0_run := by decide +kernel
def B_X0_run_30 (n : Nat) (x3 : Int32) (x4 : Int32) (x5 : Int32) (M : zM) : Option ((Int32 × zM) ⊕ (Int32 × zM)) :=
  (if (M.1 4 0) ≤ x5 then (some (.inr (x5, M))) else (zchk x5 24 ((pX0_settle n (M.1 18 x5.toNatClampNeg) x4 M).bind (fun N11 => zlt (x5 + (1 : Int32)) (fun v12 => some (.inl (v12, N11)))))))
def K_X0_run_99 (n : Nat) (x3 : Int32) (x4 : Int32) (x5 : Int32) (M : zM) : Option ((Int32 × zM) ⊕ (Int32 × zM)) :=
  zlt (x5 + (1 : Int32)) (fun v16 => some (.inl (v16, M)))
def B_X0_run_61 (n : Nat) (x3 : Int32) (x4 : Int32) (x5 : Int32) (M : zM) : Option ((Int32 × zM) ⊕ (Int32 × zM)) :=
  (if (M.1 2 0) ≤ x5 then (some (.inr (x5, M))) else (zchk x5 24 ((if (M.1 10 x5.toNatClampNeg) = (5 : Int32) then (K_X0_run_99 n x3 x4 x5 M) else ((pX0_workOut n x5 x4 M).bind (fun N21 => (pX0_settle n x5 x4 N21).bind (fun N23 => K_X0_run_99 n x3 x4 x5 N23)))))))
def B_X0_run_21 (n : Nat) (x3 : Int32) (x4 : Int32) (M : zM) : Option ((Int32 × zM) ⊕ (Int32 × zM)) :=
  (if x3 ≤ x4 then (some (.inr (x4, M))) else (zlt (0 : Int32) (fun v7 => zb2 (zwl (fun q => B_X0_run_30 n x3 x4 q.1 q.2) n (v7, M)) (fun v13 N14 => zlt (0 : Int32) (fun v15 => zb2 (zwl (fun q => B_X0_run_61 n x3 x4 q.1 q.2) n (v15, N14)) (fun v24 N25 => (pX0_lookAtOutputs n x4 N25).bind (fun N27 => (pX0_feedStores n N27).bind (fun N29 => zlt (x4 + (1 : Int32)) (fun v30 => some (.inl (v30, N29)))))))))))
def pX0_run (n : Nat) (x3 : Int32) (M0 : zM) : Option (zM) :=
  zst (zsL M0 0 0 (0 : Int64)) (fun N1 => zst (zsL N1 1 0 (0 : Int64)) (fun N2 => (pJ7_fill_d0a16 n 96 3 (0 : Int64) N2).bind (fun N4 => zlt (0 : Int32) (fun v5 => zb2 (zwl (fun q => B_X0_run_21 n x3 q.1 q.2) n (v5, N4)) (fun v33 N34 => (pX0_lookAtStores n x3 N34).bind (fun N36 => some N36))))))
set_option maxHeartbeats 4000000 in
set_option maxRecDepth 100000 in
theorem cX0_run_ok (l : Launch) (D : va_G) (ck : Nat → ClassId) (ad : Nat → Nat) (n : Nat) (x3 : Int32) (M0 : zM) (M9 : zM) (hf : pX0_run n x3 M0 = some M9) : zc l D ck (wC ad ck) yX0_run wsX0_run ({ frames := 2, cells := 0, slots := 0, locals := 65 }) [.ref (ad 4), .ref (ad 1), .ref (ad 3), .int x3] M0 none M9 := by
  refine zc_of (cc := cX0_run) (maxL := 6) (ret := none) [(0, .ref (ad 4)), (1, .ref (ad 1)), (2, .ref (ad 3)), (3, .int x3)] (by decide) rfl (Nat.le_of_ble_eq_true rfl) rfl ?_
  intro p e s m args below meth c A Q C F
  unfold pX0_run at hf
  refine za_aload_n C 0 rfl rfl dX0_run_0 ?_
  refine za_lconst (v := (0 : Int64)) C (by decide) dX0_run_1 ?_
  obtain ⟨N1, eN1, hf⟩ := z_st hf
  refine zp_C4_7 C in_X0_run_X0 fl_X0_run_61 eN1 dX0_run_2 ?_
  refine za_aload_n C 0 rfl rfl dX0_run_5 ?_
  refine za_lconst (v := (0 : Int64)) C (by decide) dX0_run_6 ?_
  obtain ⟨N2, eN2, hf⟩ := z_st hf
  refine zp_C4_8 C in_X0_run_X0 fl_X0_run_65 eN2 dX0_run_7 ?_
  refine za_aload_n C 0 rfl rfl dX0_run_10 ?_
  refine zg_C4_1 C in_X0_run_X0 fl_X0_run_15 dX0_run_11 ?_
  refine za_lconst (v := (0 : Int64)) C (by decide) dX0_run_14 ?_
  obtain ⟨N4, hc3, hf⟩ := z_bind hf
  refine za_callS (n := 2) (rest := []) C (cJ7_fill_d0a16_ok l D ck (wC ad ck) (ka := 25) (fun M => rfl) (fun M i x => zw_C25 rfl) n (0 : Int64) N2 _ hc3) gX0_run_J7_fill_d0a16 rfl rfl rfl (by decide +kernel) ⟨Nat.le_of_ble_eq_true rfl, Nat.le_of_ble_eq_true rfl⟩ rfl rfl (Nat.le_of_ble_eq_true rfl) ⟨Nat.zero_le _, Nat.zero_le _⟩ dX0_run_15 ?_
  refine za_iconst (v := (0 : Int32)) C (by decide) dX0_run_18 ?_
  obtain ⟨v5, ev5, hf⟩ := z_lt hf
  refine za_istore C [(4, .int v5), (0, .ref (ad 4)), (1, .ref (ad 1)), (2, .ref (ad 3)), (3, .int x3)] ev5 (by decide) rfl dX0_run_19 ?_
  obtain ⟨v33, N34, hw37, hf⟩ := z_b2 hf
  refine za_sub [1, 2, 3, 4, 0] rfl ?_
  refine z_wl (P := fun q => za_At p l e { frames := 2, cells := 0, slots := 0, locals := 65 } s m args below meth c D A 6 0 0 Q 21 [(0, .ref (ad 4)), (1, .ref (ad 1)), (2, .ref (ad 3)), (3, .int x3), (4, .int q.1)] [] (wC ad ck q.2)) (E := fun q => za_At p l e { frames := 2, cells := 0, slots := 0, locals := 65 } s m args below meth c D A 6 0 0 Q 124 [(0, .ref (ad 4)), (1, .ref (ad 1)), (2, .ref (ad 3)), (3, .int x3), (4, .int q.1)] [] (wC ad ck q.2)) ?_ ?_ _ _ hw37
  · intro q o hf hN hE
    obtain ⟨x4, M⟩ := q
    have hf : B_X0_run_21 n x3 x4 M = some o := hf
    unfold B_X0_run_21 at hf
    refine za_iload C 4 rfl dX0_run_21 ?_
    refine za_iload_n C 3 rfl rfl dX0_run_23 ?_
    refine za_icmp_ge C 124 (by decide) dX0_run_24 (fun q6 => ?_) (fun q6 => ?_)
    · have hf := z_pos q6 hf
      exact za_sub [0, 1, 2, 3, 4] rfl (hE _ (z_inj hf))
    · have hf := z_neg q6 hf
      refine za_iconst (v := (0 : Int32)) C (by decide) dX0_run_27 ?_
      obtain ⟨v7, ev7, hf⟩ := z_lt hf
      refine za_istore C [(5, .int v7), (0, .ref (ad 4)), (1, .ref (ad 1)), (2, .ref (ad 3)), (3, .int x3), (4, .int x4)] ev7 (by decide) rfl dX0_run_28 ?_
      obtain ⟨v13, N14, hw32, hf⟩ := z_b2 hf
      refine za_sub [1, 2, 3, 4, 5, 0] rfl ?_
      refine z_wl (P := fun q => za_At p l e { frames := 2, cells := 0, slots := 0, locals := 65 } s m args below meth c D A 6 0 0 Q 30 [(0, .ref (ad 4)), (1, .ref (ad 1)), (2, .ref (ad 3)), (3, .int x3), (4, .int x4), (5, .int q.1)] [] (wC ad ck q.2)) (E := fun q => za_At p l e { frames := 2, cells := 0, slots := 0, locals := 65 } s m args below meth c D A 6 0 0 Q 58 [(0, .ref (ad 4)), (1, .ref (ad 1)), (2, .ref (ad 3)), (3, .int x3), (4, .int x4), (5, .int q.1)] [] (wC ad ck q.2)) ?_ ?_ _ _ hw32
      · intro q o hf hN hE
        obtain ⟨x5, M⟩ := q
        have hf : B_X0_run_30 n x3 x4 x5 M = some o := hf
        unfold B_X0_run_30 at hf
        refine za_iload C 5 rfl dX0_run_30 ?_
        refine za_aload_n C 1 rfl rfl dX0_run_32 ?_
        refine zg_C1_2 C in_X0_run_X2 fl_X0_run_68 dX0_run_33 ?_
        refine za_icmp_ge C 58 (by decide) dX0_run_36 (fun q8 => ?_) (fun q8 => ?_)
        · have hf := z_pos q8 hf
          exact za_sub [0, 1, 2, 3, 4, 5] rfl (hE _ (z_inj hf))
        · have hf := z_neg q8 hf
          refine za_aload_n C 0 rfl rfl dX0_run_39 ?_
          refine za_aload_n C 1 rfl rfl dX0_run_40 ?_
          refine zg_C1_11 C in_X0_run_X2 fl_X0_run_71 dX0_run_41 ?_
          refine za_iload C 5 rfl dX0_run_44 ?_
          obtain ⟨h9, hf⟩ := z_chk hf
          refine zl_C14 C h9 dX0_run_46 ?_
          refine za_iload C 4 rfl dX0_run_47 ?_
          obtain ⟨N11, hc10, hf⟩ := z_bind hf
          refine za_callV (n := 2) (rest := []) C (cX0_settle_ok l D ck ad n (M.1 18 x5.toNatClampNeg) x4 M _ hc10) gX0_run_X0_settle rfl rfl rfl (by decide +kernel) ⟨Nat.le_of_ble_eq_true rfl, Nat.le_of_ble_eq_true rfl⟩ 4 rfl rfl rfl rfl rfl (Nat.le_of_ble_eq_true rfl) ⟨Nat.zero_le _, Nat.zero_le _⟩ dX0_run_49 ?_
          obtain ⟨v12, ev12, hf⟩ := z_lt hf
          refine za_iinc (k9 := (1 : Int32)) C [(5, .int v12), (0, .ref (ad 4)), (1, .ref (ad 1)), (2, .ref (ad 3)), (3, .int x3), (4, .int x4)] 5 rfl (by decide) ev12 (by decide) rfl dX0_run_52 ?_
          refine za_goto C 30 (by decide) dX0_run_55 ?_
          exact za_sub [1, 2, 3, 4, 5, 0] rfl (hN _ (z_inj hf))
      · show za_At p l e { frames := 2, cells := 0, slots := 0, locals := 65 } s m args below meth c D A 6 0 0 Q 58 [(0, .ref (ad 4)), (1, .ref (ad 1)), (2, .ref (ad 3)), (3, .int x3), (4, .int x4), (5, .int v13)] [] (wC ad ck N14)
        refine za_iconst (v := (0 : Int32)) C (by decide) dX0_run_58 ?_
        obtain ⟨v15, ev15, hf⟩ := z_lt hf
        refine za_istore C [(5, .int v15), (0, .ref (ad 4)), (1, .ref (ad 1)), (2, .ref (ad 3)), (3, .int x3), (4, .int x4)] ev15 (by decide) rfl dX0_run_59 ?_
        obtain ⟨v24, N25, hw31, hf⟩ := z_b2 hf
        refine za_sub [1, 2, 3, 4, 5, 0] rfl ?_
        refine z_wl (P := fun q => za_At p l e { frames := 2, cells := 0, slots := 0, locals := 65 } s m args below meth c D A 6 0 0 Q 61 [(0, .ref (ad 4)), (1, .ref (ad 1)), (2, .ref (ad 3)), (3, .int x3), (4, .int x4), (5, .int q.1)] [] (wC ad ck q.2)) (E := fun q => za_At p l e { frames := 2, cells := 0, slots := 0, locals := 65 } s m args below meth c D A 6 0 0 Q 105 [(0, .ref (ad 4)), (1, .ref (ad 1)), (2, .ref (ad 3)), (3, .int x3), (4, .int x4), (5, .int q.1)] [] (wC ad ck q.2)) ?_ ?_ _ _ hw31
        · intro q o hf hN hE
          obtain ⟨x5, M⟩ := q
          have hf : B_X0_run_61 n x3 x4 x5 M = some o := hf
          unfold B_X0_run_61 at hf
          have j_99 : ∀ (x5 : Int32) (M : zM), K_X0_run_99 n x3 x4 x5 M = some o → za_At p l e { frames := 2, cells := 0, slots := 0, locals := 65 } s m args below meth c D A 6 0 0 Q 99 [(0, .ref (ad 4)), (1, .ref (ad 1)), (2, .ref (ad 3)), (3, .int x3), (4, .int x4), (5, .int x5)] [] (wC ad ck M) := by
            intro x5 M hf
            unfold K_X0_run_99 at hf
            obtain ⟨v16, ev16, hf⟩ := z_lt hf
            refine za_iinc (k9 := (1 : Int32)) C [(5, .int v16), (0, .ref (ad 4)), (1, .ref (ad 1)), (2, .ref (ad 3)), (3, .int x3), (4, .int x4)] 5 rfl (by decide) ev16 (by decide) rfl dX0_run_99 ?_
            refine za_goto C 61 (by decide) dX0_run_102 ?_
            exact za_sub [1, 2, 3, 4, 5, 0] rfl (hN _ (z_inj hf))
          refine za_iload C 5 rfl dX0_run_61 ?_
          refine za_aload_n C 1 rfl rfl dX0_run_63 ?_
          refine zg_C1_0 C in_X0_run_X2 fl_X0_run_78 dX0_run_64 ?_
          refine za_icmp_ge C 105 (by decide) dX0_run_67 (fun q17 => ?_) (fun q17 => ?_)
          · have hf := z_pos q17 hf
            exact za_sub [0, 1, 2, 3, 4, 5] rfl (hE _ (z_inj hf))
          · have hf := z_neg q17 hf
            refine za_aload_n C 1 rfl rfl dX0_run_70 ?_
            refine zg_C1_3 C in_X0_run_X2 fl_X0_run_81 dX0_run_71 ?_
            refine za_iload C 5 rfl dX0_run_74 ?_
            obtain ⟨h18, hf⟩ := z_chk hf
            refine zl_C6 C h18 dX0_run_76 ?_
            refine za_iconst (v := (5 : Int32)) C (by decide) dX0_run_77 ?_
            refine za_icmp_eq C 99 (by decide) dX0_run_78 (fun q19 => ?_) (fun q19 => ?_)
            · have hf := z_pos q19 hf
              exact za_sub [0, 1, 2, 3, 4, 5] rfl (j_99 x5 M hf)
            · have hf := z_neg q19 hf
              refine za_aload_n C 0 rfl rfl dX0_run_81 ?_
              refine za_aload_n C 1 rfl rfl dX0_run_82 ?_
              refine za_aload_n C 2 rfl rfl dX0_run_83 ?_
              refine za_iload C 5 rfl dX0_run_84 ?_
              refine za_iload C 4 rfl dX0_run_86 ?_
              obtain ⟨N21, hc20, hf⟩ := z_bind hf
              refine za_callV (n := 4) (rest := []) C (cX0_workOut_ok l D ck ad n x5 x4 M _ hc20) gX0_run_X0_workOut rfl rfl rfl (by decide +kernel) ⟨Nat.le_of_ble_eq_true rfl, Nat.le_of_ble_eq_true rfl⟩ 4 rfl rfl rfl rfl rfl (Nat.le_of_ble_eq_true rfl) ⟨Nat.zero_le _, Nat.zero_le _⟩ dX0_run_88 ?_
              refine za_aload_n C 0 rfl rfl dX0_run_91 ?_
              refine za_iload C 5 rfl dX0_run_92 ?_
              refine za_iload C 4 rfl dX0_run_94 ?_
              obtain ⟨N23, hc22, hf⟩ := z_bind hf
              refine za_callV (n := 2) (rest := []) C (cX0_settle_ok l D ck ad n x5 x4 N21 _ hc22) gX0_run_X0_settle rfl rfl rfl (by decide +kernel) ⟨Nat.le_of_ble_eq_true rfl, Nat.le_of_ble_eq_true rfl⟩ 4 rfl rfl rfl rfl rfl (Nat.le_of_ble_eq_true rfl) ⟨Nat.zero_le _, Nat.zero_le _⟩ dX0_run_96 ?_
              exact za_sub [0, 1, 2, 3, 4, 5] rfl (j_99 x5 N23 hf)
        · show za_At p l e { frames := 2, cells := 0, slots := 0, locals := 65 } s m args below meth c D A 6 0 0 Q 105 [(0, .ref (ad 4)), (1, .ref (ad 1)), (2, .ref (ad 3)), (3, .int x3), (4, .int x4), (5, .int v24)] [] (wC ad ck N25)
          refine za_aload_n C 0 rfl rfl dX0_run_105 ?_
          refine za_aload_n C 1 rfl rfl dX0_run_106 ?_
          refine za_aload_n C 2 rfl rfl dX0_run_107 ?_
          refine za_iload C 4 rfl dX0_run_108 ?_
          obtain ⟨N27, hc26, hf⟩ := z_bind hf
          refine za_callV (n := 3) (rest := []) C (cX0_lookAtOutputs_ok l D ck ad n x4 N25 _ hc26) gX0_run_X0_lookAtOutputs rfl rfl rfl (by decide +kernel) ⟨Nat.le_of_ble_eq_true rfl, Nat.le_of_ble_eq_true rfl⟩ 4 rfl rfl rfl rfl rfl (Nat.le_of_ble_eq_true rfl) ⟨Nat.zero_le _, Nat.zero_le _⟩ dX0_run_110 ?_
          refine za_aload_n C 0 rfl rfl dX0_run_113 ?_
          refine za_aload_n C 1 rfl rfl dX0_run_114 ?_
          obtain ⟨N29, hc28, hf⟩ := z_bind hf
          refine za_callV (n := 1) (rest := []) C (cX0_feedStores_ok l D ck ad n  N27 _ hc28) gX0_run_X0_feedStores rfl rfl rfl (by decide +kernel) ⟨Nat.le_of_ble_eq_true rfl, Nat.le_of_ble_eq_true rfl⟩ 4 rfl rfl rfl rfl rfl (Nat.le_of_ble_eq_true rfl) ⟨Nat.zero_le _, Nat.zero_le _⟩ dX0_run_115 ?_
          obtain ⟨v30, ev30, hf⟩ := z_lt hf
          refine za_iinc (k9 := (1 : Int32)) C [(4, .int v30), (0, .ref (ad 4)), (1, .ref (ad 1)), (2, .ref (ad 3)), (3, .int x3), (5, .int v24)] 4 rfl (by decide) ev30 (by decide) rfl dX0_run_118 ?_
          refine za_goto C 21 (by decide) dX0_run_121 ?_
          exact za_sub [1, 2, 3, 4, 0] rfl (hN _ (z_inj hf))
  · show za_At p l e { frames := 2, cells := 0, slots := 0, locals := 65 } s m args below meth c D A 6 0 0 Q 124 [(0, .ref (ad 4)), (1, .ref (ad 1)), (2, .ref (ad 3)), (3, .int x3), (4, .int v33)] [] (wC ad ck N34)
    refine za_aload_n C 0 rfl rfl dX0_run_124 ?_
    refine za_aload_n C 1 rfl rfl dX0_run_125 ?_
    refine za_aload_n C 2 rfl rfl dX0_run_126 ?_
    refine za_iload_n C 3 rfl rfl dX0_run_127 ?_
    obtain ⟨N36, hc35, hf⟩ := z_bind hf
    refine za_callV (n := 3) (rest := []) C (cX0_lookAtStores_ok l D ck ad n x3 N34 _ hc35) gX0_run_X0_lookAtStores rfl rfl rfl (by decide +kernel) ⟨Nat.le_of_ble_eq_true rfl, Nat.le_of_ble_eq_true rfl⟩ 4 rfl rfl rfl rfl rfl (Nat.le_of_ble_eq_true rfl) ⟨Nat.zero_le _, Nat.zero_le _⟩ dX0_run_128 ?_
    obtain rfl := z_ret1 hf
    exact za_vret C F dX0_run_131
theorem in_X0_verdict_X0 : ∀ w ∈ wsX00, w ∈ wsX0_verdict := by decide +kernel
theorem fl_X0_verdict_65 : Cond.fieldLink RX0 65 "ThriceNets$Lanes" "lingers" "J" ∈ wsX0_verdict := by decide +kernel
theorem fl_X0_verdict_61 : Cond.fieldLink RX0 61 "ThriceNets$Lanes" "seen" "J" ∈ wsX0_verdict := by decide +kernel
def K_X0_verdict_36 (x1 : Int32) (y0 : Int32) (y1 : Int32) (M0 : zM) : Option (Int32) :=
  some (y1 + y0)
def K_X0_verdict_18 (x1 : Int32) (y0 : Int32) (M0 : zM) : Option (Int32) :=
  (if (lg_cmp (((M0.2 1 0) >>> (Int32.toInt64 x1 &&& 63)) &&& (1 : Int64)) (0 : Int64)) = 0 then (K_X0_verdict_36 x1 (0 : Int32) y0 M0) else (K_X0_verdict_36 x1 (2 : Int32) y0 M0))
def pX0_verdict (x1 : Int32) (M0 : zM) : Option (Int32) :=
  (if (lg_cmp (((M0.2 0 0) >>> (Int32.toInt64 x1 &&& 63)) &&& (1 : Int64)) (0 : Int64)) = 0 then (K_X0_verdict_18 x1 (0 : Int32) M0) else (K_X0_verdict_18 x1 (1 : Int32) M0))
set_option maxHeartbeats 4000000 in
set_option maxRecDepth 100000 in
theorem cX0_verdict_ok (l : Launch) (D : va_G) (ck : Nat → ClassId) (ad : Nat → Nat) (x1 : Int32) (M0 : zM) (r9 : Int32) (hf : pX0_verdict x1 M0 = some r9) : zc l D ck (wC ad ck) yX0_verdict wsX0_verdict ({ frames := 0, cells := 0, slots := 0, locals := 0 }) [.ref (ad 4), .int x1] M0 (some (.int r9)) M0 := by
  refine zc_of (cc := cX0_verdict) (maxL := 2) (ret := (some .int)) [(0, .ref (ad 4)), (1, .int x1)] (by decide) rfl (Nat.le_of_ble_eq_true rfl) rfl ?_
  intro p e s m args below meth c A Q C F
  have j_36 : ∀ (x1 : Int32) (y0 : Int32) (y1 : Int32), K_X0_verdict_36 x1 y0 y1 M0 = some r9 → za_At p l e { frames := 0, cells := 0, slots := 0, locals := 0 } s m args below meth c D A 2 0 0 Q 36 [(0, .ref (ad 4)), (1, .int x1)] [.int y0, .int y1] (wC ad ck M0) := by
    intro x1 y0 y1 hf
    unfold K_X0_verdict_36 at hf
    refine za_iadd C dX0_verdict_36 ?_
    obtain rfl := z_ret1 hf
    exact za_iret C F dX0_verdict_37
  have j_18 : ∀ (x1 : Int32) (y0 : Int32), K_X0_verdict_18 x1 y0 M0 = some r9 → za_At p l e { frames := 0, cells := 0, slots := 0, locals := 0 } s m args below meth c D A 2 0 0 Q 18 [(0, .ref (ad 4)), (1, .int x1)] [.int y0] (wC ad ck M0) := by
    intro x1 y0 hf
    unfold K_X0_verdict_18 at hf
    refine za_aload_n C 0 rfl rfl dX0_verdict_18 ?_
    refine zg_C4_8 C in_X0_verdict_X0 fl_X0_verdict_65 dX0_verdict_19 ?_
    refine za_iload_n C 1 rfl rfl dX0_verdict_22 ?_
    refine za_lshr C dX0_verdict_23 ?_
    refine za_lconst (v := (1 : Int64)) C (by decide) dX0_verdict_24 ?_
    refine za_land C dX0_verdict_25 ?_
    refine za_lconst (v := (0 : Int64)) C (by decide) dX0_verdict_26 ?_
    refine za_lcmp C dX0_verdict_27 ?_
    refine za_if_eq C 35 (by decide) dX0_verdict_28 (fun q1 => ?_) (fun q1 => ?_)
    · have hf := z_pos q1 hf
      refine za_iconst (v := (0 : Int32)) C (by decide) dX0_verdict_35 ?_
      exact za_sub [0, 1] rfl (j_36 x1 (0 : Int32) y0 hf)
    · have hf := z_neg q1 hf
      refine za_iconst (v := (2 : Int32)) C (by decide) dX0_verdict_31 ?_
      refine za_goto C 36 (by decide) dX0_verdict_32 ?_
      exact za_sub [0, 1] rfl (j_36 x1 (2 : Int32) y0 hf)
  unfold pX0_verdict at hf
  refine za_aload_n C 0 rfl rfl dX0_verdict_0 ?_
  refine zg_C4_7 C in_X0_verdict_X0 fl_X0_verdict_61 dX0_verdict_1 ?_
  refine za_iload_n C 1 rfl rfl dX0_verdict_4 ?_
  refine za_lshr C dX0_verdict_5 ?_
  refine za_lconst (v := (1 : Int64)) C (by decide) dX0_verdict_6 ?_
  refine za_land C dX0_verdict_7 ?_
  refine za_lconst (v := (0 : Int64)) C (by decide) dX0_verdict_8 ?_
  refine za_lcmp C dX0_verdict_9 ?_
  refine za_if_eq C 17 (by decide) dX0_verdict_10 (fun q2 => ?_) (fun q2 => ?_)
  · have hf := z_pos q2 hf
    refine za_iconst (v := (0 : Int32)) C (by decide) dX0_verdict_17 ?_
    exact za_sub [0, 1] rfl (j_18 x1 (0 : Int32) hf)
  · have hf := z_neg q2 hf
    refine za_iconst (v := (1 : Int32)) C (by decide) dX0_verdict_13 ?_
    refine za_goto C 18 (by decide) dX0_verdict_14 ?_
    exact za_sub [0, 1] rfl (j_18 x1 (1 : Int32) hf)
theorem in_X0_runAll_X0 : ∀ w ∈ wsX00, w ∈ wsX0_runAll := by decide +kernel
theorem fl_X0_runAll_37 : Cond.fieldLink RX0 37 "ThriceNets$Lanes" "used" "I" ∈ wsX0_runAll := by decide +kernel
theorem fl_X0_runAll_25 : Cond.fieldLink RX0 25 "ThriceNets$Lanes" "found" "[I" ∈ wsX0_runAll := by decide +kernel
theorem fl_X0_runAll_41 : Cond.fieldLink RX0 41 "ThriceNets$Lanes" "firstSeen" "I" ∈ wsX0_runAll := by decide +kernel
theorem fl_X0_runAll_21 : Cond.fieldLink RX0 21 "ThriceNets$Lanes" "name" "[I" ∈ wsX0_runAll := by decide +kernel
theorem fl_X0_runAll_9 : Cond.fieldLink RX0 9 "ThriceNets$Lanes" "flipped" "[J" ∈ wsX0_runAll := by decide +kernel
def K_X0_runAll_64 (n : Nat) (x3 : Int32) (x4 : Int32) (x5 : Int32) (M : zM) : Option ((Int32 × zM) ⊕ (Int32 × zM)) :=
  zlt (x4 + (1 : Int32)) (fun v4 => some (.inl (v4, M)))
def B_X0_runAll_10 (n : Nat) (x3 : Int32) (x4 : Int32) (M : zM) : Option ((Int32 × zM) ⊕ (Int32 × zM)) :=
  (if (M.1 6 0) ≤ x4 then (some (.inr (x4, M))) else ((pX0_verdict x4 M).bind (fun v7 => zlt v7 (fun v8 => zchk v8 4 (zchk v8 4 (zst (zsI M 24 v8.toNatClampNeg ((M.1 24 v8.toNatClampNeg) + (1 : Int32))) (fun N11 => (if (N11.1 7 0) = (-1 : Int32) then (if (v8 &&& (1 : Int32)) = 0 then (K_X0_runAll_64 n x3 x4 v8 N11) else (zchk x4 64 (zst (zsI N11 7 0 (N11.1 23 x4.toNatClampNeg)) (fun N15 => K_X0_runAll_64 n x3 x4 v8 N15)))) else (K_X0_runAll_64 n x3 x4 v8 N11)))))))))
def pX0_runAll (n : Nat) (x3 : Int32) (M0 : zM) : Option (zM) :=
  (pX0_run n x3 M0).bind (fun N2 => zlt (0 : Int32) (fun v3 => zb2 (zwl (fun q => B_X0_runAll_10 n x3 q.1 q.2) n (v3, N2)) (fun v16 N17 => zst (zsI N17 6 0 (0 : Int32)) (fun N18 => (pJ7_fill_d0a16 n 1152 2 (0 : Int64) N18).bind (fun N20 => some N20)))))
set_option maxHeartbeats 4000000 in
set_option maxRecDepth 100000 in
theorem cX0_runAll_ok (l : Launch) (D : va_G) (ck : Nat → ClassId) (ad : Nat → Nat) (n : Nat) (x3 : Int32) (M0 : zM) (M9 : zM) (hf : pX0_runAll n x3 M0 = some M9) : zc l D ck (wC ad ck) yX0_runAll wsX0_runAll ({ frames := 3, cells := 0, slots := 0, locals := 90 }) [.ref (ad 4), .ref (ad 1), .ref (ad 3), .int x3] M0 none M9 := by
  refine zc_of (cc := cX0_runAll) (maxL := 6) (ret := none) [(0, .ref (ad 4)), (1, .ref (ad 1)), (2, .ref (ad 3)), (3, .int x3)] (by decide) rfl (Nat.le_of_ble_eq_true rfl) rfl ?_
  intro p e s m args below meth c A Q C F
  unfold pX0_runAll at hf
  refine za_aload_n C 0 rfl rfl dX0_runAll_0 ?_
  refine za_aload_n C 1 rfl rfl dX0_runAll_1 ?_
  refine za_aload_n C 2 rfl rfl dX0_runAll_2 ?_
  refine za_iload_n C 3 rfl rfl dX0_runAll_3 ?_
  obtain ⟨N2, hc1, hf⟩ := z_bind hf
  refine za_callV (n := 3) (rest := []) C (cX0_run_ok l D ck ad n x3 M0 _ hc1) gX0_runAll_X0_run rfl rfl rfl (by decide +kernel) ⟨Nat.le_of_ble_eq_true rfl, Nat.le_of_ble_eq_true rfl⟩ 4 rfl rfl rfl rfl rfl (Nat.le_of_ble_eq_true rfl) ⟨Nat.zero_le _, Nat.zero_le _⟩ dX0_runAll_4 ?_
  refine za_iconst (v := (0 : Int32)) C (by decide) dX0_runAll_7 ?_
  obtain ⟨v3, ev3, hf⟩ := z_lt hf
  refine za_istore C [(4, .int v3), (0, .ref (ad 4)), (1, .ref (ad 1)), (2, .ref (ad 3)), (3, .int x3)] ev3 (by decide) rfl dX0_runAll_8 ?_
  obtain ⟨v16, N17, hw21, hf⟩ := z_b2 hf
  refine za_sub [1, 2, 3, 4, 0] rfl ?_
  refine z_wl (P := fun q => za_At p l e { frames := 3, cells := 0, slots := 0, locals := 90 } s m args below meth c D A 6 0 0 Q 10 [(0, .ref (ad 4)), (1, .ref (ad 1)), (2, .ref (ad 3)), (3, .int x3), (4, .int q.1)] [] (wC ad ck q.2)) (E := fun q => za_At p l e { frames := 3, cells := 0, slots := 0, locals := 90 } s m args below meth c D A 6 0 0 Q 70 [(0, .ref (ad 4)), (1, .ref (ad 1)), (2, .ref (ad 3)), (3, .int x3), (4, .int q.1)] [] (wC ad ck q.2)) ?_ ?_ _ _ hw21
  · intro q o hf hN hE
    obtain ⟨x4, M⟩ := q
    have hf : B_X0_runAll_10 n x3 x4 M = some o := hf
    unfold B_X0_runAll_10 at hf
    have j_64 : ∀ (x4 : Int32) (x5 : Int32) (M : zM), K_X0_runAll_64 n x3 x4 x5 M = some o → za_At p l e { frames := 3, cells := 0, slots := 0, locals := 90 } s m args below meth c D A 6 0 0 Q 64 [(0, .ref (ad 4)), (1, .ref (ad 1)), (2, .ref (ad 3)), (3, .int x3), (4, .int x4), (5, .int x5)] [] (wC ad ck M) := by
      intro x4 x5 M hf
      unfold K_X0_runAll_64 at hf
      obtain ⟨v4, ev4, hf⟩ := z_lt hf
      refine za_iinc (k9 := (1 : Int32)) C [(4, .int v4), (0, .ref (ad 4)), (1, .ref (ad 1)), (2, .ref (ad 3)), (3, .int x3), (5, .int x5)] 4 rfl (by decide) ev4 (by decide) rfl dX0_runAll_64 ?_
      refine za_goto C 10 (by decide) dX0_runAll_67 ?_
      exact za_sub [1, 2, 3, 4, 0] rfl (hN _ (z_inj hf))
    refine za_iload C 4 rfl dX0_runAll_10 ?_
    refine za_aload_n C 0 rfl rfl dX0_runAll_12 ?_
    refine zg_C4_5 C in_X0_runAll_X0 fl_X0_runAll_37 dX0_runAll_13 ?_
    refine za_icmp_ge C 70 (by decide) dX0_runAll_16 (fun q5 => ?_) (fun q5 => ?_)
    · have hf := z_pos q5 hf
      exact za_sub [0, 1, 2, 3, 4] rfl (hE _ (z_inj hf))
    · have hf := z_neg q5 hf
      refine za_aload_n C 0 rfl rfl dX0_runAll_19 ?_
      refine za_iload C 4 rfl dX0_runAll_20 ?_
      obtain ⟨v7, hc6, hf⟩ := z_bind hf
      refine za_callV (n := 1) (rest := []) C (cX0_verdict_ok l D ck ad x4 M _ hc6) gX0_runAll_X0_verdict rfl rfl rfl (by decide +kernel) ⟨Nat.le_of_ble_eq_true rfl, Nat.le_of_ble_eq_true rfl⟩ 4 rfl rfl rfl rfl rfl (Nat.le_of_ble_eq_true rfl) ⟨Nat.zero_le _, Nat.zero_le _⟩ dX0_runAll_22 ?_
      obtain ⟨v8, ev8, hf⟩ := z_lt hf
      refine za_istore C [(5, .int v8), (0, .ref (ad 4)), (1, .ref (ad 1)), (2, .ref (ad 3)), (3, .int x3), (4, .int x4)] ev8 (by decide) rfl dX0_runAll_25 ?_
      refine za_aload_n C 1 rfl rfl dX0_runAll_27 ?_
      refine zg_C4_4 C in_X0_runAll_X0 fl_X0_runAll_25 dX0_runAll_28 ?_
      refine za_iload C 0 rfl dX0_runAll_31 ?_
      refine za_dup2 C rfl rfl dX0_runAll_33 ?_
      obtain ⟨h9, hf⟩ := z_chk hf
      refine zl_C28 C h9 dX0_runAll_34 ?_
      refine za_iconst (v := (1 : Int32)) C (by decide) dX0_runAll_35 ?_
      refine za_iadd C dX0_runAll_36 ?_
      obtain ⟨h10, hf⟩ := z_chk hf
      obtain ⟨N11, eN11, hf⟩ := z_st hf
      refine zs_C28 C h10 eN11 dX0_runAll_37 ?_
      refine za_aload_n C 1 rfl rfl dX0_runAll_38 ?_
      refine zg_C4_6 C in_X0_runAll_X0 fl_X0_runAll_41 dX0_runAll_39 ?_
      refine za_iconst (v := (-1 : Int32)) C (by decide) dX0_runAll_42 ?_
      refine za_icmp_ne C 64 (by decide) dX0_runAll_43 (fun q12 => ?_) (fun q12 => ?_)
      · have hf := z_neg q12 hf
        exact za_sub [1, 2, 3, 4, 5, 0] rfl (j_64 x4 v8 N11 hf)
      · have hf := z_pos q12 hf
        refine za_iload C 0 rfl dX0_runAll_46 ?_
        refine za_iconst (v := (1 : Int32)) C (by decide) dX0_runAll_48 ?_
        refine za_iand C dX0_runAll_49 ?_
        refine za_if_eq C 64 (by decide) dX0_runAll_50 (fun q13 => ?_) (fun q13 => ?_)
        · have hf := z_pos q13 hf
          exact za_sub [1, 2, 3, 4, 5, 0] rfl (j_64 x4 v8 N11 hf)
        · have hf := z_neg q13 hf
          refine za_aload_n C 1 rfl rfl dX0_runAll_53 ?_
          refine za_aload_n C 1 rfl rfl dX0_runAll_54 ?_
          refine zg_C4_3 C in_X0_runAll_X0 fl_X0_runAll_21 dX0_runAll_55 ?_
          refine za_iload C 5 rfl dX0_runAll_58 ?_
          obtain ⟨h14, hf⟩ := z_chk hf
          refine zl_C27 C h14 dX0_runAll_60 ?_
          obtain ⟨N15, eN15, hf⟩ := z_st hf
          refine zp_C4_6 C in_X0_runAll_X0 fl_X0_runAll_41 eN15 dX0_runAll_61 ?_
          exact za_sub [1, 2, 3, 4, 5, 0] rfl (j_64 x4 v8 N15 hf)
  · show za_At p l e { frames := 3, cells := 0, slots := 0, locals := 90 } s m args below meth c D A 6 0 0 Q 70 [(0, .ref (ad 4)), (1, .ref (ad 1)), (2, .ref (ad 3)), (3, .int x3), (4, .int v16)] [] (wC ad ck N17)
    refine za_aload_n C 0 rfl rfl dX0_runAll_70 ?_
    refine za_iconst (v := (0 : Int32)) C (by decide) dX0_runAll_71 ?_
    obtain ⟨N18, eN18, hf⟩ := z_st hf
    refine zp_C4_5 C in_X0_runAll_X0 fl_X0_runAll_37 eN18 dX0_runAll_72 ?_
    refine za_aload_n C 0 rfl rfl dX0_runAll_75 ?_
    refine zg_C4_0 C in_X0_runAll_X0 fl_X0_runAll_9 dX0_runAll_76 ?_
    refine za_lconst (v := (0 : Int64)) C (by decide) dX0_runAll_79 ?_
    obtain ⟨N20, hc19, hf⟩ := z_bind hf
    refine za_callS (n := 2) (rest := []) C (cJ7_fill_d0a16_ok l D ck (wC ad ck) (ka := 24) (fun M => rfl) (fun M i x => zw_C24 rfl) n (0 : Int64) N18 _ hc19) gX0_runAll_J7_fill_d0a16 rfl rfl rfl (by decide +kernel) ⟨Nat.le_of_ble_eq_true rfl, Nat.le_of_ble_eq_true rfl⟩ rfl rfl (Nat.le_of_ble_eq_true rfl) ⟨Nat.zero_le _, Nat.zero_le _⟩ dX0_runAll_80 ?_
    obtain rfl := z_ret1 hf
    exact za_vret C F dX0_runAll_83
theorem in_X0_close_X0 : ∀ w ∈ wsX00, w ∈ wsX0_close := by decide +kernel
theorem fl_X0_close_37 : Cond.fieldLink RX0 37 "ThriceNets$Lanes" "used" "I" ∈ wsX0_close := by decide +kernel
def pX0_close (n : Nat) (x3 : Int32) (M0 : zM) : Option (zM) :=
  zst (zsI M0 6 0 ((M0.1 6 0) + (1 : Int32))) (fun N1 => (if (N1.1 6 0) = (64 : Int32) then ((pX0_runAll n x3 N1).bind (fun N4 => some N4)) else (some N1)))
set_option maxHeartbeats 4000000 in
set_option maxRecDepth 100000 in
theorem cX0_close_ok (l : Launch) (D : va_G) (ck : Nat → ClassId) (ad : Nat → Nat) (n : Nat) (x3 : Int32) (M0 : zM) (M9 : zM) (hf : pX0_close n x3 M0 = some M9) : zc l D ck (wC ad ck) yX0_close wsX0_close ({ frames := 4, cells := 0, slots := 0, locals := 115 }) [.ref (ad 4), .ref (ad 1), .ref (ad 3), .int x3] M0 none M9 := by
  refine zc_of (cc := cX0_close) (maxL := 4) (ret := none) [(0, .ref (ad 4)), (1, .ref (ad 1)), (2, .ref (ad 3)), (3, .int x3)] (by decide) rfl (Nat.le_of_ble_eq_true rfl) rfl ?_
  intro p e s m args below meth c A Q C F
  unfold pX0_close at hf
  refine za_aload_n C 0 rfl rfl dX0_close_0 ?_
  refine za_dup C rfl dX0_close_1 ?_
  refine zg_C4_5 C in_X0_close_X0 fl_X0_close_37 dX0_close_2 ?_
  refine za_iconst (v := (1 : Int32)) C (by decide) dX0_close_5 ?_
  refine za_iadd C dX0_close_6 ?_
  obtain ⟨N1, eN1, hf⟩ := z_st hf
  refine zp_C4_5 C in_X0_close_X0 fl_X0_close_37 eN1 dX0_close_7 ?_
  refine za_aload_n C 0 rfl rfl dX0_close_10 ?_
  refine zg_C4_5 C in_X0_close_X0 fl_X0_close_37 dX0_close_11 ?_
  refine za_bipush (v := (64 : Int32)) C (by decide) dX0_close_14 ?_
  refine za_icmp_ne C 26 (by decide) dX0_close_16 (fun q2 => ?_) (fun q2 => ?_)
  · have hf := z_neg q2 hf
    obtain rfl := z_ret1 hf
    exact za_vret C F dX0_close_26
  · have hf := z_pos q2 hf
    refine za_aload_n C 0 rfl rfl dX0_close_19 ?_
    refine za_aload_n C 1 rfl rfl dX0_close_20 ?_
    refine za_aload_n C 2 rfl rfl dX0_close_21 ?_
    refine za_iload_n C 3 rfl rfl dX0_close_22 ?_
    obtain ⟨N4, hc3, hf⟩ := z_bind hf
    refine za_callV (n := 3) (rest := []) C (cX0_runAll_ok l D ck ad n x3 N1 _ hc3) gX0_close_X0_runAll rfl rfl rfl (by decide +kernel) ⟨Nat.le_of_ble_eq_true rfl, Nat.le_of_ble_eq_true rfl⟩ 4 rfl rfl rfl rfl rfl (Nat.le_of_ble_eq_true rfl) ⟨Nat.zero_le _, Nat.zero_le _⟩ dX0_close_23 ?_
    obtain rfl := z_ret1 hf
    exact za_vret C F dX0_close_26
def pX0_runOne (n : Nat) (x3 : Int32) (M0 : zM) : Option (Int32 × zM) :=
  (pX0_run n x3 M0).bind (fun N2 => (pX0_verdict (0 : Int32) N2).bind (fun v4 => some (v4, N2)))
set_option maxHeartbeats 4000000 in
set_option maxRecDepth 100000 in
theorem cX0_runOne_ok (l : Launch) (D : va_G) (ck : Nat → ClassId) (ad : Nat → Nat) (n : Nat) (x3 : Int32) (M0 : zM) (r9 : Int32) (M9 : zM) (hf : pX0_runOne n x3 M0 = some (r9, M9)) : zc l D ck (wC ad ck) yX0_runOne wsX0_runOne ({ frames := 3, cells := 0, slots := 0, locals := 90 }) [.ref (ad 4), .ref (ad 1), .ref (ad 3), .int x3] M0 (some (.int r9)) M9 := by
  refine zc_of (cc := cX0_runOne) (maxL := 4) (ret := (some .int)) [(0, .ref (ad 4)), (1, .ref (ad 1)), (2, .ref (ad 3)), (3, .int x3)] (by decide) rfl (Nat.le_of_ble_eq_true rfl) rfl ?_
  intro p e s m args below meth c A Q C F
  unfold pX0_runOne at hf
  refine za_aload_n C 0 rfl rfl dX0_runOne_0 ?_
  refine za_aload_n C 1 rfl rfl dX0_runOne_1 ?_
  refine za_aload_n C 2 rfl rfl dX0_runOne_2 ?_
  refine za_iload_n C 3 rfl rfl dX0_runOne_3 ?_
  obtain ⟨N2, hc1, hf⟩ := z_bind hf
  refine za_callV (n := 3) (rest := []) C (cX0_run_ok l D ck ad n x3 M0 _ hc1) gX0_runOne_X0_run rfl rfl rfl (by decide +kernel) ⟨Nat.le_of_ble_eq_true rfl, Nat.le_of_ble_eq_true rfl⟩ 4 rfl rfl rfl rfl rfl (Nat.le_of_ble_eq_true rfl) ⟨Nat.zero_le _, Nat.zero_le _⟩ dX0_runOne_4 ?_
  refine za_aload_n C 0 rfl rfl dX0_runOne_7 ?_
  refine za_iconst (v := (0 : Int32)) C (by decide) dX0_runOne_8 ?_
  obtain ⟨v4, hc3, hf⟩ := z_bind hf
  refine za_callV (n := 1) (rest := []) C (cX0_verdict_ok l D ck ad (0 : Int32) N2 _ hc3) gX0_runOne_X0_verdict rfl rfl rfl (by decide +kernel) ⟨Nat.le_of_ble_eq_true rfl, Nat.le_of_ble_eq_true rfl⟩ 4 rfl rfl rfl rfl rfl (Nat.le_of_ble_eq_true rfl) ⟨Nat.zero_le _, Nat.zero_le _⟩ dX0_runOne_9 ?_
  obtain ⟨rfl, rfl⟩ := z_ret2 hf
  exact za_iret C F dX0_runOne_12
theorem in_X0_allSeen_X0 : ∀ w ∈ wsX00, w ∈ wsX0_allSeen := by decide +kernel
theorem fl_X0_allSeen_25 : Cond.fieldLink RX0 25 "ThriceNets$Lanes" "found" "[I" ∈ wsX0_allSeen := by decide +kernel
def pX0_allSeen (M0 : zM) : Option (Int32) :=
  zchk (1 : Int32) 4 (zchk (3 : Int32) 4 (some ((M0.1 24 (1 : Int32).toNatClampNeg) + (M0.1 24 (3 : Int32).toNatClampNeg))))
set_option maxHeartbeats 4000000 in
set_option maxRecDepth 100000 in
theorem cX0_allSeen_ok (l : Launch) (D : va_G) (ck : Nat → ClassId) (ad : Nat → Nat) (M0 : zM) (r9 : Int32) (hf : pX0_allSeen M0 = some r9) : zc l D ck (wC ad ck) yX0_allSeen wsX0_allSeen ({ frames := 0, cells := 0, slots := 0, locals := 0 }) [.ref (ad 4)] M0 (some (.int r9)) M0 := by
  refine zc_of (cc := cX0_allSeen) (maxL := 1) (ret := (some .int)) [(0, .ref (ad 4))] (by decide) rfl (Nat.le_of_ble_eq_true rfl) rfl ?_
  intro p e s m args below meth c A Q C F
  unfold pX0_allSeen at hf
  refine za_aload_n C 0 rfl rfl dX0_allSeen_0 ?_
  refine zg_C4_4 C in_X0_allSeen_X0 fl_X0_allSeen_25 dX0_allSeen_1 ?_
  refine za_iconst (v := (1 : Int32)) C (by decide) dX0_allSeen_4 ?_
  obtain ⟨h1, hf⟩ := z_chk hf
  refine zl_C28 C h1 dX0_allSeen_5 ?_
  refine za_aload_n C 0 rfl rfl dX0_allSeen_6 ?_
  refine zg_C4_4 C in_X0_allSeen_X0 fl_X0_allSeen_25 dX0_allSeen_7 ?_
  refine za_iconst (v := (3 : Int32)) C (by decide) dX0_allSeen_10 ?_
  obtain ⟨h2, hf⟩ := z_chk hf
  refine zl_C28 C h2 dX0_allSeen_11 ?_
  refine za_iadd C dX0_allSeen_12 ?_
  obtain rfl := z_ret1 hf
  exact za_iret C F dX0_allSeen_13
theorem in_X1_trace_X1 : ∀ w ∈ wsX10, w ∈ wsX1_trace := by decide +kernel
theorem fl_X1_trace_9 : Cond.fieldLink RX1 9 "ThriceNets$Loops" "reachedBy" "[I" ∈ wsX1_trace := by decide +kernel
theorem in_X1_trace_X2 : ∀ w ∈ wsX20, w ∈ wsX1_trace := by decide +kernel
theorem fl_X1_trace_33 : Cond.fieldLink RX1 33 "ThriceNets$Net" "a" "[I" ∈ wsX1_trace := by decide +kernel
theorem fl_X1_trace_18 : Cond.fieldLink RX1 18 "ThriceNets$Net" "size" "I" ∈ wsX1_trace := by decide +kernel
theorem fl_X1_trace_24 : Cond.fieldLink RX1 24 "ThriceNets$Net" "kind" "[I" ∈ wsX1_trace := by decide +kernel
theorem fl_X1_trace_30 : Cond.fieldLink RX1 30 "ThriceNets$Net" "b" "[I" ∈ wsX1_trace := by decide +kernel
theorem fl_X1_trace_27 : Cond.fieldLink RX1 27 "ThriceNets$Net" "number" "[I" ∈ wsX1_trace := by decide +kernel
theorem fl_X1_trace_36 : Cond.fieldLink RX1 36 "ThriceNets$Net" "stores" "I" ∈ wsX1_trace := by decide +kernel
theorem fl_X1_trace_39 : Cond.fieldLink RX1 39 "ThriceNets$Loops" "stores" "I" ∈ wsX1_trace := by decide +kernel
theorem fl_X1_trace_15 : Cond.fieldLink RX1 15 "ThriceNets$Loops" "ledBy" "[I" ∈ wsX1_trace := by decide +kernel
theorem fl_X1_trace_40 : Cond.fieldLink RX1 40 "ThriceNets$Net" "storeNode" "[I" ∈ wsX1_trace := by decide +kernel
def K_X1_trace_101 (n : Nat) (x2 : Int32) (M : zM) : Option ((Int32 × zM) ⊕ (Int32 × zM)) :=
  zlt (x2 + (1 : Int32)) (fun v2 => some (.inl (v2, M)))
def K_X1_trace_81 (n : Nat) (x2 : Int32) (y0 : Int32) (M : zM) : Option ((Int32 × zM) ⊕ (Int32 × zM)) :=
  zlt y0 (fun v3 => zchk x2 24 (zchk (M.1 11 x2.toNatClampNeg) 24 (zchk x2 24 (zst (zsI M 25 x2.toNatClampNeg ((M.1 25 (M.1 11 x2.toNatClampNeg).toNatClampNeg) ||| v3)) (fun N7 => K_X1_trace_101 n x2 N7)))))
def B_X1_trace_2 (n : Nat) (x2 : Int32) (M : zM) : Option ((Int32 × zM) ⊕ (Int32 × zM)) :=
  (if (M.1 2 0) ≤ x2 then (some (.inr (x2, M))) else (zchk x2 24 ((if (M.1 10 x2.toNatClampNeg) = 0 then (zchk x2 24 (zst (zsI M 25 x2.toNatClampNeg (0 : Int32)) (fun N21 => K_X1_trace_101 n x2 N21))) else (zchk x2 24 ((if (M.1 10 x2.toNatClampNeg) = (5 : Int32) then (zchk x2 24 (zchk x2 24 (zst (zsI M 25 x2.toNatClampNeg ((1 : Int32) <<< ((M.1 13 x2.toNatClampNeg) &&& 31))) (fun N19 => K_X1_trace_101 n x2 N19)))) else (zchk x2 24 ((if (M.1 12 x2.toNatClampNeg) = (-1 : Int32) then (K_X1_trace_81 n x2 (0 : Int32) M) else (zchk x2 24 (zchk (M.1 12 x2.toNatClampNeg) 24 (K_X1_trace_81 n x2 (M.1 25 (M.1 12 x2.toNatClampNeg).toNatClampNeg) M)))))))))))))
def B_X1_trace_117 (n : Nat) (x2 : Int32) (M : zM) : Option ((Int32 × zM) ⊕ (Int32 × zM)) :=
  (if (M.1 8 0) ≤ x2 then (some (.inr (x2, M))) else (zchk x2 24 (zchk (M.1 18 x2.toNatClampNeg) 24 (zchk (M.1 11 (M.1 18 x2.toNatClampNeg).toNatClampNeg) 24 (zchk x2 24 (zst (zsI M 26 x2.toNatClampNeg (M.1 25 (M.1 11 (M.1 18 x2.toNatClampNeg).toNatClampNeg).toNatClampNeg)) (fun N31 => zlt (x2 + (1 : Int32)) (fun v32 => some (.inl (v32, N31))))))))))
def pX1_trace (n : Nat) (M0 : zM) : Option (zM) :=
  zlt (0 : Int32) (fun v1 => zb2 (zwl (fun q => B_X1_trace_2 n q.1 q.2) n (v1, M0)) (fun v22 N23 => zst (zsI N23 8 0 (N23.1 4 0)) (fun N24 => zlt (0 : Int32) (fun v25 => zb2 (zwl (fun q => B_X1_trace_117 n q.1 q.2) n (v25, N24)) (fun v33 N34 => some N34)))))
set_option maxHeartbeats 4000000 in
set_option maxRecDepth 100000 in
theorem cX1_trace_ok (l : Launch) (D : va_G) (ck : Nat → ClassId) (ad : Nat → Nat) (n : Nat) (M0 : zM) (M9 : zM) (hf : pX1_trace n M0 = some M9) : zc l D ck (wC ad ck) yX1_trace wsX1_trace ({ frames := 0, cells := 0, slots := 0, locals := 0 }) [.ref (ad 5), .ref (ad 1)] M0 none M9 := by
  refine zc_of (cc := cX1_trace) (maxL := 4) (ret := none) [(0, .ref (ad 5)), (1, .ref (ad 1))] (by decide) rfl (Nat.le_of_ble_eq_true rfl) rfl ?_
  intro p e s m args below meth c A Q C F
  unfold pX1_trace at hf
  refine za_iconst (v := (0 : Int32)) C (by decide) dX1_trace_0 ?_
  obtain ⟨v1, ev1, hf⟩ := z_lt hf
  refine za_istore_n C [(2, .int v1), (0, .ref (ad 5)), (1, .ref (ad 1))] ev1 (by decide) rfl rfl dX1_trace_1 ?_
  obtain ⟨v22, N23, hw36, hf⟩ := z_b2 hf
  refine za_sub [1, 2, 0] rfl ?_
  refine z_wl (P := fun q => za_At p l e { frames := 0, cells := 0, slots := 0, locals := 0 } s m args below meth c D A 4 0 0 Q 2 [(0, .ref (ad 5)), (1, .ref (ad 1)), (2, .int q.1)] [] (wC ad ck q.2)) (E := fun q => za_At p l e { frames := 0, cells := 0, slots := 0, locals := 0 } s m args below meth c D A 4 0 0 Q 107 [(0, .ref (ad 5)), (1, .ref (ad 1)), (2, .int q.1)] [] (wC ad ck q.2)) ?_ ?_ _ _ hw36
  · intro q o hf hN hE
    obtain ⟨x2, M⟩ := q
    have hf : B_X1_trace_2 n x2 M = some o := hf
    unfold B_X1_trace_2 at hf
    have j_101 : ∀ (x2 : Int32) (M : zM), K_X1_trace_101 n x2 M = some o → za_At p l e { frames := 0, cells := 0, slots := 0, locals := 0 } s m args below meth c D A 4 0 0 Q 101 [(0, .ref (ad 5)), (1, .ref (ad 1)), (2, .int x2)] [] (wC ad ck M) := by
      intro x2 M hf
      unfold K_X1_trace_101 at hf
      obtain ⟨v2, ev2, hf⟩ := z_lt hf
      refine za_iinc (k9 := (1 : Int32)) C [(2, .int v2), (0, .ref (ad 5)), (1, .ref (ad 1))] 2 rfl (by decide) ev2 (by decide) rfl dX1_trace_101 ?_
      refine za_goto C 2 (by decide) dX1_trace_104 ?_
      exact za_sub [1, 2, 0] rfl (hN _ (z_inj hf))
    have j_81 : ∀ (x2 : Int32) (y0 : Int32) (M : zM), K_X1_trace_81 n x2 y0 M = some o → za_At p l e { frames := 0, cells := 0, slots := 0, locals := 0 } s m args below meth c D A 4 0 0 Q 81 [(0, .ref (ad 5)), (1, .ref (ad 1)), (2, .int x2)] [.int y0] (wC ad ck M) := by
      intro x2 y0 M hf
      unfold K_X1_trace_81 at hf
      obtain ⟨v3, ev3, hf⟩ := z_lt hf
      refine za_istore_n C [(3, .int v3), (0, .ref (ad 5)), (1, .ref (ad 1)), (2, .int x2)] ev3 (by decide) rfl rfl dX1_trace_81 ?_
      refine za_aload_n C 1 rfl rfl dX1_trace_82 ?_
      refine zg_C5_0 C in_X1_trace_X1 fl_X1_trace_9 dX1_trace_83 ?_
      refine za_iload_n C 3 rfl rfl dX1_trace_86 ?_
      refine za_aload_n C 1 rfl rfl dX1_trace_87 ?_
      refine zg_C5_0 C in_X1_trace_X1 fl_X1_trace_9 dX1_trace_88 ?_
      refine za_aload_n C 2 rfl rfl dX1_trace_91 ?_
      refine zg_C1_4 C in_X1_trace_X2 fl_X1_trace_33 dX1_trace_92 ?_
      refine za_iload_n C 3 rfl rfl dX1_trace_95 ?_
      obtain ⟨h4, hf⟩ := z_chk hf
      refine zl_C7 C h4 dX1_trace_96 ?_
      obtain ⟨h5, hf⟩ := z_chk hf
      refine zl_C29 C h5 dX1_trace_97 ?_
      refine za_iload_n C 0 rfl rfl dX1_trace_98 ?_
      refine za_ior C dX1_trace_99 ?_
      obtain ⟨h6, hf⟩ := z_chk hf
      obtain ⟨N7, eN7, hf⟩ := z_st hf
      refine zs_C29 C h6 eN7 dX1_trace_100 ?_
      exact za_sub [1, 2, 3] rfl (j_101 x2 N7 hf)
    refine za_iload_n C 2 rfl rfl dX1_trace_2 ?_
    refine za_aload_n C 1 rfl rfl dX1_trace_3 ?_
    refine zg_C1_0 C in_X1_trace_X2 fl_X1_trace_18 dX1_trace_4 ?_
    refine za_icmp_ge C 107 (by decide) dX1_trace_7 (fun q8 => ?_) (fun q8 => ?_)
    · have hf := z_pos q8 hf
      exact za_sub [0, 1, 2] rfl (hE _ (z_inj hf))
    · have hf := z_neg q8 hf
      refine za_aload_n C 1 rfl rfl dX1_trace_10 ?_
      refine zg_C1_3 C in_X1_trace_X2 fl_X1_trace_24 dX1_trace_11 ?_
      refine za_iload_n C 2 rfl rfl dX1_trace_14 ?_
      obtain ⟨h9, hf⟩ := z_chk hf
      refine zl_C6 C h9 dX1_trace_15 ?_
      refine za_if_ne C 29 (by decide) dX1_trace_16 (fun q10 => ?_) (fun q10 => ?_)
      · have hf := z_neg q10 hf
        refine za_aload_n C 1 rfl rfl dX1_trace_29 ?_
        refine zg_C1_3 C in_X1_trace_X2 fl_X1_trace_24 dX1_trace_30 ?_
        refine za_iload_n C 2 rfl rfl dX1_trace_33 ?_
        obtain ⟨h11, hf⟩ := z_chk hf
        refine zl_C6 C h11 dX1_trace_34 ?_
        refine za_iconst (v := (5 : Int32)) C (by decide) dX1_trace_35 ?_
        refine za_icmp_ne C 56 (by decide) dX1_trace_36 (fun q12 => ?_) (fun q12 => ?_)
        · have hf := z_neg q12 hf
          refine za_aload_n C 1 rfl rfl dX1_trace_56 ?_
          refine zg_C1_5 C in_X1_trace_X2 fl_X1_trace_30 dX1_trace_57 ?_
          refine za_iload_n C 2 rfl rfl dX1_trace_60 ?_
          obtain ⟨h13, hf⟩ := z_chk hf
          refine zl_C8 C h13 dX1_trace_61 ?_
          refine za_iconst (v := (-1 : Int32)) C (by decide) dX1_trace_62 ?_
          refine za_icmp_ne C 70 (by decide) dX1_trace_63 (fun q14 => ?_) (fun q14 => ?_)
          · have hf := z_neg q14 hf
            refine za_aload_n C 0 rfl rfl dX1_trace_70 ?_
            refine zg_C5_0 C in_X1_trace_X1 fl_X1_trace_9 dX1_trace_71 ?_
            refine za_aload_n C 1 rfl rfl dX1_trace_74 ?_
            refine zg_C1_5 C in_X1_trace_X2 fl_X1_trace_30 dX1_trace_75 ?_
            refine za_iload_n C 2 rfl rfl dX1_trace_78 ?_
            obtain ⟨h15, hf⟩ := z_chk hf
            refine zl_C8 C h15 dX1_trace_79 ?_
            obtain ⟨h16, hf⟩ := z_chk hf
            refine zl_C29 C h16 dX1_trace_80 ?_
            exact za_sub [0, 1, 2] rfl (j_81 x2 (M.1 25 (M.1 12 x2.toNatClampNeg).toNatClampNeg) M hf)
          · have hf := z_pos q14 hf
            refine za_iconst (v := (0 : Int32)) C (by decide) dX1_trace_66 ?_
            refine za_goto C 81 (by decide) dX1_trace_67 ?_
            exact za_sub [0, 1, 2] rfl (j_81 x2 (0 : Int32) M hf)
        · have hf := z_pos q12 hf
          refine za_aload_n C 0 rfl rfl dX1_trace_39 ?_
          refine zg_C5_0 C in_X1_trace_X1 fl_X1_trace_9 dX1_trace_40 ?_
          refine za_iload_n C 2 rfl rfl dX1_trace_43 ?_
          refine za_iconst (v := (1 : Int32)) C (by decide) dX1_trace_44 ?_
          refine za_aload_n C 1 rfl rfl dX1_trace_45 ?_
          refine zg_C1_6 C in_X1_trace_X2 fl_X1_trace_27 dX1_trace_46 ?_
          refine za_iload_n C 2 rfl rfl dX1_trace_49 ?_
          obtain ⟨h17, hf⟩ := z_chk hf
          refine zl_C9 C h17 dX1_trace_50 ?_
          refine za_ishl C dX1_trace_51 ?_
          obtain ⟨h18, hf⟩ := z_chk hf
          obtain ⟨N19, eN19, hf⟩ := z_st hf
          refine zs_C29 C h18 eN19 dX1_trace_52 ?_
          refine za_goto C 101 (by decide) dX1_trace_53 ?_
          exact za_sub [0, 1, 2] rfl (j_101 x2 N19 hf)
      · have hf := z_pos q10 hf
        refine za_aload_n C 0 rfl rfl dX1_trace_19 ?_
        refine zg_C5_0 C in_X1_trace_X1 fl_X1_trace_9 dX1_trace_20 ?_
        refine za_iload_n C 2 rfl rfl dX1_trace_23 ?_
        refine za_iconst (v := (0 : Int32)) C (by decide) dX1_trace_24 ?_
        obtain ⟨h20, hf⟩ := z_chk hf
        obtain ⟨N21, eN21, hf⟩ := z_st hf
        refine zs_C29 C h20 eN21 dX1_trace_25 ?_
        refine za_goto C 101 (by decide) dX1_trace_26 ?_
        exact za_sub [0, 1, 2] rfl (j_101 x2 N21 hf)
  · show za_At p l e { frames := 0, cells := 0, slots := 0, locals := 0 } s m args below meth c D A 4 0 0 Q 107 [(0, .ref (ad 5)), (1, .ref (ad 1)), (2, .int v22)] [] (wC ad ck N23)
    refine za_aload_n C 0 rfl rfl dX1_trace_107 ?_
    refine za_aload_n C 1 rfl rfl dX1_trace_108 ?_
    refine zg_C1_2 C in_X1_trace_X2 fl_X1_trace_36 dX1_trace_109 ?_
    obtain ⟨N24, eN24, hf⟩ := z_st hf
    refine zp_C5_2 C in_X1_trace_X1 fl_X1_trace_39 eN24 dX1_trace_112 ?_
    refine za_iconst (v := (0 : Int32)) C (by decide) dX1_trace_115 ?_
    obtain ⟨v25, ev25, hf⟩ := z_lt hf
    refine za_istore_n C [(2, .int v25), (0, .ref (ad 5)), (1, .ref (ad 1))] ev25 (by decide) rfl rfl dX1_trace_116 ?_
    obtain ⟨v33, N34, hw35, hf⟩ := z_b2 hf
    refine za_sub [1, 2, 0] rfl ?_
    refine z_wl (P := fun q => za_At p l e { frames := 0, cells := 0, slots := 0, locals := 0 } s m args below meth c D A 4 0 0 Q 117 [(0, .ref (ad 5)), (1, .ref (ad 1)), (2, .int q.1)] [] (wC ad ck q.2)) (E := fun q => za_At p l e { frames := 0, cells := 0, slots := 0, locals := 0 } s m args below meth c D A 4 0 0 Q 153 [(0, .ref (ad 5)), (1, .ref (ad 1)), (2, .int q.1)] [] (wC ad ck q.2)) ?_ ?_ _ _ hw35
    · intro q o hf hN hE
      obtain ⟨x2, M⟩ := q
      have hf : B_X1_trace_117 n x2 M = some o := hf
      unfold B_X1_trace_117 at hf
      refine za_iload_n C 2 rfl rfl dX1_trace_117 ?_
      refine za_aload_n C 0 rfl rfl dX1_trace_118 ?_
      refine zg_C5_2 C in_X1_trace_X1 fl_X1_trace_39 dX1_trace_119 ?_
      refine za_icmp_ge C 153 (by decide) dX1_trace_122 (fun q26 => ?_) (fun q26 => ?_)
      · have hf := z_pos q26 hf
        exact za_sub [0, 1, 2] rfl (hE _ (z_inj hf))
      · have hf := z_neg q26 hf
        refine za_aload_n C 0 rfl rfl dX1_trace_125 ?_
        refine zg_C5_1 C in_X1_trace_X1 fl_X1_trace_15 dX1_trace_126 ?_
        refine za_iload_n C 2 rfl rfl dX1_trace_129 ?_
        refine za_aload_n C 0 rfl rfl dX1_trace_130 ?_
        refine zg_C5_0 C in_X1_trace_X1 fl_X1_trace_9 dX1_trace_131 ?_
        refine za_aload_n C 1 rfl rfl dX1_trace_134 ?_
        refine zg_C1_4 C in_X1_trace_X2 fl_X1_trace_33 dX1_trace_135 ?_
        refine za_aload_n C 1 rfl rfl dX1_trace_138 ?_
        refine zg_C1_11 C in_X1_trace_X2 fl_X1_trace_40 dX1_trace_139 ?_
        refine za_iload_n C 2 rfl rfl dX1_trace_142 ?_
        obtain ⟨h27, hf⟩ := z_chk hf
        refine zl_C14 C h27 dX1_trace_143 ?_
        obtain ⟨h28, hf⟩ := z_chk hf
        refine zl_C7 C h28 dX1_trace_144 ?_
        obtain ⟨h29, hf⟩ := z_chk hf
        refine zl_C29 C h29 dX1_trace_145 ?_
        obtain ⟨h30, hf⟩ := z_chk hf
        obtain ⟨N31, eN31, hf⟩ := z_st hf
        refine zs_C30 C h30 eN31 dX1_trace_146 ?_
        obtain ⟨v32, ev32, hf⟩ := z_lt hf
        refine za_iinc (k9 := (1 : Int32)) C [(2, .int v32), (0, .ref (ad 5)), (1, .ref (ad 1))] 2 rfl (by decide) ev32 (by decide) rfl dX1_trace_147 ?_
        refine za_goto C 117 (by decide) dX1_trace_150 ?_
        exact za_sub [1, 2, 0] rfl (hN _ (z_inj hf))
    · show za_At p l e { frames := 0, cells := 0, slots := 0, locals := 0 } s m args below meth c D A 4 0 0 Q 153 [(0, .ref (ad 5)), (1, .ref (ad 1)), (2, .int v33)] [] (wC ad ck N34)
      obtain rfl := z_ret1 hf
      exact za_vret C F dX1_trace_153
theorem in_X1_allBroken_X1 : ∀ w ∈ wsX10, w ∈ wsX1_allBroken := by decide +kernel
theorem fl_X1_allBroken_39 : Cond.fieldLink RX1 39 "ThriceNets$Loops" "stores" "I" ∈ wsX1_allBroken := by decide +kernel
theorem fl_X1_allBroken_15 : Cond.fieldLink RX1 15 "ThriceNets$Loops" "ledBy" "[I" ∈ wsX1_allBroken := by decide +kernel
def K_X1_allBroken_63 (n : Nat) (x1 : Int32) (x2 : Int32) (x3 : Int32) (v5 : Int32) (x5 : Int32) (M0 : zM) : Option ((Int32 × Int32) ⊕ (Int32 × Int32)) :=
  zlt (x5 + (1 : Int32)) (fun v7 => some (.inl (x2, v7)))
def B_X1_allBroken_33 (n : Nat) (x1 : Int32) (x2 : Int32) (x3 : Int32) (v5 : Int32) (x5 : Int32) (M0 : zM) : Option ((Int32 × Int32) ⊕ (Int32 × Int32)) :=
  (if (M0.1 8 0) ≤ x5 then (some (.inr (x2, x5))) else (zchk x5 24 ((if ((M0.1 26 x5.toNatClampNeg) &&& x2) = 0 then (zlt (x2 &&& (((1 : Int32) <<< (x5 &&& 31)) ^^^ (-1 : Int32))) (fun v11 => K_X1_allBroken_63 n x1 v11 x3 v5 x5 M0)) else (K_X1_allBroken_63 n x1 x2 x3 v5 x5 M0)))))
def B_X1_allBroken_15 (n : Nat) (x1 : Int32) (x2 : Int32) (x3 : Int32) (M0 : zM) : Option ((Int32 × Int32) ⊕ ((Int32 × Int32) ⊕ (Int32))) :=
  (if (M0.1 8 0) ≤ x3 then (some (.inr (.inl (x2, x3)))) else (if x2 = 0 then (some (.inr (.inl (x2, x3)))) else (zlt x2 (fun v5 => zlt (0 : Int32) (fun v6 => zb2 (zwl (fun q => B_X1_allBroken_33 n x1 q.1 x3 v5 q.2 M0) n (x2, v6)) (fun v12 v13 => (if v12 = v5 then (some (.inr (.inr (0 : Int32)))) else (zlt (x3 + (1 : Int32)) (fun v15 => some (.inl (v12, v15)))))))))))
def pX1_allBroken (n : Nat) (x1 : Int32) (M0 : zM) : Option (Int32) :=
  zlt ((((1 : Int32) <<< ((M0.1 8 0) &&& 31)) - (1 : Int32)) &&& (x1 ^^^ (-1 : Int32))) (fun v1 => zlt (0 : Int32) (fun v2 => (zwl (fun q => B_X1_allBroken_15 n x1 q.1 q.2 M0) n (v1, v2)).bind (fun q21 => Sum.elim (fun q => (if q.1 = 0 then (some (1 : Int32)) else (some (0 : Int32)))) (fun x => some x) q21)))
set_option maxHeartbeats 4000000 in
set_option maxRecDepth 100000 in
theorem cX1_allBroken_ok (l : Launch) (D : va_G) (ck : Nat → ClassId) (ad : Nat → Nat) (n : Nat) (x1 : Int32) (M0 : zM) (r9 : Int32) (hf : pX1_allBroken n x1 M0 = some r9) : zc l D ck (wC ad ck) yX1_allBroken wsX1_allBroken ({ frames := 0, cells := 0, slots := 0, locals := 0 }) [.ref (ad 5), .int x1] M0 (some (.int r9)) M0 := by
  refine zc_of (cc := cX1_allBroken) (maxL := 6) (ret := (some .boolean)) [(0, .ref (ad 5)), (1, .int x1)] (by decide) rfl (Nat.le_of_ble_eq_true rfl) rfl ?_
  intro p e s m args below meth c A Q C F
  unfold pX1_allBroken at hf
  refine za_iconst (v := (1 : Int32)) C (by decide) dX1_allBroken_0 ?_
  refine za_aload_n C 0 rfl rfl dX1_allBroken_1 ?_
  refine zg_C5_2 C in_X1_allBroken_X1 fl_X1_allBroken_39 dX1_allBroken_2 ?_
  refine za_ishl C dX1_allBroken_5 ?_
  refine za_iconst (v := (1 : Int32)) C (by decide) dX1_allBroken_6 ?_
  refine za_isub C dX1_allBroken_7 ?_
  refine za_iload_n C 1 rfl rfl dX1_allBroken_8 ?_
  refine za_iconst (v := (-1 : Int32)) C (by decide) dX1_allBroken_9 ?_
  refine za_ixor C dX1_allBroken_10 ?_
  refine za_iand C dX1_allBroken_11 ?_
  obtain ⟨v1, ev1, hf⟩ := z_lt hf
  refine za_istore_n C [(2, .int v1), (0, .ref (ad 5)), (1, .int x1)] ev1 (by decide) rfl rfl dX1_allBroken_12 ?_
  refine za_iconst (v := (0 : Int32)) C (by decide) dX1_allBroken_13 ?_
  obtain ⟨v2, ev2, hf⟩ := z_lt hf
  refine za_istore_n C [(3, .int v2), (2, .int v1), (0, .ref (ad 5)), (1, .int x1)] ev2 (by decide) rfl rfl dX1_allBroken_14 ?_
  obtain ⟨q21, hw20, hf⟩ := z_bind hf
  refine za_sub [2, 3, 1, 0] rfl ?_
  refine z_wl (P := fun q => za_At p l e { frames := 0, cells := 0, slots := 0, locals := 0 } s m args below meth c D A 6 0 0 Q 15 [(0, .ref (ad 5)), (1, .int x1), (2, .int q.1), (3, .int q.2)] [] (wC ad ck M0)) (E := fun q => Sum.elim (fun q => za_At p l e { frames := 0, cells := 0, slots := 0, locals := 0 } s m args below meth c D A 6 0 0 Q 83 [(0, .ref (ad 5)), (1, .int x1), (2, .int q.1), (3, .int q.2)] [] (wC ad ck M0)) (fun x => za_Fin s meth below args D ck (wC ad ck) A Q M0 (some .boolean) (some (.int x)) M0) q) ?_ ?_ _ _ hw20
  · intro q o hf hN hE
    obtain ⟨x2, x3⟩ := q
    have hf : B_X1_allBroken_15 n x1 x2 x3 M0 = some o := hf
    unfold B_X1_allBroken_15 at hf
    refine za_iload_n C 3 rfl rfl dX1_allBroken_15 ?_
    refine za_aload_n C 0 rfl rfl dX1_allBroken_16 ?_
    refine zg_C5_2 C in_X1_allBroken_X1 fl_X1_allBroken_39 dX1_allBroken_17 ?_
    refine za_icmp_ge C 83 (by decide) dX1_allBroken_20 (fun q3 => ?_) (fun q3 => ?_)
    · have hf := z_pos q3 hf
      exact za_sub [0, 1, 2, 3] rfl (hE _ (z_inj hf))
    · have hf := z_neg q3 hf
      refine za_iload_n C 2 rfl rfl dX1_allBroken_23 ?_
      refine za_if_eq C 83 (by decide) dX1_allBroken_24 (fun q4 => ?_) (fun q4 => ?_)
      · have hf := z_pos q4 hf
        exact za_sub [0, 1, 2, 3] rfl (hE _ (z_inj hf))
      · have hf := z_neg q4 hf
        refine za_iload_n C 2 rfl rfl dX1_allBroken_27 ?_
        obtain ⟨v5, ev5, hf⟩ := z_lt hf
        refine za_istore C [(4, .int v5), (0, .ref (ad 5)), (1, .int x1), (2, .int x2), (3, .int x3)] ev5 (by decide) rfl dX1_allBroken_28 ?_
        refine za_iconst (v := (0 : Int32)) C (by decide) dX1_allBroken_30 ?_
        obtain ⟨v6, ev6, hf⟩ := z_lt hf
        refine za_istore C [(5, .int v6), (4, .int v5), (0, .ref (ad 5)), (1, .int x1), (2, .int x2), (3, .int x3)] ev6 (by decide) rfl dX1_allBroken_31 ?_
        obtain ⟨v12, v13, hw16, hf⟩ := z_b2 hf
        refine za_sub [2, 3, 4, 5, 1, 0] rfl ?_
        refine z_wl (P := fun q => za_At p l e { frames := 0, cells := 0, slots := 0, locals := 0 } s m args below meth c D A 6 0 0 Q 33 [(0, .ref (ad 5)), (1, .int x1), (2, .int q.1), (3, .int x3), (4, .int v5), (5, .int q.2)] [] (wC ad ck M0)) (E := fun q => za_At p l e { frames := 0, cells := 0, slots := 0, locals := 0 } s m args below meth c D A 6 0 0 Q 69 [(0, .ref (ad 5)), (1, .int x1), (2, .int q.1), (3, .int x3), (4, .int v5), (5, .int q.2)] [] (wC ad ck M0)) ?_ ?_ _ _ hw16
        · intro q o hf hN hE
          obtain ⟨x2, x5⟩ := q
          have hf : B_X1_allBroken_33 n x1 x2 x3 v5 x5 M0 = some o := hf
          unfold B_X1_allBroken_33 at hf
          have j_63 : ∀ (x2 : Int32) (x5 : Int32), K_X1_allBroken_63 n x1 x2 x3 v5 x5 M0 = some o → za_At p l e { frames := 0, cells := 0, slots := 0, locals := 0 } s m args below meth c D A 6 0 0 Q 63 [(0, .ref (ad 5)), (1, .int x1), (2, .int x2), (3, .int x3), (4, .int v5), (5, .int x5)] [] (wC ad ck M0) := by
            intro x2 x5 hf
            unfold K_X1_allBroken_63 at hf
            obtain ⟨v7, ev7, hf⟩ := z_lt hf
            refine za_iinc (k9 := (1 : Int32)) C [(5, .int v7), (0, .ref (ad 5)), (1, .int x1), (2, .int x2), (3, .int x3), (4, .int v5)] 5 rfl (by decide) ev7 (by decide) rfl dX1_allBroken_63 ?_
            refine za_goto C 33 (by decide) dX1_allBroken_66 ?_
            exact za_sub [1, 2, 3, 4, 5, 0] rfl (hN _ (z_inj hf))
          refine za_iload C 5 rfl dX1_allBroken_33 ?_
          refine za_aload_n C 0 rfl rfl dX1_allBroken_35 ?_
          refine zg_C5_2 C in_X1_allBroken_X1 fl_X1_allBroken_39 dX1_allBroken_36 ?_
          refine za_icmp_ge C 69 (by decide) dX1_allBroken_39 (fun q8 => ?_) (fun q8 => ?_)
          · have hf := z_pos q8 hf
            exact za_sub [0, 1, 2, 3, 4, 5] rfl (hE _ (z_inj hf))
          · have hf := z_neg q8 hf
            refine za_aload_n C 0 rfl rfl dX1_allBroken_42 ?_
            refine zg_C5_1 C in_X1_allBroken_X1 fl_X1_allBroken_15 dX1_allBroken_43 ?_
            refine za_iload C 5 rfl dX1_allBroken_46 ?_
            obtain ⟨h9, hf⟩ := z_chk hf
            refine zl_C30 C h9 dX1_allBroken_48 ?_
            refine za_iload_n C 2 rfl rfl dX1_allBroken_49 ?_
            refine za_iand C dX1_allBroken_50 ?_
            refine za_if_ne C 63 (by decide) dX1_allBroken_51 (fun q10 => ?_) (fun q10 => ?_)
            · have hf := z_neg q10 hf
              exact za_sub [0, 1, 2, 3, 4, 5] rfl (j_63 x2 x5 hf)
            · have hf := z_pos q10 hf
              refine za_iload_n C 2 rfl rfl dX1_allBroken_54 ?_
              refine za_iconst (v := (1 : Int32)) C (by decide) dX1_allBroken_55 ?_
              refine za_iload C 5 rfl dX1_allBroken_56 ?_
              refine za_ishl C dX1_allBroken_58 ?_
              refine za_iconst (v := (-1 : Int32)) C (by decide) dX1_allBroken_59 ?_
              refine za_ixor C dX1_allBroken_60 ?_
              refine za_iand C dX1_allBroken_61 ?_
              obtain ⟨v11, ev11, hf⟩ := z_lt hf
              refine za_istore_n C [(2, .int v11), (0, .ref (ad 5)), (1, .int x1), (3, .int x3), (4, .int v5), (5, .int x5)] ev11 (by decide) rfl rfl dX1_allBroken_62 ?_
              exact za_sub [1, 2, 0, 3, 4, 5] rfl (j_63 v11 x5 hf)
        · show za_At p l e { frames := 0, cells := 0, slots := 0, locals := 0 } s m args below meth c D A 6 0 0 Q 69 [(0, .ref (ad 5)), (1, .int x1), (2, .int v12), (3, .int x3), (4, .int v5), (5, .int v13)] [] (wC ad ck M0)
          refine za_iload_n C 2 rfl rfl dX1_allBroken_69 ?_
          refine za_iload C 4 rfl dX1_allBroken_70 ?_
          refine za_icmp_ne C 77 (by decide) dX1_allBroken_72 (fun q14 => ?_) (fun q14 => ?_)
          · have hf := z_neg q14 hf
            obtain ⟨v15, ev15, hf⟩ := z_lt hf
            refine za_iinc (k9 := (1 : Int32)) C [(3, .int v15), (0, .ref (ad 5)), (1, .int x1), (2, .int v12), (4, .int v5), (5, .int v13)] 3 rfl (by decide) ev15 (by decide) rfl dX1_allBroken_77 ?_
            refine za_goto C 15 (by decide) dX1_allBroken_80 ?_
            exact za_sub [1, 2, 3, 0] rfl (hN _ (z_inj hf))
          · have hf := z_pos q14 hf
            refine za_iconst (v := (0 : Int32)) C (by decide) dX1_allBroken_75 ?_
            exact za_zret C (hE _ (z_inj hf)) rfl dX1_allBroken_76
  · cases q21 with
    | inl q =>
      obtain ⟨v17, v18⟩ := q
      have hf := z_inl hf
      try dsimp only at hf
      show za_At p l e { frames := 0, cells := 0, slots := 0, locals := 0 } s m args below meth c D A 6 0 0 Q 83 [(0, .ref (ad 5)), (1, .int x1), (2, .int v17), (3, .int v18)] [] (wC ad ck M0)
      refine za_iload_n C 2 rfl rfl dX1_allBroken_83 ?_
      refine za_if_ne C 91 (by decide) dX1_allBroken_84 (fun q19 => ?_) (fun q19 => ?_)
      · have hf := z_neg q19 hf
        refine za_iconst (v := (0 : Int32)) C (by decide) dX1_allBroken_91 ?_
        obtain rfl := z_ret1 hf
        exact za_zret C F rfl dX1_allBroken_92
      · have hf := z_pos q19 hf
        refine za_iconst (v := (1 : Int32)) C (by decide) dX1_allBroken_87 ?_
        refine za_goto C 92 (by decide) dX1_allBroken_88 ?_
        obtain rfl := z_ret1 hf
        exact za_zret C F rfl dX1_allBroken_92
    | inr x =>
      have hf := z_inr hf
      cases hf
      exact F
theorem in_X1_priceOf_X1 : ∀ w ∈ wsX10, w ∈ wsX1_priceOf := by decide +kernel
theorem fl_X1_priceOf_39 : Cond.fieldLink RX1 39 "ThriceNets$Loops" "stores" "I" ∈ wsX1_priceOf := by decide +kernel
theorem in_X1_priceOf_X2 : ∀ w ∈ wsX20, w ∈ wsX1_priceOf := by decide +kernel
theorem fl_X1_priceOf_57 : Cond.fieldLink RX1 57 "ThriceNets$Net" "price" "[I" ∈ wsX1_priceOf := by decide +kernel
theorem fl_X1_priceOf_40 : Cond.fieldLink RX1 40 "ThriceNets$Net" "storeNode" "[I" ∈ wsX1_priceOf := by decide +kernel
def K_X1_priceOf_39 (n : Nat) (x2 : Int32) (x3 : Int32) (x4 : Int32) (M0 : zM) : Option ((Int32 × Int32) ⊕ (Int32 × Int32)) :=
  zlt (x4 + (1 : Int32)) (fun v3 => some (.inl (x3, v3)))
def B_X1_priceOf_5 (n : Nat) (x2 : Int32) (x3 : Int32) (x4 : Int32) (M0 : zM) : Option ((Int32 × Int32) ⊕ (Int32 × Int32)) :=
  (if (M0.1 8 0) ≤ x4 then (some (.inr (x3, x4))) else (if ((x2 >>> (x4 &&& 31)) &&& (1 : Int32)) = (1 : Int32) then (zchk x4 24 (zchk (M0.1 18 x4.toNatClampNeg) 24 (zlt (x3 + (M0.1 14 (M0.1 18 x4.toNatClampNeg).toNatClampNeg)) (fun v8 => K_X1_priceOf_39 n x2 v8 x4 M0)))) else (K_X1_priceOf_39 n x2 x3 x4 M0)))
def pX1_priceOf (n : Nat) (x2 : Int32) (M0 : zM) : Option (Int32) :=
  zlt (0 : Int32) (fun v1 => zlt (0 : Int32) (fun v2 => zb2 (zwl (fun q => B_X1_priceOf_5 n x2 q.1 q.2 M0) n (v1, v2)) (fun v9 v10 => some v9)))
set_option maxHeartbeats 4000000 in
set_option maxRecDepth 100000 in
theorem cX1_priceOf_ok (l : Launch) (D : va_G) (ck : Nat → ClassId) (ad : Nat → Nat) (n : Nat) (x2 : Int32) (M0 : zM) (r9 : Int32) (hf : pX1_priceOf n x2 M0 = some r9) : zc l D ck (wC ad ck) yX1_priceOf wsX1_priceOf ({ frames := 0, cells := 0, slots := 0, locals := 0 }) [.ref (ad 5), .ref (ad 1), .int x2] M0 (some (.int r9)) M0 := by
  refine zc_of (cc := cX1_priceOf) (maxL := 5) (ret := (some .int)) [(0, .ref (ad 5)), (1, .ref (ad 1)), (2, .int x2)] (by decide) rfl (Nat.le_of_ble_eq_true rfl) rfl ?_
  intro p e s m args below meth c A Q C F
  unfold pX1_priceOf at hf
  refine za_iconst (v := (0 : Int32)) C (by decide) dX1_priceOf_0 ?_
  obtain ⟨v1, ev1, hf⟩ := z_lt hf
  refine za_istore_n C [(3, .int v1), (0, .ref (ad 5)), (1, .ref (ad 1)), (2, .int x2)] ev1 (by decide) rfl rfl dX1_priceOf_1 ?_
  refine za_iconst (v := (0 : Int32)) C (by decide) dX1_priceOf_2 ?_
  obtain ⟨v2, ev2, hf⟩ := z_lt hf
  refine za_istore C [(4, .int v2), (3, .int v1), (0, .ref (ad 5)), (1, .ref (ad 1)), (2, .int x2)] ev2 (by decide) rfl dX1_priceOf_3 ?_
  obtain ⟨v9, v10, hw11, hf⟩ := z_b2 hf
  refine za_sub [2, 3, 4, 1, 0] rfl ?_
  refine z_wl (P := fun q => za_At p l e { frames := 0, cells := 0, slots := 0, locals := 0 } s m args below meth c D A 5 0 0 Q 5 [(0, .ref (ad 5)), (1, .ref (ad 1)), (2, .int x2), (3, .int q.1), (4, .int q.2)] [] (wC ad ck M0)) (E := fun q => za_At p l e { frames := 0, cells := 0, slots := 0, locals := 0 } s m args below meth c D A 5 0 0 Q 45 [(0, .ref (ad 5)), (1, .ref (ad 1)), (2, .int x2), (3, .int q.1), (4, .int q.2)] [] (wC ad ck M0)) ?_ ?_ _ _ hw11
  · intro q o hf hN hE
    obtain ⟨x3, x4⟩ := q
    have hf : B_X1_priceOf_5 n x2 x3 x4 M0 = some o := hf
    unfold B_X1_priceOf_5 at hf
    have j_39 : ∀ (x3 : Int32) (x4 : Int32), K_X1_priceOf_39 n x2 x3 x4 M0 = some o → za_At p l e { frames := 0, cells := 0, slots := 0, locals := 0 } s m args below meth c D A 5 0 0 Q 39 [(0, .ref (ad 5)), (1, .ref (ad 1)), (2, .int x2), (3, .int x3), (4, .int x4)] [] (wC ad ck M0) := by
      intro x3 x4 hf
      unfold K_X1_priceOf_39 at hf
      obtain ⟨v3, ev3, hf⟩ := z_lt hf
      refine za_iinc (k9 := (1 : Int32)) C [(4, .int v3), (0, .ref (ad 5)), (1, .ref (ad 1)), (2, .int x2), (3, .int x3)] 4 rfl (by decide) ev3 (by decide) rfl dX1_priceOf_39 ?_
      refine za_goto C 5 (by decide) dX1_priceOf_42 ?_
      exact za_sub [1, 2, 3, 4, 0] rfl (hN _ (z_inj hf))
    refine za_iload C 4 rfl dX1_priceOf_5 ?_
    refine za_aload_n C 0 rfl rfl dX1_priceOf_7 ?_
    refine zg_C5_2 C in_X1_priceOf_X1 fl_X1_priceOf_39 dX1_priceOf_8 ?_
    refine za_icmp_ge C 45 (by decide) dX1_priceOf_11 (fun q4 => ?_) (fun q4 => ?_)
    · have hf := z_pos q4 hf
      exact za_sub [0, 1, 2, 3, 4] rfl (hE _ (z_inj hf))
    · have hf := z_neg q4 hf
      refine za_iload_n C 2 rfl rfl dX1_priceOf_14 ?_
      refine za_iload C 4 rfl dX1_priceOf_15 ?_
      refine za_ishr C dX1_priceOf_17 ?_
      refine za_iconst (v := (1 : Int32)) C (by decide) dX1_priceOf_18 ?_
      refine za_iand C dX1_priceOf_19 ?_
      refine za_iconst (v := (1 : Int32)) C (by decide) dX1_priceOf_20 ?_
      refine za_icmp_ne C 39 (by decide) dX1_priceOf_21 (fun q5 => ?_) (fun q5 => ?_)
      · have hf := z_neg q5 hf
        exact za_sub [0, 1, 2, 3, 4] rfl (j_39 x3 x4 hf)
      · have hf := z_pos q5 hf
        refine za_iload_n C 3 rfl rfl dX1_priceOf_24 ?_
        refine za_aload_n C 1 rfl rfl dX1_priceOf_25 ?_
        refine zg_C1_7 C in_X1_priceOf_X2 fl_X1_priceOf_57 dX1_priceOf_26 ?_
        refine za_aload_n C 1 rfl rfl dX1_priceOf_29 ?_
        refine zg_C1_11 C in_X1_priceOf_X2 fl_X1_priceOf_40 dX1_priceOf_30 ?_
        refine za_iload C 4 rfl dX1_priceOf_33 ?_
        obtain ⟨h6, hf⟩ := z_chk hf
        refine zl_C14 C h6 dX1_priceOf_35 ?_
        obtain ⟨h7, hf⟩ := z_chk hf
        refine zl_C10 C h7 dX1_priceOf_36 ?_
        refine za_iadd C dX1_priceOf_37 ?_
        obtain ⟨v8, ev8, hf⟩ := z_lt hf
        refine za_istore_n C [(3, .int v8), (0, .ref (ad 5)), (1, .ref (ad 1)), (2, .int x2), (4, .int x4)] ev8 (by decide) rfl rfl dX1_priceOf_38 ?_
        exact za_sub [1, 2, 3, 0, 4] rfl (j_39 v8 x4 hf)
  · show za_At p l e { frames := 0, cells := 0, slots := 0, locals := 0 } s m args below meth c D A 5 0 0 Q 45 [(0, .ref (ad 5)), (1, .ref (ad 1)), (2, .int x2), (3, .int v9), (4, .int v10)] [] (wC ad ck M0)
    refine za_iload_n C 3 rfl rfl dX1_priceOf_45 ?_
    obtain rfl := z_ret1 hf
    exact za_iret C F dX1_priceOf_46
theorem cn_J6_bitCount_0f7a4_265 : Jvm.Cond.constant RJ6 265 (1431655765) ∈ wsJ6_bitCount_0f7a4 := by decide +kernel
theorem cn_J6_bitCount_0f7a4_266 : Jvm.Cond.constant RJ6 266 (858993459) ∈ wsJ6_bitCount_0f7a4 := by decide +kernel
theorem cn_J6_bitCount_0f7a4_267 : Jvm.Cond.constant RJ6 267 (252645135) ∈ wsJ6_bitCount_0f7a4 := by decide +kernel
def pJ6_bitCount_0f7a4 (x0 : Int32) (M0 : zM) : Option (Int32) :=
  zlt (x0 - (((Int32.toUInt32 x0 >>> (Int32.toUInt32 (1 : Int32) &&& Int32.toUInt32 31)).toInt32) &&& (1431655765 : Int32))) (fun v1 => zlt ((v1 &&& (858993459 : Int32)) + (((Int32.toUInt32 v1 >>> (Int32.toUInt32 (2 : Int32) &&& Int32.toUInt32 31)).toInt32) &&& (858993459 : Int32))) (fun v2 => zlt ((v2 + ((Int32.toUInt32 v2 >>> (Int32.toUInt32 (4 : Int32) &&& Int32.toUInt32 31)).toInt32)) &&& (252645135 : Int32)) (fun v3 => zlt (v3 + ((Int32.toUInt32 v3 >>> (Int32.toUInt32 (8 : Int32) &&& Int32.toUInt32 31)).toInt32)) (fun v4 => zlt (v4 + ((Int32.toUInt32 v4 >>> (Int32.toUInt32 (16 : Int32) &&& Int32.toUInt32 31)).toInt32)) (fun v5 => some (v5 &&& (63 : Int32)))))))
set_option maxHeartbeats 4000000 in
set_option maxRecDepth 100000 in
theorem cJ6_bitCount_0f7a4_ok (l : Launch) (D : va_G) (ck : Nat → ClassId) (ad : Nat → Nat) (x0 : Int32) (M0 : zM) (r9 : Int32) (hf : pJ6_bitCount_0f7a4 x0 M0 = some r9) : zc l D ck (wC ad ck) yJ6_bitCount_0f7a4 wsJ6_bitCount_0f7a4 ({ frames := 0, cells := 0, slots := 0, locals := 0 }) [.int x0] M0 (some (.int r9)) M0 := by
  refine zc_of (cc := cJ6_bitCount_0f7a4) (maxL := 1) (ret := (some .int)) [(0, .int x0)] (by decide) rfl (Nat.le_of_ble_eq_true rfl) rfl ?_
  intro p e s m args below meth c A Q C F
  unfold pJ6_bitCount_0f7a4 at hf
  refine za_iload_n C 0 rfl rfl dJ6_bitCount_0f7a4_0 ?_
  refine za_iload_n C 0 rfl rfl dJ6_bitCount_0f7a4_1 ?_
  refine za_iconst (v := (1 : Int32)) C (by decide) dJ6_bitCount_0f7a4_2 ?_
  refine za_iushr C dJ6_bitCount_0f7a4_3 ?_
  refine za_ldcw (v := (1431655765 : Int32)) C cn_J6_bitCount_0f7a4_265 dJ6_bitCount_0f7a4_4 ?_
  refine za_iand C dJ6_bitCount_0f7a4_7 ?_
  refine za_isub C dJ6_bitCount_0f7a4_8 ?_
  obtain ⟨v1, ev1, hf⟩ := z_lt hf
  refine za_istore_n C [(0, .int v1)] ev1 (by decide) rfl rfl dJ6_bitCount_0f7a4_9 ?_
  refine za_iload_n C 0 rfl rfl dJ6_bitCount_0f7a4_10 ?_
  refine za_ldcw (v := (858993459 : Int32)) C cn_J6_bitCount_0f7a4_266 dJ6_bitCount_0f7a4_11 ?_
  refine za_iand C dJ6_bitCount_0f7a4_14 ?_
  refine za_iload_n C 0 rfl rfl dJ6_bitCount_0f7a4_15 ?_
  refine za_iconst (v := (2 : Int32)) C (by decide) dJ6_bitCount_0f7a4_16 ?_
  refine za_iushr C dJ6_bitCount_0f7a4_17 ?_
  refine za_ldcw (v := (858993459 : Int32)) C cn_J6_bitCount_0f7a4_266 dJ6_bitCount_0f7a4_18 ?_
  refine za_iand C dJ6_bitCount_0f7a4_21 ?_
  refine za_iadd C dJ6_bitCount_0f7a4_22 ?_
  obtain ⟨v2, ev2, hf⟩ := z_lt hf
  refine za_istore_n C [(0, .int v2)] ev2 (by decide) rfl rfl dJ6_bitCount_0f7a4_23 ?_
  refine za_iload_n C 0 rfl rfl dJ6_bitCount_0f7a4_24 ?_
  refine za_iload_n C 0 rfl rfl dJ6_bitCount_0f7a4_25 ?_
  refine za_iconst (v := (4 : Int32)) C (by decide) dJ6_bitCount_0f7a4_26 ?_
  refine za_iushr C dJ6_bitCount_0f7a4_27 ?_
  refine za_iadd C dJ6_bitCount_0f7a4_28 ?_
  refine za_ldcw (v := (252645135 : Int32)) C cn_J6_bitCount_0f7a4_267 dJ6_bitCount_0f7a4_29 ?_
  refine za_iand C dJ6_bitCount_0f7a4_32 ?_
  obtain ⟨v3, ev3, hf⟩ := z_lt hf
  refine za_istore_n C [(0, .int v3)] ev3 (by decide) rfl rfl dJ6_bitCount_0f7a4_33 ?_
  refine za_iload_n C 0 rfl rfl dJ6_bitCount_0f7a4_34 ?_
  refine za_iload_n C 0 rfl rfl dJ6_bitCount_0f7a4_35 ?_
  refine za_bipush (v := (8 : Int32)) C (by decide) dJ6_bitCount_0f7a4_36 ?_
  refine za_iushr C dJ6_bitCount_0f7a4_38 ?_
  refine za_iadd C dJ6_bitCount_0f7a4_39 ?_
  obtain ⟨v4, ev4, hf⟩ := z_lt hf
  refine za_istore_n C [(0, .int v4)] ev4 (by decide) rfl rfl dJ6_bitCount_0f7a4_40 ?_
  refine za_iload_n C 0 rfl rfl dJ6_bitCount_0f7a4_41 ?_
  refine za_iload_n C 0 rfl rfl dJ6_bitCount_0f7a4_42 ?_
  refine za_bipush (v := (16 : Int32)) C (by decide) dJ6_bitCount_0f7a4_43 ?_
  refine za_iushr C dJ6_bitCount_0f7a4_45 ?_
  refine za_iadd C dJ6_bitCount_0f7a4_46 ?_
  obtain ⟨v5, ev5, hf⟩ := z_lt hf
  refine za_istore_n C [(0, .int v5)] ev5 (by decide) rfl rfl dJ6_bitCount_0f7a4_47 ?_
  refine za_iload_n C 0 rfl rfl dJ6_bitCount_0f7a4_48 ?_
  refine za_bipush (v := (63 : Int32)) C (by decide) dJ6_bitCount_0f7a4_49 ?_
  refine za_iand C dJ6_bitCount_0f7a4_51 ?_
  obtain rfl := z_ret1 hf
  exact za_iret C F dJ6_bitCount_0f7a4_52
theorem in_X1_cheapest_X1 : ∀ w ∈ wsX10, w ∈ wsX1_cheapest := by decide +kernel
theorem fl_X1_cheapest_39 : Cond.fieldLink RX1 39 "ThriceNets$Loops" "stores" "I" ∈ wsX1_cheapest := by decide +kernel
def K_X1_cheapest_102 (n : Nat) (x2 : Int32) (x3 : Int32) (x4 : Int32) (x5 : Int32) (x6 : Int32) (x7 : Int32) (M0 : zM) : Option ((Int32 × Int32 × Int32) ⊕ (Int32 × Int32 × Int32)) :=
  zlt (x4 + (1 : Int32)) (fun v6 => some (.inl (x2, x3, v6)))
def K_X1_cheapest_80 (n : Nat) (x2 : Int32) (x3 : Int32) (x4 : Int32) (x5 : Int32) (x6 : Int32) (y0 : Int32) (M0 : zM) : Option ((Int32 × Int32 × Int32) ⊕ (Int32 × Int32 × Int32)) :=
  zlt y0 (fun v7 => (if v7 = 0 then (K_X1_cheapest_102 n x2 x3 x4 x5 x6 v7 M0) else ((pX1_allBroken n x4 M0).bind (fun v10 => (if v10 = 0 then (K_X1_cheapest_102 n x2 x3 x4 x5 x6 v7 M0) else (zlt x4 (fun v12 => zlt x5 (fun v13 => K_X1_cheapest_102 n v12 v13 x4 x5 x6 v7 M0))))))))
def K_X1_cheapest_79 (n : Nat) (x2 : Int32) (x3 : Int32) (x4 : Int32) (x5 : Int32) (x6 : Int32) (M0 : zM) : Option ((Int32 × Int32 × Int32) ⊕ (Int32 × Int32 × Int32)) :=
  K_X1_cheapest_80 n x2 x3 x4 x5 x6 (0 : Int32) M0
def K_X1_cheapest_75 (n : Nat) (x2 : Int32) (x3 : Int32) (x4 : Int32) (x5 : Int32) (x6 : Int32) (M0 : zM) : Option ((Int32 × Int32 × Int32) ⊕ (Int32 × Int32 × Int32)) :=
  K_X1_cheapest_80 n x2 x3 x4 x5 x6 (1 : Int32) M0
def K_X1_cheapest_56 (n : Nat) (x2 : Int32) (x3 : Int32) (x4 : Int32) (x5 : Int32) (y0 : Int32) (M0 : zM) : Option ((Int32 × Int32 × Int32) ⊕ (Int32 × Int32 × Int32)) :=
  zlt y0 (fun v14 => (if x5 < x3 then (K_X1_cheapest_75 n x2 x3 x4 x5 v14 M0) else (if x5 = x3 then (if v14 = 0 then (K_X1_cheapest_79 n x2 x3 x4 x5 v14 M0) else (K_X1_cheapest_75 n x2 x3 x4 x5 v14 M0)) else (K_X1_cheapest_79 n x2 x3 x4 x5 v14 M0))))
def B_X1_cheapest_19 (n : Nat) (x2 : Int32) (x3 : Int32) (x4 : Int32) (M0 : zM) : Option ((Int32 × Int32 × Int32) ⊕ (Int32 × Int32 × Int32)) :=
  (if ((1 : Int32) <<< ((M0.1 8 0) &&& 31)) ≤ x4 then (some (.inr (x2, x3, x4))) else ((pX1_priceOf n x4 M0).bind (fun v20 => zlt v20 (fun v21 => (pJ6_bitCount_0f7a4 x4 M0).bind (fun v23 => (pJ6_bitCount_0f7a4 x2 M0).bind (fun v25 => (if v25 ≤ v23 then (K_X1_cheapest_56 n x2 x3 x4 v21 (0 : Int32) M0) else (K_X1_cheapest_56 n x2 x3 x4 v21 (1 : Int32) M0))))))))
def pX1_cheapest (n : Nat) (M0 : zM) : Option (Int32) :=
  zlt (((1 : Int32) <<< ((M0.1 8 0) &&& 31)) - (1 : Int32)) (fun v1 => (pX1_priceOf n v1 M0).bind (fun v3 => zlt v3 (fun v4 => zlt (0 : Int32) (fun v5 => zb3 (zwl (fun q => B_X1_cheapest_19 n q.1 q.2.1 q.2.2 M0) n (v1, v4, v5)) (fun v27 v28 v29 => some v27)))))
set_option maxHeartbeats 4000000 in
set_option maxRecDepth 100000 in
theorem cX1_cheapest_ok (l : Launch) (D : va_G) (ck : Nat → ClassId) (ad : Nat → Nat) (n : Nat) (M0 : zM) (r9 : Int32) (hf : pX1_cheapest n M0 = some r9) : zc l D ck (wC ad ck) yX1_cheapest wsX1_cheapest ({ frames := 1, cells := 0, slots := 0, locals := 25 }) [.ref (ad 5), .ref (ad 1)] M0 (some (.int r9)) M0 := by
  refine zc_of (cc := cX1_cheapest) (maxL := 8) (ret := (some .int)) [(0, .ref (ad 5)), (1, .ref (ad 1))] (by decide) rfl (Nat.le_of_ble_eq_true rfl) rfl ?_
  intro p e s m args below meth c A Q C F
  unfold pX1_cheapest at hf
  refine za_iconst (v := (1 : Int32)) C (by decide) dX1_cheapest_0 ?_
  refine za_aload_n C 0 rfl rfl dX1_cheapest_1 ?_
  refine zg_C5_2 C in_X1_cheapest_X1 fl_X1_cheapest_39 dX1_cheapest_2 ?_
  refine za_ishl C dX1_cheapest_5 ?_
  refine za_iconst (v := (1 : Int32)) C (by decide) dX1_cheapest_6 ?_
  refine za_isub C dX1_cheapest_7 ?_
  obtain ⟨v1, ev1, hf⟩ := z_lt hf
  refine za_istore_n C [(2, .int v1), (0, .ref (ad 5)), (1, .ref (ad 1))] ev1 (by decide) rfl rfl dX1_cheapest_8 ?_
  refine za_aload_n C 1 rfl rfl dX1_cheapest_9 ?_
  refine za_aload_n C 2 rfl rfl dX1_cheapest_10 ?_
  refine za_iload_n C 0 rfl rfl dX1_cheapest_11 ?_
  obtain ⟨v3, hc2, hf⟩ := z_bind hf
  refine za_callV (n := 2) (rest := []) C (cX1_priceOf_ok l D ck ad n v1 M0 _ hc2) gX1_cheapest_X1_priceOf rfl rfl rfl (by decide +kernel) ⟨Nat.le_of_ble_eq_true rfl, Nat.le_of_ble_eq_true rfl⟩ 5 rfl rfl rfl rfl rfl (Nat.le_of_ble_eq_true rfl) ⟨Nat.zero_le _, Nat.zero_le _⟩ dX1_cheapest_12 ?_
  obtain ⟨v4, ev4, hf⟩ := z_lt hf
  refine za_istore_n C [(3, .int v4), (2, .int v1), (0, .ref (ad 5)), (1, .ref (ad 1))] ev4 (by decide) rfl rfl dX1_cheapest_15 ?_
  refine za_iconst (v := (0 : Int32)) C (by decide) dX1_cheapest_16 ?_
  obtain ⟨v5, ev5, hf⟩ := z_lt hf
  refine za_istore C [(4, .int v5), (3, .int v4), (2, .int v1), (0, .ref (ad 5)), (1, .ref (ad 1))] ev5 (by decide) rfl dX1_cheapest_17 ?_
  obtain ⟨v27, v28, v29, hw30, hf⟩ := z_b3 hf
  refine za_sub [3, 4, 2, 1, 0] rfl ?_
  refine z_wl (P := fun q => za_At p l e { frames := 1, cells := 0, slots := 0, locals := 25 } s m args below meth c D A 8 0 0 Q 19 [(0, .ref (ad 5)), (1, .ref (ad 1)), (2, .int q.1), (3, .int q.2.1), (4, .int q.2.2)] [] (wC ad ck M0)) (E := fun q => za_At p l e { frames := 1, cells := 0, slots := 0, locals := 25 } s m args below meth c D A 8 0 0 Q 108 [(0, .ref (ad 5)), (1, .ref (ad 1)), (2, .int q.1), (3, .int q.2.1), (4, .int q.2.2)] [] (wC ad ck M0)) ?_ ?_ _ _ hw30
  · intro q o hf hN hE
    obtain ⟨x2, x3, x4⟩ := q
    have hf : B_X1_cheapest_19 n x2 x3 x4 M0 = some o := hf
    unfold B_X1_cheapest_19 at hf
    have j_102 : ∀ (x2 : Int32) (x3 : Int32) (x4 : Int32) (x5 : Int32) (x6 : Int32) (x7 : Int32), K_X1_cheapest_102 n x2 x3 x4 x5 x6 x7 M0 = some o → za_At p l e { frames := 1, cells := 0, slots := 0, locals := 25 } s m args below meth c D A 8 0 0 Q 102 [(0, .ref (ad 5)), (1, .ref (ad 1)), (2, .int x2), (3, .int x3), (4, .int x4), (5, .int x5), (6, .int x6), (7, .int x7)] [] (wC ad ck M0) := by
      intro x2 x3 x4 x5 x6 x7 hf
      unfold K_X1_cheapest_102 at hf
      obtain ⟨v6, ev6, hf⟩ := z_lt hf
      refine za_iinc (k9 := (1 : Int32)) C [(4, .int v6), (0, .ref (ad 5)), (1, .ref (ad 1)), (2, .int x2), (3, .int x3), (5, .int x5), (6, .int x6), (7, .int x7)] 4 rfl (by decide) ev6 (by decide) rfl dX1_cheapest_102 ?_
      refine za_goto C 19 (by decide) dX1_cheapest_105 ?_
      exact za_sub [1, 2, 3, 4, 0] rfl (hN _ (z_inj hf))
    have j_80 : ∀ (x2 : Int32) (x3 : Int32) (x4 : Int32) (x5 : Int32) (x6 : Int32) (y0 : Int32), K_X1_cheapest_80 n x2 x3 x4 x5 x6 y0 M0 = some o → za_At p l e { frames := 1, cells := 0, slots := 0, locals := 25 } s m args below meth c D A 8 0 0 Q 80 [(0, .ref (ad 5)), (1, .ref (ad 1)), (2, .int x2), (3, .int x3), (4, .int x4), (5, .int x5), (6, .int x6)] [.int y0] (wC ad ck M0) := by
      intro x2 x3 x4 x5 x6 y0 hf
      unfold K_X1_cheapest_80 at hf
      obtain ⟨v7, ev7, hf⟩ := z_lt hf
      refine za_istore C [(7, .int v7), (0, .ref (ad 5)), (1, .ref (ad 1)), (2, .int x2), (3, .int x3), (4, .int x4), (5, .int x5), (6, .int x6)] ev7 (by decide) rfl dX1_cheapest_80 ?_
      refine za_iload C 0 rfl dX1_cheapest_82 ?_
      refine za_if_eq C 102 (by decide) dX1_cheapest_84 (fun q8 => ?_) (fun q8 => ?_)
      · have hf := z_pos q8 hf
        exact za_sub [1, 2, 3, 4, 5, 6, 7, 0] rfl (j_102 x2 x3 x4 x5 x6 v7 hf)
      · have hf := z_neg q8 hf
        refine za_aload_n C 1 rfl rfl dX1_cheapest_87 ?_
        refine za_iload C 5 rfl dX1_cheapest_88 ?_
        obtain ⟨v10, hc9, hf⟩ := z_bind hf
        refine za_callV (n := 1) (rest := []) C (cX1_allBroken_ok l D ck ad n x4 M0 _ hc9) gX1_cheapest_X1_allBroken rfl rfl rfl (by decide +kernel) ⟨Nat.le_of_ble_eq_true rfl, Nat.le_of_ble_eq_true rfl⟩ 5 rfl rfl rfl rfl rfl (Nat.le_of_ble_eq_true rfl) ⟨Nat.zero_le _, Nat.zero_le _⟩ dX1_cheapest_90 ?_
        refine za_if_eq C 102 (by decide) dX1_cheapest_93 (fun q11 => ?_) (fun q11 => ?_)
        · have hf := z_pos q11 hf
          exact za_sub [1, 2, 3, 4, 5, 6, 7, 0] rfl (j_102 x2 x3 x4 x5 x6 v7 hf)
        · have hf := z_neg q11 hf
          refine za_iload C 5 rfl dX1_cheapest_96 ?_
          obtain ⟨v12, ev12, hf⟩ := z_lt hf
          refine za_istore_n C [(2, .int v12), (7, .int v7), (0, .ref (ad 5)), (1, .ref (ad 1)), (3, .int x3), (4, .int x4), (5, .int x5), (6, .int x6)] ev12 (by decide) rfl rfl dX1_cheapest_98 ?_
          refine za_iload C 6 rfl dX1_cheapest_99 ?_
          obtain ⟨v13, ev13, hf⟩ := z_lt hf
          refine za_istore_n C [(3, .int v13), (2, .int v12), (7, .int v7), (0, .ref (ad 5)), (1, .ref (ad 1)), (4, .int x4), (5, .int x5), (6, .int x6)] ev13 (by decide) rfl rfl dX1_cheapest_101 ?_
          exact za_sub [3, 4, 1, 0, 5, 6, 7, 2] rfl (j_102 v12 v13 x4 x5 x6 v7 hf)
    have j_79 : ∀ (x2 : Int32) (x3 : Int32) (x4 : Int32) (x5 : Int32) (x6 : Int32), K_X1_cheapest_79 n x2 x3 x4 x5 x6 M0 = some o → za_At p l e { frames := 1, cells := 0, slots := 0, locals := 25 } s m args below meth c D A 8 0 0 Q 79 [(0, .ref (ad 5)), (1, .ref (ad 1)), (2, .int x2), (3, .int x3), (4, .int x4), (5, .int x5), (6, .int x6)] [] (wC ad ck M0) := by
      intro x2 x3 x4 x5 x6 hf
      unfold K_X1_cheapest_79 at hf
      refine za_iconst (v := (0 : Int32)) C (by decide) dX1_cheapest_79 ?_
      exact za_sub [0, 1, 2, 3, 4, 5, 6] rfl (j_80 x2 x3 x4 x5 x6 (0 : Int32) hf)
    have j_75 : ∀ (x2 : Int32) (x3 : Int32) (x4 : Int32) (x5 : Int32) (x6 : Int32), K_X1_cheapest_75 n x2 x3 x4 x5 x6 M0 = some o → za_At p l e { frames := 1, cells := 0, slots := 0, locals := 25 } s m args below meth c D A 8 0 0 Q 75 [(0, .ref (ad 5)), (1, .ref (ad 1)), (2, .int x2), (3, .int x3), (4, .int x4), (5, .int x5), (6, .int x6)] [] (wC ad ck M0) := by
      intro x2 x3 x4 x5 x6 hf
      unfold K_X1_cheapest_75 at hf
      refine za_iconst (v := (1 : Int32)) C (by decide) dX1_cheapest_75 ?_
      refine za_goto C 80 (by decide) dX1_cheapest_76 ?_
      exact za_sub [0, 1, 2, 3, 4, 5, 6] rfl (j_80 x2 x3 x4 x5 x6 (1 : Int32) hf)
    have j_56 : ∀ (x2 : Int32) (x3 : Int32) (x4 : Int32) (x5 : Int32) (y0 : Int32), K_X1_cheapest_56 n x2 x3 x4 x5 y0 M0 = some o → za_At p l e { frames := 1, cells := 0, slots := 0, locals := 25 } s m args below meth c D A 8 0 0 Q 56 [(0, .ref (ad 5)), (1, .ref (ad 1)), (2, .int x2), (3, .int x3), (4, .int x4), (5, .int x5)] [.int y0] (wC ad ck M0) := by
      intro x2 x3 x4 x5 y0 hf
      unfold K_X1_cheapest_56 at hf
      obtain ⟨v14, ev14, hf⟩ := z_lt hf
      refine za_istore C [(6, .int v14), (0, .ref (ad 5)), (1, .ref (ad 1)), (2, .int x2), (3, .int x3), (4, .int x4), (5, .int x5)] ev14 (by decide) rfl dX1_cheapest_56 ?_
      refine za_iload C 6 rfl dX1_cheapest_58 ?_
      refine za_iload_n C 4 rfl rfl dX1_cheapest_60 ?_
      refine za_icmp_lt C 75 (by decide) dX1_cheapest_61 (fun q15 => ?_) (fun q15 => ?_)
      · have hf := z_pos q15 hf
        exact za_sub [1, 2, 3, 4, 5, 6, 0] rfl (j_75 x2 x3 x4 x5 v14 hf)
      · have hf := z_neg q15 hf
        refine za_iload C 6 rfl dX1_cheapest_64 ?_
        refine za_iload_n C 4 rfl rfl dX1_cheapest_66 ?_
        refine za_icmp_ne C 79 (by decide) dX1_cheapest_67 (fun q16 => ?_) (fun q16 => ?_)
        · have hf := z_neg q16 hf
          exact za_sub [1, 2, 3, 4, 5, 6, 0] rfl (j_79 x2 x3 x4 x5 v14 hf)
        · have hf := z_pos q16 hf
          refine za_iload C 0 rfl dX1_cheapest_70 ?_
          refine za_if_eq C 79 (by decide) dX1_cheapest_72 (fun q17 => ?_) (fun q17 => ?_)
          · have hf := z_pos q17 hf
            exact za_sub [1, 2, 3, 4, 5, 6, 0] rfl (j_79 x2 x3 x4 x5 v14 hf)
          · have hf := z_neg q17 hf
            exact za_sub [1, 2, 3, 4, 5, 6, 0] rfl (j_75 x2 x3 x4 x5 v14 hf)
    refine za_iload C 4 rfl dX1_cheapest_19 ?_
    refine za_iconst (v := (1 : Int32)) C (by decide) dX1_cheapest_21 ?_
    refine za_aload_n C 0 rfl rfl dX1_cheapest_22 ?_
    refine zg_C5_2 C in_X1_cheapest_X1 fl_X1_cheapest_39 dX1_cheapest_23 ?_
    refine za_ishl C dX1_cheapest_26 ?_
    refine za_icmp_ge C 108 (by decide) dX1_cheapest_27 (fun q18 => ?_) (fun q18 => ?_)
    · have hf := z_pos q18 hf
      exact za_sub [0, 1, 2, 3, 4] rfl (hE _ (z_inj hf))
    · have hf := z_neg q18 hf
      refine za_aload_n C 0 rfl rfl dX1_cheapest_30 ?_
      refine za_aload_n C 1 rfl rfl dX1_cheapest_31 ?_
      refine za_iload C 4 rfl dX1_cheapest_32 ?_
      obtain ⟨v20, hc19, hf⟩ := z_bind hf
      refine za_callV (n := 2) (rest := []) C (cX1_priceOf_ok l D ck ad n x4 M0 _ hc19) gX1_cheapest_X1_priceOf rfl rfl rfl (by decide +kernel) ⟨Nat.le_of_ble_eq_true rfl, Nat.le_of_ble_eq_true rfl⟩ 5 rfl rfl rfl rfl rfl (Nat.le_of_ble_eq_true rfl) ⟨Nat.zero_le _, Nat.zero_le _⟩ dX1_cheapest_34 ?_
      obtain ⟨v21, ev21, hf⟩ := z_lt hf
      refine za_istore C [(5, .int v21), (0, .ref (ad 5)), (1, .ref (ad 1)), (2, .int x2), (3, .int x3), (4, .int x4)] ev21 (by decide) rfl dX1_cheapest_37 ?_
      refine za_iload C 5 rfl dX1_cheapest_39 ?_
      obtain ⟨v23, hc22, hf⟩ := z_bind hf
      refine za_callS (n := 1) (rest := []) C (cJ6_bitCount_0f7a4_ok l D ck ad x4 M0 _ hc22) gX1_cheapest_J6_bitCount_0f7a4 rfl rfl rfl (by decide +kernel) ⟨Nat.le_of_ble_eq_true rfl, Nat.le_of_ble_eq_true rfl⟩ rfl rfl (Nat.le_of_ble_eq_true rfl) ⟨Nat.zero_le _, Nat.zero_le _⟩ dX1_cheapest_41 ?_
      refine za_iload_n C 3 rfl rfl dX1_cheapest_44 ?_
      obtain ⟨v25, hc24, hf⟩ := z_bind hf
      refine za_callS (n := 1) (rest := [.int v23]) C (cJ6_bitCount_0f7a4_ok l D ck ad x2 M0 _ hc24) gX1_cheapest_J6_bitCount_0f7a4 rfl rfl rfl (by decide +kernel) ⟨Nat.le_of_ble_eq_true rfl, Nat.le_of_ble_eq_true rfl⟩ rfl rfl (Nat.le_of_ble_eq_true rfl) ⟨Nat.zero_le _, Nat.zero_le _⟩ dX1_cheapest_45 ?_
      refine za_icmp_ge C 55 (by decide) dX1_cheapest_48 (fun q26 => ?_) (fun q26 => ?_)
      · have hf := z_pos q26 hf
        refine za_iconst (v := (0 : Int32)) C (by decide) dX1_cheapest_55 ?_
        exact za_sub [1, 2, 3, 4, 5, 0] rfl (j_56 x2 x3 x4 v21 (0 : Int32) hf)
      · have hf := z_neg q26 hf
        refine za_iconst (v := (1 : Int32)) C (by decide) dX1_cheapest_51 ?_
        refine za_goto C 56 (by decide) dX1_cheapest_52 ?_
        exact za_sub [1, 2, 3, 4, 5, 0] rfl (j_56 x2 x3 x4 v21 (1 : Int32) hf)
  · show za_At p l e { frames := 1, cells := 0, slots := 0, locals := 25 } s m args below meth c D A 8 0 0 Q 108 [(0, .ref (ad 5)), (1, .ref (ad 1)), (2, .int v27), (3, .int v28), (4, .int v29)] [] (wC ad ck M0)
    refine za_iload_n C 2 rfl rfl dX1_cheapest_108 ?_
    obtain rfl := z_ret1 hf
    exact za_iret C F dX1_cheapest_109
theorem in_X2_isNode_X2 : ∀ w ∈ wsX20, w ∈ wsX2_isNode := by decide +kernel
theorem fl_X2_isNode_43 : Cond.fieldLink RX2 43 "ThriceNets$Net" "size" "I" ∈ wsX2_isNode := by decide +kernel
def K_X2_isNode_16 (x1 : Int32) (M0 : zM) : Option (Int32) :=
  some (0 : Int32)
def pX2_isNode (x1 : Int32) (M0 : zM) : Option (Int32) :=
  (if x1 < 0 then (K_X2_isNode_16 x1 M0) else (if (M0.1 2 0) ≤ x1 then (K_X2_isNode_16 x1 M0) else (some (1 : Int32))))
set_option maxHeartbeats 4000000 in
set_option maxRecDepth 100000 in
theorem cX2_isNode_ok (l : Launch) (D : va_G) (ck : Nat → ClassId) (ad : Nat → Nat) (x1 : Int32) (M0 : zM) (r9 : Int32) (hf : pX2_isNode x1 M0 = some r9) : zc l D ck (wC ad ck) yX2_isNode wsX2_isNode ({ frames := 0, cells := 0, slots := 0, locals := 0 }) [.ref (ad 1), .int x1] M0 (some (.int r9)) M0 := by
  refine zc_of (cc := cX2_isNode) (maxL := 2) (ret := (some .boolean)) [(0, .ref (ad 1)), (1, .int x1)] (by decide) rfl (Nat.le_of_ble_eq_true rfl) rfl ?_
  intro p e s m args below meth c A Q C F
  have j_16 : ∀ (x1 : Int32), K_X2_isNode_16 x1 M0 = some r9 → za_At p l e { frames := 0, cells := 0, slots := 0, locals := 0 } s m args below meth c D A 2 0 0 Q 16 [(0, .ref (ad 1)), (1, .int x1)] [] (wC ad ck M0) := by
    intro x1 hf
    unfold K_X2_isNode_16 at hf
    refine za_iconst (v := (0 : Int32)) C (by decide) dX2_isNode_16 ?_
    obtain rfl := z_ret1 hf
    exact za_zret C F rfl dX2_isNode_17
  unfold pX2_isNode at hf
  refine za_iload_n C 1 rfl rfl dX2_isNode_0 ?_
  refine za_if_lt C 16 (by decide) dX2_isNode_1 (fun q1 => ?_) (fun q1 => ?_)
  · have hf := z_pos q1 hf
    exact za_sub [0, 1] rfl (j_16 x1 hf)
  · have hf := z_neg q1 hf
    refine za_iload_n C 1 rfl rfl dX2_isNode_4 ?_
    refine za_aload_n C 0 rfl rfl dX2_isNode_5 ?_
    refine zg_C1_0 C in_X2_isNode_X2 fl_X2_isNode_43 dX2_isNode_6 ?_
    refine za_icmp_ge C 16 (by decide) dX2_isNode_9 (fun q2 => ?_) (fun q2 => ?_)
    · have hf := z_pos q2 hf
      exact za_sub [0, 1] rfl (j_16 x1 hf)
    · have hf := z_neg q2 hf
      refine za_iconst (v := (1 : Int32)) C (by decide) dX2_isNode_12 ?_
      refine za_goto C 17 (by decide) dX2_isNode_13 ?_
      obtain rfl := z_ret1 hf
      exact za_zret C F rfl dX2_isNode_17
theorem in_X2_isStore_X2 : ∀ w ∈ wsX20, w ∈ wsX2_isStore := by decide +kernel
theorem fl_X2_isStore_9 : Cond.fieldLink RX2 9 "ThriceNets$Net" "kind" "[I" ∈ wsX2_isStore := by decide +kernel
def K_X2_isStore_22 (x1 : Int32) (M0 : zM) : Option (Int32) :=
  some (0 : Int32)
def pX2_isStore (x1 : Int32) (M0 : zM) : Option (Int32) :=
  (pX2_isNode x1 M0).bind (fun v2 => (if v2 = 0 then (K_X2_isStore_22 x1 M0) else (zchk x1 24 ((if (M0.1 10 x1.toNatClampNeg) = (5 : Int32) then (some (1 : Int32)) else (K_X2_isStore_22 x1 M0))))))
set_option maxHeartbeats 4000000 in
set_option maxRecDepth 100000 in
theorem cX2_isStore_ok (l : Launch) (D : va_G) (ck : Nat → ClassId) (ad : Nat → Nat) (x1 : Int32) (M0 : zM) (r9 : Int32) (hf : pX2_isStore x1 M0 = some r9) : zc l D ck (wC ad ck) yX2_isStore wsX2_isStore ({ frames := 1, cells := 0, slots := 0, locals := 21 }) [.ref (ad 1), .int x1] M0 (some (.int r9)) M0 := by
  refine zc_of (cc := cX2_isStore) (maxL := 2) (ret := (some .boolean)) [(0, .ref (ad 1)), (1, .int x1)] (by decide) rfl (Nat.le_of_ble_eq_true rfl) rfl ?_
  intro p e s m args below meth c A Q C F
  have j_22 : ∀ (x1 : Int32), K_X2_isStore_22 x1 M0 = some r9 → za_At p l e { frames := 1, cells := 0, slots := 0, locals := 21 } s m args below meth c D A 2 0 0 Q 22 [(0, .ref (ad 1)), (1, .int x1)] [] (wC ad ck M0) := by
    intro x1 hf
    unfold K_X2_isStore_22 at hf
    refine za_iconst (v := (0 : Int32)) C (by decide) dX2_isStore_22 ?_
    obtain rfl := z_ret1 hf
    exact za_zret C F rfl dX2_isStore_23
  unfold pX2_isStore at hf
  refine za_aload_n C 0 rfl rfl dX2_isStore_0 ?_
  refine za_iload_n C 1 rfl rfl dX2_isStore_1 ?_
  obtain ⟨v2, hc1, hf⟩ := z_bind hf
  refine za_callV (n := 1) (rest := []) C (cX2_isNode_ok l D ck ad x1 M0 _ hc1) gX2_isStore_X2_isNode rfl rfl rfl (by decide +kernel) ⟨Nat.le_of_ble_eq_true rfl, Nat.le_of_ble_eq_true rfl⟩ 1 rfl rfl rfl rfl rfl (Nat.le_of_ble_eq_true rfl) ⟨Nat.zero_le _, Nat.zero_le _⟩ dX2_isStore_2 ?_
  refine za_if_eq C 22 (by decide) dX2_isStore_5 (fun q3 => ?_) (fun q3 => ?_)
  · have hf := z_pos q3 hf
    exact za_sub [0, 1] rfl (j_22 x1 hf)
  · have hf := z_neg q3 hf
    refine za_aload_n C 0 rfl rfl dX2_isStore_8 ?_
    refine zg_C1_3 C in_X2_isStore_X2 fl_X2_isStore_9 dX2_isStore_9 ?_
    refine za_iload_n C 1 rfl rfl dX2_isStore_12 ?_
    obtain ⟨h4, hf⟩ := z_chk hf
    refine zl_C6 C h4 dX2_isStore_13 ?_
    refine za_iconst (v := (5 : Int32)) C (by decide) dX2_isStore_14 ?_
    refine za_icmp_ne C 22 (by decide) dX2_isStore_15 (fun q5 => ?_) (fun q5 => ?_)
    · have hf := z_neg q5 hf
      exact za_sub [0, 1] rfl (j_22 x1 hf)
    · have hf := z_pos q5 hf
      refine za_iconst (v := (1 : Int32)) C (by decide) dX2_isStore_18 ?_
      refine za_goto C 23 (by decide) dX2_isStore_19 ?_
      obtain rfl := z_ret1 hf
      exact za_zret C F rfl dX2_isStore_23
theorem in_X2_isStoreNumber_X2 : ∀ w ∈ wsX20, w ∈ wsX2_isStoreNumber := by decide +kernel
theorem fl_X2_isStoreNumber_51 : Cond.fieldLink RX2 51 "ThriceNets$Net" "stores" "I" ∈ wsX2_isStoreNumber := by decide +kernel
def K_X2_isStoreNumber_16 (x1 : Int32) (M0 : zM) : Option (Int32) :=
  some (0 : Int32)
def pX2_isStoreNumber (x1 : Int32) (M0 : zM) : Option (Int32) :=
  (if x1 < 0 then (K_X2_isStoreNumber_16 x1 M0) else (if (M0.1 4 0) ≤ x1 then (K_X2_isStoreNumber_16 x1 M0) else (some (1 : Int32))))
set_option maxHeartbeats 4000000 in
set_option maxRecDepth 100000 in
theorem cX2_isStoreNumber_ok (l : Launch) (D : va_G) (ck : Nat → ClassId) (ad : Nat → Nat) (x1 : Int32) (M0 : zM) (r9 : Int32) (hf : pX2_isStoreNumber x1 M0 = some r9) : zc l D ck (wC ad ck) yX2_isStoreNumber wsX2_isStoreNumber ({ frames := 0, cells := 0, slots := 0, locals := 0 }) [.ref (ad 1), .int x1] M0 (some (.int r9)) M0 := by
  refine zc_of (cc := cX2_isStoreNumber) (maxL := 2) (ret := (some .boolean)) [(0, .ref (ad 1)), (1, .int x1)] (by decide) rfl (Nat.le_of_ble_eq_true rfl) rfl ?_
  intro p e s m args below meth c A Q C F
  have j_16 : ∀ (x1 : Int32), K_X2_isStoreNumber_16 x1 M0 = some r9 → za_At p l e { frames := 0, cells := 0, slots := 0, locals := 0 } s m args below meth c D A 2 0 0 Q 16 [(0, .ref (ad 1)), (1, .int x1)] [] (wC ad ck M0) := by
    intro x1 hf
    unfold K_X2_isStoreNumber_16 at hf
    refine za_iconst (v := (0 : Int32)) C (by decide) dX2_isStoreNumber_16 ?_
    obtain rfl := z_ret1 hf
    exact za_zret C F rfl dX2_isStoreNumber_17
  unfold pX2_isStoreNumber at hf
  refine za_iload_n C 1 rfl rfl dX2_isStoreNumber_0 ?_
  refine za_if_lt C 16 (by decide) dX2_isStoreNumber_1 (fun q1 => ?_) (fun q1 => ?_)
  · have hf := z_pos q1 hf
    exact za_sub [0, 1] rfl (j_16 x1 hf)
  · have hf := z_neg q1 hf
    refine za_iload_n C 1 rfl rfl dX2_isStoreNumber_4 ?_
    refine za_aload_n C 0 rfl rfl dX2_isStoreNumber_5 ?_
    refine zg_C1_2 C in_X2_isStoreNumber_X2 fl_X2_isStoreNumber_51 dX2_isStoreNumber_6 ?_
    refine za_icmp_ge C 16 (by decide) dX2_isStoreNumber_9 (fun q2 => ?_) (fun q2 => ?_)
    · have hf := z_pos q2 hf
      exact za_sub [0, 1] rfl (j_16 x1 hf)
    · have hf := z_neg q2 hf
      refine za_iconst (v := (1 : Int32)) C (by decide) dX2_isStoreNumber_12 ?_
      refine za_goto C 17 (by decide) dX2_isStoreNumber_13 ?_
      obtain rfl := z_ret1 hf
      exact za_zret C F rfl dX2_isStoreNumber_17
theorem in_X2_copies_X2 : ∀ w ∈ wsX20, w ∈ wsX2_copies := by decide +kernel
theorem fl_X2_copies_31 : Cond.fieldLink RX2 31 "ThriceNets$Net" "thrice" "[Z" ∈ wsX2_copies := by decide +kernel
def pX2_copies (x1 : Int32) (M0 : zM) : Option (Int32) :=
  zchk x1 24 ((if (M0.1 16 x1.toNatClampNeg) = 0 then (some (1 : Int32)) else (some (3 : Int32))))
set_option maxHeartbeats 4000000 in
set_option maxRecDepth 100000 in
theorem cX2_copies_ok (l : Launch) (D : va_G) (ck : Nat → ClassId) (ad : Nat → Nat) (x1 : Int32) (M0 : zM) (r9 : Int32) (hf : pX2_copies x1 M0 = some r9) : zc l D ck (wC ad ck) yX2_copies wsX2_copies ({ frames := 0, cells := 0, slots := 0, locals := 0 }) [.ref (ad 1), .int x1] M0 (some (.int r9)) M0 := by
  refine zc_of (cc := cX2_copies) (maxL := 2) (ret := (some .int)) [(0, .ref (ad 1)), (1, .int x1)] (by decide) rfl (Nat.le_of_ble_eq_true rfl) rfl ?_
  intro p e s m args below meth c A Q C F
  unfold pX2_copies at hf
  refine za_aload_n C 0 rfl rfl dX2_copies_0 ?_
  refine zg_C1_9 C in_X2_copies_X2 fl_X2_copies_31 dX2_copies_1 ?_
  refine za_iload_n C 1 rfl rfl dX2_copies_4 ?_
  obtain ⟨h1, hf⟩ := z_chk hf
  refine zl_C12 C h1 dX2_copies_5 ?_
  refine za_if_eq C 13 (by decide) dX2_copies_6 (fun q2 => ?_) (fun q2 => ?_)
  · have hf := z_pos q2 hf
    refine za_iconst (v := (1 : Int32)) C (by decide) dX2_copies_13 ?_
    obtain rfl := z_ret1 hf
    exact za_iret C F dX2_copies_14
  · have hf := z_neg q2 hf
    refine za_iconst (v := (3 : Int32)) C (by decide) dX2_copies_9 ?_
    refine za_goto C 14 (by decide) dX2_copies_10 ?_
    obtain rfl := z_ret1 hf
    exact za_iret C F dX2_copies_14
def K_X2_isCopy_25 (x1 : Int32) (x2 : Int32) (M0 : zM) : Option (Int32) :=
  some (0 : Int32)
def pX2_isCopy (x1 : Int32) (x2 : Int32) (M0 : zM) : Option (Int32) :=
  (pX2_isNode x1 M0).bind (fun v2 => (if v2 = 0 then (K_X2_isCopy_25 x1 x2 M0) else (if x2 < 0 then (K_X2_isCopy_25 x1 x2 M0) else ((pX2_copies x1 M0).bind (fun v6 => (if v6 ≤ x2 then (K_X2_isCopy_25 x1 x2 M0) else (some (1 : Int32))))))))
set_option maxHeartbeats 4000000 in
set_option maxRecDepth 100000 in
theorem cX2_isCopy_ok (l : Launch) (D : va_G) (ck : Nat → ClassId) (ad : Nat → Nat) (x1 : Int32) (x2 : Int32) (M0 : zM) (r9 : Int32) (hf : pX2_isCopy x1 x2 M0 = some r9) : zc l D ck (wC ad ck) yX2_isCopy wsX2_isCopy ({ frames := 1, cells := 0, slots := 0, locals := 21 }) [.ref (ad 1), .int x1, .int x2] M0 (some (.int r9)) M0 := by
  refine zc_of (cc := cX2_isCopy) (maxL := 3) (ret := (some .boolean)) [(0, .ref (ad 1)), (1, .int x1), (2, .int x2)] (by decide) rfl (Nat.le_of_ble_eq_true rfl) rfl ?_
  intro p e s m args below meth c A Q C F
  have j_25 : ∀ (x1 : Int32) (x2 : Int32), K_X2_isCopy_25 x1 x2 M0 = some r9 → za_At p l e { frames := 1, cells := 0, slots := 0, locals := 21 } s m args below meth c D A 3 0 0 Q 25 [(0, .ref (ad 1)), (1, .int x1), (2, .int x2)] [] (wC ad ck M0) := by
    intro x1 x2 hf
    unfold K_X2_isCopy_25 at hf
    refine za_iconst (v := (0 : Int32)) C (by decide) dX2_isCopy_25 ?_
    obtain rfl := z_ret1 hf
    exact za_zret C F rfl dX2_isCopy_26
  unfold pX2_isCopy at hf
  refine za_aload_n C 0 rfl rfl dX2_isCopy_0 ?_
  refine za_iload_n C 1 rfl rfl dX2_isCopy_1 ?_
  obtain ⟨v2, hc1, hf⟩ := z_bind hf
  refine za_callV (n := 1) (rest := []) C (cX2_isNode_ok l D ck ad x1 M0 _ hc1) gX2_isCopy_X2_isNode rfl rfl rfl (by decide +kernel) ⟨Nat.le_of_ble_eq_true rfl, Nat.le_of_ble_eq_true rfl⟩ 1 rfl rfl rfl rfl rfl (Nat.le_of_ble_eq_true rfl) ⟨Nat.zero_le _, Nat.zero_le _⟩ dX2_isCopy_2 ?_
  refine za_if_eq C 25 (by decide) dX2_isCopy_5 (fun q3 => ?_) (fun q3 => ?_)
  · have hf := z_pos q3 hf
    exact za_sub [0, 1, 2] rfl (j_25 x1 x2 hf)
  · have hf := z_neg q3 hf
    refine za_iload_n C 2 rfl rfl dX2_isCopy_8 ?_
    refine za_if_lt C 25 (by decide) dX2_isCopy_9 (fun q4 => ?_) (fun q4 => ?_)
    · have hf := z_pos q4 hf
      exact za_sub [0, 1, 2] rfl (j_25 x1 x2 hf)
    · have hf := z_neg q4 hf
      refine za_iload_n C 2 rfl rfl dX2_isCopy_12 ?_
      refine za_aload_n C 0 rfl rfl dX2_isCopy_13 ?_
      refine za_iload_n C 1 rfl rfl dX2_isCopy_14 ?_
      obtain ⟨v6, hc5, hf⟩ := z_bind hf
      refine za_callV (n := 1) (rest := [.int x2]) C (cX2_copies_ok l D ck ad x1 M0 _ hc5) gX2_isCopy_X2_copies rfl rfl rfl (by decide +kernel) ⟨Nat.le_of_ble_eq_true rfl, Nat.le_of_ble_eq_true rfl⟩ 1 rfl rfl rfl rfl rfl (Nat.le_of_ble_eq_true rfl) ⟨Nat.zero_le _, Nat.zero_le _⟩ dX2_isCopy_15 ?_
      refine za_icmp_ge C 25 (by decide) dX2_isCopy_18 (fun q7 => ?_) (fun q7 => ?_)
      · have hf := z_pos q7 hf
        exact za_sub [0, 1, 2] rfl (j_25 x1 x2 hf)
      · have hf := z_neg q7 hf
        refine za_iconst (v := (1 : Int32)) C (by decide) dX2_isCopy_21 ?_
        refine za_goto C 26 (by decide) dX2_isCopy_22 ?_
        obtain rfl := z_ret1 hf
        exact za_zret C F rfl dX2_isCopy_26
def K_X2_fits_70 (x1 : Int32) (x2 : Int32) (x3 : Int32) (M0 : zM) : Option (Int32) :=
  some (0 : Int32)
def K_X2_fits_66 (x1 : Int32) (x2 : Int32) (x3 : Int32) (M0 : zM) : Option (Int32) :=
  some (1 : Int32)
def K_X2_fits_35 (x1 : Int32) (x2 : Int32) (x3 : Int32) (M0 : zM) : Option (Int32) :=
  some (0 : Int32)
def K_X2_fits_21 (x1 : Int32) (x2 : Int32) (x3 : Int32) (M0 : zM) : Option (Int32) :=
  (if x2 = (-1 : Int32) then (if x3 = (-1 : Int32) then (some (1 : Int32)) else (K_X2_fits_35 x1 x2 x3 M0)) else (K_X2_fits_35 x1 x2 x3 M0))
def K_X2_fits_10 (x1 : Int32) (x2 : Int32) (x3 : Int32) (M0 : zM) : Option (Int32) :=
  some (0 : Int32)
def pX2_fits (x1 : Int32) (x2 : Int32) (x3 : Int32) (M0 : zM) : Option (Int32) :=
  (if x1 < 0 then (K_X2_fits_10 x1 x2 x3 M0) else (if x1 < (6 : Int32) then (if x1 = 0 then (K_X2_fits_21 x1 x2 x3 M0) else (if x1 = (5 : Int32) then (K_X2_fits_21 x1 x2 x3 M0) else ((pX2_isNode x2 M0).bind (fun v8 => (if v8 = 0 then (K_X2_fits_70 x1 x2 x3 M0) else (if x1 = (1 : Int32) then (if x3 = (-1 : Int32) then (K_X2_fits_66 x1 x2 x3 M0) else (K_X2_fits_70 x1 x2 x3 M0)) else ((pX2_isNode x3 M0).bind (fun v12 => (if v12 = 0 then (K_X2_fits_70 x1 x2 x3 M0) else (K_X2_fits_66 x1 x2 x3 M0)))))))))) else (K_X2_fits_10 x1 x2 x3 M0)))
set_option maxHeartbeats 4000000 in
set_option maxRecDepth 100000 in
theorem cX2_fits_ok (l : Launch) (D : va_G) (ck : Nat → ClassId) (ad : Nat → Nat) (x1 : Int32) (x2 : Int32) (x3 : Int32) (M0 : zM) (r9 : Int32) (hf : pX2_fits x1 x2 x3 M0 = some r9) : zc l D ck (wC ad ck) yX2_fits wsX2_fits ({ frames := 1, cells := 0, slots := 0, locals := 21 }) [.ref (ad 1), .int x1, .int x2, .int x3] M0 (some (.int r9)) M0 := by
  refine zc_of (cc := cX2_fits) (maxL := 4) (ret := (some .boolean)) [(0, .ref (ad 1)), (1, .int x1), (2, .int x2), (3, .int x3)] (by decide) rfl (Nat.le_of_ble_eq_true rfl) rfl ?_
  intro p e s m args below meth c A Q C F
  have j_70 : ∀ (x1 : Int32) (x2 : Int32) (x3 : Int32), K_X2_fits_70 x1 x2 x3 M0 = some r9 → za_At p l e { frames := 1, cells := 0, slots := 0, locals := 21 } s m args below meth c D A 4 0 0 Q 70 [(0, .ref (ad 1)), (1, .int x1), (2, .int x2), (3, .int x3)] [] (wC ad ck M0) := by
    intro x1 x2 x3 hf
    unfold K_X2_fits_70 at hf
    refine za_iconst (v := (0 : Int32)) C (by decide) dX2_fits_70 ?_
    obtain rfl := z_ret1 hf
    exact za_zret C F rfl dX2_fits_71
  have j_66 : ∀ (x1 : Int32) (x2 : Int32) (x3 : Int32), K_X2_fits_66 x1 x2 x3 M0 = some r9 → za_At p l e { frames := 1, cells := 0, slots := 0, locals := 21 } s m args below meth c D A 4 0 0 Q 66 [(0, .ref (ad 1)), (1, .int x1), (2, .int x2), (3, .int x3)] [] (wC ad ck M0) := by
    intro x1 x2 x3 hf
    unfold K_X2_fits_66 at hf
    refine za_iconst (v := (1 : Int32)) C (by decide) dX2_fits_66 ?_
    refine za_goto C 71 (by decide) dX2_fits_67 ?_
    obtain rfl := z_ret1 hf
    exact za_zret C F rfl dX2_fits_71
  have j_35 : ∀ (x1 : Int32) (x2 : Int32) (x3 : Int32), K_X2_fits_35 x1 x2 x3 M0 = some r9 → za_At p l e { frames := 1, cells := 0, slots := 0, locals := 21 } s m args below meth c D A 4 0 0 Q 35 [(0, .ref (ad 1)), (1, .int x1), (2, .int x2), (3, .int x3)] [] (wC ad ck M0) := by
    intro x1 x2 x3 hf
    unfold K_X2_fits_35 at hf
    refine za_iconst (v := (0 : Int32)) C (by decide) dX2_fits_35 ?_
    obtain rfl := z_ret1 hf
    exact za_zret C F rfl dX2_fits_36
  have j_21 : ∀ (x1 : Int32) (x2 : Int32) (x3 : Int32), K_X2_fits_21 x1 x2 x3 M0 = some r9 → za_At p l e { frames := 1, cells := 0, slots := 0, locals := 21 } s m args below meth c D A 4 0 0 Q 21 [(0, .ref (ad 1)), (1, .int x1), (2, .int x2), (3, .int x3)] [] (wC ad ck M0) := by
    intro x1 x2 x3 hf
    unfold K_X2_fits_21 at hf
    refine za_iload_n C 2 rfl rfl dX2_fits_21 ?_
    refine za_iconst (v := (-1 : Int32)) C (by decide) dX2_fits_22 ?_
    refine za_icmp_ne C 35 (by decide) dX2_fits_23 (fun q1 => ?_) (fun q1 => ?_)
    · have hf := z_neg q1 hf
      exact za_sub [0, 1, 2, 3] rfl (j_35 x1 x2 x3 hf)
    · have hf := z_pos q1 hf
      refine za_iload_n C 3 rfl rfl dX2_fits_26 ?_
      refine za_iconst (v := (-1 : Int32)) C (by decide) dX2_fits_27 ?_
      refine za_icmp_ne C 35 (by decide) dX2_fits_28 (fun q2 => ?_) (fun q2 => ?_)
      · have hf := z_neg q2 hf
        exact za_sub [0, 1, 2, 3] rfl (j_35 x1 x2 x3 hf)
      · have hf := z_pos q2 hf
        refine za_iconst (v := (1 : Int32)) C (by decide) dX2_fits_31 ?_
        refine za_goto C 36 (by decide) dX2_fits_32 ?_
        obtain rfl := z_ret1 hf
        exact za_zret C F rfl dX2_fits_36
  have j_10 : ∀ (x1 : Int32) (x2 : Int32) (x3 : Int32), K_X2_fits_10 x1 x2 x3 M0 = some r9 → za_At p l e { frames := 1, cells := 0, slots := 0, locals := 21 } s m args below meth c D A 4 0 0 Q 10 [(0, .ref (ad 1)), (1, .int x1), (2, .int x2), (3, .int x3)] [] (wC ad ck M0) := by
    intro x1 x2 x3 hf
    unfold K_X2_fits_10 at hf
    refine za_iconst (v := (0 : Int32)) C (by decide) dX2_fits_10 ?_
    obtain rfl := z_ret1 hf
    exact za_zret C F rfl dX2_fits_11
  unfold pX2_fits at hf
  refine za_iload_n C 1 rfl rfl dX2_fits_0 ?_
  refine za_if_lt C 10 (by decide) dX2_fits_1 (fun q3 => ?_) (fun q3 => ?_)
  · have hf := z_pos q3 hf
    exact za_sub [0, 1, 2, 3] rfl (j_10 x1 x2 x3 hf)
  · have hf := z_neg q3 hf
    refine za_iload_n C 1 rfl rfl dX2_fits_4 ?_
    refine za_bipush (v := (6 : Int32)) C (by decide) dX2_fits_5 ?_
    refine za_icmp_lt C 12 (by decide) dX2_fits_7 (fun q4 => ?_) (fun q4 => ?_)
    · have hf := z_pos q4 hf
      refine za_iload_n C 1 rfl rfl dX2_fits_12 ?_
      refine za_if_eq C 21 (by decide) dX2_fits_13 (fun q5 => ?_) (fun q5 => ?_)
      · have hf := z_pos q5 hf
        exact za_sub [0, 1, 2, 3] rfl (j_21 x1 x2 x3 hf)
      · have hf := z_neg q5 hf
        refine za_iload_n C 1 rfl rfl dX2_fits_16 ?_
        refine za_iconst (v := (5 : Int32)) C (by decide) dX2_fits_17 ?_
        refine za_icmp_ne C 37 (by decide) dX2_fits_18 (fun q6 => ?_) (fun q6 => ?_)
        · have hf := z_neg q6 hf
          refine za_aload_n C 0 rfl rfl dX2_fits_37 ?_
          refine za_iload_n C 2 rfl rfl dX2_fits_38 ?_
          obtain ⟨v8, hc7, hf⟩ := z_bind hf
          refine za_callV (n := 1) (rest := []) C (cX2_isNode_ok l D ck ad x2 M0 _ hc7) gX2_fits_X2_isNode rfl rfl rfl (by decide +kernel) ⟨Nat.le_of_ble_eq_true rfl, Nat.le_of_ble_eq_true rfl⟩ 1 rfl rfl rfl rfl rfl (Nat.le_of_ble_eq_true rfl) ⟨Nat.zero_le _, Nat.zero_le _⟩ dX2_fits_39 ?_
          refine za_if_eq C 70 (by decide) dX2_fits_42 (fun q9 => ?_) (fun q9 => ?_)
          · have hf := z_pos q9 hf
            exact za_sub [0, 1, 2, 3] rfl (j_70 x1 x2 x3 hf)
          · have hf := z_neg q9 hf
            refine za_iload_n C 1 rfl rfl dX2_fits_45 ?_
            refine za_iconst (v := (1 : Int32)) C (by decide) dX2_fits_46 ?_
            refine za_icmp_ne C 58 (by decide) dX2_fits_47 (fun q10 => ?_) (fun q10 => ?_)
            · have hf := z_neg q10 hf
              refine za_aload_n C 0 rfl rfl dX2_fits_58 ?_
              refine za_iload_n C 3 rfl rfl dX2_fits_59 ?_
              obtain ⟨v12, hc11, hf⟩ := z_bind hf
              refine za_callV (n := 1) (rest := []) C (cX2_isNode_ok l D ck ad x3 M0 _ hc11) gX2_fits_X2_isNode rfl rfl rfl (by decide +kernel) ⟨Nat.le_of_ble_eq_true rfl, Nat.le_of_ble_eq_true rfl⟩ 1 rfl rfl rfl rfl rfl (Nat.le_of_ble_eq_true rfl) ⟨Nat.zero_le _, Nat.zero_le _⟩ dX2_fits_60 ?_
              refine za_if_eq C 70 (by decide) dX2_fits_63 (fun q13 => ?_) (fun q13 => ?_)
              · have hf := z_pos q13 hf
                exact za_sub [0, 1, 2, 3] rfl (j_70 x1 x2 x3 hf)
              · have hf := z_neg q13 hf
                exact za_sub [0, 1, 2, 3] rfl (j_66 x1 x2 x3 hf)
            · have hf := z_pos q10 hf
              refine za_iload_n C 3 rfl rfl dX2_fits_50 ?_
              refine za_iconst (v := (-1 : Int32)) C (by decide) dX2_fits_51 ?_
              refine za_icmp_ne C 70 (by decide) dX2_fits_52 (fun q14 => ?_) (fun q14 => ?_)
              · have hf := z_neg q14 hf
                exact za_sub [0, 1, 2, 3] rfl (j_70 x1 x2 x3 hf)
              · have hf := z_pos q14 hf
                refine za_goto C 66 (by decide) dX2_fits_55 ?_
                exact za_sub [0, 1, 2, 3] rfl (j_66 x1 x2 x3 hf)
        · have hf := z_pos q6 hf
          exact za_sub [0, 1, 2, 3] rfl (j_21 x1 x2 x3 hf)
    · have hf := z_neg q4 hf
      exact za_sub [0, 1, 2, 3] rfl (j_10 x1 x2 x3 hf)
theorem in_X2_append_X2 : ∀ w ∈ wsX20, w ∈ wsX2_append := by decide +kernel
theorem fl_X2_append_18 : Cond.fieldLink RX2 18 "ThriceNets$Net" "b" "[I" ∈ wsX2_append := by decide +kernel
theorem fl_X2_append_24 : Cond.fieldLink RX2 24 "ThriceNets$Net" "price" "[I" ∈ wsX2_append := by decide +kernel
theorem fl_X2_append_21 : Cond.fieldLink RX2 21 "ThriceNets$Net" "number" "[I" ∈ wsX2_append := by decide +kernel
theorem fl_X2_append_37 : Cond.fieldLink RX2 37 "ThriceNets$Net" "storeNode" "[I" ∈ wsX2_append := by decide +kernel
theorem fl_X2_append_51 : Cond.fieldLink RX2 51 "ThriceNets$Net" "stores" "I" ∈ wsX2_append := by decide +kernel
theorem fl_X2_append_58 : Cond.fieldLink RX2 58 "ThriceNets$Net" "inputs" "I" ∈ wsX2_append := by decide +kernel
theorem fl_X2_append_43 : Cond.fieldLink RX2 43 "ThriceNets$Net" "size" "I" ∈ wsX2_append := by decide +kernel
theorem fl_X2_append_9 : Cond.fieldLink RX2 9 "ThriceNets$Net" "kind" "[I" ∈ wsX2_append := by decide +kernel
theorem fl_X2_append_15 : Cond.fieldLink RX2 15 "ThriceNets$Net" "a" "[I" ∈ wsX2_append := by decide +kernel
def K_X2_append_122 (x1 : Int32) (x2 : Int32) (x3 : Int32) (x4 : Int32) (M : zM) : Option (Int32 × zM) :=
  some (x4, M)
def K_X2_append_38 (x1 : Int32) (x2 : Int32) (x3 : Int32) (x4 : Int32) (y0 : Int32) (y1 : Int32) (M : zM) : Option (Int32 × zM) :=
  zchk y1 24 (zst (zsI M 11 y1.toNatClampNeg y0) (fun N2 => zchk x4 24 (zst (zsI N2 12 x4.toNatClampNeg x3) (fun N4 => zchk x4 24 (zst (zsI N4 14 x4.toNatClampNeg (1 : Int32)) (fun N6 => zchk x4 24 (zst (zsI N6 13 x4.toNatClampNeg (-1 : Int32)) (fun N8 => (if x1 = 0 then (zst (zsI N8 3 0 ((N8.1 3 0) + (1 : Int32))) (fun N16 => zchk x4 24 (zst (zsI N16 13 x4.toNatClampNeg (N8.1 3 0)) (fun N18 => K_X2_append_122 x1 x2 x3 x4 N18)))) else (if x1 = (5 : Int32) then (zchk (N8.1 4 0) 24 (zst (zsI N8 18 (N8.1 4 0).toNatClampNeg x4) (fun N12 => zst (zsI N12 4 0 ((N12.1 4 0) + (1 : Int32))) (fun N13 => zchk x4 24 (zst (zsI N13 13 x4.toNatClampNeg (N12.1 4 0)) (fun N15 => K_X2_append_122 x1 x2 x3 x4 N15)))))) else (K_X2_append_122 x1 x2 x3 x4 N8)))))))))))
def pX2_append (x1 : Int32) (x2 : Int32) (x3 : Int32) (M0 : zM) : Option (Int32 × zM) :=
  zst (zsI M0 2 0 ((M0.1 2 0) + (1 : Int32))) (fun N19 => zlt (M0.1 2 0) (fun v20 => zchk v20 24 (zst (zsI N19 10 v20.toNatClampNeg x1) (fun N22 => (if x1 = (5 : Int32) then (K_X2_append_38 x1 x2 x3 v20 v20 v20 N22) else (K_X2_append_38 x1 x2 x3 v20 x2 v20 N22))))))
set_option maxHeartbeats 4000000 in
set_option maxRecDepth 100000 in
theorem cX2_append_ok (l : Launch) (D : va_G) (ck : Nat → ClassId) (ad : Nat → Nat) (x1 : Int32) (x2 : Int32) (x3 : Int32) (M0 : zM) (r9 : Int32) (M9 : zM) (hf : pX2_append x1 x2 x3 M0 = some (r9, M9)) : zc l D ck (wC ad ck) yX2_append wsX2_append ({ frames := 0, cells := 0, slots := 0, locals := 0 }) [.ref (ad 1), .int x1, .int x2, .int x3] M0 (some (.int r9)) M9 := by
  refine zc_of (cc := cX2_append) (maxL := 5) (ret := (some .int)) [(0, .ref (ad 1)), (1, .int x1), (2, .int x2), (3, .int x3)] (by decide) rfl (Nat.le_of_ble_eq_true rfl) rfl ?_
  intro p e s m args below meth c A Q C F
  have j_122 : ∀ (x1 : Int32) (x2 : Int32) (x3 : Int32) (x4 : Int32) (M : zM), K_X2_append_122 x1 x2 x3 x4 M = some (r9, M9) → za_At p l e { frames := 0, cells := 0, slots := 0, locals := 0 } s m args below meth c D A 5 0 0 Q 122 [(0, .ref (ad 1)), (1, .int x1), (2, .int x2), (3, .int x3), (4, .int x4)] [] (wC ad ck M) := by
    intro x1 x2 x3 x4 M hf
    unfold K_X2_append_122 at hf
    refine za_iload C 4 rfl dX2_append_122 ?_
    obtain ⟨rfl, rfl⟩ := z_ret2 hf
    exact za_iret C F dX2_append_124
  have j_38 : ∀ (x1 : Int32) (x2 : Int32) (x3 : Int32) (x4 : Int32) (y0 : Int32) (y1 : Int32) (M : zM), K_X2_append_38 x1 x2 x3 x4 y0 y1 M = some (r9, M9) → za_At p l e { frames := 0, cells := 0, slots := 0, locals := 0 } s m args below meth c D A 5 0 0 Q 38 [(0, .ref (ad 1)), (1, .int x1), (2, .int x2), (3, .int x3), (4, .int x4)] [.int y0, .int y1, .ref (ad 7)] (wC ad ck M) := by
    intro x1 x2 x3 x4 y0 y1 M hf
    unfold K_X2_append_38 at hf
    obtain ⟨h1, hf⟩ := z_chk hf
    obtain ⟨N2, eN2, hf⟩ := z_st hf
    refine zs_C7 C h1 eN2 dX2_append_38 ?_
    refine za_aload_n C 0 rfl rfl dX2_append_39 ?_
    refine zg_C1_5 C in_X2_append_X2 fl_X2_append_18 dX2_append_40 ?_
    refine za_iload C 4 rfl dX2_append_43 ?_
    refine za_iload_n C 3 rfl rfl dX2_append_45 ?_
    obtain ⟨h3, hf⟩ := z_chk hf
    obtain ⟨N4, eN4, hf⟩ := z_st hf
    refine zs_C8 C h3 eN4 dX2_append_46 ?_
    refine za_aload_n C 0 rfl rfl dX2_append_47 ?_
    refine zg_C1_7 C in_X2_append_X2 fl_X2_append_24 dX2_append_48 ?_
    refine za_iload C 4 rfl dX2_append_51 ?_
    refine za_iconst (v := (1 : Int32)) C (by decide) dX2_append_53 ?_
    obtain ⟨h5, hf⟩ := z_chk hf
    obtain ⟨N6, eN6, hf⟩ := z_st hf
    refine zs_C10 C h5 eN6 dX2_append_54 ?_
    refine za_aload_n C 0 rfl rfl dX2_append_55 ?_
    refine zg_C1_6 C in_X2_append_X2 fl_X2_append_21 dX2_append_56 ?_
    refine za_iload C 4 rfl dX2_append_59 ?_
    refine za_iconst (v := (-1 : Int32)) C (by decide) dX2_append_61 ?_
    obtain ⟨h7, hf⟩ := z_chk hf
    obtain ⟨N8, eN8, hf⟩ := z_st hf
    refine zs_C9 C h7 eN8 dX2_append_62 ?_
    refine za_iload_n C 1 rfl rfl dX2_append_63 ?_
    refine za_if_ne C 88 (by decide) dX2_append_64 (fun q9 => ?_) (fun q9 => ?_)
    · have hf := z_neg q9 hf
      refine za_iload_n C 1 rfl rfl dX2_append_88 ?_
      refine za_iconst (v := (5 : Int32)) C (by decide) dX2_append_89 ?_
      refine za_icmp_ne C 122 (by decide) dX2_append_90 (fun q10 => ?_) (fun q10 => ?_)
      · have hf := z_neg q10 hf
        exact za_sub [0, 1, 2, 3, 4] rfl (j_122 x1 x2 x3 x4 N8 hf)
      · have hf := z_pos q10 hf
        refine za_aload_n C 0 rfl rfl dX2_append_93 ?_
        refine zg_C1_11 C in_X2_append_X2 fl_X2_append_37 dX2_append_94 ?_
        refine za_aload_n C 0 rfl rfl dX2_append_97 ?_
        refine zg_C1_2 C in_X2_append_X2 fl_X2_append_51 dX2_append_98 ?_
        refine za_iload C 4 rfl dX2_append_101 ?_
        obtain ⟨h11, hf⟩ := z_chk hf
        obtain ⟨N12, eN12, hf⟩ := z_st hf
        refine zs_C14 C h11 eN12 dX2_append_103 ?_
        refine za_aload_n C 0 rfl rfl dX2_append_104 ?_
        refine zg_C1_6 C in_X2_append_X2 fl_X2_append_21 dX2_append_105 ?_
        refine za_iload C 4 rfl dX2_append_108 ?_
        refine za_aload_n C 0 rfl rfl dX2_append_110 ?_
        refine za_dup C rfl dX2_append_111 ?_
        refine zg_C1_2 C in_X2_append_X2 fl_X2_append_51 dX2_append_112 ?_
        refine za_dup_x1 C rfl rfl dX2_append_115 ?_
        refine za_iconst (v := (1 : Int32)) C (by decide) dX2_append_116 ?_
        refine za_iadd C dX2_append_117 ?_
        obtain ⟨N13, eN13, hf⟩ := z_st hf
        refine zp_C1_2 C in_X2_append_X2 fl_X2_append_51 eN13 dX2_append_118 ?_
        obtain ⟨h14, hf⟩ := z_chk hf
        obtain ⟨N15, eN15, hf⟩ := z_st hf
        refine zs_C9 C h14 eN15 dX2_append_121 ?_
        exact za_sub [0, 1, 2, 3, 4] rfl (j_122 x1 x2 x3 x4 N15 hf)
    · have hf := z_pos q9 hf
      refine za_aload_n C 0 rfl rfl dX2_append_67 ?_
      refine zg_C1_6 C in_X2_append_X2 fl_X2_append_21 dX2_append_68 ?_
      refine za_iload C 4 rfl dX2_append_71 ?_
      refine za_aload_n C 0 rfl rfl dX2_append_73 ?_
      refine za_dup C rfl dX2_append_74 ?_
      refine zg_C1_1 C in_X2_append_X2 fl_X2_append_58 dX2_append_75 ?_
      refine za_dup_x1 C rfl rfl dX2_append_78 ?_
      refine za_iconst (v := (1 : Int32)) C (by decide) dX2_append_79 ?_
      refine za_iadd C dX2_append_80 ?_
      obtain ⟨N16, eN16, hf⟩ := z_st hf
      refine zp_C1_1 C in_X2_append_X2 fl_X2_append_58 eN16 dX2_append_81 ?_
      obtain ⟨h17, hf⟩ := z_chk hf
      obtain ⟨N18, eN18, hf⟩ := z_st hf
      refine zs_C9 C h17 eN18 dX2_append_84 ?_
      refine za_goto C 122 (by decide) dX2_append_85 ?_
      exact za_sub [0, 1, 2, 3, 4] rfl (j_122 x1 x2 x3 x4 N18 hf)
  unfold pX2_append at hf
  refine za_aload_n C 0 rfl rfl dX2_append_0 ?_
  refine za_dup C rfl dX2_append_1 ?_
  refine zg_C1_0 C in_X2_append_X2 fl_X2_append_43 dX2_append_2 ?_
  refine za_dup_x1 C rfl rfl dX2_append_5 ?_
  refine za_iconst (v := (1 : Int32)) C (by decide) dX2_append_6 ?_
  refine za_iadd C dX2_append_7 ?_
  obtain ⟨N19, eN19, hf⟩ := z_st hf
  refine zp_C1_0 C in_X2_append_X2 fl_X2_append_43 eN19 dX2_append_8 ?_
  obtain ⟨v20, ev20, hf⟩ := z_lt hf
  refine za_istore C [(4, .int v20), (0, .ref (ad 1)), (1, .int x1), (2, .int x2), (3, .int x3)] ev20 (by decide) rfl dX2_append_11 ?_
  refine za_aload_n C 1 rfl rfl dX2_append_13 ?_
  refine zg_C1_3 C in_X2_append_X2 fl_X2_append_9 dX2_append_14 ?_
  refine za_iload C 0 rfl dX2_append_17 ?_
  refine za_iload_n C 2 rfl rfl dX2_append_19 ?_
  obtain ⟨h21, hf⟩ := z_chk hf
  obtain ⟨N22, eN22, hf⟩ := z_st hf
  refine zs_C6 C h21 eN22 dX2_append_20 ?_
  refine za_aload_n C 1 rfl rfl dX2_append_21 ?_
  refine zg_C1_4 C in_X2_append_X2 fl_X2_append_15 dX2_append_22 ?_
  refine za_iload C 0 rfl dX2_append_25 ?_
  refine za_iload_n C 2 rfl rfl dX2_append_27 ?_
  refine za_iconst (v := (5 : Int32)) C (by decide) dX2_append_28 ?_
  refine za_icmp_ne C 37 (by decide) dX2_append_29 (fun q23 => ?_) (fun q23 => ?_)
  · have hf := z_neg q23 hf
    refine za_iload_n C 3 rfl rfl dX2_append_37 ?_
    exact za_sub [1, 2, 3, 4, 0] rfl (j_38 x1 x2 x3 v20 x2 v20 N22 hf)
  · have hf := z_pos q23 hf
    refine za_iload C 0 rfl dX2_append_32 ?_
    refine za_goto C 38 (by decide) dX2_append_34 ?_
    exact za_sub [1, 2, 3, 4, 0] rfl (j_38 x1 x2 x3 v20 v20 v20 N22 hf)
theorem in_X2_fact_X2 : ∀ w ∈ wsX20, w ∈ wsX2_fact := by decide +kernel
theorem fl_X2_fact_9 : Cond.fieldLink RX2 9 "ThriceNets$Net" "kind" "[I" ∈ wsX2_fact := by decide +kernel
theorem fl_X2_fact_15 : Cond.fieldLink RX2 15 "ThriceNets$Net" "a" "[I" ∈ wsX2_fact := by decide +kernel
theorem fl_X2_fact_18 : Cond.fieldLink RX2 18 "ThriceNets$Net" "b" "[I" ∈ wsX2_fact := by decide +kernel
theorem fl_X2_fact_27 : Cond.fieldLink RX2 27 "ThriceNets$Net" "output" "[Z" ∈ wsX2_fact := by decide +kernel
theorem fl_X2_fact_31 : Cond.fieldLink RX2 31 "ThriceNets$Net" "thrice" "[Z" ∈ wsX2_fact := by decide +kernel
theorem fl_X2_fact_34 : Cond.fieldLink RX2 34 "ThriceNets$Net" "voted" "[Z" ∈ wsX2_fact := by decide +kernel
theorem fl_X2_fact_24 : Cond.fieldLink RX2 24 "ThriceNets$Net" "price" "[I" ∈ wsX2_fact := by decide +kernel
theorem fl_X2_fact_21 : Cond.fieldLink RX2 21 "ThriceNets$Net" "number" "[I" ∈ wsX2_fact := by decide +kernel
def pX2_fact (x1 : Int32) (x2 : Int32) (M0 : zM) : Option (Int32) :=
  (if x2 = (0 : Int32) then (zchk x1 24 (some (M0.1 10 x1.toNatClampNeg))) else (if x2 = (1 : Int32) then (zchk x1 24 (some (M0.1 11 x1.toNatClampNeg))) else (if x2 = (2 : Int32) then (zchk x1 24 (some (M0.1 12 x1.toNatClampNeg))) else (if x2 = (3 : Int32) then (zchk x1 24 ((if (M0.1 15 x1.toNatClampNeg) = 0 then (some (0 : Int32)) else (some (1 : Int32))))) else (if x2 = (4 : Int32) then (zchk x1 24 ((if (M0.1 16 x1.toNatClampNeg) = 0 then (some (0 : Int32)) else (some (1 : Int32))))) else (if x2 = (5 : Int32) then (zchk x1 24 ((if (M0.1 17 x1.toNatClampNeg) = 0 then (some (0 : Int32)) else (some (1 : Int32))))) else (if x2 = (6 : Int32) then (zchk x1 24 (some (M0.1 14 x1.toNatClampNeg))) else (if x2 = (7 : Int32) then (zchk x1 24 (some (M0.1 13 x1.toNatClampNeg))) else (some (-2 : Int32))))))))))
set_option maxHeartbeats 4000000 in
set_option maxRecDepth 100000 in
theorem cX2_fact_ok (l : Launch) (D : va_G) (ck : Nat → ClassId) (ad : Nat → Nat) (x1 : Int32) (x2 : Int32) (M0 : zM) (r9 : Int32) (hf : pX2_fact x1 x2 M0 = some r9) : zc l D ck (wC ad ck) yX2_fact wsX2_fact ({ frames := 0, cells := 0, slots := 0, locals := 0 }) [.ref (ad 1), .int x1, .int x2] M0 (some (.int r9)) M0 := by
  refine zc_of (cc := cX2_fact) (maxL := 3) (ret := (some .int)) [(0, .ref (ad 1)), (1, .int x1), (2, .int x2)] (by decide) rfl (Nat.le_of_ble_eq_true rfl) rfl ?_
  intro p e s m args below meth c A Q C F
  unfold pX2_fact at hf
  refine za_iload_n C 2 rfl rfl dX2_fact_0 ?_
  by_cases q1 : x2 = (0 : Int32)
  · have hf := z_pos q1 hf
    refine za_tsIn C 48 (0) q1 (by decide) (by decide) rfl (by decide) dX2_fact_1 ?_
    refine za_aload_n C 0 rfl rfl dX2_fact_48 ?_
    refine zg_C1_3 C in_X2_fact_X2 fl_X2_fact_9 dX2_fact_49 ?_
    refine za_iload_n C 1 rfl rfl dX2_fact_52 ?_
    obtain ⟨h2, hf⟩ := z_chk hf
    refine zl_C6 C h2 dX2_fact_53 ?_
    obtain rfl := z_ret1 hf
    exact za_iret C F dX2_fact_54
  · have hf := z_neg q1 hf
    by_cases q3 : x2 = (1 : Int32)
    · have hf := z_pos q3 hf
      refine za_tsIn C 55 (1) q3 (by decide) (by decide) rfl (by decide) dX2_fact_1 ?_
      refine za_aload_n C 0 rfl rfl dX2_fact_55 ?_
      refine zg_C1_4 C in_X2_fact_X2 fl_X2_fact_15 dX2_fact_56 ?_
      refine za_iload_n C 1 rfl rfl dX2_fact_59 ?_
      obtain ⟨h4, hf⟩ := z_chk hf
      refine zl_C7 C h4 dX2_fact_60 ?_
      obtain rfl := z_ret1 hf
      exact za_iret C F dX2_fact_61
    · have hf := z_neg q3 hf
      by_cases q5 : x2 = (2 : Int32)
      · have hf := z_pos q5 hf
        refine za_tsIn C 62 (2) q5 (by decide) (by decide) rfl (by decide) dX2_fact_1 ?_
        refine za_aload_n C 0 rfl rfl dX2_fact_62 ?_
        refine zg_C1_5 C in_X2_fact_X2 fl_X2_fact_18 dX2_fact_63 ?_
        refine za_iload_n C 1 rfl rfl dX2_fact_66 ?_
        obtain ⟨h6, hf⟩ := z_chk hf
        refine zl_C8 C h6 dX2_fact_67 ?_
        obtain rfl := z_ret1 hf
        exact za_iret C F dX2_fact_68
      · have hf := z_neg q5 hf
        by_cases q7 : x2 = (3 : Int32)
        · have hf := z_pos q7 hf
          refine za_tsIn C 69 (3) q7 (by decide) (by decide) rfl (by decide) dX2_fact_1 ?_
          refine za_aload_n C 0 rfl rfl dX2_fact_69 ?_
          refine zg_C1_8 C in_X2_fact_X2 fl_X2_fact_27 dX2_fact_70 ?_
          refine za_iload_n C 1 rfl rfl dX2_fact_73 ?_
          obtain ⟨h8, hf⟩ := z_chk hf
          refine zl_C11 C h8 dX2_fact_74 ?_
          refine za_if_eq C 82 (by decide) dX2_fact_75 (fun q9 => ?_) (fun q9 => ?_)
          · have hf := z_pos q9 hf
            refine za_iconst (v := (0 : Int32)) C (by decide) dX2_fact_82 ?_
            obtain rfl := z_ret1 hf
            exact za_iret C F dX2_fact_83
          · have hf := z_neg q9 hf
            refine za_iconst (v := (1 : Int32)) C (by decide) dX2_fact_78 ?_
            refine za_goto C 83 (by decide) dX2_fact_79 ?_
            obtain rfl := z_ret1 hf
            exact za_iret C F dX2_fact_83
        · have hf := z_neg q7 hf
          by_cases q10 : x2 = (4 : Int32)
          · have hf := z_pos q10 hf
            refine za_tsIn C 84 (4) q10 (by decide) (by decide) rfl (by decide) dX2_fact_1 ?_
            refine za_aload_n C 0 rfl rfl dX2_fact_84 ?_
            refine zg_C1_9 C in_X2_fact_X2 fl_X2_fact_31 dX2_fact_85 ?_
            refine za_iload_n C 1 rfl rfl dX2_fact_88 ?_
            obtain ⟨h11, hf⟩ := z_chk hf
            refine zl_C12 C h11 dX2_fact_89 ?_
            refine za_if_eq C 97 (by decide) dX2_fact_90 (fun q12 => ?_) (fun q12 => ?_)
            · have hf := z_pos q12 hf
              refine za_iconst (v := (0 : Int32)) C (by decide) dX2_fact_97 ?_
              obtain rfl := z_ret1 hf
              exact za_iret C F dX2_fact_98
            · have hf := z_neg q12 hf
              refine za_iconst (v := (1 : Int32)) C (by decide) dX2_fact_93 ?_
              refine za_goto C 98 (by decide) dX2_fact_94 ?_
              obtain rfl := z_ret1 hf
              exact za_iret C F dX2_fact_98
          · have hf := z_neg q10 hf
            by_cases q13 : x2 = (5 : Int32)
            · have hf := z_pos q13 hf
              refine za_tsIn C 99 (5) q13 (by decide) (by decide) rfl (by decide) dX2_fact_1 ?_
              refine za_aload_n C 0 rfl rfl dX2_fact_99 ?_
              refine zg_C1_10 C in_X2_fact_X2 fl_X2_fact_34 dX2_fact_100 ?_
              refine za_iload_n C 1 rfl rfl dX2_fact_103 ?_
              obtain ⟨h14, hf⟩ := z_chk hf
              refine zl_C13 C h14 dX2_fact_104 ?_
              refine za_if_eq C 112 (by decide) dX2_fact_105 (fun q15 => ?_) (fun q15 => ?_)
              · have hf := z_pos q15 hf
                refine za_iconst (v := (0 : Int32)) C (by decide) dX2_fact_112 ?_
                obtain rfl := z_ret1 hf
                exact za_iret C F dX2_fact_113
              · have hf := z_neg q15 hf
                refine za_iconst (v := (1 : Int32)) C (by decide) dX2_fact_108 ?_
                refine za_goto C 113 (by decide) dX2_fact_109 ?_
                obtain rfl := z_ret1 hf
                exact za_iret C F dX2_fact_113
            · have hf := z_neg q13 hf
              by_cases q16 : x2 = (6 : Int32)
              · have hf := z_pos q16 hf
                refine za_tsIn C 114 (6) q16 (by decide) (by decide) rfl (by decide) dX2_fact_1 ?_
                refine za_aload_n C 0 rfl rfl dX2_fact_114 ?_
                refine zg_C1_7 C in_X2_fact_X2 fl_X2_fact_24 dX2_fact_115 ?_
                refine za_iload_n C 1 rfl rfl dX2_fact_118 ?_
                obtain ⟨h17, hf⟩ := z_chk hf
                refine zl_C10 C h17 dX2_fact_119 ?_
                obtain rfl := z_ret1 hf
                exact za_iret C F dX2_fact_120
              · have hf := z_neg q16 hf
                by_cases q18 : x2 = (7 : Int32)
                · have hf := z_pos q18 hf
                  refine za_tsIn C 121 (7) q18 (by decide) (by decide) rfl (by decide) dX2_fact_1 ?_
                  refine za_aload_n C 0 rfl rfl dX2_fact_121 ?_
                  refine zg_C1_6 C in_X2_fact_X2 fl_X2_fact_21 dX2_fact_122 ?_
                  refine za_iload_n C 1 rfl rfl dX2_fact_125 ?_
                  obtain ⟨h19, hf⟩ := z_chk hf
                  refine zl_C9 C h19 dX2_fact_126 ?_
                  obtain rfl := z_ret1 hf
                  exact za_iret C F dX2_fact_127
                · have hf := z_neg q18 hf
                  refine za_tsOut C 128 (by have u0 := lv_neT (a := 0) q1 (by decide); have u1 := lv_neT (a := 1) q3 (by decide); have u2 := lv_neT (a := 2) q5 (by decide); have u3 := lv_neT (a := 3) q7 (by decide); have u4 := lv_neT (a := 4) q10 (by decide); have u5 := lv_neT (a := 5) q13 (by decide); have u6 := lv_neT (a := 6) q16 (by decide); have u7 := lv_neT (a := 7) q18 (by decide); omega) (by decide) dX2_fact_1 ?_
                  refine za_bipush (v := (-2 : Int32)) C (by decide) dX2_fact_128 ?_
                  obtain rfl := z_ret1 hf
                  exact za_iret C F dX2_fact_130
theorem in_X2_slowness_X2 : ∀ w ∈ wsX20, w ∈ wsX2_slowness := by decide +kernel
theorem fl_X2_slowness_27 : Cond.fieldLink RX2 27 "ThriceNets$Net" "output" "[Z" ∈ wsX2_slowness := by decide +kernel
theorem fl_X2_slowness_40 : Cond.fieldLink RX2 40 "ThriceNets$Net" "depth" "[I" ∈ wsX2_slowness := by decide +kernel
theorem wd_X2_slowness_mx1 : Cond.methodLink RX2 61 Lib.Math.max.name ∈ wsX2_slowness := by decide +kernel
theorem wd_X2_slowness_mx2 : Cond.static Lib.Math.max.name ∈ wsX2_slowness := by decide +kernel
theorem wd_X2_slowness_mx3 : Cond.initialized "java/lang/Math" ∈ wsX2_slowness := by decide +kernel
theorem wd_X2_slowness_mx4 : Cond.code Lib.Math.max.name Lib.Math.max.code 2 (some .int) ∈ wsX2_slowness := by decide +kernel
theorem fl_X2_slowness_15 : Cond.fieldLink RX2 15 "ThriceNets$Net" "a" "[I" ∈ wsX2_slowness := by decide +kernel
theorem fl_X2_slowness_43 : Cond.fieldLink RX2 43 "ThriceNets$Net" "size" "I" ∈ wsX2_slowness := by decide +kernel
theorem fl_X2_slowness_9 : Cond.fieldLink RX2 9 "ThriceNets$Net" "kind" "[I" ∈ wsX2_slowness := by decide +kernel
theorem fl_X2_slowness_18 : Cond.fieldLink RX2 18 "ThriceNets$Net" "b" "[I" ∈ wsX2_slowness := by decide +kernel
theorem fl_X2_slowness_51 : Cond.fieldLink RX2 51 "ThriceNets$Net" "stores" "I" ∈ wsX2_slowness := by decide +kernel
theorem fl_X2_slowness_37 : Cond.fieldLink RX2 37 "ThriceNets$Net" "storeNode" "[I" ∈ wsX2_slowness := by decide +kernel
theorem fl_X2_slowness_34 : Cond.fieldLink RX2 34 "ThriceNets$Net" "voted" "[Z" ∈ wsX2_slowness := by decide +kernel
def K_X2_slowness_107 (n : Nat) (x1 : Int32) (x2 : Int32) (M : zM) : Option ((Int32 × Int32 × zM) ⊕ (Int32 × Int32 × zM)) :=
  zlt (x2 + (1 : Int32)) (fun v3 => some (.inl (x1, v3, M)))
def K_X2_slowness_87 (n : Nat) (x1 : Int32) (x2 : Int32) (M : zM) : Option ((Int32 × Int32 × zM) ⊕ (Int32 × Int32 × zM)) :=
  zchk x2 24 ((if (M.1 15 x2.toNatClampNeg) = 0 then (K_X2_slowness_107 n x1 x2 M) else (zchk x2 24 (zlt (zmx x1 (M.1 19 x2.toNatClampNeg)) (fun v7 => K_X2_slowness_107 n v7 x2 M)))))
def K_X2_slowness_63 (n : Nat) (x1 : Int32) (x2 : Int32) (y0 : Int32) (M : zM) : Option ((Int32 × Int32 × zM) ⊕ (Int32 × Int32 × zM)) :=
  zlt y0 (fun v8 => zchk x2 24 (zchk (M.1 11 x2.toNatClampNeg) 24 (zchk x2 24 (zst (zsI M 19 x2.toNatClampNeg ((1 : Int32) + (zmx (M.1 19 (M.1 11 x2.toNatClampNeg).toNatClampNeg) v8))) (fun N12 => K_X2_slowness_87 n x1 x2 N12)))))
def B_X2_slowness_4 (n : Nat) (x1 : Int32) (x2 : Int32) (M : zM) : Option ((Int32 × Int32 × zM) ⊕ (Int32 × Int32 × zM)) :=
  (if (M.1 2 0) ≤ x2 then (some (.inr (x1, x2, M))) else (zchk x2 24 (zst (zsI M 19 x2.toNatClampNeg (0 : Int32)) (fun N15 => zchk x2 24 ((if (N15.1 10 x2.toNatClampNeg) = 0 then (K_X2_slowness_87 n x1 x2 N15) else (zchk x2 24 ((if (N15.1 10 x2.toNatClampNeg) = (5 : Int32) then (K_X2_slowness_87 n x1 x2 N15) else (zchk x2 24 ((if (N15.1 12 x2.toNatClampNeg) = (-1 : Int32) then (K_X2_slowness_63 n x1 x2 (0 : Int32) N15) else (zchk x2 24 (zchk (N15.1 12 x2.toNatClampNeg) 24 (K_X2_slowness_63 n x1 x2 (N15.1 19 (N15.1 12 x2.toNatClampNeg).toNatClampNeg) N15)))))))))))))))
def K_X2_slowness_156 (n : Nat) (x1 : Int32) (x2 : Int32) (x3 : Int32) (y0 : Int32) (y1 : Int32) (y2 : Int32) (N26 : zM) : Option ((Int32 × Int32) ⊕ (Int32 × Int32)) :=
  zlt (zmx y2 (y1 + y0)) (fun v28 => zlt (x2 + (1 : Int32)) (fun v29 => some (.inl (v28, v29))))
def B_X2_slowness_115 (n : Nat) (x1 : Int32) (x2 : Int32) (N26 : zM) : Option ((Int32 × Int32) ⊕ (Int32 × Int32)) :=
  (if (N26.1 4 0) ≤ x2 then (some (.inr (x1, x2))) else (zchk x2 24 (zlt (N26.1 18 x2.toNatClampNeg) (fun v32 => zchk v32 24 (zchk (N26.1 11 v32.toNatClampNeg) 24 (zchk v32 24 ((if (N26.1 17 v32.toNatClampNeg) = 0 then (K_X2_slowness_156 n x1 x2 v32 (0 : Int32) (N26.1 19 (N26.1 11 v32.toNatClampNeg).toNatClampNeg) x1 N26) else (K_X2_slowness_156 n x1 x2 v32 (1 : Int32) (N26.1 19 (N26.1 11 v32.toNatClampNeg).toNatClampNeg) x1 N26)))))))))
def pX2_slowness (n : Nat) (M0 : zM) : Option (Int32 × zM) :=
  zlt (0 : Int32) (fun v1 => zlt (0 : Int32) (fun v2 => zb3 (zwl (fun q => B_X2_slowness_4 n q.1 q.2.1 q.2.2) n (v1, v2, M0)) (fun v24 v25 N26 => zlt (0 : Int32) (fun v27 => zb2 (zwl (fun q => B_X2_slowness_115 n q.1 q.2 N26) n (v24, v27)) (fun v37 v38 => some (v37, N26))))))
set_option maxHeartbeats 4000000 in
set_option maxRecDepth 100000 in
theorem cX2_slowness_ok (l : Launch) (D : va_G) (ck : Nat → ClassId) (ad : Nat → Nat) (n : Nat) (M0 : zM) (r9 : Int32) (M9 : zM) (hf : pX2_slowness n M0 = some (r9, M9)) : zc l D ck (wC ad ck) yX2_slowness wsX2_slowness ({ frames := 1, cells := 0, slots := 0, locals := 40 }) [.ref (ad 1)] M0 (some (.int r9)) M9 := by
  refine zc_of (cc := cX2_slowness) (maxL := 4) (ret := (some .int)) [(0, .ref (ad 1))] (by decide) rfl (Nat.le_of_ble_eq_true rfl) rfl ?_
  intro p e s m args below meth c A Q C F
  unfold pX2_slowness at hf
  refine za_iconst (v := (0 : Int32)) C (by decide) dX2_slowness_0 ?_
  obtain ⟨v1, ev1, hf⟩ := z_lt hf
  refine za_istore_n C [(1, .int v1), (0, .ref (ad 1))] ev1 (by decide) rfl rfl dX2_slowness_1 ?_
  refine za_iconst (v := (0 : Int32)) C (by decide) dX2_slowness_2 ?_
  obtain ⟨v2, ev2, hf⟩ := z_lt hf
  refine za_istore_n C [(2, .int v2), (1, .int v1), (0, .ref (ad 1))] ev2 (by decide) rfl rfl dX2_slowness_3 ?_
  obtain ⟨v24, v25, N26, hw40, hf⟩ := z_b3 hf
  refine za_sub [2, 1, 0] rfl ?_
  refine z_wl (P := fun q => za_At p l e { frames := 1, cells := 0, slots := 0, locals := 40 } s m args below meth c D A 4 0 0 Q 4 [(0, .ref (ad 1)), (1, .int q.1), (2, .int q.2.1)] [] (wC ad ck q.2.2)) (E := fun q => za_At p l e { frames := 1, cells := 0, slots := 0, locals := 40 } s m args below meth c D A 4 0 0 Q 113 [(0, .ref (ad 1)), (1, .int q.1), (2, .int q.2.1)] [] (wC ad ck q.2.2)) ?_ ?_ _ _ hw40
  · intro q o hf hN hE
    obtain ⟨x1, x2, M⟩ := q
    have hf : B_X2_slowness_4 n x1 x2 M = some o := hf
    unfold B_X2_slowness_4 at hf
    have j_107 : ∀ (x1 : Int32) (x2 : Int32) (M : zM), K_X2_slowness_107 n x1 x2 M = some o → za_At p l e { frames := 1, cells := 0, slots := 0, locals := 40 } s m args below meth c D A 4 0 0 Q 107 [(0, .ref (ad 1)), (1, .int x1), (2, .int x2)] [] (wC ad ck M) := by
      intro x1 x2 M hf
      unfold K_X2_slowness_107 at hf
      obtain ⟨v3, ev3, hf⟩ := z_lt hf
      refine za_iinc (k9 := (1 : Int32)) C [(2, .int v3), (0, .ref (ad 1)), (1, .int x1)] 2 rfl (by decide) ev3 (by decide) rfl dX2_slowness_107 ?_
      refine za_goto C 4 (by decide) dX2_slowness_110 ?_
      exact za_sub [1, 2, 0] rfl (hN _ (z_inj hf))
    have j_87 : ∀ (x1 : Int32) (x2 : Int32) (M : zM), K_X2_slowness_87 n x1 x2 M = some o → za_At p l e { frames := 1, cells := 0, slots := 0, locals := 40 } s m args below meth c D A 4 0 0 Q 87 [(0, .ref (ad 1)), (1, .int x1), (2, .int x2)] [] (wC ad ck M) := by
      intro x1 x2 M hf
      unfold K_X2_slowness_87 at hf
      refine za_aload_n C 0 rfl rfl dX2_slowness_87 ?_
      refine zg_C1_8 C in_X2_slowness_X2 fl_X2_slowness_27 dX2_slowness_88 ?_
      refine za_iload_n C 2 rfl rfl dX2_slowness_91 ?_
      obtain ⟨h4, hf⟩ := z_chk hf
      refine zl_C11 C h4 dX2_slowness_92 ?_
      refine za_if_eq C 107 (by decide) dX2_slowness_93 (fun q5 => ?_) (fun q5 => ?_)
      · have hf := z_pos q5 hf
        exact za_sub [0, 1, 2] rfl (j_107 x1 x2 M hf)
      · have hf := z_neg q5 hf
        refine za_iload_n C 1 rfl rfl dX2_slowness_96 ?_
        refine za_aload_n C 0 rfl rfl dX2_slowness_97 ?_
        refine zg_C1_12 C in_X2_slowness_X2 fl_X2_slowness_40 dX2_slowness_98 ?_
        refine za_iload_n C 2 rfl rfl dX2_slowness_101 ?_
        obtain ⟨h6, hf⟩ := z_chk hf
        refine zl_C15 C h6 dX2_slowness_102 ?_
        refine za_mmax C wd_X2_slowness_mx1 wd_X2_slowness_mx2 wd_X2_slowness_mx3 wd_X2_slowness_mx4 (Nat.le_of_ble_eq_true rfl) (Nat.le_of_ble_eq_true rfl) ⟨Nat.zero_le _, Nat.zero_le _⟩ dX2_slowness_103 ?_
        obtain ⟨v7, ev7, hf⟩ := z_lt hf
        refine za_istore_n C [(1, .int v7), (0, .ref (ad 1)), (2, .int x2)] ev7 (by decide) rfl rfl dX2_slowness_106 ?_
        exact za_sub [1, 0, 2] rfl (j_107 v7 x2 M hf)
    have j_63 : ∀ (x1 : Int32) (x2 : Int32) (y0 : Int32) (M : zM), K_X2_slowness_63 n x1 x2 y0 M = some o → za_At p l e { frames := 1, cells := 0, slots := 0, locals := 40 } s m args below meth c D A 4 0 0 Q 63 [(0, .ref (ad 1)), (1, .int x1), (2, .int x2)] [.int y0] (wC ad ck M) := by
      intro x1 x2 y0 M hf
      unfold K_X2_slowness_63 at hf
      obtain ⟨v8, ev8, hf⟩ := z_lt hf
      refine za_istore_n C [(3, .int v8), (0, .ref (ad 1)), (1, .int x1), (2, .int x2)] ev8 (by decide) rfl rfl dX2_slowness_63 ?_
      refine za_aload_n C 1 rfl rfl dX2_slowness_64 ?_
      refine zg_C1_12 C in_X2_slowness_X2 fl_X2_slowness_40 dX2_slowness_65 ?_
      refine za_iload_n C 3 rfl rfl dX2_slowness_68 ?_
      refine za_iconst (v := (1 : Int32)) C (by decide) dX2_slowness_69 ?_
      refine za_aload_n C 1 rfl rfl dX2_slowness_70 ?_
      refine zg_C1_12 C in_X2_slowness_X2 fl_X2_slowness_40 dX2_slowness_71 ?_
      refine za_aload_n C 1 rfl rfl dX2_slowness_74 ?_
      refine zg_C1_4 C in_X2_slowness_X2 fl_X2_slowness_15 dX2_slowness_75 ?_
      refine za_iload_n C 3 rfl rfl dX2_slowness_78 ?_
      obtain ⟨h9, hf⟩ := z_chk hf
      refine zl_C7 C h9 dX2_slowness_79 ?_
      obtain ⟨h10, hf⟩ := z_chk hf
      refine zl_C15 C h10 dX2_slowness_80 ?_
      refine za_iload_n C 0 rfl rfl dX2_slowness_81 ?_
      refine za_mmax C wd_X2_slowness_mx1 wd_X2_slowness_mx2 wd_X2_slowness_mx3 wd_X2_slowness_mx4 (Nat.le_of_ble_eq_true rfl) (Nat.le_of_ble_eq_true rfl) ⟨Nat.zero_le _, Nat.zero_le _⟩ dX2_slowness_82 ?_
      refine za_iadd C dX2_slowness_85 ?_
      obtain ⟨h11, hf⟩ := z_chk hf
      obtain ⟨N12, eN12, hf⟩ := z_st hf
      refine zs_C15 C h11 eN12 dX2_slowness_86 ?_
      exact za_sub [1, 2, 3] rfl (j_87 x1 x2 N12 hf)
    refine za_iload_n C 2 rfl rfl dX2_slowness_4 ?_
    refine za_aload_n C 0 rfl rfl dX2_slowness_5 ?_
    refine zg_C1_0 C in_X2_slowness_X2 fl_X2_slowness_43 dX2_slowness_6 ?_
    refine za_icmp_ge C 113 (by decide) dX2_slowness_9 (fun q13 => ?_) (fun q13 => ?_)
    · have hf := z_pos q13 hf
      exact za_sub [0, 1, 2] rfl (hE _ (z_inj hf))
    · have hf := z_neg q13 hf
      refine za_aload_n C 0 rfl rfl dX2_slowness_12 ?_
      refine zg_C1_12 C in_X2_slowness_X2 fl_X2_slowness_40 dX2_slowness_13 ?_
      refine za_iload_n C 2 rfl rfl dX2_slowness_16 ?_
      refine za_iconst (v := (0 : Int32)) C (by decide) dX2_slowness_17 ?_
      obtain ⟨h14, hf⟩ := z_chk hf
      obtain ⟨N15, eN15, hf⟩ := z_st hf
      refine zs_C15 C h14 eN15 dX2_slowness_18 ?_
      refine za_aload_n C 0 rfl rfl dX2_slowness_19 ?_
      refine zg_C1_3 C in_X2_slowness_X2 fl_X2_slowness_9 dX2_slowness_20 ?_
      refine za_iload_n C 2 rfl rfl dX2_slowness_23 ?_
      obtain ⟨h16, hf⟩ := z_chk hf
      refine zl_C6 C h16 dX2_slowness_24 ?_
      refine za_if_eq C 87 (by decide) dX2_slowness_25 (fun q17 => ?_) (fun q17 => ?_)
      · have hf := z_pos q17 hf
        exact za_sub [0, 1, 2] rfl (j_87 x1 x2 N15 hf)
      · have hf := z_neg q17 hf
        refine za_aload_n C 0 rfl rfl dX2_slowness_28 ?_
        refine zg_C1_3 C in_X2_slowness_X2 fl_X2_slowness_9 dX2_slowness_29 ?_
        refine za_iload_n C 2 rfl rfl dX2_slowness_32 ?_
        obtain ⟨h18, hf⟩ := z_chk hf
        refine zl_C6 C h18 dX2_slowness_33 ?_
        refine za_iconst (v := (5 : Int32)) C (by decide) dX2_slowness_34 ?_
        refine za_icmp_eq C 87 (by decide) dX2_slowness_35 (fun q19 => ?_) (fun q19 => ?_)
        · have hf := z_pos q19 hf
          exact za_sub [0, 1, 2] rfl (j_87 x1 x2 N15 hf)
        · have hf := z_neg q19 hf
          refine za_aload_n C 0 rfl rfl dX2_slowness_38 ?_
          refine zg_C1_5 C in_X2_slowness_X2 fl_X2_slowness_18 dX2_slowness_39 ?_
          refine za_iload_n C 2 rfl rfl dX2_slowness_42 ?_
          obtain ⟨h20, hf⟩ := z_chk hf
          refine zl_C8 C h20 dX2_slowness_43 ?_
          refine za_iconst (v := (-1 : Int32)) C (by decide) dX2_slowness_44 ?_
          refine za_icmp_ne C 52 (by decide) dX2_slowness_45 (fun q21 => ?_) (fun q21 => ?_)
          · have hf := z_neg q21 hf
            refine za_aload_n C 0 rfl rfl dX2_slowness_52 ?_
            refine zg_C1_12 C in_X2_slowness_X2 fl_X2_slowness_40 dX2_slowness_53 ?_
            refine za_aload_n C 0 rfl rfl dX2_slowness_56 ?_
            refine zg_C1_5 C in_X2_slowness_X2 fl_X2_slowness_18 dX2_slowness_57 ?_
            refine za_iload_n C 2 rfl rfl dX2_slowness_60 ?_
            obtain ⟨h22, hf⟩ := z_chk hf
            refine zl_C8 C h22 dX2_slowness_61 ?_
            obtain ⟨h23, hf⟩ := z_chk hf
            refine zl_C15 C h23 dX2_slowness_62 ?_
            exact za_sub [0, 1, 2] rfl (j_63 x1 x2 (N15.1 19 (N15.1 12 x2.toNatClampNeg).toNatClampNeg) N15 hf)
          · have hf := z_pos q21 hf
            refine za_iconst (v := (0 : Int32)) C (by decide) dX2_slowness_48 ?_
            refine za_goto C 63 (by decide) dX2_slowness_49 ?_
            exact za_sub [0, 1, 2] rfl (j_63 x1 x2 (0 : Int32) N15 hf)
  · show za_At p l e { frames := 1, cells := 0, slots := 0, locals := 40 } s m args below meth c D A 4 0 0 Q 113 [(0, .ref (ad 1)), (1, .int v24), (2, .int v25)] [] (wC ad ck N26)
    refine za_iconst (v := (0 : Int32)) C (by decide) dX2_slowness_113 ?_
    obtain ⟨v27, ev27, hf⟩ := z_lt hf
    refine za_istore_n C [(2, .int v27), (0, .ref (ad 1)), (1, .int v24)] ev27 (by decide) rfl rfl dX2_slowness_114 ?_
    obtain ⟨v37, v38, hw39, hf⟩ := z_b2 hf
    refine za_sub [1, 2, 0] rfl ?_
    refine z_wl (P := fun q => za_At p l e { frames := 1, cells := 0, slots := 0, locals := 40 } s m args below meth c D A 4 0 0 Q 115 [(0, .ref (ad 1)), (1, .int q.1), (2, .int q.2)] [] (wC ad ck N26)) (E := fun q => za_At p l e { frames := 1, cells := 0, slots := 0, locals := 40 } s m args below meth c D A 4 0 0 Q 167 [(0, .ref (ad 1)), (1, .int q.1), (2, .int q.2)] [] (wC ad ck N26)) ?_ ?_ _ _ hw39
    · intro q o hf hN hE
      obtain ⟨x1, x2⟩ := q
      have hf : B_X2_slowness_115 n x1 x2 N26 = some o := hf
      unfold B_X2_slowness_115 at hf
      have j_156 : ∀ (x1 : Int32) (x2 : Int32) (x3 : Int32) (y0 : Int32) (y1 : Int32) (y2 : Int32), K_X2_slowness_156 n x1 x2 x3 y0 y1 y2 N26 = some o → za_At p l e { frames := 1, cells := 0, slots := 0, locals := 40 } s m args below meth c D A 4 0 0 Q 156 [(0, .ref (ad 1)), (1, .int x1), (2, .int x2), (3, .int x3)] [.int y0, .int y1, .int y2] (wC ad ck N26) := by
        intro x1 x2 x3 y0 y1 y2 hf
        unfold K_X2_slowness_156 at hf
        refine za_iadd C dX2_slowness_156 ?_
        refine za_mmax C wd_X2_slowness_mx1 wd_X2_slowness_mx2 wd_X2_slowness_mx3 wd_X2_slowness_mx4 (Nat.le_of_ble_eq_true rfl) (Nat.le_of_ble_eq_true rfl) ⟨Nat.zero_le _, Nat.zero_le _⟩ dX2_slowness_157 ?_
        obtain ⟨v28, ev28, hf⟩ := z_lt hf
        refine za_istore_n C [(1, .int v28), (0, .ref (ad 1)), (2, .int x2), (3, .int x3)] ev28 (by decide) rfl rfl dX2_slowness_160 ?_
        obtain ⟨v29, ev29, hf⟩ := z_lt hf
        refine za_iinc (k9 := (1 : Int32)) C [(2, .int v29), (1, .int v28), (0, .ref (ad 1)), (3, .int x3)] 2 rfl (by decide) ev29 (by decide) rfl dX2_slowness_161 ?_
        refine za_goto C 115 (by decide) dX2_slowness_164 ?_
        exact za_sub [2, 1, 0] rfl (hN _ (z_inj hf))
      refine za_iload_n C 2 rfl rfl dX2_slowness_115 ?_
      refine za_aload_n C 0 rfl rfl dX2_slowness_116 ?_
      refine zg_C1_2 C in_X2_slowness_X2 fl_X2_slowness_51 dX2_slowness_117 ?_
      refine za_icmp_ge C 167 (by decide) dX2_slowness_120 (fun q30 => ?_) (fun q30 => ?_)
      · have hf := z_pos q30 hf
        exact za_sub [0, 1, 2] rfl (hE _ (z_inj hf))
      · have hf := z_neg q30 hf
        refine za_aload_n C 0 rfl rfl dX2_slowness_123 ?_
        refine zg_C1_11 C in_X2_slowness_X2 fl_X2_slowness_37 dX2_slowness_124 ?_
        refine za_iload_n C 2 rfl rfl dX2_slowness_127 ?_
        obtain ⟨h31, hf⟩ := z_chk hf
        refine zl_C14 C h31 dX2_slowness_128 ?_
        obtain ⟨v32, ev32, hf⟩ := z_lt hf
        refine za_istore_n C [(3, .int v32), (0, .ref (ad 1)), (1, .int x1), (2, .int x2)] ev32 (by decide) rfl rfl dX2_slowness_129 ?_
        refine za_iload_n C 2 rfl rfl dX2_slowness_130 ?_
        refine za_aload_n C 1 rfl rfl dX2_slowness_131 ?_
        refine zg_C1_12 C in_X2_slowness_X2 fl_X2_slowness_40 dX2_slowness_132 ?_
        refine za_aload_n C 1 rfl rfl dX2_slowness_135 ?_
        refine zg_C1_4 C in_X2_slowness_X2 fl_X2_slowness_15 dX2_slowness_136 ?_
        refine za_iload_n C 0 rfl rfl dX2_slowness_139 ?_
        obtain ⟨h33, hf⟩ := z_chk hf
        refine zl_C7 C h33 dX2_slowness_140 ?_
        obtain ⟨h34, hf⟩ := z_chk hf
        refine zl_C15 C h34 dX2_slowness_141 ?_
        refine za_aload_n C 1 rfl rfl dX2_slowness_142 ?_
        refine zg_C1_10 C in_X2_slowness_X2 fl_X2_slowness_34 dX2_slowness_143 ?_
        refine za_iload_n C 0 rfl rfl dX2_slowness_146 ?_
        obtain ⟨h35, hf⟩ := z_chk hf
        refine zl_C13 C h35 dX2_slowness_147 ?_
        refine za_if_eq C 155 (by decide) dX2_slowness_148 (fun q36 => ?_) (fun q36 => ?_)
        · have hf := z_pos q36 hf
          refine za_iconst (v := (0 : Int32)) C (by decide) dX2_slowness_155 ?_
          exact za_sub [1, 2, 3, 0] rfl (j_156 x1 x2 v32 (0 : Int32) (N26.1 19 (N26.1 11 v32.toNatClampNeg).toNatClampNeg) x1 hf)
        · have hf := z_neg q36 hf
          refine za_iconst (v := (1 : Int32)) C (by decide) dX2_slowness_151 ?_
          refine za_goto C 156 (by decide) dX2_slowness_152 ?_
          exact za_sub [1, 2, 3, 0] rfl (j_156 x1 x2 v32 (1 : Int32) (N26.1 19 (N26.1 11 v32.toNatClampNeg).toNatClampNeg) x1 hf)
    · show za_At p l e { frames := 1, cells := 0, slots := 0, locals := 40 } s m args below meth c D A 4 0 0 Q 167 [(0, .ref (ad 1)), (1, .int v37), (2, .int v38)] [] (wC ad ck N26)
      refine za_iload_n C 1 rfl rfl dX2_slowness_167 ?_
      obtain ⟨rfl, rfl⟩ := z_ret2 hf
      exact za_iret C F dX2_slowness_168
theorem in_X3_bit_X3 : ∀ w ∈ wsX30, w ∈ wsX3_bit := by decide +kernel
theorem fl_X3_bit_9 : Cond.fieldLink RX3 9 "ThriceNets$PlainRun" "word" "[I" ∈ wsX3_bit := by decide +kernel
def pX3_bit (x1 : Int32) (x2 : Int32) (M0 : zM) : Option (Int32) :=
  zchk x2 17 (some (((M0.1 22 x2.toNatClampNeg) >>> (x1 &&& 31)) &&& (1 : Int32)))
set_option maxHeartbeats 4000000 in
set_option maxRecDepth 100000 in
theorem cX3_bit_ok (l : Launch) (D : va_G) (ck : Nat → ClassId) (ad : Nat → Nat) (x1 : Int32) (x2 : Int32) (M0 : zM) (r9 : Int32) (hf : pX3_bit x1 x2 M0 = some r9) : zc l D ck (wC ad ck) yX3_bit wsX3_bit ({ frames := 0, cells := 0, slots := 0, locals := 0 }) [.ref (ad 3), .int x1, .int x2] M0 (some (.int r9)) M0 := by
  refine zc_of (cc := cX3_bit) (maxL := 3) (ret := (some .int)) [(0, .ref (ad 3)), (1, .int x1), (2, .int x2)] (by decide) rfl (Nat.le_of_ble_eq_true rfl) rfl ?_
  intro p e s m args below meth c A Q C F
  unfold pX3_bit at hf
  refine za_aload_n C 0 rfl rfl dX3_bit_0 ?_
  refine zg_C3_0 C in_X3_bit_X3 fl_X3_bit_9 dX3_bit_1 ?_
  refine za_iload_n C 2 rfl rfl dX3_bit_4 ?_
  obtain ⟨h1, hf⟩ := z_chk hf
  refine zl_C23 C h1 dX3_bit_5 ?_
  refine za_iload_n C 1 rfl rfl dX3_bit_6 ?_
  refine za_ishr C dX3_bit_7 ?_
  refine za_iconst (v := (1 : Int32)) C (by decide) dX3_bit_8 ?_
  refine za_iand C dX3_bit_9 ?_
  obtain rfl := z_ret1 hf
  exact za_iret C F dX3_bit_10
theorem in_X4_inputsOf_X4 : ∀ w ∈ wsX40, w ∈ wsX4_inputsOf := by decide +kernel
theorem fl_X4_inputsOf_9 : Cond.fieldLink RX4 9 "ThriceNets$Sheets" "form" "[I" ∈ wsX4_inputsOf := by decide +kernel
theorem fl_X4_inputsOf_15 : Cond.fieldLink RX4 15 "ThriceNets$Sheets" "size" "[I" ∈ wsX4_inputsOf := by decide +kernel
theorem fl_X4_inputsOf_20 : Cond.fieldLink RX4 20 "ThriceNets$Sheets" "item" "[[I" ∈ wsX4_inputsOf := by decide +kernel
def K_X4_inputsOf_20 (x1 : Int32) (M0 : zM) : Option (Int32) :=
  some (0 : Int32)
def pX4_inputsOf (x1 : Int32) (M0 : zM) : Option (Int32) :=
  zchk (0 : Int32) 4 ((if (M0.1 20 (0 : Int32).toNatClampNeg) = (-1 : Int32) then (K_X4_inputsOf_20 x1 M0) else (zchk (0 : Int32) 4 ((if x1 < (M0.1 21 (0 : Int32).toNatClampNeg) then (zchk (0 : Int32) 4 (zchk x1 60 (some (M0.1 (30 + (0 : Int32).toNatClampNeg) x1.toNatClampNeg)))) else (K_X4_inputsOf_20 x1 M0))))))
set_option maxHeartbeats 4000000 in
set_option maxRecDepth 100000 in
theorem cX4_inputsOf_ok (l : Launch) (D : va_G) (ck : Nat → ClassId) (ad : Nat → Nat) (x1 : Int32) (M0 : zM) (r9 : Int32) (hf : pX4_inputsOf x1 M0 = some r9) : zc l D ck (wC ad ck) yX4_inputsOf wsX4_inputsOf ({ frames := 0, cells := 0, slots := 0, locals := 0 }) [.ref (ad 2), .int x1] M0 (some (.int r9)) M0 := by
  refine zc_of (cc := cX4_inputsOf) (maxL := 2) (ret := (some .int)) [(0, .ref (ad 2)), (1, .int x1)] (by decide) rfl (Nat.le_of_ble_eq_true rfl) rfl ?_
  intro p e s m args below meth c A Q C F
  have j_20 : ∀ (x1 : Int32), K_X4_inputsOf_20 x1 M0 = some r9 → za_At p l e { frames := 0, cells := 0, slots := 0, locals := 0 } s m args below meth c D A 2 0 0 Q 20 [(0, .ref (ad 2)), (1, .int x1)] [] (wC ad ck M0) := by
    intro x1 hf
    unfold K_X4_inputsOf_20 at hf
    refine za_iconst (v := (0 : Int32)) C (by decide) dX4_inputsOf_20 ?_
    refine za_goto C 32 (by decide) dX4_inputsOf_21 ?_
    obtain rfl := z_ret1 hf
    exact za_iret C F dX4_inputsOf_32
  unfold pX4_inputsOf at hf
  refine za_aload_n C 0 rfl rfl dX4_inputsOf_0 ?_
  refine zg_C2_0 C in_X4_inputsOf_X4 fl_X4_inputsOf_9 dX4_inputsOf_1 ?_
  refine za_iconst (v := (0 : Int32)) C (by decide) dX4_inputsOf_4 ?_
  obtain ⟨h1, hf⟩ := z_chk hf
  refine zl_C16 C h1 dX4_inputsOf_5 ?_
  refine za_iconst (v := (-1 : Int32)) C (by decide) dX4_inputsOf_6 ?_
  refine za_icmp_eq C 20 (by decide) dX4_inputsOf_7 (fun q2 => ?_) (fun q2 => ?_)
  · have hf := z_pos q2 hf
    exact za_sub [0, 1] rfl (j_20 x1 hf)
  · have hf := z_neg q2 hf
    refine za_iload_n C 1 rfl rfl dX4_inputsOf_10 ?_
    refine za_aload_n C 0 rfl rfl dX4_inputsOf_11 ?_
    refine zg_C2_1 C in_X4_inputsOf_X4 fl_X4_inputsOf_15 dX4_inputsOf_12 ?_
    refine za_iconst (v := (0 : Int32)) C (by decide) dX4_inputsOf_15 ?_
    obtain ⟨h3, hf⟩ := z_chk hf
    refine zl_C17 C h3 dX4_inputsOf_16 ?_
    refine za_icmp_lt C 24 (by decide) dX4_inputsOf_17 (fun q4 => ?_) (fun q4 => ?_)
    · have hf := z_pos q4 hf
      refine za_aload_n C 0 rfl rfl dX4_inputsOf_24 ?_
      refine zg_C2_2 C in_X4_inputsOf_X4 fl_X4_inputsOf_20 dX4_inputsOf_25 ?_
      refine za_iconst (v := (0 : Int32)) C (by decide) dX4_inputsOf_28 ?_
      obtain ⟨h5, hf⟩ := z_chk hf
      refine zl_item C h5 dX4_inputsOf_29 ?_
      refine za_iload_n C 1 rfl rfl dX4_inputsOf_30 ?_
      obtain ⟨h6, hf⟩ := z_chk hf
      refine zl_row C h5 h6 dX4_inputsOf_31 ?_
      obtain rfl := z_ret1 hf
      exact za_iret C F dX4_inputsOf_32
    · have hf := z_neg q4 hf
      exact za_sub [0, 1] rfl (j_20 x1 hf)
theorem in_X3_gateBit_X2 : ∀ w ∈ wsX20, w ∈ wsX3_gateBit := by decide +kernel
theorem fl_X3_gateBit_27 : Cond.fieldLink RX3 27 "ThriceNets$Net" "kind" "[I" ∈ wsX3_gateBit := by decide +kernel
theorem fl_X3_gateBit_43 : Cond.fieldLink RX3 43 "ThriceNets$Net" "a" "[I" ∈ wsX3_gateBit := by decide +kernel
theorem fl_X3_gateBit_50 : Cond.fieldLink RX3 50 "ThriceNets$Net" "b" "[I" ∈ wsX3_gateBit := by decide +kernel
def K_X3_gateBit_38 (x2 : Int32) (x3 : Int32) (x4 : Int32) (y0 : Int32) (M0 : zM) : Option (Int32) :=
  zlt y0 (fun v1 => zchk x2 24 ((pX2_gate (M0.1 10 x2.toNatClampNeg) (Int32.toInt64 x4) (Int32.toInt64 v1) M0).bind (fun v4 => some ((Int64.toInt32 v4) &&& (1 : Int32)))))
def pX3_gateBit (x2 : Int32) (x3 : Int32) (M0 : zM) : Option (Int32) :=
  zchk x2 24 ((pX3_bit (M0.1 11 x2.toNatClampNeg) x3 M0).bind (fun v7 => zlt v7 (fun v8 => zchk x2 24 ((if (M0.1 12 x2.toNatClampNeg) = (-1 : Int32) then (K_X3_gateBit_38 x2 x3 v8 (0 : Int32) M0) else (zchk x2 24 ((pX3_bit (M0.1 12 x2.toNatClampNeg) x3 M0).bind (fun v13 => K_X3_gateBit_38 x2 x3 v8 v13 M0))))))))
set_option maxHeartbeats 4000000 in
set_option maxRecDepth 100000 in
theorem cX3_gateBit_ok (l : Launch) (D : va_G) (ck : Nat → ClassId) (ad : Nat → Nat) (x2 : Int32) (x3 : Int32) (M0 : zM) (r9 : Int32) (hf : pX3_gateBit x2 x3 M0 = some r9) : zc l D ck (wC ad ck) yX3_gateBit wsX3_gateBit ({ frames := 1, cells := 0, slots := 0, locals := 24 }) [.ref (ad 3), .ref (ad 1), .int x2, .int x3] M0 (some (.int r9)) M0 := by
  refine zc_of (cc := cX3_gateBit) (maxL := 6) (ret := (some .int)) [(0, .ref (ad 3)), (1, .ref (ad 1)), (2, .int x2), (3, .int x3)] (by decide) rfl (Nat.le_of_ble_eq_true rfl) rfl ?_
  intro p e s m args below meth c A Q C F
  have j_38 : ∀ (x2 : Int32) (x3 : Int32) (x4 : Int32) (y0 : Int32), K_X3_gateBit_38 x2 x3 x4 y0 M0 = some r9 → za_At p l e { frames := 1, cells := 0, slots := 0, locals := 24 } s m args below meth c D A 6 0 0 Q 38 [(0, .ref (ad 3)), (1, .ref (ad 1)), (2, .int x2), (3, .int x3), (4, .int x4)] [.int y0] (wC ad ck M0) := by
    intro x2 x3 x4 y0 hf
    unfold K_X3_gateBit_38 at hf
    obtain ⟨v1, ev1, hf⟩ := z_lt hf
    refine za_istore C [(5, .int v1), (0, .ref (ad 3)), (1, .ref (ad 1)), (2, .int x2), (3, .int x3), (4, .int x4)] ev1 (by decide) rfl dX3_gateBit_38 ?_
    refine za_aload_n C 2 rfl rfl dX3_gateBit_40 ?_
    refine zg_C1_3 C in_X3_gateBit_X2 fl_X3_gateBit_27 dX3_gateBit_41 ?_
    refine za_iload_n C 3 rfl rfl dX3_gateBit_44 ?_
    obtain ⟨h2, hf⟩ := z_chk hf
    refine zl_C6 C h2 dX3_gateBit_45 ?_
    refine za_iload C 5 rfl dX3_gateBit_46 ?_
    refine za_i2l C dX3_gateBit_48 ?_
    refine za_iload C 0 rfl dX3_gateBit_49 ?_
    refine za_i2l C dX3_gateBit_51 ?_
    obtain ⟨v4, hc3, hf⟩ := z_bind hf
    refine za_callS (n := 3) (rest := []) C (cX2_gate_ok l D ck ad (M0.1 10 x2.toNatClampNeg) (Int32.toInt64 x4) (Int32.toInt64 v1) M0 _ hc3) gX3_gateBit_X2_gate rfl rfl rfl (by decide +kernel) ⟨Nat.le_of_ble_eq_true rfl, Nat.le_of_ble_eq_true rfl⟩ rfl rfl (Nat.le_of_ble_eq_true rfl) ⟨Nat.zero_le _, Nat.zero_le _⟩ dX3_gateBit_52 ?_
    refine za_l2i C dX3_gateBit_55 ?_
    refine za_iconst (v := (1 : Int32)) C (by decide) dX3_gateBit_56 ?_
    refine za_iand C dX3_gateBit_57 ?_
    obtain rfl := z_ret1 hf
    exact za_iret C F dX3_gateBit_58
  unfold pX3_gateBit at hf
  refine za_aload_n C 0 rfl rfl dX3_gateBit_0 ?_
  refine za_aload_n C 1 rfl rfl dX3_gateBit_1 ?_
  refine zg_C1_4 C in_X3_gateBit_X2 fl_X3_gateBit_43 dX3_gateBit_2 ?_
  refine za_iload_n C 2 rfl rfl dX3_gateBit_5 ?_
  obtain ⟨h5, hf⟩ := z_chk hf
  refine zl_C7 C h5 dX3_gateBit_6 ?_
  refine za_iload_n C 3 rfl rfl dX3_gateBit_7 ?_
  obtain ⟨v7, hc6, hf⟩ := z_bind hf
  refine za_callV (n := 2) (rest := []) C (cX3_bit_ok l D ck ad (M0.1 11 x2.toNatClampNeg) x3 M0 _ hc6) gX3_gateBit_X3_bit rfl rfl rfl (by decide +kernel) ⟨Nat.le_of_ble_eq_true rfl, Nat.le_of_ble_eq_true rfl⟩ 3 rfl rfl rfl rfl rfl (Nat.le_of_ble_eq_true rfl) ⟨Nat.zero_le _, Nat.zero_le _⟩ dX3_gateBit_8 ?_
  obtain ⟨v8, ev8, hf⟩ := z_lt hf
  refine za_istore C [(4, .int v8), (0, .ref (ad 3)), (1, .ref (ad 1)), (2, .int x2), (3, .int x3)] ev8 (by decide) rfl dX3_gateBit_11 ?_
  refine za_aload_n C 2 rfl rfl dX3_gateBit_13 ?_
  refine zg_C1_5 C in_X3_gateBit_X2 fl_X3_gateBit_50 dX3_gateBit_14 ?_
  refine za_iload_n C 3 rfl rfl dX3_gateBit_17 ?_
  obtain ⟨h9, hf⟩ := z_chk hf
  refine zl_C8 C h9 dX3_gateBit_18 ?_
  refine za_iconst (v := (-1 : Int32)) C (by decide) dX3_gateBit_19 ?_
  refine za_icmp_ne C 27 (by decide) dX3_gateBit_20 (fun q10 => ?_) (fun q10 => ?_)
  · have hf := z_neg q10 hf
    refine za_aload_n C 1 rfl rfl dX3_gateBit_27 ?_
    refine za_aload_n C 2 rfl rfl dX3_gateBit_28 ?_
    refine zg_C1_5 C in_X3_gateBit_X2 fl_X3_gateBit_50 dX3_gateBit_29 ?_
    refine za_iload_n C 3 rfl rfl dX3_gateBit_32 ?_
    obtain ⟨h11, hf⟩ := z_chk hf
    refine zl_C8 C h11 dX3_gateBit_33 ?_
    refine za_iload_n C 4 rfl rfl dX3_gateBit_34 ?_
    obtain ⟨v13, hc12, hf⟩ := z_bind hf
    refine za_callV (n := 2) (rest := []) C (cX3_bit_ok l D ck ad (M0.1 12 x2.toNatClampNeg) x3 M0 _ hc12) gX3_gateBit_X3_bit rfl rfl rfl (by decide +kernel) ⟨Nat.le_of_ble_eq_true rfl, Nat.le_of_ble_eq_true rfl⟩ 3 rfl rfl rfl rfl rfl (Nat.le_of_ble_eq_true rfl) ⟨Nat.zero_le _, Nat.zero_le _⟩ dX3_gateBit_35 ?_
    exact za_sub [1, 2, 3, 4, 0] rfl (j_38 x2 x3 v8 v13 hf)
  · have hf := z_pos q10 hf
    refine za_iconst (v := (0 : Int32)) C (by decide) dX3_gateBit_23 ?_
    refine za_goto C 38 (by decide) dX3_gateBit_24 ?_
    exact za_sub [1, 2, 3, 4, 0] rfl (j_38 x2 x3 v8 (0 : Int32) hf)
theorem in_X3_work_X3 : ∀ w ∈ wsX30, w ∈ wsX3_work := by decide +kernel
theorem fl_X3_work_9 : Cond.fieldLink RX3 9 "ThriceNets$PlainRun" "word" "[I" ∈ wsX3_work := by decide +kernel
theorem in_X3_work_X2 : ∀ w ∈ wsX20, w ∈ wsX3_work := by decide +kernel
theorem fl_X3_work_21 : Cond.fieldLink RX3 21 "ThriceNets$Net" "size" "I" ∈ wsX3_work := by decide +kernel
theorem fl_X3_work_27 : Cond.fieldLink RX3 27 "ThriceNets$Net" "kind" "[I" ∈ wsX3_work := by decide +kernel
theorem fl_X3_work_30 : Cond.fieldLink RX3 30 "ThriceNets$Net" "number" "[I" ∈ wsX3_work := by decide +kernel
theorem fl_X3_work_37 : Cond.fieldLink RX3 37 "ThriceNets$Net" "stores" "I" ∈ wsX3_work := by decide +kernel
theorem fl_X3_work_40 : Cond.fieldLink RX3 40 "ThriceNets$Net" "storeNode" "[I" ∈ wsX3_work := by decide +kernel
theorem fl_X3_work_43 : Cond.fieldLink RX3 43 "ThriceNets$Net" "a" "[I" ∈ wsX3_work := by decide +kernel
def K_X3_work_111 (n : Nat) (x3 : Int32) (x4 : Int32) (v8 : Int32) (x6 : Int32) (M : zM) : Option ((Int32 × zM) ⊕ (Int32 × zM)) :=
  zlt (x6 + (1 : Int32)) (fun v10 => some (.inl (v10, M)))
def B_X3_work_31 (n : Nat) (x3 : Int32) (x4 : Int32) (v8 : Int32) (x6 : Int32) (M : zM) : Option ((Int32 × zM) ⊕ (Int32 × zM)) :=
  (if (M.1 2 0) ≤ x6 then (some (.inr (x6, M))) else (zchk x6 24 ((if (M.1 10 x6.toNatClampNeg) = 0 then (zchk x4 17 (zchk x6 24 (zchk x4 17 (zst (zsI M 22 x4.toNatClampNeg ((M.1 22 x4.toNatClampNeg) ||| (((v8 >>> ((M.1 13 x6.toNatClampNeg) &&& 31)) &&& (1 : Int32)) <<< (x6 &&& 31)))) (fun N24 => K_X3_work_111 n x3 x4 v8 x6 N24))))) else (zchk x6 24 ((if (M.1 10 x6.toNatClampNeg) = (5 : Int32) then (K_X3_work_111 n x3 x4 v8 x6 M) else (zchk x4 17 ((pX3_gateBit x6 x4 M).bind (fun v18 => zchk x4 17 (zst (zsI M 22 x4.toNatClampNeg ((M.1 22 x4.toNatClampNeg) ||| (v18 <<< (x6 &&& 31)))) (fun N20 => K_X3_work_111 n x3 x4 v8 x6 N20))))))))))))
def B_X3_work_122 (n : Nat) (x3 : Int32) (x4 : Int32) (v8 : Int32) (x6 : Int32) (N26 : zM) : Option ((Int32 × Int32) ⊕ (Int32 × Int32)) :=
  (if (N26.1 4 0) ≤ x6 then (some (.inr (x3, x6))) else (zchk x6 24 (zlt (N26.1 18 x6.toNatClampNeg) (fun v31 => zchk v31 24 ((pX3_bit (N26.1 11 v31.toNatClampNeg) x4 N26).bind (fun v34 => zlt (x3 ||| (v34 <<< (v31 &&& 31))) (fun v35 => zlt (x6 + (1 : Int32)) (fun v36 => some (.inl (v35, v36))))))))))
def B_X3_work_5 (n : Nat) (x3 : Int32) (x4 : Int32) (M : zM) : Option ((Int32 × Int32 × zM) ⊕ (Int32 × Int32 × zM)) :=
  (if (16 : Int32) < x4 then (some (.inr (x3, x4, M))) else (zchk x4 17 (zst (zsI M 22 x4.toNatClampNeg x3) (fun N5 => (pX4_inputsOf x4 N5).bind (fun v7 => zlt v7 (fun v8 => zlt (0 : Int32) (fun v9 => zb2 (zwl (fun q => B_X3_work_31 n x3 x4 v8 q.1 q.2) n (v9, N5)) (fun v25 N26 => zlt (0 : Int32) (fun v27 => zlt (0 : Int32) (fun v28 => zb2 (zwl (fun q => B_X3_work_122 n q.1 x4 v8 q.2 N26) n (v27, v28)) (fun v37 v38 => zlt (x4 + (1 : Int32)) (fun v39 => some (.inl (v37, v39, N26))))))))))))))
def pX3_work (n : Nat) (M0 : zM) : Option (zM) :=
  zlt (0 : Int32) (fun v1 => zlt (0 : Int32) (fun v2 => zb3 (zwl (fun q => B_X3_work_5 n q.1 q.2.1 q.2.2) n (v1, v2, M0)) (fun v42 v43 N44 => some N44)))
set_option maxHeartbeats 4000000 in
set_option maxRecDepth 100000 in
theorem cX3_work_ok (l : Launch) (D : va_G) (ck : Nat → ClassId) (ad : Nat → Nat) (n : Nat) (M0 : zM) (M9 : zM) (hf : pX3_work n M0 = some M9) : zc l D ck (wC ad ck) yX3_work wsX3_work ({ frames := 2, cells := 0, slots := 0, locals := 49 }) [.ref (ad 3), .ref (ad 1), .ref (ad 2)] M0 none M9 := by
  refine zc_of (cc := cX3_work) (maxL := 8) (ret := none) [(0, .ref (ad 3)), (1, .ref (ad 1)), (2, .ref (ad 2))] (by decide) rfl (Nat.le_of_ble_eq_true rfl) rfl ?_
  intro p e s m args below meth c A Q C F
  unfold pX3_work at hf
  refine za_iconst (v := (0 : Int32)) C (by decide) dX3_work_0 ?_
  obtain ⟨v1, ev1, hf⟩ := z_lt hf
  refine za_istore_n C [(3, .int v1), (0, .ref (ad 3)), (1, .ref (ad 1)), (2, .ref (ad 2))] ev1 (by decide) rfl rfl dX3_work_1 ?_
  refine za_iconst (v := (0 : Int32)) C (by decide) dX3_work_2 ?_
  obtain ⟨v2, ev2, hf⟩ := z_lt hf
  refine za_istore C [(4, .int v2), (3, .int v1), (0, .ref (ad 3)), (1, .ref (ad 1)), (2, .ref (ad 2))] ev2 (by decide) rfl dX3_work_3 ?_
  obtain ⟨v42, v43, N44, hw45, hf⟩ := z_b3 hf
  refine za_sub [2, 3, 4, 1, 0] rfl ?_
  refine z_wl (P := fun q => za_At p l e { frames := 2, cells := 0, slots := 0, locals := 49 } s m args below meth c D A 8 0 0 Q 5 [(0, .ref (ad 3)), (1, .ref (ad 1)), (2, .ref (ad 2)), (3, .int q.1), (4, .int q.2.1)] [] (wC ad ck q.2.2)) (E := fun q => za_At p l e { frames := 2, cells := 0, slots := 0, locals := 49 } s m args below meth c D A 8 0 0 Q 171 [(0, .ref (ad 3)), (1, .ref (ad 1)), (2, .ref (ad 2)), (3, .int q.1), (4, .int q.2.1)] [] (wC ad ck q.2.2)) ?_ ?_ _ _ hw45
  · intro q o hf hN hE
    obtain ⟨x3, x4, M⟩ := q
    have hf : B_X3_work_5 n x3 x4 M = some o := hf
    unfold B_X3_work_5 at hf
    refine za_iload C 4 rfl dX3_work_5 ?_
    refine za_bipush (v := (16 : Int32)) C (by decide) dX3_work_7 ?_
    refine za_icmp_gt C 171 (by decide) dX3_work_9 (fun q3 => ?_) (fun q3 => ?_)
    · have hf := z_pos q3 hf
      exact za_sub [0, 1, 2, 3, 4] rfl (hE _ (z_inj hf))
    · have hf := z_neg q3 hf
      refine za_aload_n C 0 rfl rfl dX3_work_12 ?_
      refine zg_C3_0 C in_X3_work_X3 fl_X3_work_9 dX3_work_13 ?_
      refine za_iload C 4 rfl dX3_work_16 ?_
      refine za_iload_n C 3 rfl rfl dX3_work_18 ?_
      obtain ⟨h4, hf⟩ := z_chk hf
      obtain ⟨N5, eN5, hf⟩ := z_st hf
      refine zs_C23 C h4 eN5 dX3_work_19 ?_
      refine za_aload_n C 2 rfl rfl dX3_work_20 ?_
      refine za_iload C 4 rfl dX3_work_21 ?_
      obtain ⟨v7, hc6, hf⟩ := z_bind hf
      refine za_callV (n := 1) (rest := []) C (cX4_inputsOf_ok l D ck ad x4 N5 _ hc6) gX3_work_X4_inputsOf rfl rfl rfl (by decide +kernel) ⟨Nat.le_of_ble_eq_true rfl, Nat.le_of_ble_eq_true rfl⟩ 2 rfl rfl rfl rfl rfl (Nat.le_of_ble_eq_true rfl) ⟨Nat.zero_le _, Nat.zero_le _⟩ dX3_work_23 ?_
      obtain ⟨v8, ev8, hf⟩ := z_lt hf
      refine za_istore C [(5, .int v8), (0, .ref (ad 3)), (1, .ref (ad 1)), (2, .ref (ad 2)), (3, .int x3), (4, .int x4)] ev8 (by decide) rfl dX3_work_26 ?_
      refine za_iconst (v := (0 : Int32)) C (by decide) dX3_work_28 ?_
      obtain ⟨v9, ev9, hf⟩ := z_lt hf
      refine za_istore C [(6, .int v9), (5, .int v8), (0, .ref (ad 3)), (1, .ref (ad 1)), (2, .ref (ad 2)), (3, .int x3), (4, .int x4)] ev9 (by decide) rfl dX3_work_29 ?_
      obtain ⟨v25, N26, hw41, hf⟩ := z_b2 hf
      refine za_sub [2, 3, 4, 5, 6, 1, 0] rfl ?_
      refine z_wl (P := fun q => za_At p l e { frames := 2, cells := 0, slots := 0, locals := 49 } s m args below meth c D A 8 0 0 Q 31 [(0, .ref (ad 3)), (1, .ref (ad 1)), (2, .ref (ad 2)), (3, .int x3), (4, .int x4), (5, .int v8), (6, .int q.1)] [] (wC ad ck q.2)) (E := fun q => za_At p l e { frames := 2, cells := 0, slots := 0, locals := 49 } s m args below meth c D A 8 0 0 Q 117 [(0, .ref (ad 3)), (1, .ref (ad 1)), (2, .ref (ad 2)), (3, .int x3), (4, .int x4), (5, .int v8), (6, .int q.1)] [] (wC ad ck q.2)) ?_ ?_ _ _ hw41
      · intro q o hf hN hE
        obtain ⟨x6, M⟩ := q
        have hf : B_X3_work_31 n x3 x4 v8 x6 M = some o := hf
        unfold B_X3_work_31 at hf
        have j_111 : ∀ (x6 : Int32) (M : zM), K_X3_work_111 n x3 x4 v8 x6 M = some o → za_At p l e { frames := 2, cells := 0, slots := 0, locals := 49 } s m args below meth c D A 8 0 0 Q 111 [(0, .ref (ad 3)), (1, .ref (ad 1)), (2, .ref (ad 2)), (3, .int x3), (4, .int x4), (5, .int v8), (6, .int x6)] [] (wC ad ck M) := by
          intro x6 M hf
          unfold K_X3_work_111 at hf
          obtain ⟨v10, ev10, hf⟩ := z_lt hf
          refine za_iinc (k9 := (1 : Int32)) C [(6, .int v10), (0, .ref (ad 3)), (1, .ref (ad 1)), (2, .ref (ad 2)), (3, .int x3), (4, .int x4), (5, .int v8)] 6 rfl (by decide) ev10 (by decide) rfl dX3_work_111 ?_
          refine za_goto C 31 (by decide) dX3_work_114 ?_
          exact za_sub [1, 2, 3, 4, 5, 6, 0] rfl (hN _ (z_inj hf))
        refine za_iload C 6 rfl dX3_work_31 ?_
        refine za_aload_n C 1 rfl rfl dX3_work_33 ?_
        refine zg_C1_0 C in_X3_work_X2 fl_X3_work_21 dX3_work_34 ?_
        refine za_icmp_ge C 117 (by decide) dX3_work_37 (fun q11 => ?_) (fun q11 => ?_)
        · have hf := z_pos q11 hf
          exact za_sub [0, 1, 2, 3, 4, 5, 6] rfl (hE _ (z_inj hf))
        · have hf := z_neg q11 hf
          refine za_aload_n C 1 rfl rfl dX3_work_40 ?_
          refine zg_C1_3 C in_X3_work_X2 fl_X3_work_27 dX3_work_41 ?_
          refine za_iload C 6 rfl dX3_work_44 ?_
          obtain ⟨h12, hf⟩ := z_chk hf
          refine zl_C6 C h12 dX3_work_46 ?_
          refine za_if_ne C 78 (by decide) dX3_work_47 (fun q13 => ?_) (fun q13 => ?_)
          · have hf := z_neg q13 hf
            refine za_aload_n C 1 rfl rfl dX3_work_78 ?_
            refine zg_C1_3 C in_X3_work_X2 fl_X3_work_27 dX3_work_79 ?_
            refine za_iload C 6 rfl dX3_work_82 ?_
            obtain ⟨h14, hf⟩ := z_chk hf
            refine zl_C6 C h14 dX3_work_84 ?_
            refine za_iconst (v := (5 : Int32)) C (by decide) dX3_work_85 ?_
            refine za_icmp_eq C 111 (by decide) dX3_work_86 (fun q15 => ?_) (fun q15 => ?_)
            · have hf := z_pos q15 hf
              exact za_sub [0, 1, 2, 3, 4, 5, 6] rfl (j_111 x6 M hf)
            · have hf := z_neg q15 hf
              refine za_aload_n C 0 rfl rfl dX3_work_89 ?_
              refine zg_C3_0 C in_X3_work_X3 fl_X3_work_9 dX3_work_90 ?_
              refine za_iload C 4 rfl dX3_work_93 ?_
              refine za_dup2 C rfl rfl dX3_work_95 ?_
              obtain ⟨h16, hf⟩ := z_chk hf
              refine zl_C23 C h16 dX3_work_96 ?_
              refine za_aload_n C 0 rfl rfl dX3_work_97 ?_
              refine za_aload_n C 1 rfl rfl dX3_work_98 ?_
              refine za_iload C 6 rfl dX3_work_99 ?_
              refine za_iload C 4 rfl dX3_work_101 ?_
              obtain ⟨v18, hc17, hf⟩ := z_bind hf
              refine za_callV (n := 3) (rest := [.int (M.1 22 x4.toNatClampNeg), .int x4, .ref (ad 23)]) C (cX3_gateBit_ok l D ck ad x6 x4 M _ hc17) gX3_work_X3_gateBit rfl rfl rfl (by decide +kernel) ⟨Nat.le_of_ble_eq_true rfl, Nat.le_of_ble_eq_true rfl⟩ 3 rfl rfl rfl rfl rfl (Nat.le_of_ble_eq_true rfl) ⟨Nat.zero_le _, Nat.zero_le _⟩ dX3_work_103 ?_
              refine za_iload C 6 rfl dX3_work_106 ?_
              refine za_ishl C dX3_work_108 ?_
              refine za_ior C dX3_work_109 ?_
              obtain ⟨h19, hf⟩ := z_chk hf
              obtain ⟨N20, eN20, hf⟩ := z_st hf
              refine zs_C23 C h19 eN20 dX3_work_110 ?_
              exact za_sub [0, 1, 2, 3, 4, 5, 6] rfl (j_111 x6 N20 hf)
          · have hf := z_pos q13 hf
            refine za_aload_n C 0 rfl rfl dX3_work_50 ?_
            refine zg_C3_0 C in_X3_work_X3 fl_X3_work_9 dX3_work_51 ?_
            refine za_iload C 4 rfl dX3_work_54 ?_
            refine za_dup2 C rfl rfl dX3_work_56 ?_
            obtain ⟨h21, hf⟩ := z_chk hf
            refine zl_C23 C h21 dX3_work_57 ?_
            refine za_iload C 5 rfl dX3_work_58 ?_
            refine za_aload_n C 1 rfl rfl dX3_work_60 ?_
            refine zg_C1_6 C in_X3_work_X2 fl_X3_work_30 dX3_work_61 ?_
            refine za_iload C 6 rfl dX3_work_64 ?_
            obtain ⟨h22, hf⟩ := z_chk hf
            refine zl_C9 C h22 dX3_work_66 ?_
            refine za_ishr C dX3_work_67 ?_
            refine za_iconst (v := (1 : Int32)) C (by decide) dX3_work_68 ?_
            refine za_iand C dX3_work_69 ?_
            refine za_iload C 6 rfl dX3_work_70 ?_
            refine za_ishl C dX3_work_72 ?_
            refine za_ior C dX3_work_73 ?_
            obtain ⟨h23, hf⟩ := z_chk hf
            obtain ⟨N24, eN24, hf⟩ := z_st hf
            refine zs_C23 C h23 eN24 dX3_work_74 ?_
            refine za_goto C 111 (by decide) dX3_work_75 ?_
            exact za_sub [0, 1, 2, 3, 4, 5, 6] rfl (j_111 x6 N24 hf)
      · show za_At p l e { frames := 2, cells := 0, slots := 0, locals := 49 } s m args below meth c D A 8 0 0 Q 117 [(0, .ref (ad 3)), (1, .ref (ad 1)), (2, .ref (ad 2)), (3, .int x3), (4, .int x4), (5, .int v8), (6, .int v25)] [] (wC ad ck N26)
        refine za_iconst (v := (0 : Int32)) C (by decide) dX3_work_117 ?_
        obtain ⟨v27, ev27, hf⟩ := z_lt hf
        refine za_istore_n C [(3, .int v27), (0, .ref (ad 3)), (1, .ref (ad 1)), (2, .ref (ad 2)), (4, .int x4), (5, .int v8), (6, .int v25)] ev27 (by decide) rfl rfl dX3_work_118 ?_
        refine za_iconst (v := (0 : Int32)) C (by decide) dX3_work_119 ?_
        obtain ⟨v28, ev28, hf⟩ := z_lt hf
        refine za_istore C [(6, .int v28), (3, .int v27), (0, .ref (ad 3)), (1, .ref (ad 1)), (2, .ref (ad 2)), (4, .int x4), (5, .int v8)] ev28 (by decide) rfl dX3_work_120 ?_
        obtain ⟨v37, v38, hw40, hf⟩ := z_b2 hf
        refine za_sub [2, 3, 4, 1, 5, 6, 0] rfl ?_
        refine z_wl (P := fun q => za_At p l e { frames := 2, cells := 0, slots := 0, locals := 49 } s m args below meth c D A 8 0 0 Q 122 [(0, .ref (ad 3)), (1, .ref (ad 1)), (2, .ref (ad 2)), (3, .int q.1), (4, .int x4), (5, .int v8), (6, .int q.2)] [] (wC ad ck N26)) (E := fun q => za_At p l e { frames := 2, cells := 0, slots := 0, locals := 49 } s m args below meth c D A 8 0 0 Q 165 [(0, .ref (ad 3)), (1, .ref (ad 1)), (2, .ref (ad 2)), (3, .int q.1), (4, .int x4), (5, .int v8), (6, .int q.2)] [] (wC ad ck N26)) ?_ ?_ _ _ hw40
        · intro q o hf hN hE
          obtain ⟨x3, x6⟩ := q
          have hf : B_X3_work_122 n x3 x4 v8 x6 N26 = some o := hf
          unfold B_X3_work_122 at hf
          refine za_iload C 6 rfl dX3_work_122 ?_
          refine za_aload_n C 1 rfl rfl dX3_work_124 ?_
          refine zg_C1_2 C in_X3_work_X2 fl_X3_work_37 dX3_work_125 ?_
          refine za_icmp_ge C 165 (by decide) dX3_work_128 (fun q29 => ?_) (fun q29 => ?_)
          · have hf := z_pos q29 hf
            exact za_sub [0, 1, 2, 3, 4, 5, 6] rfl (hE _ (z_inj hf))
          · have hf := z_neg q29 hf
            refine za_aload_n C 1 rfl rfl dX3_work_131 ?_
            refine zg_C1_11 C in_X3_work_X2 fl_X3_work_40 dX3_work_132 ?_
            refine za_iload C 6 rfl dX3_work_135 ?_
            obtain ⟨h30, hf⟩ := z_chk hf
            refine zl_C14 C h30 dX3_work_137 ?_
            obtain ⟨v31, ev31, hf⟩ := z_lt hf
            refine za_istore C [(7, .int v31), (0, .ref (ad 3)), (1, .ref (ad 1)), (2, .ref (ad 2)), (3, .int x3), (4, .int x4), (5, .int v8), (6, .int x6)] ev31 (by decide) rfl dX3_work_138 ?_
            refine za_iload_n C 4 rfl rfl dX3_work_140 ?_
            refine za_aload_n C 1 rfl rfl dX3_work_141 ?_
            refine za_aload_n C 2 rfl rfl dX3_work_142 ?_
            refine zg_C1_4 C in_X3_work_X2 fl_X3_work_43 dX3_work_143 ?_
            refine za_iload C 0 rfl dX3_work_146 ?_
            obtain ⟨h32, hf⟩ := z_chk hf
            refine zl_C7 C h32 dX3_work_148 ?_
            refine za_iload C 5 rfl dX3_work_149 ?_
            obtain ⟨v34, hc33, hf⟩ := z_bind hf
            refine za_callV (n := 2) (rest := [.int x3]) C (cX3_bit_ok l D ck ad (N26.1 11 v31.toNatClampNeg) x4 N26 _ hc33) gX3_work_X3_bit rfl rfl rfl (by decide +kernel) ⟨Nat.le_of_ble_eq_true rfl, Nat.le_of_ble_eq_true rfl⟩ 3 rfl rfl rfl rfl rfl (Nat.le_of_ble_eq_true rfl) ⟨Nat.zero_le _, Nat.zero_le _⟩ dX3_work_151 ?_
            refine za_iload C 0 rfl dX3_work_154 ?_
            refine za_ishl C dX3_work_156 ?_
            refine za_ior C dX3_work_157 ?_
            obtain ⟨v35, ev35, hf⟩ := z_lt hf
            refine za_istore_n C [(3, .int v35), (7, .int v31), (0, .ref (ad 3)), (1, .ref (ad 1)), (2, .ref (ad 2)), (4, .int x4), (5, .int v8), (6, .int x6)] ev35 (by decide) rfl rfl dX3_work_158 ?_
            obtain ⟨v36, ev36, hf⟩ := z_lt hf
            refine za_iinc (k9 := (1 : Int32)) C [(6, .int v36), (3, .int v35), (7, .int v31), (0, .ref (ad 3)), (1, .ref (ad 1)), (2, .ref (ad 2)), (4, .int x4), (5, .int v8)] 7 rfl (by decide) ev36 (by decide) rfl dX3_work_159 ?_
            refine za_goto C 122 (by decide) dX3_work_162 ?_
            exact za_sub [3, 4, 5, 1, 6, 7, 0] rfl (hN _ (z_inj hf))
        · show za_At p l e { frames := 2, cells := 0, slots := 0, locals := 49 } s m args below meth c D A 8 0 0 Q 165 [(0, .ref (ad 3)), (1, .ref (ad 1)), (2, .ref (ad 2)), (3, .int v37), (4, .int x4), (5, .int v8), (6, .int v38)] [] (wC ad ck N26)
          obtain ⟨v39, ev39, hf⟩ := z_lt hf
          refine za_iinc (k9 := (1 : Int32)) C [(4, .int v39), (0, .ref (ad 3)), (1, .ref (ad 1)), (2, .ref (ad 2)), (3, .int v37), (5, .int v8), (6, .int v38)] 4 rfl (by decide) ev39 (by decide) rfl dX3_work_165 ?_
          refine za_goto C 5 (by decide) dX3_work_168 ?_
          exact za_sub [1, 2, 3, 4, 0] rfl (hN _ (z_inj hf))
  · show za_At p l e { frames := 2, cells := 0, slots := 0, locals := 49 } s m args below meth c D A 8 0 0 Q 171 [(0, .ref (ad 3)), (1, .ref (ad 1)), (2, .ref (ad 2)), (3, .int v42), (4, .int v43)] [] (wC ad ck N44)
    obtain rfl := z_ret1 hf
    exact za_vret C F dX3_work_171
theorem in_X4_renew_X4 : ∀ w ∈ wsX40, w ∈ wsX4_renew := by decide +kernel
theorem fl_X4_renew_9 : Cond.fieldLink RX4 9 "ThriceNets$Sheets" "form" "[I" ∈ wsX4_renew := by decide +kernel
theorem fl_X4_renew_15 : Cond.fieldLink RX4 15 "ThriceNets$Sheets" "size" "[I" ∈ wsX4_renew := by decide +kernel
theorem fl_X4_renew_20 : Cond.fieldLink RX4 20 "ThriceNets$Sheets" "item" "[[I" ∈ wsX4_renew := by decide +kernel
def pX4_renew (n : Nat) (x1 : Int32) (x2 : Int32) (x3 : Int32) (M0 : zM) : Option (zM) :=
  zchk x1 4 (zst (zsI M0 20 x1.toNatClampNeg x2) (fun N2 => zchk x1 4 (zst (zsI N2 21 x1.toNatClampNeg x3) (fun N4 => zchk x1 4 ((pJ7_fill_53178 n 60 (30 + x1.toNatClampNeg) (0 : Int32) N4).bind (fun N7 => some N7))))))
set_option maxHeartbeats 4000000 in
set_option maxRecDepth 100000 in
theorem cX4_renew_ok (l : Launch) (D : va_G) (ck : Nat → ClassId) (ad : Nat → Nat) (n : Nat) (x1 : Int32) (x2 : Int32) (x3 : Int32) (M0 : zM) (M9 : zM) (hf : pX4_renew n x1 x2 x3 M0 = some M9) : zc l D ck (wC ad ck) yX4_renew wsX4_renew ({ frames := 1, cells := 0, slots := 0, locals := 23 }) [.ref (ad 2), .int x1, .int x2, .int x3] M0 none M9 := by
  refine zc_of (cc := cX4_renew) (maxL := 4) (ret := none) [(0, .ref (ad 2)), (1, .int x1), (2, .int x2), (3, .int x3)] (by decide) rfl (Nat.le_of_ble_eq_true rfl) rfl ?_
  intro p e s m args below meth c A Q C F
  unfold pX4_renew at hf
  refine za_aload_n C 0 rfl rfl dX4_renew_0 ?_
  refine zg_C2_0 C in_X4_renew_X4 fl_X4_renew_9 dX4_renew_1 ?_
  refine za_iload_n C 1 rfl rfl dX4_renew_4 ?_
  refine za_iload_n C 2 rfl rfl dX4_renew_5 ?_
  obtain ⟨h1, hf⟩ := z_chk hf
  obtain ⟨N2, eN2, hf⟩ := z_st hf
  refine zs_C16 C h1 eN2 dX4_renew_6 ?_
  refine za_aload_n C 0 rfl rfl dX4_renew_7 ?_
  refine zg_C2_1 C in_X4_renew_X4 fl_X4_renew_15 dX4_renew_8 ?_
  refine za_iload_n C 1 rfl rfl dX4_renew_11 ?_
  refine za_iload_n C 3 rfl rfl dX4_renew_12 ?_
  obtain ⟨h3, hf⟩ := z_chk hf
  obtain ⟨N4, eN4, hf⟩ := z_st hf
  refine zs_C17 C h3 eN4 dX4_renew_13 ?_
  refine za_aload_n C 0 rfl rfl dX4_renew_14 ?_
  refine zg_C2_2 C in_X4_renew_X4 fl_X4_renew_20 dX4_renew_15 ?_
  refine za_iload_n C 1 rfl rfl dX4_renew_18 ?_
  obtain ⟨h5, hf⟩ := z_chk hf
  refine zl_item C h5 dX4_renew_19 ?_
  refine za_iconst (v := (0 : Int32)) C (by decide) dX4_renew_20 ?_
  obtain ⟨N7, hc6, hf⟩ := z_bind hf
  refine za_callS (n := 2) (rest := []) C (cJ7_fill_53178_ok l D ck (wC ad ck) (ka := 19 + x1.toNatClampNeg) (fun M => wC_row h5) (fun M i x => wC_rows h5 rfl) n (0 : Int32) N4 _ hc6) gX4_renew_J7_fill_53178 rfl rfl rfl (by decide +kernel) ⟨Nat.le_of_ble_eq_true rfl, Nat.le_of_ble_eq_true rfl⟩ rfl rfl (Nat.le_of_ble_eq_true rfl) ⟨Nat.zero_le _, Nat.zero_le _⟩ dX4_renew_21 ?_
  obtain rfl := z_ret1 hf
  exact za_vret C F dX4_renew_24
theorem in_X4_wrongOf_X4 : ∀ w ∈ wsX40, w ∈ wsX4_wrongOf := by decide +kernel
theorem fl_X4_wrongOf_9 : Cond.fieldLink RX4 9 "ThriceNets$Sheets" "form" "[I" ∈ wsX4_wrongOf := by decide +kernel
theorem fl_X4_wrongOf_15 : Cond.fieldLink RX4 15 "ThriceNets$Sheets" "size" "[I" ∈ wsX4_wrongOf := by decide +kernel
def K_X4_wrongOf_38 (x1 : Int32) (x2 : Int32) (x3 : Int32) (M0 : zM) : Option (Int32) :=
  some (2 : Int32)
def pX4_wrongOf (x1 : Int32) (x2 : Int32) (x3 : Int32) (M0 : zM) : Option (Int32) :=
  zchk x1 4 ((if (M0.1 20 x1.toNatClampNeg) = (-1 : Int32) then (some (1 : Int32)) else (zchk x1 4 ((if (M0.1 20 x1.toNatClampNeg) = x2 then (if x3 < 0 then (K_X4_wrongOf_38 x1 x2 x3 M0) else (zchk x1 4 ((if x3 < (M0.1 21 x1.toNatClampNeg) then (some (0 : Int32)) else (K_X4_wrongOf_38 x1 x2 x3 M0))))) else (some (3 : Int32)))))))
set_option maxHeartbeats 4000000 in
set_option maxRecDepth 100000 in
theorem cX4_wrongOf_ok (l : Launch) (D : va_G) (ck : Nat → ClassId) (ad : Nat → Nat) (x1 : Int32) (x2 : Int32) (x3 : Int32) (M0 : zM) (r9 : Int32) (hf : pX4_wrongOf x1 x2 x3 M0 = some r9) : zc l D ck (wC ad ck) yX4_wrongOf wsX4_wrongOf ({ frames := 0, cells := 0, slots := 0, locals := 0 }) [.ref (ad 2), .int x1, .int x2, .int x3] M0 (some (.int r9)) M0 := by
  refine zc_of (cc := cX4_wrongOf) (maxL := 4) (ret := (some .int)) [(0, .ref (ad 2)), (1, .int x1), (2, .int x2), (3, .int x3)] (by decide) rfl (Nat.le_of_ble_eq_true rfl) rfl ?_
  intro p e s m args below meth c A Q C F
  have j_38 : ∀ (x1 : Int32) (x2 : Int32) (x3 : Int32), K_X4_wrongOf_38 x1 x2 x3 M0 = some r9 → za_At p l e { frames := 0, cells := 0, slots := 0, locals := 0 } s m args below meth c D A 4 0 0 Q 38 [(0, .ref (ad 2)), (1, .int x1), (2, .int x2), (3, .int x3)] [] (wC ad ck M0) := by
    intro x1 x2 x3 hf
    unfold K_X4_wrongOf_38 at hf
    refine za_iconst (v := (2 : Int32)) C (by decide) dX4_wrongOf_38 ?_
    refine za_goto C 43 (by decide) dX4_wrongOf_39 ?_
    obtain rfl := z_ret1 hf
    exact za_iret C F dX4_wrongOf_43
  unfold pX4_wrongOf at hf
  refine za_aload_n C 0 rfl rfl dX4_wrongOf_0 ?_
  refine zg_C2_0 C in_X4_wrongOf_X4 fl_X4_wrongOf_9 dX4_wrongOf_1 ?_
  refine za_iload_n C 1 rfl rfl dX4_wrongOf_4 ?_
  obtain ⟨h1, hf⟩ := z_chk hf
  refine zl_C16 C h1 dX4_wrongOf_5 ?_
  refine za_iconst (v := (-1 : Int32)) C (by decide) dX4_wrongOf_6 ?_
  refine za_icmp_ne C 12 (by decide) dX4_wrongOf_7 (fun q2 => ?_) (fun q2 => ?_)
  · have hf := z_neg q2 hf
    refine za_aload_n C 0 rfl rfl dX4_wrongOf_12 ?_
    refine zg_C2_0 C in_X4_wrongOf_X4 fl_X4_wrongOf_9 dX4_wrongOf_13 ?_
    refine za_iload_n C 1 rfl rfl dX4_wrongOf_16 ?_
    obtain ⟨h3, hf⟩ := z_chk hf
    refine zl_C16 C h3 dX4_wrongOf_17 ?_
    refine za_iload_n C 2 rfl rfl dX4_wrongOf_18 ?_
    refine za_icmp_eq C 24 (by decide) dX4_wrongOf_19 (fun q4 => ?_) (fun q4 => ?_)
    · have hf := z_pos q4 hf
      refine za_iload_n C 3 rfl rfl dX4_wrongOf_24 ?_
      refine za_if_lt C 38 (by decide) dX4_wrongOf_25 (fun q5 => ?_) (fun q5 => ?_)
      · have hf := z_pos q5 hf
        exact za_sub [0, 1, 2, 3] rfl (j_38 x1 x2 x3 hf)
      · have hf := z_neg q5 hf
        refine za_iload_n C 3 rfl rfl dX4_wrongOf_28 ?_
        refine za_aload_n C 0 rfl rfl dX4_wrongOf_29 ?_
        refine zg_C2_1 C in_X4_wrongOf_X4 fl_X4_wrongOf_15 dX4_wrongOf_30 ?_
        refine za_iload_n C 1 rfl rfl dX4_wrongOf_33 ?_
        obtain ⟨h6, hf⟩ := z_chk hf
        refine zl_C17 C h6 dX4_wrongOf_34 ?_
        refine za_icmp_lt C 42 (by decide) dX4_wrongOf_35 (fun q7 => ?_) (fun q7 => ?_)
        · have hf := z_pos q7 hf
          refine za_iconst (v := (0 : Int32)) C (by decide) dX4_wrongOf_42 ?_
          obtain rfl := z_ret1 hf
          exact za_iret C F dX4_wrongOf_43
        · have hf := z_neg q7 hf
          exact za_sub [0, 1, 2, 3] rfl (j_38 x1 x2 x3 hf)
    · have hf := z_neg q4 hf
      refine za_iconst (v := (3 : Int32)) C (by decide) dX4_wrongOf_22 ?_
      obtain rfl := z_ret1 hf
      exact za_iret C F dX4_wrongOf_23
  · have hf := z_pos q2 hf
    refine za_iconst (v := (1 : Int32)) C (by decide) dX4_wrongOf_10 ?_
    obtain rfl := z_ret1 hf
    exact za_iret C F dX4_wrongOf_11
theorem in_X4_hasItems_X4 : ∀ w ∈ wsX40, w ∈ wsX4_hasItems := by decide +kernel
theorem fl_X4_hasItems_15 : Cond.fieldLink RX4 15 "ThriceNets$Sheets" "size" "[I" ∈ wsX4_hasItems := by decide +kernel
def K_X4_hasItems_34 (x1 : Int32) (x2 : Int32) (x3 : Int32) (M0 : zM) : Option (Int32) :=
  some (0 : Int32)
def pX4_hasItems (x1 : Int32) (x2 : Int32) (x3 : Int32) (M0 : zM) : Option (Int32) :=
  (if x2 < 0 then (K_X4_hasItems_34 x1 x2 x3 M0) else (if x3 < 0 then (K_X4_hasItems_34 x1 x2 x3 M0) else (zchk x1 4 ((if (M0.1 21 x1.toNatClampNeg) < x2 then (K_X4_hasItems_34 x1 x2 x3 M0) else (zchk x1 4 ((if ((M0.1 21 x1.toNatClampNeg) - x2) < x3 then (K_X4_hasItems_34 x1 x2 x3 M0) else (some (1 : Int32))))))))))
set_option maxHeartbeats 4000000 in
set_option maxRecDepth 100000 in
theorem cX4_hasItems_ok (l : Launch) (D : va_G) (ck : Nat → ClassId) (ad : Nat → Nat) (x1 : Int32) (x2 : Int32) (x3 : Int32) (M0 : zM) (r9 : Int32) (hf : pX4_hasItems x1 x2 x3 M0 = some r9) : zc l D ck (wC ad ck) yX4_hasItems wsX4_hasItems ({ frames := 0, cells := 0, slots := 0, locals := 0 }) [.ref (ad 2), .int x1, .int x2, .int x3] M0 (some (.int r9)) M0 := by
  refine zc_of (cc := cX4_hasItems) (maxL := 4) (ret := (some .boolean)) [(0, .ref (ad 2)), (1, .int x1), (2, .int x2), (3, .int x3)] (by decide) rfl (Nat.le_of_ble_eq_true rfl) rfl ?_
  intro p e s m args below meth c A Q C F
  have j_34 : ∀ (x1 : Int32) (x2 : Int32) (x3 : Int32), K_X4_hasItems_34 x1 x2 x3 M0 = some r9 → za_At p l e { frames := 0, cells := 0, slots := 0, locals := 0 } s m args below meth c D A 4 0 0 Q 34 [(0, .ref (ad 2)), (1, .int x1), (2, .int x2), (3, .int x3)] [] (wC ad ck M0) := by
    intro x1 x2 x3 hf
    unfold K_X4_hasItems_34 at hf
    refine za_iconst (v := (0 : Int32)) C (by decide) dX4_hasItems_34 ?_
    obtain rfl := z_ret1 hf
    exact za_zret C F rfl dX4_hasItems_35
  unfold pX4_hasItems at hf
  refine za_iload_n C 2 rfl rfl dX4_hasItems_0 ?_
  refine za_if_lt C 34 (by decide) dX4_hasItems_1 (fun q1 => ?_) (fun q1 => ?_)
  · have hf := z_pos q1 hf
    exact za_sub [0, 1, 2, 3] rfl (j_34 x1 x2 x3 hf)
  · have hf := z_neg q1 hf
    refine za_iload_n C 3 rfl rfl dX4_hasItems_4 ?_
    refine za_if_lt C 34 (by decide) dX4_hasItems_5 (fun q2 => ?_) (fun q2 => ?_)
    · have hf := z_pos q2 hf
      exact za_sub [0, 1, 2, 3] rfl (j_34 x1 x2 x3 hf)
    · have hf := z_neg q2 hf
      refine za_iload_n C 2 rfl rfl dX4_hasItems_8 ?_
      refine za_aload_n C 0 rfl rfl dX4_hasItems_9 ?_
      refine zg_C2_1 C in_X4_hasItems_X4 fl_X4_hasItems_15 dX4_hasItems_10 ?_
      refine za_iload_n C 1 rfl rfl dX4_hasItems_13 ?_
      obtain ⟨h3, hf⟩ := z_chk hf
      refine zl_C17 C h3 dX4_hasItems_14 ?_
      refine za_icmp_gt C 34 (by decide) dX4_hasItems_15 (fun q4 => ?_) (fun q4 => ?_)
      · have hf := z_pos q4 hf
        exact za_sub [0, 1, 2, 3] rfl (j_34 x1 x2 x3 hf)
      · have hf := z_neg q4 hf
        refine za_iload_n C 3 rfl rfl dX4_hasItems_18 ?_
        refine za_aload_n C 0 rfl rfl dX4_hasItems_19 ?_
        refine zg_C2_1 C in_X4_hasItems_X4 fl_X4_hasItems_15 dX4_hasItems_20 ?_
        refine za_iload_n C 1 rfl rfl dX4_hasItems_23 ?_
        obtain ⟨h5, hf⟩ := z_chk hf
        refine zl_C17 C h5 dX4_hasItems_24 ?_
        refine za_iload_n C 2 rfl rfl dX4_hasItems_25 ?_
        refine za_isub C dX4_hasItems_26 ?_
        refine za_icmp_gt C 34 (by decide) dX4_hasItems_27 (fun q6 => ?_) (fun q6 => ?_)
        · have hf := z_pos q6 hf
          exact za_sub [0, 1, 2, 3] rfl (j_34 x1 x2 x3 hf)
        · have hf := z_neg q6 hf
          refine za_iconst (v := (1 : Int32)) C (by decide) dX4_hasItems_30 ?_
          refine za_goto C 35 (by decide) dX4_hasItems_31 ?_
          obtain rfl := z_ret1 hf
          exact za_zret C F rfl dX4_hasItems_35
def pX4_narrowed (x0 : Int32) (x1 : Int32) (M0 : zM) : Option (Int32) :=
  (if x0 = 0 then (some ((Int32.toInt8 x1).toInt32)) else (if x0 = (1 : Int32) then (some ((Int32.toInt16 x1).toInt32)) else (some x1)))
set_option maxHeartbeats 4000000 in
set_option maxRecDepth 100000 in
theorem cX4_narrowed_ok (l : Launch) (D : va_G) (ck : Nat → ClassId) (ad : Nat → Nat) (x0 : Int32) (x1 : Int32) (M0 : zM) (r9 : Int32) (hf : pX4_narrowed x0 x1 M0 = some r9) : zc l D ck (wC ad ck) yX4_narrowed wsX4_narrowed ({ frames := 0, cells := 0, slots := 0, locals := 0 }) [.int x0, .int x1] M0 (some (.int r9)) M0 := by
  refine zc_of (cc := cX4_narrowed) (maxL := 2) (ret := (some .int)) [(0, .int x0), (1, .int x1)] (by decide) rfl (Nat.le_of_ble_eq_true rfl) rfl ?_
  intro p e s m args below meth c A Q C F
  unfold pX4_narrowed at hf
  refine za_iload_n C 0 rfl rfl dX4_narrowed_0 ?_
  refine za_if_ne C 7 (by decide) dX4_narrowed_1 (fun q1 => ?_) (fun q1 => ?_)
  · have hf := z_neg q1 hf
    refine za_iload_n C 0 rfl rfl dX4_narrowed_7 ?_
    refine za_iconst (v := (1 : Int32)) C (by decide) dX4_narrowed_8 ?_
    refine za_icmp_ne C 17 (by decide) dX4_narrowed_9 (fun q2 => ?_) (fun q2 => ?_)
    · have hf := z_neg q2 hf
      refine za_iload_n C 1 rfl rfl dX4_narrowed_17 ?_
      obtain rfl := z_ret1 hf
      exact za_iret C F dX4_narrowed_18
    · have hf := z_pos q2 hf
      refine za_iload_n C 1 rfl rfl dX4_narrowed_12 ?_
      refine za_i2s C dX4_narrowed_13 ?_
      refine za_goto C 18 (by decide) dX4_narrowed_14 ?_
      obtain rfl := z_ret1 hf
      exact za_iret C F dX4_narrowed_18
  · have hf := z_pos q1 hf
    refine za_iload_n C 1 rfl rfl dX4_narrowed_4 ?_
    refine za_i2b C dX4_narrowed_5 ?_
    obtain rfl := z_ret1 hf
    exact za_iret C F dX4_narrowed_6
