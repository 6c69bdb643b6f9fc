/-! ===== the law's world: the class's cells, then the reference's ===== -/
def wL (adC adR : Nat → Nat) (ck : Nat → ClassId) (mc mr : zM) : va_W := wC adC ck mc ++ wR adR ck mr
theorem zP_l {D : va_G} {cl : List vw_C} {a b : va_W} {H : Heap} (h : va_P D cl (a ++ b) H) : va_P D cl a H := fun k q hk => h k q (by
  rw [List.getElem?_append_left (List.getElem?_eq_some_iff.mp hk).1]; exact hk)
theorem zP_r {D : va_G} {cl : List vw_C} {a b : va_W} {H : Heap} (h : va_P D cl (a ++ b) H) : va_P D cl b H := fun k q hk => h (a.length + k) q (by
  rw [List.getElem?_append_right (Nat.le_add_right _ _), Nat.add_sub_cancel_left]; exact hk)
theorem zD_l {A : Nat → Prop} {a b : va_W} (h : va_D A (a ++ b)) : va_D A a := by
  have e : ∀ (k : Nat) (q : Nat × va_E), a[k]? = some q → (a ++ b)[k]? = some q := fun k q hk => by
    rw [List.getElem?_append_left (List.getElem?_eq_some_iff.mp hk).1]; exact hk
  exact ⟨fun i j p q hi hj => h.1 i j p q (e _ _ hi) (e _ _ hj), fun k q hk => h.2 k q (e _ _ hk)⟩
theorem zD_r {A : Nat → Prop} {a b : va_W} (h : va_D A (a ++ b)) : va_D A b := by
  have e : ∀ (k : Nat) (q : Nat × va_E), b[k]? = some q → (a ++ b)[a.length + k]? = some q := fun k q hk => by
    rw [List.getElem?_append_right (Nat.le_add_right _ _), Nat.add_sub_cancel_left]; exact hk
  exact ⟨fun i j p q hi hj hpq => by have := h.1 _ _ p q (e _ _ hi) (e _ _ hj) hpq; omega, fun k q hk => h.2 _ q (e _ _ hk)⟩
theorem zD_x {A : Nat → Prop} {a b : va_W} (h : va_D A (a ++ b)) : ∀ (i j : Nat) (p q : Nat × va_E), a[i]? = some p → b[j]? = some q → p.1 ≠ q.1 := fun i j p q hi hj hpq => by
  have hl := (List.getElem?_eq_some_iff.mp hi).1
  have := h.1 i (a.length + j) p q (by rw [List.getElem?_append_left hl]; exact hi) (by rw [List.getElem?_append_right (Nat.le_add_right _ _), Nat.add_sub_cancel_left]; exact hj) hpq
  omega
section ZLAW
variable {p : Program} {l : Launch} {e : Env} {R : Room} {s : State} {m : MethodId} {args : Array Value} {below : List Frame} {meth : Method} {c : Code} {Q : State → Prop}
variable {cc : ByteArray} {nL : Nat} {Ts : List Cond} {own : String} {D : va_G} {ck : Nat → ClassId} {A : Nat → Prop}
variable {pc kc ks : Nat} {lv : List (Nat × Value)} {st : List Value} {w : va_W}
theorem za_topi {x y : Int32} (e9 : y = x) (h : za_At p l e R s m args below meth c D A nL kc ks Q pc lv (.int y :: st) w) : za_At p l e R s m args below meth c D A nL kc ks Q pc lv (.int x :: st) w := by subst e9; exact h
theorem za_sld (C : za_Cx p s m args c cc nL Ts own D ck A) {b L : Nat} {xs : Nat → Int32} (hX : va_X b L xs s s.heap) (hbl : b < s.heap.size) (hbA : ¬ A b) {i : Int32} (hi : vp_in i L) (d : decode cc pc = .ok (.iaload, 1)) (h : za_At p l e R s m args below meth c D A nL kc ks Q (pc + 1) lv (.int (xs i.toNatClampNeg) :: st) w) : za_At p l e R s m args below meth c D A nL kc ks Q pc lv (.int i :: .ref b :: st) w := fun H locs ls hP hD hS hl => va_sld C.1.1 C.1.2.1 hX hbl hbA hS hi d (h H locs ls hP hD hS hl)
theorem za_slen (C : za_Cx p s m args c cc nL Ts own D ck A) {b L : Nat} {xs : Nat → Int32} (hX : va_X b L xs s s.heap) (hbl : b < s.heap.size) (hbA : ¬ A b) (d : decode cc pc = .ok (.arraylength, 1)) (h : za_At p l e R s m args below meth c D A nL kc ks Q (pc + 1) lv (.int (nI L) :: st) w) : za_At p l e R s m args below meth c D A nL kc ks Q pc lv (.ref b :: st) w := fun H locs ls hP hD hS hl => va_slen C.1.1 C.1.2.1 hX hbl hbA hS d (h H locs ls hP hD hS hl)
/-- a call over a part wf M of the world; what stands before and behind it stays -/
theorem za_backF (C : za_Cx p s m args c cc nL Ts own D ck A) {wf : zM → va_W} {wa wb : va_W} {M M' : zM} {rv : Option Value} {rest : List Value} {a : Array Value} {H : Heap} {locs : List Loc} {ls : Array Slot} (hP : va_P D vwCl (wa ++ wf M ++ wb) H) (hD : va_D A (wa ++ wf M ++ wb)) (hS : va_S A s.heap H locs) (hl : lv_has ls nL lv)
    (hr : va_Run p l e R s m args below meth c H locs kc ks 0 0 (F0 m pc ls st) rest (zc_post D ck wf M rv M' H.size a) (va_A (wf M) H.size))
    (h : za_At p l e R s m args below meth c D A nL kc ks Q (pc + 3) lv (rv.toList ++ rest) (wa ++ wf M' ++ wb)) : W p l e R s m args below meth c H locs kc ks Q (F0 m pc ls st) := by
  intro T hT X
  obtain ⟨v, st₀, t, T', L, h0, X', hL, e1, e2, ⟨⟨hv, hP1, hK1, hD1⟩, hz, hk⟩, st⟩ := hr T hT X
  cases hv
  rw [h0] at hz hk
  rw [← e1] at hP1 hz hk
  have hPa := zP_l (zP_l hP)
  have hPb := zP_r hP
  have hDa := zD_l (zD_l hD)
  have hDm := zD_r (zD_l hD)
  have hDb := zD_r hD
  have hAo := za_Aof C.2.2 hDm hS
  have xa : ∀ (k : Nat) (q : Nat × va_E), wa[k]? = some q → ¬ va_A (wf M) H.size q.1 := fun k q hk hA => by
    rcases hA with ⟨j, e9, hj⟩ | hA
    · exact zD_x (zD_l hD) k j q _ hk hj rfl
    · exact absurd (hPa k q hk).lt (Nat.not_lt.mpr hA)
  have xb : ∀ (k : Nat) (q : Nat × va_E), wb[k]? = some q → ¬ va_A (wf M) H.size q.1 := fun k q hk hA => by
    rcases hA with ⟨j, e9, hj⟩ | hA
    · have hj' : (wa ++ wf M)[wa.length + j]? = some (q.1, e9) := by
        rw [List.getElem?_append_right (Nat.le_add_right _ _), Nat.add_sub_cancel_left]; exact hj
      exact zD_x hD _ k _ q hj' hk rfl
    · exact absurd (hPb k q hk).lt (Nat.not_lt.mpr hA)
  have hPa1 : va_P D vwCl wa T'.heap := hPa.kept (fun k q hq => hk q.1 (hPa k q hq).lt (xa k q hq))
  have hPb1 : va_P D vwCl wb T'.heap := hPb.kept (fun k q hq => hk q.1 (hPb k q hq).lt (xb k q hq))
  have hD1' : va_D A (wf M') := hD1.weaken (fun _ _ _ q => hAo _ q)
  have hDam : va_D A (wa ++ wf M') := va_D.app hDa hD1' (fun i j p q hi hj hpq => xa i p hi (by rw [hpq]; exact hD1.2 j q hj))
  have hDall : va_D A (wa ++ wf M' ++ wb) := va_D.app hDam hDb (fun i j p q hi hj hpq => by
    by_cases hlt : i < wa.length
    · rw [List.getElem?_append_left hlt] at hi
      have hi' : (wa ++ wf M)[i]? = some p := by rw [List.getElem?_append_left hlt]; exact hi
      exact zD_x hD i j p q hi' hj hpq
    · rw [List.getElem?_append_right (by omega)] at hi
      exact xb j q hj (by rw [← hpq]; exact hD1.2 _ p hi))
  obtain ⟨t2, a1, b1⟩ := h T'.heap (locs ++ L) ls ((hPa1.app hP1).app hPb1) hDall ⟨Nat.le_trans hS.1 hz, fun q h1 h2 => by rw [hk q (Nat.lt_of_lt_of_le h1 hS.1) (fun z => h2 (hAo q z))]; exact hS.2.1 q h1 h2, fun q hq => by
      rcases List.mem_append.mp hq with h | h
      · exact hS.2.2 q h
      · exact hAo _ (hL q h)⟩ hl T' rfl X'
  exact ⟨t2, st t2 a1, b1⟩
theorem za_callF (C : za_Cx p s m args c cc nL Ts own D ck A) {wf : zM → va_W} {wa wb : va_W} {M M' : zM} {rv : Option Value} {y : MethodName} {ws ws' : List Cond} {rm : Room} {bytes : ByteArray} {maxL index b ci n : Nat} {ret : Option FieldType} {Cn : String} {As rest : List Value} {fs : List Value} {q : vw_C} (hM : zc l D ck wf y ws rm (.ref b :: As) M rv M') (hg : GoodIn Ts (wsV own index Cn y ws)) (hw : ws = Cond.code y bytes maxL ret :: ws') (hrc : rm.cells = 0) (hrs : rm.slots = 0)
    (hd : y.cls = Cn ∧ y.cls ≠ "java/lang/invoke/MethodHandle" ∧ y.cls ≠ "java/lang/invoke/VarHandle" ∧ (parseMethodDescriptor y.desc).map (fun d => d.parameters.length) = some n) (hR : rm.frames + 1 ≤ R.frames ∧ 8 + (maxL + 11) + rm.locals ≤ R.locals) (q0 : Nat) (he : (wf M)[q0]? = some (b, .inr (ci, fs))) (hc : vwCl[ci]? = some q) (hq : q.1 = Cn) (hn : As.length = n) (hst : st = As.reverse ++ .ref b :: rest) (hroom : (rest.map fun v => v.category).sum ≤ 8) (hcs : kc + 0 ≤ R.cells ∧ ks + 0 ≤ R.slots) (d : decode cc pc = .ok (.invokevirtual index, 3))
    (h : za_At p l e R s m args below meth c D A nL kc ks Q (pc + 3) lv (rv.toList ++ rest) (wa ++ wf M' ++ wb)) : za_At p l e R s m args below meth c D A nL kc ks Q pc lv st (wa ++ wf M ++ wb) := by
  intro H locs ls hP hD hS hl
  subst hq
  have hPm := zP_r (zP_l hP)
  have hDm := zD_r (zD_l hD)
  refine za_backF C hP hD hS hl (va_runV (As := As) (rest := rest) C.1 (hM H.size) (cwV n C.1.2.2.2.2 hg hw hrc hrs hd hR) ⟨zc_blind, va_recv C.2.1 hPm hc he, fun U hU hW => ⟨rfl, by rw [hU], by rw [hU]; exact hPm, va_K.moved hW.alike C.2.1, hDm.weaken (fun _ _ _ _ => trivial)⟩⟩ rfl hn hl.1 hst (lv_room (m := m) (pc := pc) (ls := ls) (rest := rest) hroom) d hcs) h
theorem za_callCL (C : za_Cx p s m args c cc nL Ts own D ck A) {adC adR : Nat → Nat} {M Mr M' : zM} {rv : Option Value} {y : MethodName} {ws ws' : List Cond} {rm : Room} {bytes : ByteArray} {maxL index n : Nat} {ret : Option FieldType} {As rest : List Value} (hM : zc l D ck (wC adC ck) y ws rm (.ref (adC 0) :: As) M rv M') (hg : GoodIn Ts (wsV own index RX5 y ws)) (hw : ws = Cond.code y bytes maxL ret :: ws') (hrc : rm.cells = 0) (hrs : rm.slots = 0)
    (hd : y.cls = RX5 ∧ y.cls ≠ "java/lang/invoke/MethodHandle" ∧ y.cls ≠ "java/lang/invoke/VarHandle" ∧ (parseMethodDescriptor y.desc).map (fun d => d.parameters.length) = some n) (hR : rm.frames + 1 ≤ R.frames ∧ 8 + (maxL + 11) + rm.locals ≤ R.locals) (hn : As.length = n) (hst : st = As.reverse ++ .ref (adC 0) :: rest) (hroom : (rest.map fun v => v.category).sum ≤ 8) (hcs : kc + 0 ≤ R.cells ∧ ks + 0 ≤ R.slots) (d : decode cc pc = .ok (.invokevirtual index, 3))
    (h : za_At p l e R s m args below meth c D A nL kc ks Q (pc + 3) lv (rv.toList ++ rest) (wL adC adR ck M' Mr)) : za_At p l e R s m args below meth c D A nL kc ks Q pc lv st (wL adC adR ck M Mr) :=
  za_callF (wa := []) (wb := wR adR ck Mr) C hM hg hw hrc hrs hd hR 0 rfl rfl rfl hn hst hroom hcs d h
theorem za_callRL (C : za_Cx p s m args c cc nL Ts own D ck A) {adC adR : Nat → Nat} {M Mc M' : zM} {rv : Option Value} {y : MethodName} {ws ws' : List Cond} {rm : Room} {bytes : ByteArray} {maxL index n : Nat} {ret : Option FieldType} {As rest : List Value} (hM : zc l D ck (wR adR ck) y ws rm (.ref (adR 0) :: As) M rv M') (hg : GoodIn Ts (wsV own index RX6 y ws)) (hw : ws = Cond.code y bytes maxL ret :: ws') (hrc : rm.cells = 0) (hrs : rm.slots = 0)
    (hd : y.cls = RX6 ∧ y.cls ≠ "java/lang/invoke/MethodHandle" ∧ y.cls ≠ "java/lang/invoke/VarHandle" ∧ (parseMethodDescriptor y.desc).map (fun d => d.parameters.length) = some n) (hR : rm.frames + 1 ≤ R.frames ∧ 8 + (maxL + 11) + rm.locals ≤ R.locals) (hn : As.length = n) (hst : st = As.reverse ++ .ref (adR 0) :: rest) (hroom : (rest.map fun v => v.category).sum ≤ 8) (hcs : kc + 0 ≤ R.cells ∧ ks + 0 ≤ R.slots) (d : decode cc pc = .ok (.invokevirtual index, 3))
    (h : za_At p l e R s m args below meth c D A nL kc ks Q (pc + 3) lv (rv.toList ++ rest) (wL adC adR ck Mc M')) : za_At p l e R s m args below meth c D A nL kc ks Q pc lv st (wL adC adR ck Mc M) := by
  have e1 : wL adC adR ck Mc M = wC adC ck Mc ++ wR adR ck M ++ [] := (List.append_nil _).symm
  have e2 : wL adC adR ck Mc M' = wC adC ck Mc ++ wR adR ck M' ++ [] := (List.append_nil _).symm
  rw [e1]
  rw [e2] at h
  exact za_callF (wa := wC adC ck Mc) (wb := []) C hM hg hw hrc hrs hd hR 0 rfl rfl rfl hn hst hroom hcs d h
end ZLAW
