/-! ===== constructors: rows that make cells, a contract whose world grows ===== -/
/-- what the tables say beyond the words: the class of int[][], the links of the nest's private constructors -/
def zEx (U : State) : Prop := (∃ cI cA, zAO U cI cA) ∧ va_Nw (.methodLinkNest "ThriceNets" 9 yX2_init "ThriceNets") U ∧ va_Nw (.methodLinkNest "ThriceNets" 25 yX3_init "ThriceNets") U ∧ va_Nw (.methodLinkNest "ThriceNets" 32 yX0_init "ThriceNets") U ∧ va_Nw (.methodLinkNest "ThriceNets" 39 yX1_init "ThriceNets") U
theorem zEx.warm {s U : State} (hW : s.WarmedH U.vm) (h : zEx s) : zEx U :=
  ⟨Exists.elim h.1 fun cI q => Exists.elim q fun cA q => ⟨cI, cA, q.moved hW.alike⟩, va_Nw.warmM hW h.2.1, va_Nw.warmM hW h.2.2.1, va_Nw.warmM hW h.2.2.2.1, va_Nw.warmM hW h.2.2.2.2⟩
theorem zEx.same {s U : State} (hv : s.vm = U.vm) (h : zEx s) : zEx U :=
  ⟨Exists.elim h.1 fun cI q => Exists.elim q fun cA q => ⟨cI, cA, q.moved (by rw [hv]; exact Vm.Alike.refl _)⟩, va_Nw.same rfl hv h.2.1, va_Nw.same rfl hv h.2.2.1, va_Nw.same rfl hv h.2.2.2.1, va_Nw.same rfl hv h.2.2.2.2⟩
section ZN
variable {p : Program} {l : Launch} {e : Env} {R : Room} {s : State} {m : MethodId} {args : Array Value} {below : List Frame} {meth : Method} {c : Code} {Q : State → Prop}
variable {cc : ByteArray} {nL : Nat} {Ts : List Cond} {own : String} {D : va_G} {ck : Nat → ClassId} {A : Nat → Prop}
variable {pc kc ks : Nat} {lv : List (Nat × Value)} {st : List Value} {w : va_W}
theorem za_wid {kc' ks' : Nat} (h1 : kc ≤ kc') (h2 : ks ≤ ks') (h : za_At p l e R s m args below meth c D A nL kc' ks' Q pc lv st w) : za_At p l e R s m args below meth c D A nL kc ks Q pc lv st w :=
  fun H locs ls hP hD hS hl => W.widen h1 h2 (h H locs ls hP hD hS hl)
theorem za_objI (C : za_Cx p s m args c cc nL Ts own D ck A) {idx : Nat} {a : Nat} (h1 : Cond.methodLink own idx objectInit ∈ Ts) (h2 : Cond.instanceMethod objectInit ∈ Ts) (h3 : Cond.code objectInit ⟨#[0xb1]⟩ 1 none ∈ Ts) (hR1 : 1 ≤ R.frames) (hR2 : 12 ≤ R.locals) (d : decode cc pc = .ok (.invokespecial idx, 3))
    (h : za_At p l e R s m args below meth c D A nL kc ks Q (pc + 3) lv [] w) : za_At p l e R s m args below meth c D A nL kc ks Q pc lv [.ref a] w := by
  intro H locs ls hP hD hS hl
  refine W.objInit (g := F0 m pc ls [.ref a]) (a := a) (rest := []) C.1.1 C.1.2.1 C.1.2.2.2.1 (C.1.2.2.2.2 _ h1) (C.1.2.2.2.2 _ h2) (C.1.2.2.2.2 _ h3) rfl (by rw [C.1.2.2.1]; exact hl.1) rfl d hR1 hR2 ?_
  exact W.eq (g2 := F0 m (pc + 3) ls []) rfl (h H locs ls hP hD hS hl)
theorem za_newa (C : za_Cx p s m args c cc nL Ts own D ck A) {atype : ArrayType} {ty : FieldType} (hty : newarray.typeOf atype = ty) (harr : Cond.arrayClass (newarray.typeOf atype) ∈ Ts) (j : Nat) (hj : (tyl ck)[j]? = some (ck j, ty)) (hra : ∀ cA, va_RA s cA ty → s.vm.findClass ("[" ++ ty.toString) = some cA)
    {n : Int32} {N' : Nat} {a0 : vp_A} (ha : ∀ cA : ClassId, vp_cell cA a0 = arrV cA N' (fun _ => defaultValue ty)) (hn : ¬ n < 0) (hN : n.toNatClampNeg = N') (hbytes : N' * componentBytes ty ≤ 536870912) (hc : kc + 1 ≤ R.cells) (hs : ks + N' ≤ R.slots) (d : decode cc pc = .ok (.newarray atype, 2))
    (h : ∀ q : Nat, za_At p l e R s m args below meth c D A nL (kc + 1) (ks + N') Q (pc + 2) lv (.ref q :: st) (w ++ [(q, .inl (ck j, a0))])) : za_At p l e R s m args below meth c D A nL kc ks Q pc lv (.int n :: st) w := by
  intro H locs ls hP hD hS hl
  refine va_newa C.1.1 C.1.2.1 (C.1.2.2.2.2 _ harr) hty C.2.1 hP hD hS C.2.2 ha hn hN hbytes hc hs d (fun q cA H1 hK hP hD hS => ?_)
  have e1 := hK.2 (tyl ck).length (cA, ty) (by rw [List.getElem?_append_right (Nat.le_refl _), Nat.sub_self]; rfl)
  have e2 := C.2.1.2 j _ hj
  have e3 : cA = ck j := Option.some.inj ((hra _ e1.2).symm.trans (hra _ e2.2))
  rw [e3] at hP hD
  exact h q H1 locs ls hP hD hS hl
theorem za_newI (C : za_Cx p s m args c cc nL Ts own D ck A) (harr : Cond.arrayClass .int ∈ Ts) {n : Int32} (N' : Nat) (hn : ¬ n < 0) (hN : n.toNatClampNeg = N') (hb : N' ≤ 10000) (hc : kc + 1 ≤ R.cells) (hs : ks + N' ≤ R.slots) (d : decode cc pc = .ok (.newarray .int, 2))
    (h : ∀ q : Nat, za_At p l e R s m args below meth c D A nL (kc + 1) (ks + N') Q (pc + 2) lv (.ref q :: st) (w ++ [(q, .inl (ck 0, N', .inl (fun _ => (0 : Int32))))])) : za_At p l e R s m args below meth c D A nL kc ks Q pc lv (.int n :: st) w :=
  za_newa (atype := .int) (ty := .int) C rfl harr 0 rfl (fun _ h => h) (fun _ => rfl) hn hN (by show N' * 4 ≤ _; omega) hc hs d h
theorem za_newZ (C : za_Cx p s m args c cc nL Ts own D ck A) (harr : Cond.arrayClass .boolean ∈ Ts) {n : Int32} (N' : Nat) (hn : ¬ n < 0) (hN : n.toNatClampNeg = N') (hb : N' ≤ 10000) (hc : kc + 1 ≤ R.cells) (hs : ks + N' ≤ R.slots) (d : decode cc pc = .ok (.newarray .boolean, 2))
    (h : ∀ q : Nat, za_At p l e R s m args below meth c D A nL (kc + 1) (ks + N') Q (pc + 2) lv (.ref q :: st) (w ++ [(q, .inl (ck 1, N', .inl (fun _ => (0 : Int32))))])) : za_At p l e R s m args below meth c D A nL kc ks Q pc lv (.int n :: st) w :=
  za_newa (atype := .boolean) (ty := .boolean) C rfl harr 1 rfl (fun _ h => h) (fun _ => rfl) hn hN (by show N' * 1 ≤ _; omega) hc hs d h
theorem za_newJ (C : za_Cx p s m args c cc nL Ts own D ck A) (harr : Cond.arrayClass .long ∈ Ts) {n : Int32} (N' : Nat) (hn : ¬ n < 0) (hN : n.toNatClampNeg = N') (hb : N' ≤ 10000) (hc : kc + 1 ≤ R.cells) (hs : ks + N' ≤ R.slots) (d : decode cc pc = .ok (.newarray .long, 2))
    (h : ∀ q : Nat, za_At p l e R s m args below meth c D A nL (kc + 1) (ks + N') Q (pc + 2) lv (.ref q :: st) (w ++ [(q, .inl (ck 2, N', .inr (.inl (fun _ => (0 : Int64)))))])) : za_At p l e R s m args below meth c D A nL kc ks Q pc lv (.int n :: st) w :=
  za_newa (atype := .long) (ty := .long) C rfl harr 2 rfl (fun _ h => h) (fun _ => rfl) hn hN (by show N' * 8 ≤ _; omega) hc hs d h
theorem za_new (C : za_Cx p s m args c cc nL Ts own D ck A) {Cn : String} {T : u_T} {N ci index : Nat} (hin : ∀ w ∈ u_ws Cn T N, w ∈ Ts) (ty0 : Nat → FieldType) (hty : ∀ k, k < N → parseFieldDescriptor (T k).2.2.1 = some (ty0 k)) (hcl : Cond.classLink own index Cn ∈ Ts) (hinst : Cond.instantiable Cn N ∈ Ts) (hini : Cond.initialized Cn ∈ Ts) (hc : vwCl[ci]? = some (Cn, T, N)) {fs : List Value} (hfs : ∀ j, j < N → defaultValue (ty0 j) = vp_V fs j) (hcells : kc + 1 ≤ R.cells) (hslots : ks + N ≤ R.slots) (d : decode cc pc = .ok (.new index, 3))
    (h : ∀ q : Nat, za_At p l e R s m args below meth c D A nL (kc + 1) (ks + N) Q (pc + 3) lv (.ref q :: st) (w ++ [(q, .inr (ci, fs))])) : za_At p l e R s m args below meth c D A nL kc ks Q pc lv st w := by
  intro H locs ls hP hD hS hl
  exact va_new C.1.1 C.1.2.1 C.1.2.2.2.2 hin ty0 hty C.1.2.2.2.1 (C.1.2.2.2.2 _ hcl) (C.1.2.2.2.2 _ hinst) (C.1.2.2.2.2 _ hini) C.2.1 hP hD hS C.2.2 hc hfs hcells hslots d (fun q H1 hP hD hS => h q H1 locs ls hP hD hS hl)
theorem za_putF (C : za_Cx p s m args c cc nL Ts own D ck A) (hn2 : meth.name = "<init>") {Cn : String} {T : u_T} {N ci index : Nat} (hin : ∀ w ∈ u_ws Cn T N, w ∈ Ts) (ty0 : Nat → FieldType) (hty : ∀ k, k < N → parseFieldDescriptor (T k).2.2.1 = some (ty0 k)) (hnm : ∀ a, a < N → ∀ b, b < N → a ≠ b → (T a).2.1 ≠ (T b).2.1) (q0 : Nat) {a : Nat} {fs : List Value} (he : w[q0]? = some (a, .inr (ci, fs))) (hc : vwCl[ci]? = some (Cn, T, N)) (k : Nat) (hk : k < N) {ref nm ds : String} (hlink : Cond.fieldLink own index ref nm ds ∈ Ts) (hT : T k = (ref, nm, ds, true)) (ho : ref = own) {ty : FieldType} {v : Value} (hd : ty0 k = ty) (hn : narrow ty v = v) (hfit : fits ty v = true) (hl9 : k < fs.length) {w' : va_W} (hw : w.set q0 (a, .inr (ci, fs.set k v)) = w') (d : decode cc pc = .ok (.putfield index, 3)) (h : za_At p l e R s m args below meth c D A nL kc ks Q (pc + 3) lv (st) w') : za_At p l e R s m args below meth c D A nL kc ks Q pc lv (v :: .ref a :: st) w := by
  intro H locs ls hP hD hS hl
  have h1 : (T k).1 = ref := by rw [hT]
  have h2 : (T k).2.1 = nm := by rw [hT]
  have h3 : (T k).2.2.1 = ds := by rw [hT]
  have h4 : (T k).2.2.2 = true := by rw [hT]
  have h5 : (T k).1 = own := by rw [h1]; exact ho
  clear hT ho
  subst h1; subst h2; subst h3; subst hd
  subst hw
  exact va_putF (D := D) (cl := vwCl) C.1.1 C.1.2.1 C.1.2.2.2.2 hin ty0 hty hnm C.1.2.2.2.1 C.2.1 hP hD hS q0 he hc k hk (C.1.2.2.2.2 _ hlink) (fun _ h9 => h9) h4 hn2 h5 (hty k hk) hn hfit hl9 d (fun H locs hP hD hS => h H locs ls hP hD hS hl)
/-! the contract of a constructor -/
def zn_pre (D : va_G) (ck : Nat → ClassId) (h0 : Nat) (w0 : va_W) (sz : Nat) : Array Value → State → Prop :=
  va_Pc [.ref h0] (fun U => U.heap.size = sz ∧ va_P D vwCl w0 U.heap ∧ va_K D vwCl (tyl ck) U ∧ va_D (fun _ => True) w0 ∧ zEx U)
def zn_post (D : va_G) (w0 : va_W) (Pw : va_W → Prop) (sz : Nat) : Array Value → State → Outcome → State → Prop :=
  fun _ st oc t => (oc = .returned none ∧ ∃ w1, Pw w1 ∧ va_P D vwCl w1 t.heap ∧ va_D (va_A w0 sz) w1) ∧ va_F (va_A w0 sz) st t
def zn (l : Launch) (D : va_G) (ck : Nat → ClassId) (y : MethodName) (ws : List Cond) (rm : Room) (h0 : Nat) (w0 : va_W) (Pw : va_W → Prop) (mc ms : Nat) : Prop :=
  ∀ sz : Nat, Met l y ws rm (zn_pre D ck h0 w0 sz) (zn_post D w0 Pw sz) mc ms (va_A w0 sz)
theorem zn_blind {h0 : Nat} {w0 : va_W} {sz : Nat} : FrameBlind (zn_pre D ck h0 w0 sz) := fun a U g mk q => by
  obtain ⟨q0, q1, qP, qK, qD, qE⟩ := q
  exact ⟨q0, q1, qP, va_K.moved (u := U) (U := U.calling g mk a) (Vm.Alike.refl U.vm) qK, qD, zEx.same (s := U) (U := U.calling g mk a) rfl qE⟩
def za_Nf (s : State) (meth : Method) (below : List Frame) (args : Array Value) (D : va_G) (A : Nat → Prop) (Q : State → Prop) (w0 : va_W) (Pw : va_W → Prop) (mc ms : Nat) : Prop :=
  meth.sig.returnType = none ∧ meth.locks = false ∧ meth.name = "<init>" ∧ zEx s ∧ A = va_A w0 s.heap.size ∧ Q = MQ below (zn_post D w0 Pw s.heap.size) args s mc ms A
theorem za_nret (C : za_Cx p s m args c cc nL Ts own D ck A) {w0 : va_W} {Pw : va_W → Prop} (F : za_Nf s meth below args D A Q w0 Pw kc ks) (hw : Pw w) (d : decode cc pc = .ok (.return_, 1)) : za_At p l e R s m args below meth c D A nL kc ks Q pc lv [] w := by
  intro H locs ls hP hD hS hl
  obtain ⟨h1, h2, -, -, h3, h4⟩ := F
  subst h4
  subst h3
  exact W.vret C.1.1 C.1.2.1 h1 (fun t ht hW => ⟨⟨rfl, w, hw, by rw [ht]; exact hP, hD⟩, hS.F ht⟩) hS.2.2 d h2
theorem zn_of {y : MethodName} {ws ws' : List Cond} {rm : Room} {cc : ByteArray} {h0 : Nat} {w0 : va_W} {Pw : va_W → Prop} {mc ms : Nat} (hy : plainName y.cls = true) (hw : ws = Cond.code y cc 1 none :: ws') (hyn : y.name = "<init>")
    (body : ∀ (p : Program) (e : Env) (s : State) (m : MethodId) (args : Array Value) (below : List Frame) (meth : Method) (c : Code) (A : Nat → Prop) (Q : State → Prop), za_Cx p s m args c cc 1 ws y.cls D ck A → za_Nf s meth below args D A Q w0 Pw mc ms → za_At p l e rm s m args below meth c D A 1 0 0 Q 0 [(0, .ref h0)] [] w0) : zn l D ck y ws rm h0 w0 Pw mc ms := by
  intro sz
  refine Met.ofW (cc := cc) (maxL := 1) (ret := none) hy hw ?_
  intro p e s m args below meth c s₁ B hml hv
  obtain ⟨rfl, hsz, hP, hK, hD0, hE⟩ := hv
  have hx := B.exec
  have hb := B.bytes
  have hr := B.returns
  have hts := atoms_spec (ws := ws) B.pre
  have hown : s.vm.findClass y.cls = some m.cls := findClass_of_methodNamed B.named
  have hlocks := B.notSynchronized
  have hin : meth.name = "<init>" := ((name_of_methodNamed B.named B.method).1).trans hyn
  subst hsz
  have hD := hD0.self (sz := s.heap.size)
  rw [lg_entry_eq]
  have hl := lv_entry [.ref h0] (n := 1) (Nat.le_of_ble_eq_true rfl)
  exact body p e s m _ below meth c (va_A w0 s.heap.size) _ ⟨⟨hx, hb, hml, hown, hts⟩, hK, fun q h => Or.inr h⟩ ⟨hr, hlocks, hin, hE, rfl, rfl⟩ s.heap [] _ hP hD va_S.rf hl
theorem za_backN (C : za_Cx p s m args c cc nL Ts own D ck A) {wa w0 : va_W} {Pw : va_W → Prop} {mc ms : Nat} {rest : List Value} {a : Array Value} {H : Heap} {locs : List Loc} {ls : Array Slot} (hP : va_P D vwCl (wa ++ w0) H) (hD : va_D A (wa ++ w0)) (hS : va_S A s.heap H locs) (hl : lv_has ls nL lv)
    (hr : va_Run p l e R s m args below meth c H locs kc ks mc ms (F0 m pc ls st) rest (zn_post D w0 Pw H.size a) (va_A w0 H.size))
    (h : ∀ w1, Pw w1 → za_At p l e R s m args below meth c D A nL (kc + mc) (ks + ms) Q (pc + 3) lv rest (wa ++ w1)) : W p l e R s m args below meth c H locs kc ks Q (F0 m pc ls st) := by
  intro T hT X
  obtain ⟨v, st₀, t, T', L, h0, X', hL, e1, e2, ⟨⟨hv, w1, hPw, hP1, hD1⟩, hz, hk⟩, st⟩ := hr T hT X
  cases hv
  rw [h0] at hz hk
  rw [← e1] at hP1 hz hk
  have hPa := zP_l hP
  have hDa := zD_l hD
  have hDm := zD_r hD
  have hAo := za_Aof C.2.2 hDm hS
  have xa : ∀ (k : Nat) (q : Nat × va_E), wa[k]? = some q → ¬ va_A w0 H.size q.1 := fun k q hk hA => by
    rcases hA with ⟨j, e9, hj⟩ | hA
    · exact zD_x hD k j q _ hk hj rfl
    · exact absurd (hPa k q hk).lt (Nat.not_lt.mpr hA)
  have hPa1 : va_P D vwCl wa T'.heap := hPa.kept (fun k q hq => hk q.1 (hPa k q hq).lt (xa k q hq))
  have hD1' : va_D A w1 := hD1.weaken (fun _ _ _ q => hAo _ q)
  have hDam : va_D A (wa ++ w1) := va_D.app hDa hD1' (fun i j p q hi hj hpq => xa i p hi (by rw [hpq]; exact hD1.2 j q hj))
  obtain ⟨t2, a1, b1⟩ := h w1 hPw T'.heap (locs ++ L) ls (hPa1.app hP1) hDam ⟨Nat.le_trans hS.1 hz, fun q h1 h2 => by rw [hk q (Nat.lt_of_lt_of_le h1 hS.1) (fun z => h2 (hAo q z))]; exact hS.2.1 q h1 h2, fun q hq => by
      rcases List.mem_append.mp hq with h | h
      · exact hS.2.2 q h
      · exact hAo _ (hL q h)⟩ hl T' rfl X'
  exact ⟨t2, st t2 a1, b1⟩
theorem za_callI (C : za_Cx p s m args c cc nL Ts own D ck A) (hE : zEx s) {wa w0 : va_W} {Pw : va_W → Prop} {h0 : Nat} {mc ms : Nat} {y : MethodName} {ws ws' : List Cond} {rm : Room} {bytes : ByteArray} {maxL index : Nat} {rest : List Value} (hM : zn l D ck y ws rm h0 w0 Pw mc ms) (hg : GoodIn Ts ws) (hw : ws = Cond.code y bytes maxL none :: ws') (hrc : rm.cells = mc) (hrs : rm.slots = ms) (hini : Cond.initialized y.cls ∈ Ts) (hlk : Cond.methodLink own index y ∈ Ts) (hin : Cond.instanceMethod y ∈ Ts) (hy1 : y.name = "<init>")
    (hd : y.cls ≠ "java/lang/invoke/MethodHandle" ∧ y.cls ≠ "java/lang/invoke/VarHandle" ∧ (parseMethodDescriptor y.desc).map (fun d => d.parameters.length) = some 0) (hR : rm.frames + 1 ≤ R.frames ∧ 8 + (maxL + 11) + rm.locals ≤ R.locals) (hroom : (rest.map fun v => v.category).sum ≤ 8) (hcs : kc + mc ≤ R.cells ∧ ks + ms ≤ R.slots) (d : decode cc pc = .ok (.invokespecial index, 3))
    (h : ∀ w1, Pw w1 → za_At p l e R s m args below meth c D A nL (kc + mc) (ks + ms) Q (pc + 3) lv rest (wa ++ w1)) : za_At p l e R s m args below meth c D A nL kc ks Q pc lv (.ref h0 :: rest) (wa ++ w0) := by
  intro H locs ls hP hD hS hl
  have hPm := zP_r hP
  have hDm := zD_r hD
  exact za_backN C hP hD hS hl (va_runI (As := []) (rest := rest) (b := h0) C.1 (hM H.size) (cwI 0 C.1.2.2.2.2 hg hw hrc hrs (C.1.2.2.2.2 _ hini) (C.1.2.2.2.2 _ hlk) (C.1.2.2.2.2 _ hin) hy1 hd hR) ⟨zn_blind, fun U hU hW => ⟨rfl, by rw [hU], by rw [hU]; exact hPm, va_K.moved hW.alike C.2.1, hDm.weaken (fun _ _ _ _ => trivial), hE.warm hW⟩⟩ rfl rfl hl.1 rfl (lv_room (m := m) (pc := pc) (ls := ls) (rest := rest) hroom) d hcs) h
theorem za_callIN (C : za_Cx p s m args c cc nL Ts own D ck A) (hE : zEx s) {wa w0 : va_W} {Pw : va_W → Prop} {h0 : Nat} {mc ms : Nat} {y : MethodName} {ws ws' : List Cond} {rm : Room} {bytes : ByteArray} {maxL index : Nat} {host : String} {rest : List Value} (hM : zn l D ck y ws rm h0 w0 Pw mc ms) (hg : GoodIn Ts ws) (hw : ws = Cond.code y bytes maxL none :: ws') (hrc : rm.cells = mc) (hrs : rm.slots = ms) (hini : Cond.initialized y.cls ∈ Ts) (hlk : va_Nw (.methodLinkNest own index y host) s) (hin : Cond.instanceMethod y ∈ Ts) (hy1 : y.name = "<init>")
    (hd : y.cls ≠ "java/lang/invoke/MethodHandle" ∧ y.cls ≠ "java/lang/invoke/VarHandle" ∧ (parseMethodDescriptor y.desc).map (fun d => d.parameters.length) = some 0) (hR : rm.frames + 1 ≤ R.frames ∧ 8 + (maxL + 11) + rm.locals ≤ R.locals) (hroom : (rest.map fun v => v.category).sum ≤ 8) (hcs : kc + mc ≤ R.cells ∧ ks + ms ≤ R.slots) (d : decode cc pc = .ok (.invokespecial index, 3))
    (h : ∀ w1, Pw w1 → za_At p l e R s m args below meth c D A nL (kc + mc) (ks + ms) Q (pc + 3) lv rest (wa ++ w1)) : za_At p l e R s m args below meth c D A nL kc ks Q pc lv (.ref h0 :: rest) (wa ++ w0) := by
  intro H locs ls hP hD hS hl
  have hPm := zP_r hP
  have hDm := zD_r hD
  exact za_backN C hP hD hS hl (va_runIN (As := []) (rest := rest) (b := h0) C.1 (hM H.size) ⟨va_cnB 0 C.1.2.2.2.2 hg hw hrc hrs hlk (C.1.2.2.2.2 _ hini) hd hR, hy1, C.1.2.2.2.2 _ hin⟩ ⟨zn_blind, fun U hU hW => ⟨rfl, by rw [hU], by rw [hU]; exact hPm, va_K.moved hW.alike C.2.1, hDm.weaken (fun _ _ _ _ => trivial), hE.warm hW⟩⟩ rfl rfl hl.1 rfl (lv_room (m := m) (pc := pc) (ls := ls) (rest := rest) hroom) d hcs) h
/-- new int[4][60] -/
def zrow (cA : ClassId) (q : Nat) : Nat × va_E := (q, .inl (cA, 60, .inl (fun _ => (0 : Int32))))
def zgrid (ck : Nat → ClassId) (q : Nat) : va_W := [(q, .inl (ck 3, 4, .inr (.inr (.inr (.inr (fun i => if i < 4 then some (q + 1 + i) else none)))))), zrow (ck 0) (q + 1 + 0), zrow (ck 0) (q + 1 + 1), zrow (ck 0) (q + 1 + 2), zrow (ck 0) (q + 1 + 3)]
theorem zouter (cA : ClassId) (h0 : Nat) : zm_out cA h0 4 = vp_cell cA (4, .inr (.inr (.inr (.inr (fun i => if i < 4 then some (h0 + 1 + i) else none))))) := by
  have e : vp_cell cA (4, .inr (.inr (.inr (.inr (fun i => if i < 4 then some (h0 + 1 + i) else none))))) = arrV cA 4 (fun j => va_rf (if j < 4 then some (h0 + 1 + j) else none)) := rfl
  rw [e, zm_out]
  congr 1
  funext j
  by_cases h : j < 4
  · rw [if_pos h, if_pos h]
    rfl
  · rw [if_neg h, if_neg h]
    rfl
theorem zinner (cA : ClassId) : zm_in cA = vp_cell cA (60, .inl (fun _ => (0 : Int32))) := by
  rw [vp_cell_i]
  rfl
theorem zgrid_at {q : Nat} {k : Nat} {x : Nat × va_E} (h : (zgrid ck q)[k]? = some x) : (k = 0 ∧ x = (q, .inl (ck 3, 4, .inr (.inr (.inr (.inr (fun i => if i < 4 then some (q + 1 + i) else none))))))) ∨ ∃ j, j < 4 ∧ k = j + 1 ∧ x = zrow (ck 0) (q + 1 + j) := by
  match k, h with
  | 0, h => exact Or.inl ⟨rfl, (Option.some.inj h).symm⟩
  | 1, h => exact Or.inr ⟨0, by omega, rfl, (Option.some.inj h).symm⟩
  | 2, h => exact Or.inr ⟨1, by omega, rfl, (Option.some.inj h).symm⟩
  | 3, h => exact Or.inr ⟨2, by omega, rfl, (Option.some.inj h).symm⟩
  | 4, h => exact Or.inr ⟨3, by omega, rfl, (Option.some.inj h).symm⟩
  | k + 5, h => cases h
theorem za_multi (C : za_Cx p s m args c cc nL Ts own D ck A) (hE : zEx s) {index : Nat} (hcl : Cond.classLink own index "[[I" ∈ Ts) (harr : Cond.arrayClass .int ∈ Ts) (hcells : kc + (1 + 4) ≤ R.cells) (hslots : ks + (4 + 4 * 60) ≤ R.slots) (d : decode cc pc = .ok (.multianewarray index 2, 4))
    (h : ∀ q : Nat, za_At p l e R s m args below meth c D A nL (kc + 1 + 4) (ks + 4 + 4 * 60) Q (pc + 4) lv (.ref q :: st) (w ++ zgrid ck q)) : za_At p l e R s m args below meth c D A nL kc ks Q pc lv (.int 60 :: .int 4 :: st) w := by
  intro H locs ls hP hD hS hl T hT X
  obtain ⟨cI, cA, hO⟩ := hE.1
  have eA : cA = ck 3 := Option.some.inj (hO.2.1.symm.trans (C.2.1.2 3 _ rfl).2)
  have eC : cI = ck 0 := Option.some.inj (hO.1.symm.trans (C.2.1.2 0 _ rfl).2)
  subst eA; subst eC; subst hT
  obtain ⟨vm₁, X1, stp⟩ := zm_step X C.1.1 (own := own) (index := index) C.1.2.2.2.1 (C.1.2.2.2.2 _ hcl) hO (C.1.2.2.2.2 _ harr)
    (g := F0 m pc ls (.int 60 :: .int 4 :: st)) rfl (by rw [C.1.2.1]; exact d) (rest := st) rfl hcells hslots
  obtain ⟨-, f1, -, f2, fi, fo⟩ := zm_I4 (T.setVm vm₁) (ck 3) (ck 0)
  generalize hT2 : zm_fin (T.setVm vm₁) (ck 3) (ck 0) = T2 at X1 stp f1 f2 fo fi
  have z0 : (T.setVm vm₁).heap = T.heap := rfl
  rw [z0] at f1 f2
  simp only [z0] at fo fi
  have hPw : va_P D vwCl w T2.heap := hP.kept (fun k q hq => fo q.1 (hP k q hq).lt)
  have hPg : va_P D vwCl (zgrid ck T.heap.size) T2.heap := by
    intro k x hx
    rcases zgrid_at hx with ⟨-, rfl⟩ | ⟨j, hj, -, rfl⟩
    · show T2.heap[T.heap.size]? = some (vp_cell _ _)
      rw [f2, zouter]
    · show T2.heap[T.heap.size + 1 + j]? = some (vp_cell (ck 0) (60, .inl (fun _ => (0 : Int32))))
      rw [fi j hj, zinner]
  have hDg : va_D A (zgrid ck T.heap.size) := by
    refine ⟨fun i j p q hi hj hpq => ?_, fun k q hk => ?_⟩
    · rcases zgrid_at hi with ⟨rfl, rfl⟩ | ⟨a, ha, rfl, rfl⟩ <;> rcases zgrid_at hj with ⟨rfl, rfl⟩ | ⟨b, hb, rfl, rfl⟩
      · rfl
      · have : T.heap.size = T.heap.size + 1 + b := hpq
        omega
      · have : T.heap.size + 1 + a = T.heap.size := hpq
        omega
      · have : T.heap.size + 1 + a = T.heap.size + 1 + b := hpq
        omega
    · rcases zgrid_at hk with ⟨-, rfl⟩ | ⟨a, ha, -, rfl⟩
      · exact C.2.2 _ hS.1
      · exact C.2.2 _ (Nat.le_trans hS.1 (by show T.heap.size ≤ T.heap.size + 1 + a; omega))
  have hDall : va_D A (w ++ zgrid ck T.heap.size) := va_D.app hD hDg (fun i j p q hi hj hpq => by
    have hlt := (hP i p hi).lt
    rcases zgrid_at hj with ⟨-, rfl⟩ | ⟨a, ha, -, rfl⟩
    · have : p.1 = T.heap.size := hpq
      omega
    · have : p.1 = T.heap.size + 1 + a := hpq
      omega)
  obtain ⟨t2, a1, b1⟩ := h T.heap.size T2.heap locs ls (hPw.app hPg) hDall ⟨Nat.le_trans hS.1 (by rw [f1]; omega), fun q h1 h2 => by rw [fo q (Nat.lt_of_lt_of_le h1 hS.1)]; exact hS.2.1 q h1 h2, hS.2.2⟩ hl T2 rfl X1
  exact ⟨t2, stp t2 a1, b1⟩
end ZN
