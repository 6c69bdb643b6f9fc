/-! ===== new int[4][60]: a row over the machine's own words; nothing here is of the library's Shelf42 ===== -/
/-- the class cA of int[][] over the class cI of int[], as the tables have them -/
def zAO (U : State) (cI cA : ClassId) : Prop :=
  U.vm.findClass (FieldType.array .int).toString = some cI ∧ U.vm.findClass ("[" ++ (FieldType.array .int).toString) = some cA ∧ ∃ k : Class, U.vm.classes[cA]? = some k ∧ k.kind = .array cI (.array .int)
theorem zAO.moved {u U : State} {cI cA : ClassId} (ha : u.vm.Alike U.vm) (h : zAO u cI cA) : zAO U cI cA := by
  obtain ⟨h1, h2, k, h3, h4⟩ := h
  obtain ⟨k', h5, h6⟩ := ha.2.2 _ _ h3
  exact ⟨by rw [ha.findClass]; exact h1, by rw [ha.findClass]; exact h2, k', h5, by rw [h6]; exact h4⟩
theorem zAO_of {a : Array Value} {s : State} (h : (Cond.arrayOver (.array .int)).before a s = true) : ∃ cI cA, zAO s cI cA := by
  simp only [Cond.before, Cond.holds, Cond.value, beq_iff_eq] at h
  obtain ⟨cI, h1, h⟩ := Option.bind_eq_some_iff.mp h
  obtain ⟨cA, h2, h⟩ := Option.bind_eq_some_iff.mp h
  obtain ⟨k, h3, h⟩ := Option.map_eq_some_iff.mp h
  obtain ⟨hlt, h4, -⟩ := Array.findIdx?_eq_some_iff_getElem.mp h2
  rw [(Array.getElem?_eq_some_iff.mp h3).2] at h4
  refine ⟨cI, cA, h1, ?_, k, h3, ?_⟩
  · cases hk : k.kind <;> rw [hk] at h <;> simp at h
    exact h.2
  · cases hk : k.kind <;> rw [hk] at h h4 <;> simp at h h4
    rw [h4, h.1]
/-- a row of 60 zeros; the grid with i rows in it; a row more -/
def zm_in (cI : ClassId) : Cell := arrV cI 60 (fun _ => .int 0)
def zm_out (cA : ClassId) (q i : Nat) : Cell := arrV cA 4 (fun j => if j < i then .ref (q + 1 + j) else .null)
def zm_go (U : State) (cA cI : ClassId) (q i : Nat) : State := (U.pushCell (zm_in cI)).setCell q (zm_out cA q (i + 1))
def zm_fin (S : State) (cA cI : ClassId) : State :=
  zm_go (zm_go (zm_go (zm_go (S.pushCell (zm_out cA S.heap.size 0)) cA cI S.heap.size 0) cA cI S.heap.size 1) cA cI S.heap.size 2) cA cI S.heap.size 3
/-- what stands after i rows -/
def zm_I (S U : State) (cA cI : ClassId) (i : Nat) : Prop :=
  U.vm = S.vm ∧ U.heap.size = S.heap.size + 1 + i ∧ U.slotsUsed = S.slotsUsed + 4 + i * 60 ∧ U.heap[S.heap.size]? = some (zm_out cA S.heap.size i) ∧ (∀ j : Nat, j < i → U.heap[S.heap.size + 1 + j]? = some (zm_in cI)) ∧ ∀ a : Nat, a < S.heap.size → U.heap[a]? = S.heap[a]?
theorem zm_in_size (cI : ClassId) : (zm_in cI).slots.size = 60 := arrV_size _ _ _
theorem zm_out_size (cA : ClassId) (q i : Nat) : (zm_out cA q i).slots.size = 4 := arrV_size _ _ _
theorem zm_set (cA : ClassId) (q i : Nat) : (zm_out cA q i).setSlot i (.ref (q + 1 + i)) = zm_out cA q (i + 1) := by
  unfold zm_out
  rw [arrV_store]
  congr 1
  funext j
  unfold updV
  dsimp only
  by_cases h : j = i
  · subst h
    rw [if_pos rfl, if_pos (Nat.lt_succ_self _)]
  · by_cases h2 : j < i
    · rw [if_neg h, if_pos h2, if_pos (by omega)]
    · rw [if_neg h, if_neg h2, if_neg (by omega)]
theorem zm_I0 (S : State) (cA cI : ClassId) : zm_I S (S.pushCell (zm_out cA S.heap.size 0)) cA cI 0 := by
  refine ⟨rfl, by simp, ?_, State.heap_pushCell_size _ _, fun j h => absurd h (Nat.not_lt_zero j), fun a h => State.heap_pushCell_of_lt _ _ h⟩
  rw [State.slotsUsed_pushCell, zm_out_size]
theorem zm_I1 {S U : State} {cA cI : ClassId} {i : Nat} (h : zm_I S U cA cI i) : zm_I S (zm_go U cA cI S.heap.size i) cA cI (i + 1) := by
  obtain ⟨h1, h2, h3, h4, h5, h6⟩ := h
  have hp : ∀ a : Nat, a < U.heap.size → (U.pushCell (zm_in cI)).heap[a]? = U.heap[a]? := fun a ha => State.heap_pushCell_of_lt _ _ ha
  refine ⟨h1, ?_, ?_, ?_, fun j hj => ?_, fun a ha => ?_⟩
  · simp [zm_go, State.setCell, h2]
    omega
  · show U.slotsUsed + (zm_in cI).slots.size = _
    rw [h3, zm_in_size]
    omega
  · exact State.heap_setCell_self (c := zm_out cA S.heap.size i) (by rw [hp _ (by omega)]; exact h4)
  · show ((U.pushCell (zm_in cI)).setCell S.heap.size _).heap[S.heap.size + 1 + j]? = _
    rw [State.heap_setCell_other (show S.heap.size ≠ S.heap.size + 1 + j by omega)]
    rcases Nat.lt_or_ge j i with h | h
    · rw [hp _ (by omega)]
      exact h5 j h
    · have e : S.heap.size + 1 + j = U.heap.size := by omega
      rw [e]
      exact State.heap_pushCell_size _ _
  · show ((U.pushCell (zm_in cI)).setCell S.heap.size _).heap[a]? = _
    rw [State.heap_setCell_other (show S.heap.size ≠ a by omega), hp a (by omega)]
    exact h6 a ha
theorem zm_I4 (S : State) (cA cI : ClassId) : zm_I S (zm_fin S cA cI) cA cI 4 := zm_I1 (zm_I1 (zm_I1 (zm_I1 (zm_I0 S cA cI))))
section ZM
variable {p : Program} {l : Launch} {e : Env} {R : Room} {s : State} {m : MethodId} {args : Array Value} {below : List Frame} {meth : Method} {c : Code} {locs : List Loc} {cells slots : Nat}
theorem zm_X1 {S U : State} {cA cI : ClassId} {i : Nat} (X : Stand p l e R s m args below meth c U locs cells slots) (h : zm_I S U cA cI i) : Stand p l e R s m args below meth c (zm_go U cA cI S.heap.size i) (locs ++ [⟨S.heap.size, i⟩]) (cells + 1) (slots + 60) := by
  have h0 : S.heap.size < U.heap.size := by have := h.2.1; omega
  have h4 : (U.pushCell (zm_in cI)).heap[S.heap.size]? = some (zm_out cA S.heap.size i) := by rw [State.heap_pushCell_of_lt (h := h0)]; exact h.2.2.2.1
  have X1 := (X.pushed (zm_in cI)).stored h4 i (.ref (S.heap.size + 1 + i))
  rw [zm_set, zm_in_size] at X1
  exact X1
theorem zm_X4 {S : State} {cA cI : ClassId} (X : Stand p l e R s m args below meth c S locs cells slots) : Stand p l e R s m args below meth c (zm_fin S cA cI) locs (cells + 1 + 4) (slots + 4 + 4 * 60) := by
  have X0 := X.pushed (zm_out cA S.heap.size 0)
  rw [zm_out_size] at X0
  have i0 := zm_I0 S cA cI
  have i1 := zm_I1 i0
  have i2 := zm_I1 i1
  have X4 := zm_X1 (zm_X1 (zm_X1 (zm_X1 X0 i0) i1) i2) (zm_I1 i2)
  have hg := X.heapGrown
  have one : ∀ i : Nat, ∀ x ∈ [(⟨S.heap.size, i⟩ : Loc)], s.heap.size ≤ x.base := fun i x hx => by
    rw [List.mem_singleton.mp hx]
    exact hg
  exact (((X4.dropFresh (one 3)).dropFresh (one 2)).dropFresh (one 1)).dropFresh (one 0)
end ZM
section ZMW
variable {E : CtlPost} {e : Env} {d : Bool} {acts : List Action}
theorem zm_wpIn {U : State} {Q : Addr → Pre} {cI cc : ClassId} {k : Class} (hk : U.vm.classes[cI]? = some k) (hkind : k.kind = .array cc .int) (hl : 60 ≤ e.platform.arrayLengthLimit) (hh : 240 ≤ e.platform.maxHeapBytes) (h1 : U.heap.size < e.platform.maxCells) (h2 : U.slotsUsed + 60 ≤ e.platform.maxSlots)
    (hq : ∀ acts', Q U.heap.size d acts' (U.pushCell (zm_in cI))) : wp (multianewarray.make cI [60]) Q E e d acts U := by
  have h0 : ¬ (60 : Int32) < 0 := by decide
  have e60 : (60 : Int32).toNatClampNeg = 60 := rfl
  rw [multianewarray.make]
  simp only [wp_bind', Jvm.W.ite, h0, if_false, wp_pure', Jvm.W.theClass, hk, hkind, Option.some.injEq, exists_eq_left']
  rw [e60]
  refine Jvm.W.newArray_of hk hkind (by omega) (by show ¬ 60 * 4 > _; omega) h1 h2 rfl (fun a' => ?_)
  have hv := hq a'
  rw [zm_in, ← arrV_new] at hv
  exact hv
theorem zm_wpRow {S U : State} {f : JFrame} {Q : ForInStep PUnit → Pre} {cA cI cc : ClassId} {kA k : Class} {i : Nat} (hI : zm_I S U cA cI i) (hi : i < 4) (hkA : S.vm.classes[cA]? = some kA) (hkindA : kA.kind = .array cI (.array .int)) (hk : S.vm.classes[cI]? = some k) (hkind : k.kind = .array cc .int)
    (hl : 60 ≤ e.platform.arrayLengthLimit) (hh : 240 ≤ e.platform.maxHeapBytes) (h1 : S.heap.size + 5 ≤ e.platform.maxCells) (h2 : S.slotsUsed + 244 ≤ e.platform.maxSlots)
    (hq : ∀ d' acts', Q (.yield PUnit.unit) d' acts' ((zm_go U cA cI S.heap.size i).setTop f)) : wp (multianewarray.make cI [60]) (fun a => wp (do Jvm.writeLoc S.heap.size i (.ref a); Pure.pure (ForInStep.yield PUnit.unit)) Q E e) E e d acts (U.setTop f) := by
  obtain ⟨i1, i2, i3, i4, -, -⟩ := hI
  refine zm_wpIn (U := U.setTop f) (k := k) (cc := cc) (by show U.vm.classes[cI]? = _; rw [i1]; exact hk) hkind hl hh (by show U.heap.size < _; omega) (by show U.slotsUsed + 60 ≤ _; omega) (fun acts' => ?_)
  have hc : (U.pushCell (zm_in cI)).heap[S.heap.size]? = some (zm_out cA S.heap.size i) := by
    rw [State.heap_pushCell_of_lt (h := show S.heap.size < U.heap.size by omega)]
    exact i4
  rw [wp_bind', Jvm.W.writeLoc]
  refine ⟨zm_out cA S.heap.size i, hc, by show VmData.none ≠ _; simp, by rw [zm_out_size]; exact hi, ?_, ?_⟩
  · show State.fitsSlot _ cA .none i _ = true
    have hv : ((U.setTop f).pushCell (zm_in cI)).vm.classes[cA]? = some kA := by show U.vm.classes[cA]? = _; rw [i1]; exact hkA
    simp only [State.fitsSlot, State.slotType?, hv, hkindA, Option.bind_eq_bind, Option.bind_some]
    rfl
  · have e1 : (U.setTop f).heap.size = S.heap.size + 1 + i := i2
    rw [e1, zm_set]
    exact hq _ _
theorem zm_wpAll {S : State} {f : JFrame} {Q : Addr → Pre} {cA cI cc : ClassId} {kA k : Class} (hkA : S.vm.classes[cA]? = some kA) (hkindA : kA.kind = .array cI (.array .int)) (hk : S.vm.classes[cI]? = some k) (hkind : k.kind = .array cc .int)
    (hl : 60 ≤ e.platform.arrayLengthLimit) (hh : 240 ≤ e.platform.maxHeapBytes) (h1 : S.heap.size + 5 ≤ e.platform.maxCells) (h2 : S.slotsUsed + 244 ≤ e.platform.maxSlots)
    (hq : ∀ d' acts', Q S.heap.size d' acts' ((zm_fin S cA cI).setTop f)) : wp (multianewarray.make cA [4, 60]) Q E e d acts (S.setTop f) := by
  have h0 : ¬ (4 : Int32) < 0 := by decide
  have e4 : (4 : Int32).toNatClampNeg = 4 := rfl
  have z4 : ((4 : Int32) == 0) = false := by decide
  have hkA' : (S.setTop f).vm.classes[cA]? = some kA := hkA
  rw [multianewarray.make]
  simp only [wp_bind', Jvm.W.ite, h0, if_false, wp_pure', Jvm.W.theClass, hkA', hkindA, Option.some.injEq, exists_eq_left']
  rw [e4]
  refine Jvm.W.newArray_of (s := S.setTop f) hkA' hkindA (by omega) (by show ¬ 4 * 4 > _; omega) (by show S.heap.size < _; omega) (by show S.slotsUsed + 4 ≤ _; omega) rfl (fun a' => ?_)
  have eo : ({ cls := cA, slots := Array.replicate 4 .null } : Cell) = zm_out cA S.heap.size 0 := arrV_new cA 4 .null
  rw [eo]
  simp only [z4, Bool.false_eq_true, if_false, wp_bind', wp_pure', Std.Legacy.Range.forIn_eq_forIn_range']
  have er : List.range' (Std.Legacy.Range.start [:4]) (Std.Legacy.Range.size [:4]) (Std.Legacy.Range.step [:4]) = [0, 1, 2, 3] := rfl
  rw [er]
  simp only [List.forIn_cons, List.forIn_nil, wp_bind', wp_pure', State.heap_setTop, State.pushCell_setTop]
  have i0 := zm_I0 S cA cI
  have i1 := zm_I1 i0
  have i2 := zm_I1 i1
  refine zm_wpRow (U := S.pushCell (zm_out cA S.heap.size 0)) i0 (by omega) hkA hkindA hk hkind hl hh h1 h2 (fun d1 a1 => ?_)
  simp only [wp_bind', wp_pure', State.heap_setTop]
  refine zm_wpRow i1 (by omega) hkA hkindA hk hkind hl hh h1 h2 (fun d2 a2 => ?_)
  simp only [wp_bind', wp_pure', State.heap_setTop]
  refine zm_wpRow i2 (by omega) hkA hkindA hk hkind hl hh h1 h2 (fun d3 a3 => ?_)
  simp only [wp_bind', wp_pure', State.heap_setTop]
  refine zm_wpRow (zm_I1 i2) (by omega) hkA hkindA hk hkind hl hh h1 h2 (fun d4 a4 => ?_)
  simp only [wp_bind', wp_pure', State.heap_setTop]
  exact hq _ _
end ZMW
section ZMS
variable {p : Program} {l : Launch} {e : Env} {R : Room} {s : State} {m : MethodId} {args : Array Value} {below : List Frame} {meth : Method} {c : Code} {T : State} {locs : List Loc} {cells slots : Nat}
theorem zm_step (X : Stand p l e R s m args below meth c T locs cells slots) (hexec : p.tables.exec = Jvm.exec) {own : String} {index : Nat} (hown : s.vm.findClass own = some m.cls) (hcl : (Cond.classLink own index ("[" ++ (FieldType.array .int).toString)).before args s = true) {cI cA : ClassId} (hO : zAO s cI cA) (harr : (Cond.arrayClass .int).before args s = true)
    {g : JFrame} (hg : g.method = m) (hdg : decode c.code g.pc = .ok (.multianewarray index 2, 4)) {rest : List Value} (hst : g.stack = .int 60 :: .int 4 :: rest) (hc : cells + 5 ≤ R.cells) (hs : slots + 244 ≤ R.slots) :
    ∃ vm₁ : Vm, Stand p l e R s m args below meth c (zm_fin (T.setVm vm₁) cA cI) locs (cells + 1 + 4) (slots + 4 + 4 * 60) ∧
      ∀ target, Steps p.tables e below ((zm_fin (T.setVm vm₁) cA cI).setTop { g with pc := g.pc + 4, stack := .ref T.heap.size :: rest }) target → Steps p.tables e below (T.setTop g) target := by
  subst hg
  obtain ⟨hI1, hA1, kA, hA2, hA3⟩ := hO
  obtain ⟨cI', kI, cc, hI2, hI3, hI4⟩ := Cond.arrayClass_spec harr
  have eI : cI' = cI := Option.some.inj (hI2.symm.trans hI1)
  subst eI
  obtain ⟨cA', hA4, hlk⟩ := Cond.classLink_spec hown hcl e.platform (by rw [X.admits.platform])
  have eA : cA' = cA := Option.some.inj (hA4.symm.trans hA1)
  subst eA
  obtain ⟨hres, hwarm, -⟩ := State.classEntry (e := e) X.warmed hlk
  generalize T.vm.noted g.method.cls index (.cls cA') = vm₁ at hres hwarm
  obtain ⟨kA1, hA5, hA6⟩ := hwarm.alike.2.2 _ _ hA2
  obtain ⟨kI1, hI5, hI6⟩ := hwarm.alike.2.2 _ _ hI3
  obtain ⟨r1, r2⟩ := X.roomAbove hc hs
  have XF := zm_X4 (cA := cA') (cI := cI') (X.noted hwarm)
  refine ⟨vm₁, XF, fun target hgo => ?_⟩
  jvm_step X.here [hexec, hdg]
  simp only [multianewarray.sem, wp_bind', Jvm.W.resolveClassAt_links (State.method?_setTop g X.here.top) hres]
  rw [Jvm.W.popN, if_neg (by decide)]
  refine ⟨g, State.topJava?_setTop' (s := T.setVm vm₁) g X.here.top, [.int 4, .int 60], rest, rfl, hst, ?_⟩
  simp only [List.mapM_cons, List.mapM_nil, wp_bind', wp_pure']
  have eS : ((T.setTop g).setVm vm₁).setTop { g with stack := rest } = (T.setVm vm₁).setTop { g with stack := rest } := State.setTop_setTop (T.setVm vm₁) g _
  rw [eS]
  refine zm_wpAll (S := T.setVm vm₁) hA5 (by rw [hA6]; exact hA3) hI5 (by rw [hI6]; exact hI4) (by rw [Launch.admits_arrayLengthLimit X.admits]; omega) (by rw [Launch.admits_maxHeapBytes X.admits]; omega) r1 r2 (fun d' acts' => ?_)
  simp only [wp_bind', Jvm.W.mark, Jvm.W.pushRef, State.topJava?_setTop' _ XF.here.top, Option.some.injEq, exists_eq_left', State.setTop_setTop]
  intro acts
  rw [afterInstr_ok]
  exact hgo
end ZMS
