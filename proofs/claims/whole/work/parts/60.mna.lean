/-! A table of nine rows of sixty: the one instruction for which the kit has no row. -/
theorem mn_over {args : Array Value} {s : State} (h : (Cond.arrayOver (.array .int)).before args s = true) :
    ∃ (cB cA : ClassId) (k : Class), s.vm.findClass "[I" = some cB ∧ s.vm.findClass "[[I" = some cA ∧ s.vm.classes[cA]? = some k ∧ k.kind = .array cB (.array .int) := by
  have h : (Cond.arrayOver (.array .int)).holds args s none s [] = true := h
  have e1 : (FieldType.array FieldType.int).toString = "[I" := by decide +kernel
  have e2 : "[" ++ (FieldType.array FieldType.int).toString = "[[I" := by decide +kernel
  unfold Cond.holds at h
  have h : (Cond.arrayOver (.array .int)).value args s none s [] = some true := eq_of_beq h
  simp only [Cond.value, e1, e2] at h
  cases hc : s.vm.findClass "[I" with
  | none => rw [hc] at h; cases h
  | some cB =>
    rw [hc] at h
    obtain ⟨cA, hf, h⟩ := Option.bind_eq_some_iff.mp (show (Array.findIdx? _ s.vm.classes).bind _ = some true from h)
    obtain ⟨k, hk, h⟩ := Option.map_eq_some_iff.mp h
    obtain ⟨hlt, hp, -⟩ := Array.findIdx?_eq_some_iff_getElem.mp hf
    have hkk : s.vm.classes[cA] = k := (Array.getElem?_eq_some_iff.mp hk).2
    rw [hkk] at hp
    cases hkind : k.kind with
    | array cc ty =>
      rw [hkind] at h hp
      have h1 := Bool.and_eq_true_iff.mp h
      have t1 := of_decide_eq_true h1.1
      have t2 := of_decide_eq_true h1.2
      have t3 : cc = cB := eq_of_beq hp
      exact ⟨cB, cA, k, rfl, t2, hk, by rw [hkind, t1, t3]⟩
    | _ => rw [hkind] at h; cases h
/-- the class of the tables -/
def mn_k (U : State) : Prop := ∃ (cB cA : ClassId) (k : Class), U.vm.findClass "[I" = some cB ∧ U.vm.findClass "[[I" = some cA ∧ U.vm.classes[cA]? = some k ∧ k.kind = .array cB (.array .int)
theorem mn_k_moved {u U : State} (hvm : u.vm.Alike U.vm) (h : mn_k u) : mn_k U := by
  obtain ⟨cB, cA, k, h1, h2, h3, h4⟩ := h
  obtain ⟨k1, hk1, e1⟩ := hvm.2.2 _ _ h3
  exact ⟨cB, cA, k1, by rw [hvm.findClass]; exact h1, by rw [hvm.findClass]; exact h2, hk1, by rw [e1]; exact h4⟩
/-- the table with i of its rows, a row -/
def mn_o (cA : ClassId) (h i : Nat) : Cell := arrV cA 9 (fun j => if j < i then .ref (h + 1 + j) else .null)
def mn_r (cB : ClassId) : Cell := arrV cB 60 (fun _ => .int 0)
def mn_F (U : State) (cA cB : ClassId) (i : Nat) (T : State) : Prop := T.vm = U.vm ∧ T.heap.size = U.heap.size + 1 + i ∧ T.slotsUsed = U.slotsUsed + 9 + 60 * i ∧ (∀ q, q < U.heap.size → T.heap[q]? = U.heap[q]?) ∧ T.heap[U.heap.size]? = some (mn_o cA U.heap.size i) ∧ ∀ j, j < i → T.heap[U.heap.size + 1 + j]? = some (mn_r cB)
theorem mn_o_set (cA : ClassId) (h i : Nat) : (mn_o cA h i).setSlot i (.ref (h + 1 + i)) = mn_o cA h (i + 1) := by
  unfold mn_o
  rw [arrV_store]
  congr 1
  funext j
  unfold updV
  by_cases e : j = i
  · subst e
    rw [if_pos rfl, if_pos (by omega)]
  · rw [if_neg e]
    show (if j < i then Value.ref (h + 1 + j) else Value.null) = _
    by_cases g : j < i
    · rw [if_pos g, if_pos (by omega)]
    · rw [if_neg g, if_neg (by omega)]
section SNM
variable {p : Program} {l : Launch} {e : Env} {R : Room} {s : State} {m : MethodId} {args : Array Value} {below : List Frame} {meth : Method} {c : Code} {locs : List Loc} {cells slots : Nat} {Q : State → Prop}
theorem mn_zero {U : State} {cA cB : ClassId} (X : Stand p l e R s m args below meth c U locs cells slots) : Stand p l e R s m args below meth c (U.pushCell { cls := cA, slots := Array.replicate 9 .null }) locs (cells + 1) (slots + 9) ∧ mn_F U cA cB 0 (U.pushCell { cls := cA, slots := Array.replicate 9 .null }) := by
  have h := X.pushed { cls := cA, slots := Array.replicate 9 .null }
  have e0 : ({ cls := cA, slots := Array.replicate 9 .null } : Cell) = mn_o cA U.heap.size 0 := by
    unfold mn_o
    have e : (fun j : Nat => if j < 0 then Value.ref (U.heap.size + 1 + j) else Value.null) = fun _ => Value.null := by
      funext j
      rw [if_neg (by omega)]
    rw [e]
    exact arrV_new cA 9 .null
  refine ⟨h, rfl, ?_, ?_, fun q hq => ?_, ?_, fun j hj => by omega⟩
  · simp [State.pushCell]
  · show U.slotsUsed + _ = _
    simp
  · exact State.heap_pushCell_of_lt _ _ hq
  · rw [← e0]
    exact State.heap_pushCell_size _ _
theorem mn_row {U T : State} {cA cB : ClassId} {i : Nat} (X : Stand p l e R s m args below meth c T locs cells slots) (F : mn_F U cA cB i T) :
    Stand p l e R s m args below meth c ((T.pushCell (mn_r cB)).setCell U.heap.size (mn_o cA U.heap.size (i + 1))) (locs ++ [⟨U.heap.size, i⟩]) (cells + 1) (slots + 60) ∧ mn_F U cA cB (i + 1) ((T.pushCell (mn_r cB)).setCell U.heap.size (mn_o cA U.heap.size (i + 1))) := by
  obtain ⟨f1, f2, f3, f4, f5, f6⟩ := F
  have hlt : U.heap.size < T.heap.size := by rw [f2]; omega
  have hc : (T.pushCell (mn_r cB)).heap[U.heap.size]? = some (mn_o cA U.heap.size i) := by rw [State.heap_pushCell_of_lt (h := hlt)]; exact f5
  have e60 : (mn_r cB).slots.size = 60 := arrV_size _ _ _
  have h := (X.pushed (mn_r cB)).stored hc i (.ref (U.heap.size + 1 + i))
  rw [mn_o_set, e60] at h
  refine ⟨h, f1, ?_, ?_, fun q hq => ?_, ?_, fun j hj => ?_⟩
  · show (Array.setIfInBounds (T.heap.push (mn_r cB)) _ _).size = _
    rw [Array.size_setIfInBounds, Array.size_push, f2]
    omega
  · show T.slotsUsed + (mn_r cB).slots.size = _
    rw [e60, f3]
    omega
  · rw [State.heap_setCell_other (Nat.ne_of_gt hq), State.heap_pushCell_of_lt _ _ (show q < T.heap.size by rw [f2]; omega)]
    exact f4 q hq
  · exact State.heap_setCell_self hc
  · rw [State.heap_setCell_other (show U.heap.size ≠ U.heap.size + 1 + j by omega)]
    by_cases g : j < i
    · rw [State.heap_pushCell_of_lt _ _ (show U.heap.size + 1 + j < T.heap.size by rw [f2]; omega)]
      exact f6 j g
    · rw [show U.heap.size + 1 + j = T.heap.size by rw [f2]; omega]
      exact State.heap_pushCell_size _ _
/-- the state with i rows -/
def mn_S (U : State) (cA cB : ClassId) (i : Nat) : State := match i with
  | 0 => U.pushCell { cls := cA, slots := Array.replicate 9 .null }
  | i + 1 => ((mn_S U cA cB i).pushCell (mn_r cB)).setCell U.heap.size (mn_o cA U.heap.size (i + 1))
theorem mn_S_ok {U : State} (cA cB : ClassId) (X : Stand p l e R s m args below meth c U locs cells slots) (i : Nat) : mn_F U cA cB i (mn_S U cA cB i) ∧ Stand p l e R s m args below meth c (mn_S U cA cB i) (locs ++ (List.range i).map (fun j => ⟨U.heap.size, j⟩)) (cells + 1 + i) (slots + 9 + 60 * i) := by
  induction i with
  | zero =>
    obtain ⟨X0, F0⟩ := mn_zero (cA := cA) (cB := cB) X
    exact ⟨F0, by rw [List.range_zero, List.map_nil, List.append_nil]; exact X0⟩
  | succ x ih =>
    obtain ⟨F, Xi⟩ := ih
    obtain ⟨X2, F2⟩ := mn_row Xi F
    refine ⟨F2, ?_⟩
    have e1 : (locs ++ (List.range (x + 1)).map (fun j => (⟨U.heap.size, j⟩ : Loc))) = (locs ++ (List.range x).map (fun j => (⟨U.heap.size, j⟩ : Loc))) ++ [⟨U.heap.size, x⟩] := by
      rw [List.range_succ, List.map_append, List.append_assoc]
      rfl
    rw [e1, show cells + 1 + (x + 1) = cells + 1 + x + 1 by omega, show slots + 9 + 60 * (x + 1) = slots + 9 + 60 * x + 60 by omega]
    exact X2
theorem mn_make {U : State} {g : JFrame} {cA cB cI : ClassId} {kA kB : Class} {E : CtlPost} {d : Bool} {acts : List Action} {Qw : Addr → Pre} (X : Stand p l e R s m args below meth c U locs cells slots)
    (hkA : U.vm.classes[cA]? = some kA) (hA : kA.kind = .array cB (.array .int)) (hkB : U.vm.classes[cB]? = some kB) (hB : kB.kind = .array cI .int) (hcells : cells + 10 ≤ R.cells) (hslots : slots + 549 ≤ R.slots)
    (kk : ∀ (d' : Bool) (acts' : List Action), Qw U.heap.size d' acts' ((mn_S U cA cB 9).setTop g)) :
    wp (multianewarray.make cA [9, 60]) Qw E e d acts (U.setTop g) := by
  obtain ⟨r1, r2⟩ := X.roomAbove hcells hslots
  have l9 : ¬ 9 > e.platform.arrayLengthLimit := by rw [Launch.admits_arrayLengthLimit X.admits]; omega
  have l60 : ¬ 60 > e.platform.arrayLengthLimit := by rw [Launch.admits_arrayLengthLimit X.admits]; omega
  have h9 : ¬ 9 * componentBytes (.array .int) > e.platform.maxHeapBytes := by rw [Launch.admits_maxHeapBytes X.admits]; decide
  have h60 : ¬ 60 * componentBytes .int > e.platform.maxHeapBytes := by rw [Launch.admits_maxHeapBytes X.admits]; decide
  have n9 : (9 : Int32).toNatClampNeg = 9 := by decide
  have n60 : (60 : Int32).toNatClampNeg = 60 := by decide
  have p9 : ¬ (9 : Int32) < 0 := by decide
  have p60 : ¬ (60 : Int32) < 0 := by decide
  rw [multianewarray.make]
  simp only [wp_bind', W.ite, p9, if_false, wp_pure', W.theClass, State.vm_setTop, hkA, hA, Option.some.injEq, exists_eq_left', n9]
  refine W.newArray_of (k := kA) hkA hA l9 h9 (by rw [State.heap_setTop]; omega) (by show U.slotsUsed + 9 ≤ _; omega) rfl (fun acts1 => ?_)
  have hz : ((9 : Int32) == 0) = false := by decide
  simp only [hz, Bool.false_eq_true, if_false, wp_bind', wp_pure', State.pushCell_setTop, State.heap_setTop]
  rw [Std.Legacy.Range.forIn_eq_forIn_range']
  show wp (forIn (List.range' 0 9 1) PUnit.unit _) _ E e d acts1 _
  refine wp_forIn_inv (fun rest s' => ∃ (i : Nat), i ≤ 9 ∧ rest = List.range' i (9 - i) ∧ s' = (mn_S U cA cB i).setTop g) _ _ ⟨0, by omega, rfl, rfl⟩ ?_ ?_
  · rintro x rest s' d' acts' Q' ⟨i, hi, hl, rfl⟩ hnext
    have hlt : i < 9 := by
      by_cases g : i < 9
      · exact g
      · rw [show 9 - i = 0 by omega] at hl; cases hl
    rw [show 9 - i = (9 - (i + 1)) + 1 by omega, List.range'_succ] at hl
    obtain ⟨rfl, rfl⟩ := List.cons.inj hl
    obtain ⟨⟨f1, f2, f3, f4, f5, f6⟩, -⟩ := mn_S_ok cA cB X x
    simp only [wp_bind']
    rw [multianewarray.make]
    simp only [wp_bind', W.ite, p60, if_false, wp_pure', W.theClass, State.vm_setTop, f1, hkB, hB, Option.some.injEq, exists_eq_left', n60]
    refine W.newArray_of (k := kB) (by rw [State.vm_setTop, f1]; exact hkB) hB l60 h60 (by rw [State.heap_setTop, f2]; omega) (by show (mn_S U cA cB x).slotsUsed + 60 ≤ _; rw [f3]; omega) rfl (fun acts2 => ?_)
    have eR : ({ cls := cB, slots := Array.replicate 60 (defaultValue .int) } : Cell) = mn_r cB := arrV_new cB 60 (.int 0)
    rw [eR, State.pushCell_setTop]
    have hlt0 : U.heap.size < (mn_S U cA cB x).heap.size := by rw [f2]; omega
    have hc : ((mn_S U cA cB x).pushCell (mn_r cB)).heap[U.heap.size]? = some (mn_o cA U.heap.size x) := by rw [State.heap_pushCell_of_lt (h := hlt0)]; exact f5
    simp only [wp_bind', W.writeLoc, wp_pure', State.heap_setTop]
    refine ⟨mn_o cA U.heap.size x, hc, ?_, by show x < (arrV _ 9 _).slots.size; rw [arrV_size]; exact hlt, ?_, hnext _ _ _ ⟨x + 1, hlt, rfl, ?_⟩⟩
    · simp [mn_o, arrV]
    · show State.fitsSlot _ cA .none x (.ref (mn_S U cA cB x).heap.size) = true
      simp [State.fitsSlot, State.slotType?, f1, hkA, hA, fits]
    · rw [f2, mn_o_set, State.setCell_setTop]
      rfl
  · rintro s' d' acts' ⟨i, hi, hl, rfl⟩
    have hi9 : i = 9 := by
      by_cases g : i < 9
      · rw [show 9 - i = (9 - (i + 1)) + 1 by omega, List.range'_succ] at hl; cases hl
      · omega
    subst hi9
    simp only [wp_pure']
    exact kk d' acts'
theorem sn_mna {H : Heap} {cc : ByteArray} {own : String} {index pc : Nat} {ls : Array Slot} {rest : List Value} (hexec : p.tables.exec = Jvm.exec) (hb : c.code = cc) (hown : s.vm.findClass own = some m.cls) (hcl : (Cond.classLink own index "[[I").before args s = true)
    (hmk : mn_k s) (har : (Cond.arrayClass .int).before args s = true) (hcells : cells + 10 ≤ R.cells) (hslots : slots + 549 ≤ R.slots) (hd : decode cc pc = .ok (.multianewarray index 2, 4))
    (kk : ∀ (H1 : Heap) (cA cB : ClassId), s.vm.findClass "[I" = some cB → s.vm.findClass "[[I" = some cA → H1.size = H.size + 10 → (∀ q, q < H.size → H1[q]? = H[q]?) → H1[H.size]? = some (mn_o cA H.size 9) → (∀ j, j < 9 → H1[H.size + 1 + j]? = some (mn_r cB)) →
      W p l e R s m args below meth c H1 (locs ++ (List.range 9).map (fun j => ⟨H.size, j⟩)) (cells + 10) (slots + 549) Q (F0 m (pc + 4) ls (.ref H.size :: rest))) : W p l e R s m args below meth c H locs cells slots Q (F0 m pc ls (.int 60 :: .int 9 :: rest)) := by
  intro T hT X
  subst hT
  subst hb
  have hpl : e.platform.magicAccessors = ({} : Platform).magicAccessors := by rw [X.admits.platform]
  obtain ⟨cB, cA, kA, nB, nA, hkA, hA⟩ := hmk
  obtain ⟨cB', kB, cI, nB', hkB, hB⟩ := Cond.arrayClass_spec har
  have e1 : "[" ++ FieldType.int.toString = "[I" := by decide +kernel
  rw [e1, nB] at nB'
  cases nB'
  obtain ⟨c0, hc0, hlk⟩ := Cond.classLink_spec hown hcl e.platform hpl
  cases nA.symm.trans hc0
  obtain ⟨hg, hw, -⟩ := State.classEntry (e := e) X.warmed hlk
  generalize T.vm.noted m.cls index (.cls cA) = vm1 at hg hw
  obtain ⟨kA1, hkA1, eA⟩ := hw.alike.2.2 _ _ hkA
  obtain ⟨kB1, hkB1, eB⟩ := hw.alike.2.2 _ _ hkB
  have X1 := X.noted hw
  obtain ⟨⟨f1, f2, f3, f4, f5, f6⟩, X9⟩ := mn_S_ok cA cB X1 9
  obtain ⟨tt, a1, b1⟩ := kk (mn_S (T.setVm vm1) cA cB 9).heap cA cB nB nA f2 f4 f5 f6 (mn_S (T.setVm vm1) cA cB 9) rfl X9
  refine ⟨tt, ?_, b1⟩
  jvm_step X.here [hexec, hd]
  simp only [multianewarray.sem, wp_bind', W.resolveClassAt_links (State.method?_setTop (F0 m pc ls (.int 60 :: .int 9 :: rest)) X.here.top) hg]
  rw [W.popN, if_neg (by decide)]
  refine ⟨F0 m pc ls (.int 60 :: .int 9 :: rest), State.topJava?_setTop' (s := T.setVm vm1) _ X.here.top, [.int 9, .int 60], rest, rfl, rfl, ?_⟩
  simp only [List.mapM_cons, List.mapM_nil, wp_bind', wp_pure']
  have eS : ((T.setTop (F0 m pc ls (.int 60 :: .int 9 :: rest))).setVm vm1).setTop (F0 m pc ls rest) = (T.setVm vm1).setTop (F0 m pc ls rest) := by
    show ((T.setVm vm1).setTop _).setTop _ = _
    rw [State.setTop_setTop]
  rw [eS]
  refine mn_make (kA := kA1) (kB := kB1) (cI := cI) X1 hkA1 (by rw [eA]; exact hA) hkB1 (by rw [eB]; exact hB) hcells hslots (fun d' acts' => ?_)
  simp only [wp_bind', W.mark, W.pushRef, State.topJava?_setTop' _ X9.here.top, Option.some.injEq, exists_eq_left', State.setTop_setTop, State.heap_setTop]
  intro acts
  simp [jvm, X9.here.top]
  exact a1
end SNM
