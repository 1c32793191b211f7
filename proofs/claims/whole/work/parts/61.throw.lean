/-! Throwing: words that stay true, a walk begun anew at the place where it stands, the making and throwing of an exception. -/
theorem sn_wt {args a' : Array Value} {s U : State} (hW : s.WarmedH U.vm) {w : Cond} (h : (w.onTables && (w.keeps || w.faceAtom)) = true) (hb : w.before args s = true) : w.before a' U = true := by
  rw [Bool.and_eq_true, Bool.or_eq_true] at h
  obtain ⟨h1, h2⟩ := h
  rcases h2 with h2 | h2
  · exact word_at hW (Or.inl (by rw [Bool.and_eq_true]; exact ⟨h1, h2⟩)) hb
  · have h3 := Cond.faceAtom_setVm hW.alike w h2 hb
    rw [Cond.onTables_vm (A' := a') (U' := U) U.vm w h1] at h3
    exact h3
theorem sn_mv_s {args a' : Array Value} {s U : State} (hW : s.WarmedH U.vm) (hS : ∀ (a : Nat) (cell : Cell), s.heap[a]? = some cell → cell.vm.isStatics = true → U.heap[a]? = some cell) {o n d : String} (hb : (Cond.laysStatic o n d).before args s = true) : (Cond.laysStatic o n d).before a' U = true := by
  have hb : (Cond.laysStatic o n d).holds args s none s [] = true := hb
  show (Cond.laysStatic o n d).holds a' U none U [] = true
  obtain ⟨c, k, i, f, a, cell, hc, hi, hst, ha, hcell, hs, hcls, hlt, hty⟩ := Cond.laysStatic_spec hb
  obtain ⟨k', hi', he⟩ := State.fieldFound?_setVm (s := s) hW.alike hi
  have hc' : U.vm.findClass o = some c := by rw [hW.alike.findClass]; exact hc
  have hi2 : U.fieldFound? o n d = some (c, k', i, f) := hi'
  have hst' : k'.statics = some a := by rw [he]; exact ha
  have hty' : k'.staticTypes[f.slot]? = some f.type := by rw [he]; exact hty
  unfold Cond.holds
  simp only [Cond.value, hc', hi2, hst', Option.bind_some, hS a cell hcell hs, Option.map_some]
  simp [hst, hs, hcls, hlt, hty']
theorem sn_mv_r {args a' : Array Value} {s U : State} (hW : s.WarmedH U.vm) (hS : ∀ (a : Nat) (cell : Cell), s.heap[a]? = some cell → cell.vm.isStatics = true → U.heap[a]? = some cell) {o n d : String} (hl : (Cond.laysStatic o n d).before args s = true) (hb : (Cond.isRef (.static o n d)).before args s = true) : (Cond.isRef (.static o n d)).before a' U = true := by
  have hl : (Cond.laysStatic o n d).holds args s none s [] = true := hl
  obtain ⟨c, k, i, f, a, cell, hc, hi, hst, ha, hcell, hs, hcls, hlt, hty⟩ := Cond.laysStatic_spec hl
  obtain ⟨k', hi', he⟩ := State.fieldFound?_setVm (s := s) hW.alike hi
  have hi2 : U.fieldFound? o n d = some (c, k', i, f) := hi'
  have hst' : k'.statics = some a := by rw [he]; exact ha
  have e1 : (Term.static o n d).eval a' U none [] U = (Term.static o n d).eval args s none [] s := by
    simp [Term.eval, State.fieldNamed?, hi, hi2, hst, hst', ha, hcell, hS a cell hcell hs]
  have hb : (Cond.isRef (.static o n d)).holds args s none s [] = true := hb
  show (Cond.isRef (.static o n d)).holds a' U none U [] = true
  unfold Cond.holds at hb ⊢
  simp only [Cond.value] at hb ⊢
  rw [e1]
  exact hb
/-- the words of a list go with the state, if its statics stay -/
def sn_ml (ws : List Cond) : Bool := ws.all (fun w => match w with
  | .stringRef _ _ _ => true
  | .laysStatic _ _ _ => true
  | .isRef (.static o n d) => decide (Cond.laysStatic o n d ∈ ws)
  | .not (.castable _ _) => true
  | w => w.onTables && (w.keeps || w.faceAtom))
theorem sn_ml_ok {ws : List Cond} (hm : sn_ml ws = true) {args a' : Array Value} {s U : State} (hW : s.WarmedH U.vm) (hS : ∀ (a : Nat) (cell : Cell), s.heap[a]? = some cell → cell.vm.isStatics = true → U.heap[a]? = some cell) (hb : ∀ w ∈ ws, w.before args s = true) : ∀ w ∈ ws, w.before a' U = true := by
  intro w hw
  have h1 := List.all_eq_true.mp hm w hw
  have h2 := hb w hw
  split at h1
  · exact Cond.stringRef_warmed hW h2
  · exact sn_mv_s hW hS h2
  · next o n d => exact sn_mv_r hW hS (hb _ (of_decide_eq_true h1)) h2
  · next o n => exact Cond.castAtom_setVm hW.alike (.not (.castable o n)) rfl h2
  · exact sn_wt hW h1 h2
section SNT
variable {p : Program} {l : Launch} {e : Env} {R : Room} {s T : State} {m : MethodId} {args : Array Value} {below : List Frame} {meth : Method} {c : Code} {locs : List Loc} {Q : State → Prop}
/-- the state at which a walk that has made nothing is begun anew -/
def sn_re (s T : State) : State := { s with heap := T.heap, slotsUsed := T.slotsUsed }
theorem sn_rebase (X : Stand p l e R s m args below meth c T locs 0 0) : Stand p l e R (sn_re s T) m args below meth c T [] 0 0 ∧ s.sameButNew (sn_re s T) locs 0 0 := by
  obtain ⟨a1, a2, a3, a4, a5, a6⟩ := X.same
  have b1 : T.setVm s.vm = { s.setFrames T.frames with heap := T.heap, slotsUsed := T.slotsUsed } := a1
  have hz : T.heap.size = s.heap.size := Nat.le_antisymm a3 a2
  have hu : T.slotsUsed = s.slotsUsed := by
    have : T.slotsUsed = s.slotsUsed + ((T.heap.toList.drop s.heap.size).map (·.slots.size)).sum := a4
    have : ((T.heap.toList.drop s.heap.size).map (·.slots.size)).sum ≤ 0 := a5
    omega
  have hdr : T.heap.toList.drop T.heap.size = [] := List.drop_eq_nil_of_le (Nat.le_of_eq (by rw [Array.length_toList]))
  have hroom := X.room
  have hbook : T.slotsTrue = true := X.book
  simp only [State.hasRoom, Bool.and_eq_true] at hroom
  obtain ⟨⟨⟨⟨r1, r2⟩, r3⟩, r4⟩, r5⟩ := hroom
  refine ⟨⟨X.admits, X.cas, X.clock, X.frames, ?_, X.hears, X.method, X.code, X.here, X.tail, X.warmed, X.limits, X.bytes, ?_⟩, ?_⟩
  · simp only [State.hasRoom, Bool.and_eq_true]
    refine ⟨⟨⟨⟨r1, r2⟩, ?_⟩, ?_⟩, hbook⟩
    · rw [← hz] at r3
      exact r3
    · rw [← hu] at r4
      exact r4
  · refine ⟨b1, Nat.le_refl _, Nat.le_refl _, ?_, ?_, fun a cc h => ⟨cc, h, rfl, rfl, fun _ _ => rfl⟩⟩
    · show T.slotsUsed = T.slotsUsed + ((T.heap.toList.drop T.heap.size).map (·.slots.size)).sum
      rw [hdr]
      rfl
    · show ((T.heap.toList.drop T.heap.size).map (·.slots.size)).sum ≤ 0
      rw [hdr]
      exact Nat.le_refl _
  · refine ⟨?_, a2, a3, a4, a5, a6⟩
    show sn_re s T = { s.setFrames s.frames with heap := T.heap, slotsUsed := T.slotsUsed }
    obtain ⟨t, ht, -⟩ := State.frames_cons X.frames
    rw [State.setFrames_self ht]
    rfl
def tw_up : List String := ["java/lang/RuntimeException", "java/lang/Exception"]
/-- the words of a place that throws -/
def sn_tws (own : String) (ix is ic : Nat) (Xc text : String) : List Cond := .classLink own ix Xc :: .initialized Xc :: .stringRef own is text :: Bundle.ownAtoms own ic Xc tw_up
set_option maxHeartbeats 1000000 in
theorem sn_throw {cc : ByteArray} {own Xc text : String} {ix is ic pc : Nat} {ls : Array Slot} {H : Heap} (hexec : p.tables.exec = Jvm.exec) (htr : e.platform.stackTraces = false) (hb : c.code = cc) (hls : ls.size = c.maxLocals) (hown : s.vm.findClass own = some m.cls) (hX : Bundle.fit Xc = true)
    (hw : ∀ w ∈ sn_tws own ix is ic Xc text, w.before args s = true) (hm : sn_ml (sn_tws own ix is ic Xc text) = true) (hS : ∀ (a : Nat) (cell : Cell), s.heap[a]? = some cell → cell.vm.isStatics = true → H[a]? = some cell)
    (hd0 : decode cc pc = .ok (.new ix, 3)) (hd3 : decode cc (pc + 3) = .ok (.dup, 1)) (hd4 : decode cc (pc + 4) = .ok (.ldc is, 2)) (hd6 : decode cc (pc + 6) = .ok (.invokespecial ic, 3)) (hd9 : decode cc (pc + 9) = .ok (.athrow, 1))
    (hout : ∀ x ∈ c.exceptionTable.toList, covers x (pc + 9) = false) (hRf : 6 ≤ R.frames) (hRl : 82 ≤ R.locals) (hRc : 1 ≤ R.cells) (hRs : 6 ≤ R.slots) (hlocks : meth.locks = false)
    (kk : ∀ (t : State) (a : Nat) (ce : Cell), t.status = .running → Ended t below (.threw a) → s.WarmedH t.vm → s.sameButNew ({ t with vm := s.vm } : State) locs 1 6 → H.size ≤ t.heap.size → (∀ q, q < H.size → t.heap[q]? = H[q]?) → t.heap[a]? = some ce → s.vm.findClass Xc = some ce.cls → ce.vm = .none → H.size ≤ a → Q t) :
    W p l e R s m args below meth c H locs 0 0 Q (F0 m pc ls []) := by
  intro T hT X
  subst hT
  subst hb
  obtain ⟨X0, hsb⟩ := sn_rebase X
  have hw0 : ∀ w ∈ sn_tws own ix is ic Xc text, w.before args (sn_re s T) = true := sn_ml_ok hm (U := sn_re s T) (State.WarmedH.refl s) hS hw
  have hown0 : (sn_re s T).vm.findClass own = some m.cls := hown
  obtain ⟨vm1, cX, kX, hfX, hkX, -, -, X1, st1⟩ := X0.newCold hexec (own := own) (C := Xc) (index := ix) (n := 6) hown0 (hw0 _ List.mem_cons_self) (hw0 (.instantiable Xc 6) (by simp [sn_tws, Bundle.ownAtoms])) (hw0 (.initialized Xc) (by simp [sn_tws]))
    (g := F0 m pc ls []) rfl hd0 (by omega) (by omega)
  have hcellA : ((T.setVm vm1).pushCell { cls := cX, slots := kX.instanceTypes.map defaultValue, vm := .none }).heap[T.heap.size]? = some (freshCell cX kX) := State.heap_pushCell_size _ _
  generalize (T.setVm vm1).pushCell { cls := cX, slots := kX.instanceTypes.map defaultValue, vm := .none } = T1 at X1 st1 hcellA
  have hconst := hw0 (.stringRef own is text) (by simp [sn_tws])
  obtain ⟨-, -, -, sa, -, -, -, -, -, hev⟩ := Cond.stringRef_spec hown0 hconst
  obtain ⟨U, hsteps, hrun, hend, hWU, hsame, ce, hce, K⟩ := X1.ctorThrowS hexec htr (own := own) (cls := Xc) (names := tw_up) (ic := ic) hown0 hX (by decide +kernel)
    (fun y hy => hw0 y (by simp [sn_tws, hy])) (fun y hy => by cases hy) hfX hkX hcellA (Nat.le_refl _) (msg := .ref sa) rfl
    (g := F0 m (pc + 6) ls [.ref sa, .ref T.heap.size, .ref T.heap.size]) rfl hls rfl rfl (rest := []) rfl hd6 hd9 hout (by simp [tw_up]; omega) (by simp [tw_up, Value.category]; omega) hlocks
  have hsame2 := hsb.trans hsame
  rw [List.append_nil] at hsame2
  obtain ⟨b1, b2, b3, b4, b5, b6⟩ := hsame
  refine ⟨U, ?_, kk U T.heap.size ce hrun hend hWU hsame2 b2 (fun q hq => ?_) hce K.cls K.vm (Nat.le_refl _)⟩
  · refine st1 _ ?_
    show Steps p.tables e below (T1.setTop (F0 m (pc + 3) ls [.ref T.heap.size])) _
    jvm_step X1.here [X1.here.top, hexec, hd3, Value.category]
    exact X1.ldcString hexec (own := own) (text := text) (index := is) (a := sa) hown0 hconst hev (g := F0 m (pc + 4) ls [.ref T.heap.size, .ref T.heap.size]) rfl hd4 _ hsteps
  · have hq0 : T.heap[q]? = some T.heap[q] := Array.getElem?_eq_getElem hq
    obtain ⟨c', h1, h2, h3, h4⟩ := b6 q T.heap[q] hq0
    have e1 : c'.slots = T.heap[q].slots := Array.ext_getElem? (fun i => h4 i (by simp))
    have e2 : c' = T.heap[q] := by rw [h2, e1]
    rw [hq0, ← e2]
    exact h1
end SNT
