/-! Catching: the classes that a method's table of handlers names may not be resolved yet. -/
def sn_xc (k : Int) : String := if k = 1 then "java/lang/IllegalArgumentException" else "java/lang/IllegalStateException"
section SNH
variable {E : CtlPost} {e : Env} {d : Bool} {acts : List Action} {u : State} {f : JFrame} {a : Addr} {Qh : Handler → Pre}
theorem tc_go {x : ExceptionTableEntry} {t : List ExceptionTableEntry} {c : ClassId} {cell : Cell} {vm1 : Vm} (hx : covers x f.pc = true) (h0 : x.catchType ≠ 0) (hg : (Jvm.resolveClass f.method.cls x.catchType).Gives e.toSetting u.vm (.ok c) vm1) (hsz : vm1.classes.size ≤ u.vm.classes.size)
    (hcell : u.heap[a]? = some cell) (hobj : cell.vm = .none) (hk : ∃ k, vm1.classes[cell.cls]? = some k) (hc : ∃ k, vm1.classes[c]? = some k) :
    wp (findHandler.go f a (x :: t)) Qh E e d acts u ↔ if vm1.assignable cell.cls c = true then Qh (.found x.handlerPc) d acts (u.setVm vm1) else wp (findHandler.go f a t) Qh E e d acts (u.setVm vm1) := by
  simp only [covers] at hx
  obtain ⟨ha, ht⟩ := hg.op (op := VmOp.resolveClass f.method.cls x.catchType) rfl
  cases hfit : vm1.assignable cell.cls c <;> simp [findHandler.go, hx, h0, ha, ht, hsz, hcell, hobj, hk, hc, hfit, VmOp.dirties, VmOp.acts]
/-- the search ends at a handler, with these tables -/
def tc_F (e : Env) (u : State) (f : JFrame) (a : Addr) (pc : Nat) (vm1 : Vm) : Prop := ∀ (Q : Handler → Pre) (E : CtlPost) (d : Bool) (acts : List Action), wp (findHandler f a) Q E e d acts u ↔ Q (.found pc) d acts (u.setVm vm1)
theorem tc_step {r : List Frame} {pc : Nat} {vm1 : Vm} (h : tc_F e u f a pc vm1) : (stepThrowing e u a (.java f :: r)).1 = (u.setVm vm1).setFrames (.java { f with pc := pc, stack := [.ref a] } :: r) := by
  simp only [stepThrowing, searchFrame, vmDo]
  generalize hr : Sem.go _ e false [] u = res
  obtain ⟨as, rfl, -⟩ := Sem.eq_ok_of hr (a := Handler.found pc) (s' := u.setVm vm1) (acts' := []) (by simp [h _ _ _ _])
  rfl
end SNH
section SNK
variable {p : Program} {l : Launch} {e : Env} {R : Room} {s T : State} {m : MethodId} {args : Array Value} {below : List Frame} {meth : Method} {c : Code} {locs : List Loc} {cells slots : Nat}
theorem tc_caught (X : Stand p l e R s m args below meth c T locs cells slots) {g : JFrame} (hg : g.method = m) {a : Addr} {pc : Nat} {vm1 : Vm} (hf : tc_F e ((T.setTop g).pushFrame (.throwing a)) g a pc vm1) {target : State}
    (hrest : Steps p.tables e below ((T.setVm vm1).setTop { g with pc := pc, stack := [.ref a] }) target) : Steps p.tables e below ((T.setTop g).pushFrame (.throwing a)) target := by
  have h : At T g.method c below := by rw [hg]; exact X.here
  obtain ⟨hgo, hw⟩ := h.throwing a
  refine Steps.head hgo hw ?_
  rw [stepThread_throwing (frames_entered h.top _), tc_step hf]
  obtain ⟨g0, hg0⟩ := Option.isSome_iff_exists.mp h.top
  obtain ⟨r, hr⟩ := State.topJava?_eq_some.mp hg0
  have hr1 : (T.setVm vm1).frames = .java g0 :: r := hr
  rw [State.setTop_of_frames _ hr1] at hrest
  have e1 : (((T.setTop g).pushFrame (.throwing a)).setVm vm1).setFrames (.java { g with pc := pc, stack := [.ref a] } :: T.frames.tail) = (T.setVm vm1).setFrames (.java { g with pc := pc, stack := [.ref a] } :: r) := by
    rw [State.pushFrame, State.setTop_of_frames _ hr, hr, State.setFrames_setFrames]
    show ((T.setFrames _).setFrames _).setVm vm1 = _
    rw [State.setFrames_setFrames]
    rfl
  rw [e1]
  exact hrest
/-- one entry of the table -/
theorem tc_ent (X : Stand p l e R s m args below meth c T locs cells slots) {own C : String} {index : Nat} (hown : s.vm.findClass own = some m.cls) (hcl : (Cond.classLink own index C).before args s = true) : ∃ (c0 : ClassId) (vm1 : Vm), s.vm.findClass C = some c0 ∧ (Jvm.resolveClass m.cls index).Gives e.toSetting T.vm (.ok c0) vm1 ∧ s.WarmedH vm1 ∧ vm1.classes.size ≤ T.vm.classes.size := by
  have hpl : e.platform.magicAccessors = ({} : Platform).magicAccessors := by rw [X.admits.platform]
  obtain ⟨c0, hc0, hlk⟩ := Cond.classLink_spec hown hcl e.platform hpl
  obtain ⟨hg, hw, -⟩ := State.classEntry (e := e) X.warmed hlk
  exact ⟨c0, _, hc0, hg, hw, Nat.le_of_eq (hw.2.1.trans X.warmed.2.1.symm)⟩
theorem tc_known {vm1 : Vm} (hw : s.WarmedH vm1) {C : String} {c0 : ClassId} (h : s.vm.findClass C = some c0) (hi : (Cond.instantiable C 6).before args s = true) : ∃ k, vm1.classes[c0]? = some k := by
  obtain ⟨c1, k, hc1, hk, -⟩ := Cond.instantiable_spec hi
  cases h.symm.trans hc1
  obtain ⟨k1, hk1, -⟩ := hw.alike.2.2 _ _ hk
  exact ⟨k1, hk1⟩
def tc_ws (own : String) (i1 i2 : Nat) : List Cond := [.classLink own i1 (sn_xc 1), .classLink own i2 (sn_xc 2), .instantiable (sn_xc 1) 6, .instantiable (sn_xc 2) 6, .castable (sn_xc 1) (sn_xc 1), .castable (sn_xc 2) (sn_xc 2), .not (.castable (sn_xc 2) (sn_xc 1))]
theorem tc_find (X : Stand p l e R s m args below meth c T locs cells slots) {own : String} {i1 i2 : Nat} (hown : s.vm.findClass own = some m.cls) (hw : ∀ w ∈ tc_ws own i1 i2, w.before args s = true) (hi1 : i1 ≠ 0) (hi2 : i2 ≠ 0)
    {g : JFrame} (hg : g.method = m) {b1 e1 h1 b2 e2 h2 : Nat} (htab : c.exceptionTable.toList = [⟨b1, e1, h1, i1⟩, ⟨b2, e2, h2, i2⟩]) (hc1 : covers ⟨b1, e1, h1, i1⟩ g.pc = true) (hc2 : covers ⟨b2, e2, h2, i2⟩ g.pc = true)
    {a : Addr} {ce : Cell} {k : Int} (hk : k = 1 ∨ k = 2) (hce : T.heap[a]? = some ce) (hvm : ce.vm = .none) (hcls : s.vm.findClass (sn_xc k) = some ce.cls) : ∃ vm1, s.WarmedH vm1 ∧ tc_F e ((T.setTop g).pushFrame (.throwing a)) g a (if k = 1 then h1 else h2) vm1 := by
  subst hg
  have hvu : ((T.setTop g).pushFrame (.throwing a)).vm = T.vm := Stand.throwing_vm T g a
  have hhu : ((T.setTop g).pushFrame (.throwing a)).heap = T.heap := Stand.throwing_heap T g a
  obtain ⟨c0, v1, n1, g1, w1, z1⟩ := tc_ent X hown (hw _ List.mem_cons_self)
  have hcat : ∀ vm1, s.WarmedH vm1 → ∀ q : String, (Cond.castable q q).before args s = true → ∀ cq, s.vm.findClass q = some cq → vm1.assignable cq cq = true := by
    intro vm1 hv q hq cq hcq
    obtain ⟨x, y, hx, hy, hxy⟩ := Cond.castable_spec (s := s.setVm vm1) (Cond.faceAtom_setVm hv.alike (.castable q q) rfl hq)
    have ex : vm1.findClass q = some cq := by rw [hv.alike.findClass]; exact hcq
    cases ex.symm.trans hx
    cases ex.symm.trans hy
    exact hxy
  have hm : ∀ (vm : Vm), s.WarmedH vm → vm.method? g.method = some meth := fun vm h => by rw [h.alike.method?]; exact X.method
  rcases hk with rfl | rfl
  · have hcls : s.vm.findClass (sn_xc 1) = some ce.cls := hcls
    cases n1.symm.trans hcls
    refine ⟨v1, w1, fun Q E d acts => ?_⟩
    rw [W.findHandler_eq (by rw [hvu]; exact hm _ X.warmed) X.code, htab, tc_go (vm1 := v1) (c := ce.cls) (cell := ce) hc1 hi1 (by rw [hvu]; exact g1) (by rw [hvu]; exact z1) (by rw [hhu]; exact hce) hvm (tc_known w1 hcls (hw _ (by simp [tc_ws]))) (tc_known w1 hcls (hw _ (by simp [tc_ws]))), if_pos (hcat v1 w1 (sn_xc 1) (hw _ (by simp [tc_ws])) _ hcls)]
    rfl
  · have hcls : s.vm.findClass (sn_xc 2) = some ce.cls := hcls
    have X1 := X.noted w1
    obtain ⟨c2, v2, n2, g2, w2, z2⟩ := tc_ent X1 hown (hw _ (List.mem_cons_of_mem _ List.mem_cons_self))
    cases n2.symm.trans hcls
    have hno : ¬ v1.assignable ce.cls c0 = true := by
      intro hyes
      have h3 := Cond.castAtom_setVm w1.alike (.not (.castable (sn_xc 2) (sn_xc 1))) rfl (hw _ (by simp [tc_ws]))
      have ex : v1.findClass (sn_xc 2) = some ce.cls := by rw [w1.alike.findClass]; exact hcls
      have ey : v1.findClass (sn_xc 1) = some c0 := by rw [w1.alike.findClass]; exact n1
      have h4 : (Cond.not (.castable (sn_xc 2) (sn_xc 1))).holds args (s.setVm v1) none (s.setVm v1) [] = true := h3
      unfold Cond.holds at h4
      simp only [Cond.value, State.vm_setVm, ex, ey, hyes] at h4
      cases h4
    refine ⟨v2, w2, fun Q E d acts => ?_⟩
    rw [W.findHandler_eq (by rw [hvu]; exact hm _ X.warmed) X.code, htab, tc_go (vm1 := v1) (c := c0) (cell := ce) hc1 hi1 (by rw [hvu]; exact g1) (by rw [hvu]; exact z1) (by rw [hhu]; exact hce) hvm (tc_known w1 hcls (hw _ (by simp [tc_ws]))) (tc_known w1 n1 (hw _ (by simp [tc_ws]))), if_neg hno,
      tc_go (u := ((T.setTop g).pushFrame (.throwing a)).setVm v1) (vm1 := v2) (c := ce.cls) (cell := ce) hc2 hi2 g2 z2 (by show ((T.setTop g).pushFrame (.throwing a)).heap[a]? = _; rw [hhu]; exact hce) hvm (tc_known w2 hcls (hw _ (by simp [tc_ws]))) (tc_known w2 hcls (hw _ (by simp [tc_ws]))), if_pos (hcat v2 w2 (sn_xc 2) (hw _ (by simp [tc_ws])) _ hcls)]
    rfl
end SNK
