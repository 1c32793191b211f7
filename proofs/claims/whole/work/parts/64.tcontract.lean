/-! Contracts of methods that may throw; their calls. -/
abbrev sn_PT : Type := List sn_V → sn_M → (Option sn_V → sn_M → Prop) → (Int → sn_M → Prop) → Prop
def sn_rt (d : Nat) : Room := { frames := d, cells := 1, slots := 6, locals := 60 * d }
def sn_Qt (D : va_G) (dA : Nat → ClassId) (ad : sn_A) (A : Nat → Prop) (post : Option sn_V → sn_M → Prop) (tp : Int → sn_M → Prop) : Array Value → State → Outcome → State → Prop := fun _ st oc t =>
  ((∃ (r : Option sn_V) (σ' : sn_M), oc = .returned (r.map (sn_cv ad)) ∧ post r σ' ∧ (∀ v, r = some v → sn_vo v) ∧ va_P D sn_cl (sn_wd dA ad σ') t.heap ∧ ∀ k i j, sn_R (σ'.1 k i j)) ∨
   (∃ (k : Int) (a : Nat) (ce : Cell) (σ' : sn_M), oc = .threw a ∧ (k = 1 ∨ k = 2) ∧ tp k σ' ∧ va_P D sn_cl (sn_wd dA ad σ') t.heap ∧ (∀ k i j, sn_R (σ'.1 k i j)) ∧ t.heap[a]? = some ce ∧ ce.vm = .none ∧ st.vm.findClass (sn_xc k) = some ce.cls)) ∧
  va_F A st t ∧ ∃ L : List Loc, st.WarmedH t.vm ∧ st.sameButNew ({ t with vm := st.vm } : State) L 1 6 ∧ ∀ q ∈ L, A q.base
def sn_TC (y : MethodName) (ws tw : List Cond) (d : Nat) (sp : sn_PT) : Prop :=
  ∀ (l : Launch) (D : va_G) (dA : Nat → ClassId) (ad : sn_A) (sz : Nat) (vs : List sn_V) (σ : sn_M) (post : Option sn_V → sn_M → Prop) (tp : Int → sn_M → Prop), l.stackTraces = false → sp vs σ post tp → (∀ v ∈ vs, sn_vo v) → (∀ k i j, sn_R (σ.1 k i j)) →
    MetFree l y (headSpec ws (sn_rt d)) (va_Pc (vs.map (sn_cv ad)) (fun U => sn_Pc D dA ad sz σ U ∧ ∀ w ∈ tw, w.before #[] U = true)) (fun _ _ _ _ _ => True) (sn_Qt D dA ad (va_A (sn_wd dA ad σ) sz) post tp)
/-- a body with places that throw -/
def sn_Bt (pr : Nat → Option (Instr × Nat)) (fi : Nat → Option (Nat × Nat)) (lc : Nat → Option Int64) (ca : Nat → Option (Nat × Nat × sn_P)) (th : Nat → Option Int) (nL : Nat) (vs : List sn_V) (σ : sn_M) (post : Option sn_V → sn_M → Prop) (tp : Int → sn_M → Prop) : Prop :=
  ∀ G : Nat → sn_Ls → List sn_V → sn_M → Prop, (∀ (n : Nat) (st : List Nat) (pc : Nat) (L : sn_Ls) (S : List sn_V) (σ : sn_M), sn_it pr fi lc ca post st G n pc L S σ → G pc L S σ) → (∀ (pc : Nat) (k : Int) (L : sn_Ls) (σ : sn_M), th pc = some k → tp k σ → G pc L [] σ) → G 0 (sn_L0 nL vs) [] σ
theorem sn_cell {D : va_G} {cl : List vw_C} {ws : va_W} {H : Heap} (hP : va_P D cl ws H) {k q : Nat} {en : va_E} (h : ws[k]? = some (q, en)) {cell : Cell} (hc : H[q]? = some cell) : cell.vm.isStatics = false := by
  have h1 := hP k _ h
  match en, h1 with
  | .inl a, h1 =>
    have h2 : H[q]? = some (vp_cell a.1 a.2) := h1
    rw [hc] at h2
    cases h2
    unfold vp_cell
    split <;> rfl
  | .inr o, h1 =>
    obtain ⟨r, -, c1, g1, -, g3, -⟩ := h1
    have g1 : H[q]? = some c1 := g1
    rw [hc] at g1
    cases g1
    rw [g3]
    rfl
theorem sn_stat {D : va_G} {cl : List vw_C} {ws : va_W} {H0 H : Heap} {locs : List Loc} (hP : va_P D cl ws H0) (hS : va_S (va_A ws H0.size) H0 H locs) : ∀ (a : Nat) (cell : Cell), H0[a]? = some cell → cell.vm.isStatics = true → H[a]? = some cell := by
  intro a cell h1 h2
  have hlt : a < H0.size := (Array.getElem?_eq_some_iff.mp h1).1
  rw [hS.2.1 a hlt (fun z => ?_)]
  · exact h1
  · rcases z with ⟨k, en, z⟩ | z
    · rw [sn_cell hP z h1] at h2
      cases h2
    · omega
section SNX
variable {p : Program} {l : Launch} {e : Env} {R : Room} {s : State} {m : MethodId} {args : Array Value} {below : List Frame} {meth : Method} {c : Code} {cells slots : Nat}
theorem sn_Wm {H : Heap} {locs : List Loc} {Q Q' : State → Prop} {g : JFrame} (h : ∀ t, Q t → Q' t) (k : W p l e R s m args below meth c H locs cells slots Q g) : W p l e R s m args below meth c H locs cells slots Q' g := by
  intro T hT X
  obtain ⟨t, a, b⟩ := k T hT X
  exact ⟨t, a, h t b⟩
end SNX
/-- a place that throws: the exception's number, and the places of its class, its text, its constructor -/
def sn_TH (cc : ByteArray) (own : String) (tw : List Cond) (th : Nat → Option Int) : Prop := ∀ (pc : Nat) (k : Int), th pc = some k → (k = 1 ∨ k = 2) ∧ ∃ (ix is ic : Nat) (text : String), decode cc pc = .ok (.new ix, 3) ∧ decode cc (pc + 3) = .ok (.dup, 1) ∧ decode cc (pc + 4) = .ok (.ldc is, 2) ∧ decode cc (pc + 6) = .ok (.invokespecial ic, 3) ∧ decode cc (pc + 9) = .ok (.athrow, 1) ∧ (∀ w ∈ sn_tws own ix is ic (sn_xc k) text, w ∈ tw)
theorem sn_fitx {k : Int} (hk : k = 1 ∨ k = 2) : Bundle.fit (sn_xc k) = true := by
  rcases hk with rfl | rfl
  · decide +kernel
  · decide +kernel
theorem sn_mlx {own : String} {ix is ic : Nat} {k : Int} {text : String} (hk : k = 1 ∨ k = 2) : sn_ml (sn_tws own ix is ic (sn_xc k) text) = true := by
  rcases hk with rfl | rfl
  · simp [sn_ml, sn_tws, Bundle.ownAtoms, Bundle.throwableAtoms, Bundle.throwableSAtoms, Bundle.chainSAtoms, Bundle.passSAtoms, tw_up, Cond.onTables, Cond.keeps, Cond.steady, Cond.faceAtom]
  · simp [sn_ml, sn_tws, Bundle.ownAtoms, Bundle.throwableAtoms, Bundle.throwableSAtoms, Bundle.chainSAtoms, Bundle.passSAtoms, tw_up, Cond.onTables, Cond.keeps, Cond.steady, Cond.faceAtom]
theorem sn_TC_of {y : MethodName} {code : ByteArray} {nL d : Nat} {ret : Option FieldType} {sp : sn_PT} {ws tw : List Cond} {pr : Nat → Option (Instr × Nat)} {fi : Nat → Option (Nat × Nat)} {lc : Nat → Option Int64} {ca : Nat → Option (Nat × Nat × sn_P)} {th : Nat → Option Int}
    (hy : plainName y.cls = true) (hl0 : ∀ vs σ post tp, sp vs σ post tp → (sn_L1 vs).length ≤ nL) (hpr : ∀ pc i t, pr pc = some (i, t) → sn_dk code nL ret pc i t = true) (hfi : sn_FI y.cls ws fi) (hlc : ∀ x v, lc x = some v → Cond.constantLong y.cls x v ∈ ws)
    (hca : ∀ x n ci s', ca x = some (n, ci, s') → sn_CE y.cls ws d x n ci s') (hth : sn_TH code y.cls tw th) (htw : sn_ml tw = true) (hd : 6 ≤ d)
    (hbody : ∀ vs σ post tp, sp vs σ post tp → (∀ v ∈ vs, sn_vo v) → (∀ k i j, sn_R (σ.1 k i j)) → sn_Bt pr fi lc ca th nL vs σ post tp) : sn_TC y (Cond.code y code nL ret :: ws) tw d sp := by
  intro l D dA ad sz vs σ post tp htr hsp hvs hR
  refine MetFree.of_bodyS (code := code) (maxLocals := nL) (ret := ret) hy ?_ ?_
  · intro args s m h hn
    obtain ⟨meth, c, h1, h2, h3, h4, h5, h6, -, -⟩ := Cond.code_spec hn (atoms_spec (ws := Cond.code y code nL ret :: ws) h _ List.mem_cons_self)
    exact ⟨meth, c, h1, h2, h3, h4, h5, h6⟩
  · intro p e s m args below meth c s₁ B hml hv _
    obtain ⟨rfl, ⟨hsz, hP, hK, hD0⟩, hw0⟩ := hv
    have hh0 : s₁.heap = s.heap := by rw [B.state]; rfl
    have hx := B.exec
    have hb := B.bytes
    have hr := B.returns
    have hts0 := atoms_spec (ws := Cond.code y code nL ret :: ws) B.pre
    have hts : ∀ w ∈ ws, w.before (vs.map (sn_cv ad)).toArray s = true := fun w hw => hts0 w (List.mem_cons_of_mem _ hw)
    have hown : s.vm.findClass y.cls = some m.cls := findClass_of_methodNamed B.named
    have hlocks : meth.locks = false := B.notSynchronized
    have hout : ∀ pc, ∀ x ∈ c.exceptionTable.toList, covers x pc = false := covers_of_empty (B.noHandlers (hts0 _ List.mem_cons_self))
    have hw1 : ∀ w ∈ tw, w.before (vs.map (sn_cv ad)).toArray s = true := sn_ml_ok htw (State.WarmedH.refl s) (fun _ _ h _ => h) hw0
    have hstr : e.platform.stackTraces = false := by rw [B.admits.platform]; exact htr
    subst hsz
    have hD := hD0.self (sz := s.heap.size)
    generalize hAe : va_A (sn_wd dA ad σ) s.heap.size = A at hD ⊢
    have hA : ∀ q : Nat, s.heap.size ≤ q → A q := fun q h => by rw [← hAe]; exact Or.inr h
    have hS : va_S A s.heap s.heap [] := va_S.rf
    have hlen := hl0 vs σ post tp hsp
    have hl := lv_entry (vs.map (sn_cv ad)) (n := nL) (by rw [sn_L1_len]; exact hlen)
    have key : W p l e (headSpec (Cond.code y code nL ret :: ws) (sn_rt d)).room s m (vs.map (sn_cv ad)).toArray below meth c s.heap [] 0 0 (fun t => ∃ o, t.status = .running ∧ Ended t below o ∧ sn_Qt D dA ad A post tp (vs.map (sn_cv ad)).toArray s o t) (entryFrame m (vs.map (sn_cv ad)).toArray nL) := by
      rw [lg_entry_eq]
      generalize (lg_sl (vs.map (sn_cv ad)) ++ List.replicate (nL - (lg_sl (vs.map (sn_cv ad))).length) Slot.unset).toArray = ls at hl ⊢
      have hLo := sn_L0_Lo hlen hvs hl
      have hmo : ∀ (Qv : Option sn_V) (σ' : sn_M), post Qv σ' → (∀ v, Qv = some v → sn_vo v) → (∀ k i j, sn_R (σ'.1 k i j)) → ∀ t, MQ below (fun _ st o t => o = .returned (Qv.map (sn_cv ad)) ∧ va_P D sn_cl (sn_wd dA ad σ') t.heap ∧ va_F A st t) (vs.map (sn_cv ad)).toArray s 0 0 A t → ∃ o, t.status = .running ∧ Ended t below o ∧ sn_Qt D dA ad A post tp (vs.map (sn_cv ad)).toArray s o t := by
        rintro Qv σ' h1 h2 h3 t ⟨o, q1, q2, ⟨q3, q4, q5⟩, L, ⟨-, q6, q7⟩, q8⟩
        exact ⟨o, q1, q2, Or.inl ⟨Qv, σ', q3, h1, h2, q4, h3⟩, q5, L, q6, q7.weaken (fun y hy _ => hy) (by omega) (by omega), q8⟩
      refine hbody vs σ post tp hsp hvs hR (sn_G p l e (sn_rt d) s m (vs.map (sn_cv ad)).toArray below meth c _ D dA ad A s.heap nL) (fun n st => sn_it_ok (fun K hk pc L S σ h => ?_) n st) ?_ s.heap [] ls ⟨hP, hD, hS, hR⟩ hLo (fun v hv => by cases hv)
      · refine sn_step_ok (ret := ret) hx hb hK hts hown hpr hfi hlc (fun x n ci s' hc => hca x n ci s' hc p l e (sn_rt d) s m _ below meth c _ code nL D dA ad A s.heap rfl rfl hx hb hml hown hts hK hA) ?_ ?_ ?_ hk h
        · intro pc t ls x σ' H locs hdec hfit ht hW hx1 hpost
          have hf2 : ((decide (ret = some .int) && Nat.beq t 0) || (decide (ret = some .boolean) && Nat.beq t 1)) = true := hfit
          rw [Bool.or_eq_true, Bool.and_eq_true, Bool.and_eq_true] at hf2
          refine sn_Wm (hmo (some (.inl x)) σ' hpost (fun v hv => by cases hv; exact hx1) hW.2.2.2) ?_
          rcases hf2 with ⟨h1, h2⟩ | ⟨h1, h2⟩
          · have h1 := of_decide_eq_true h1
            exact W.iret (v := Int32.ofInt x) hx hb (hr.trans h1) (fun t ht hWm => ⟨rfl, by rw [ht]; exact hW.1, hW.2.2.1.F ht⟩) hW.2.2.1.2.2 hdec
          · have h1 := of_decide_eq_true h1
            have h2 := Nat.eq_of_beq_eq_true h2
            exact W.zret (v := Int32.ofInt x) (ty := .boolean) hx hb (hr.trans h1) (sn_nar (ht h2)).1 (fun t ht hWm => ⟨rfl, by rw [ht]; exact hW.1, hW.2.2.1.F ht⟩) hW.2.2.1.2.2 hdec
        · intro pc ls x σ' H locs hdec hret hW hpost
          refine sn_Wm (hmo (some (.inr (.inl x))) σ' hpost (fun v hv => by cases hv; trivial) hW.2.2.2) ?_
          exact W.lret (v := x) hx hb (hr.trans hret) (fun t ht hWm => ⟨rfl, by rw [ht]; exact hW.1, hW.2.2.1.F ht⟩) hW.2.2.1.2.2 hdec
        · intro pc ls σ' H locs hdec hret hW hpost
          refine sn_Wm (hmo none σ' hpost (fun v hv => by cases hv) hW.2.2.2) ?_
          exact W.vret hx hb (hr.trans hret) (fun t ht hWm => ⟨rfl, by rw [ht]; exact hW.1, hW.2.2.1.F ht⟩) hW.2.2.1.2.2 hdec
      · intro pc k L σ' hk htp H locs ls hW hLs _
        obtain ⟨hk12, ix, is, ic, text, d0, d3, d4, d6, d9, hin⟩ := hth pc k hk
        obtain ⟨hP1, hD1, hS1, hR1⟩ := hW
        have hst : ∀ (a : Nat) (cell : Cell), s.heap[a]? = some cell → cell.vm.isStatics = true → H[a]? = some cell := sn_stat hP (by rw [hAe]; exact hS1)
        refine sn_throw hx hstr hb (hLs.1.trans hml.symm) hown (sn_fitx hk12) (fun w hw => hw1 w (hin w hw)) (sn_mlx hk12) hst d0 d3 d4 d6 d9 (hout _) hd (by show 82 ≤ 60 * d; omega) (Nat.le_refl _) (Nat.le_refl _) hlocks ?_
        intro t a ce z1 z2 z3 z4 z5 z6 z7 z8 z9 z10
        refine ⟨.threw a, z1, z2, Or.inr ⟨k, a, ce, σ', rfl, hk12, htp, hP1.kept (fun i x hx => z6 x.1 ((hP1 i x hx).lt)), hR1, z7, z9, z8⟩, ⟨Nat.le_trans hS1.1 z5, fun q h1 h2 => ?_⟩, locs, z3, z4, hS1.2.2⟩
        rw [z6 q (Nat.lt_of_lt_of_le h1 hS1.1)]
        exact hS1.2.1 q h1 h2
    obtain ⟨t, a1, o, b1, b2, b3⟩ := key s₁ hh0 (Stand.of_body B)
    exact ⟨t, o, a1, b1, b2, b3⟩
section SNY
variable {p : Program} {l : Launch} {e : Env} {R : Room} {s U : State} {m : MethodId} {args : Array Value} {below : List Frame} {meth : Method} {c : Code} {locs : List Loc} {cells slots : Nat}
/-- behind a call that has returned, or thrown -/
theorem tc_back (X : Stand p l e R s m args below meth c U locs cells slots) {g : JFrame} {mk : MethodId} {a : Array Value} {o : Outcome} {t : State} {L : List Loc} {k n : Nat} {ig : Instr} (hg : g.method = m) (hdg : decode c.code g.pc = .ok (ig, 3)) (hend : Ended t (U.setTop g).frames o)
    (hW2 : (U.calling g mk a).WarmedH t.vm) (hsame : (U.calling g mk a).sameButNew ({ t with vm := (U.calling g mk a).vm } : State) L k n) :
    ∃ T' : State, T'.heap = t.heap ∧ T'.vm = t.vm ∧ Stand p l e R s m args below meth c T' (locs ++ L) (cells + k) (slots + n) ∧ (∀ v, o = .returned v → t = T'.setTop { g with pc := g.pc + 3, stack := v.toList ++ g.stack }) ∧ ∀ x, o = .threw x → t = (T'.setTop g).pushFrame (.throwing x) := by
  subst hg
  have h : At U g.method c below := X.here
  obtain ⟨e2, q2, q3, q4, q5, q6⟩ := hsame
  have hW' : U.WarmedH t.vm := hW2
  obtain ⟨g0, hg0⟩ := Option.isSome_iff_exists.mp h.top
  obtain ⟨r, hr⟩ := State.topJava?_eq_some.mp hg0
  have e3 : t = (({ (U.calling g mk a).setFrames t.frames with heap := t.heap, slotsUsed := t.slotsUsed } : State)).setVm t.vm := by
    have h1 : t = ({ t with vm := (U.calling g mk a).vm } : State).setVm t.vm := rfl
    rw [e2] at h1
    exact h1
  have hr' : (({ U with heap := t.heap, slotsUsed := t.slotsUsed } : State).setVm t.vm).frames = .java g0 :: r := hr
  have hsm : U.sameButNew ({ U with heap := t.heap, slotsUsed := t.slotsUsed } : State) L k n := by
    refine ⟨?_, q2, q3, q4, q5, q6⟩
    obtain ⟨tt, ht, -⟩ := State.frames_cons hr
    show ({ U with heap := t.heap, slotsUsed := t.slotsUsed } : State) = { U.setFrames U.frames with heap := t.heap, slotsUsed := t.slotsUsed }
    rw [State.setFrames_self ht]
  rw [State.frames_setTop' g h.top] at hend
  refine ⟨({ U with heap := t.heap, slotsUsed := t.slotsUsed } : State).setVm t.vm, rfl, rfl,
    ⟨X.admits, X.cas, X.clock, X.frames, X.room, X.hears, X.method, X.code, (X.here.setHeapUsed t.heap t.slotsUsed).setVm hW'.alike, X.tail, State.WarmedH.trans X.warmed hW', X.limits, X.bytes, X.same.trans (hsm.setVm s.vm)⟩, fun v hv => ?_, fun x hx => ?_⟩
  · subst hv
    obtain ⟨c2, i2, len2, hc2, hd2, hf2⟩ := hend
    have hcc : c2 = c := by
      have h1 : t.code? g.method = U.code? g.method := by rw [State.code?_eq, State.code?_eq, hW'.alike.method?]
      exact Option.some.inj (hc2.symm.trans (h1.trans h.code))
    subst hcc
    have hlen : len2 = 3 := by rw [hdg] at hd2; cases hd2; rfl
    subst hlen
    refine e3.trans ?_
    rw [hf2, State.calling_eq h.top, State.setFrames_setFrames, State.setTop_of_frames _ hr', hr]
    rfl
  · subst hx
    have hf2 : t.frames = .throwing x :: .java g :: U.frames.tail := hend
    refine e3.trans ?_
    rw [hf2, State.calling_eq h.top, State.setFrames_setFrames, State.pushFrame, State.setTop_of_frames _ hr', hr, State.setFrames_setFrames]
    have hcur : (({ U with heap := t.heap, slotsUsed := t.slotsUsed } : State).setVm t.vm).cur < (({ U with heap := t.heap, slotsUsed := t.slotsUsed } : State).setVm t.vm).threads.size := State.cur_lt_of_frames hr'
    rw [State.frames_setFrames _ hcur]
    rfl
end SNY
section SNZ
variable {p : Program} {l : Launch} {e : Env} {R : Room} {s : State} {m : MethodId} {args : Array Value} {below : List Frame} {meth : Method} {c : Code} {Q : State → Prop} {cells slots : Nat}
variable {D : va_G} {dA : Nat → ClassId} {ad : sn_A} {A : Nat → Prop} {H0 : Heap}
/-- a call of a method that may throw, in a method that catches -/
theorem sn_callT {own : String} {Ts ws tw : List Cond} {x n ci d' i1 i2 b1 e1 h1 b2 e2 h2 : Nat} {sp : sn_PT} {y : MethodName} {code cc : ByteArray} {maxL nL pc : Nat} {ret : Option FieldType} {ls : Array Slot} {q : Nat × Nat} {t : List sn_V} {rest : List Value} {σ : sn_M} {H : Heap} {locs : List Loc} {post : Option sn_V → sn_M → Prop} {tp : Int → sn_M → Prop} (r : vw_C)
    (hM : sn_TC y (Cond.code y code maxL ret :: ws) tw d' sp) (htr : l.stackTraces = false) (hRf : d' + 1 ≤ R.frames) (hRl : 8 + (maxL + 11) + 60 * d' ≤ R.locals) (hcs : cells + 1 ≤ R.cells ∧ slots + 6 ≤ R.slots)
    (hT : GoodIn Ts (wsV own x y.cls y (Cond.code y code maxL ret :: ws))) (hci : ci ≠ 0) (hcl : sn_cl[ci - 1]? = some r) (hrc : r.1 = y.cls)
    (hnm : y.cls ≠ "java/lang/invoke/MethodHandle" ∧ y.cls ≠ "java/lang/invoke/VarHandle" ∧ (parseMethodDescriptor y.desc).map (fun d => d.parameters.length + 1) = some n)
    (hx : p.tables.exec = Jvm.exec) (hb : c.code = cc) (hml : c.maxLocals = nL) (hown : s.vm.findClass own = some m.cls) (hts : ∀ w ∈ Ts, w.before args s = true) (hK : va_K D sn_cl (sn_tys dA) s) (hA : ∀ q, H0.size ≤ q → A q)
    (htw : sn_ml tw = true) (hw : ∀ w ∈ tw, w.before args s = true) (hwc : ∀ w ∈ tc_ws own i1 i2, w.before args s = true) (hi1 : i1 ≠ 0) (hi2 : i2 ≠ 0) (hSt : ∀ (a : Nat) (cell : Cell), s.heap[a]? = some cell → cell.vm.isStatics = true → H[a]? = some cell)
    (htab : c.exceptionTable.toList = [⟨b1, e1, h1, i1⟩, ⟨b2, e2, h2, i2⟩]) (hc1 : covers ⟨b1, e1, h1, i1⟩ pc = true) (hc2 : covers ⟨b2, e2, h2, i2⟩ pc = true)
    (hdec : decode cc pc = .ok (.invokevirtual x, 3)) (hq : sn_kc q.1 + 1 = ci) (hn : t.length + 1 = n) (hsp : sp (.inr (.inr q) :: t) σ post tp) (hW : sn_Wd D dA ad A H0 σ H locs) (has : ∀ v ∈ (.inr (.inr q) :: t : List sn_V), sn_vo v) (hls : ls.size = nL) (hr8 : (rest.map fun v => v.category).sum ≤ 8)
    (hk1 : ∀ (r : Option sn_V) (σ' : sn_M) (H1 : Heap) (locs1 : List Loc), post r σ' → sn_Wd D dA ad A H0 σ' H1 locs1 → (∀ v, r = some v → sn_vo v) → W p l e R s m args below meth c H1 locs1 (cells + 1) (slots + 6) Q (F0 m (pc + 3) ls ((r.map (sn_cv ad)).toList ++ rest)))
    (hk2 : ∀ (k : Int) (a : Nat) (σ' : sn_M) (H1 : Heap) (locs1 : List Loc), k = 1 ∨ k = 2 → tp k σ' → sn_Wd D dA ad A H0 σ' H1 locs1 → W p l e R s m args below meth c H1 locs1 (cells + 1) (slots + 6) Q (F0 m (if k = 1 then h1 else h2) ls [.ref a])) :
    W p l e R s m args below meth c H locs cells slots Q (F0 m pc ls ((t.map (sn_cv ad)).reverse ++ .ref (ad q.1 q.2) :: rest)) := by
  intro T hT0 X
  subst hT0
  subst hb
  obtain ⟨g1, g2, g3⟩ := hnm
  have hM1 := hM l D dA ad T.heap.size (.inr (.inr q) :: t) σ post tp htr hsp has hW.2.2.2
  have hqo : sn_ok q.1 q.2 := has (.inr (.inr q)) List.mem_cons_self
  obtain ⟨np, hnp⟩ := sn_ps_at hqo
  have he := sn_wd_at (dA := dA) (ad := ad) (σ := σ) hnp
  have hkc : sn_kc q.1 = ci - 1 := by omega
  rw [sn_en_o (by rw [hkc]; exact sn_cl_lt hcl), hkc] at he
  obtain ⟨cell, c1, c2, c3⟩ := va_recv hK hW.1 hcl he
  rw [hrc] at c3
  have hwv := fun w (h : w ∈ wsV own x y.cls y (Cond.code y code maxL ret :: ws)) => hts w (hT w h).1
  have hcode : (Cond.code y code maxL ret).before args s = true := hwv _ (by simp [wsV])
  have hini : (Cond.initialized y.cls).before args s = true := hwv _ (by simp [wsV])
  obtain ⟨mk, methM, hnamed, hmethM, hstM, habM⟩ := Cond.instanceMethod_spec (hwv (.instanceMethod y) (by simp [wsV]))
  obtain ⟨methM', cM, hmethM', hcM, -, hlM, -, -, -, hsigM⟩ := Cond.code_spec hnamed hcode
  cases hmethM.symm.trans hmethM'
  obtain ⟨cc2, r2, m2, q1, q2, q3, q4, kP, hkP, hkPi⟩ := Cond.selects_spec (hwv (.selects y.cls y y) (by simp [wsV]))
  cases c3.symm.trans q1
  cases (State.methodFound?_of_named hnamed ⟨g1, g2⟩).symm.trans q2
  cases hnamed.symm.trans q3
  have hselP : selectMethod e.platform s.vm cell.cls mk = .method mk := by rw [Launch.admits_selectMethod X.admits]; exact q4
  have hlen : t.length = methM.sig.parameters.length := by
    rw [hsigM] at g3
    have : methM.sig.parameters.length + 1 = n := Option.some.inj g3
    omega
  obtain ⟨vm1, X1, hstep1⟩ := X.invokevirtual hx hown (hwv (.methodLink own x y) (by simp [wsV])) hnamed hmethM hstM hkP hkPi ⟨g1, g2⟩ (a := ad q.1 q.2) (cell := cell) c1
    (fun z h => by rw [h] at c2; cases c2) hselP hmethM habM hkP hkPi (g := F0 m pc ls ((t.map (sn_cv ad)).reverse ++ .ref (ad q.1 q.2) :: rest)) rfl (argsL := t.map (sn_cv ad)) (rest := rest) (by rw [List.length_map]; exact hlen) rfl hdec
  have hg1 : ({ F0 m pc ls ((t.map (sn_cv ad)).reverse ++ .ref (ad q.1 q.2) :: rest) with stack := rest } : JFrame) = F0 m pc ls rest := rfl
  rw [hg1] at hstep1
  have hU : (T.setVm vm1).heap = T.heap := rfl
  have hal : s.WarmedH (T.setVm vm1).vm := X1.warmed
  have hnU : (T.setVm vm1).methodNamed? y = some mk := X1.named hnamed
  have hwsU : ∀ w ∈ (Cond.code y code maxL ret :: ws), ∀ a' : Array Value, w.before a' (T.setVm vm1) = true := fun w h a' => word_at hal (hT w (List.mem_append_right _ h)).2 (hwv w (List.mem_append_right _ h))
  obtain ⟨kY, hkY, -⟩ := className_of_methodNamed hnU
  have hinitY : kY.init = .initialized := Cond.initialized_spec (findClass_of_methodNamed hnU) hkY (word_at (args := args) (a' := args) hal (Or.inl rfl) hini)
  obtain ⟨methY, cY, hmY, hcY, -, hlY, -⟩ := Cond.code_spec hnU (hwsU _ List.mem_cons_self args)
  have happ : (headSpec (Cond.code y code maxL ret :: ws) (sn_rt d')).appliesLoose y e.platform ((T.setVm vm1).calling (F0 m pc ls rest) mk (Value.ref (ad q.1 q.2) :: t.map (sn_cv ad)).toArray) = true :=
    Spec.appliesLoose_calling (g := F0 m pc ls rest) X1.here hdec hnU hkY hinitY
      (X1.room_calling (g := F0 m pc ls rest) (R' := sn_rt d') (hls.trans hml.symm) hmY hcY hRf (by rw [hlY]; show 2 * 0 + _ + _ + 60 * d' ≤ _; show _ ≤ R.locals; simp only [Nat.mul_zero, Nat.zero_add]; omega) hcs.1 hcs.2) (atoms_intro fun w h => hwsU w h _)
  obtain ⟨mid, hmid⟩ := X1.here.above
  have hfr : ((T.setVm vm1).setTop (F0 m pc ls rest)).frames = (.java (F0 m pc ls rest) :: mid) ++ below := by rw [State.frames_setTop' _ X1.here.top, hmid]; rfl
  have hch : ((T.setVm vm1).calling (F0 m pc ls rest) mk (Value.ref (ad q.1 q.2) :: t.map (sn_cv ad)).toArray).heap = T.heap := rfl
  have hcv0 : ((T.setVm vm1).calling (F0 m pc ls rest) mk (Value.ref (ad q.1 q.2) :: t.map (sn_cv ad)).toArray).vm = (T.setVm vm1).vm := rfl
  have hpre : va_Pc ((.inr (.inr q) :: t : List sn_V).map (sn_cv ad)) (fun U => sn_Pc D dA ad T.heap.size σ U ∧ ∀ w ∈ tw, w.before #[] U = true) (Value.ref (ad q.1 q.2) :: t.map (sn_cv ad)).toArray ((T.setVm vm1).calling (F0 m pc ls rest) mk (Value.ref (ad q.1 q.2) :: t.map (sn_cv ad)).toArray) :=
    ⟨rfl, ⟨by rw [hch], by rw [hch]; exact hW.1, va_K.moved (u := s) (by rw [hcv0]; exact hal.alike) hK, hW.2.1.weaken (fun _ _ _ _ => trivial)⟩, sn_ml_ok htw (s := s) (by rw [hcv0]; exact hal) (by rw [hch]; exact hSt) hw⟩
  obtain ⟨o, s2, hsteps, hend, hq2⟩ : ∃ o s2, Steps p.tables e below (doInvoke e ((T.setVm vm1).setTop (F0 m pc ls rest)) [] mk (Value.ref (ad q.1 q.2) :: t.map (sn_cv ad)).toArray).1 s2 ∧ Ended s2 ((T.setVm vm1).setTop (F0 m pc ls rest)).frames o ∧ sn_Qt D dA ad (va_A (sn_wd dA ad σ) T.heap.size) post tp (Value.ref (ad q.1 q.2) :: t.map (sn_cv ad)).toArray ((T.setVm vm1).calling (F0 m pc ls rest) mk (Value.ref (ad q.1 q.2) :: t.map (sn_cv ad)).toArray) o s2 := by
    obtain ⟨o, s2, z1, -, z3, z4⟩ := Steps.callFree hM1 p X1.admits X1.cas X1.clock (acts := []) hfr happ hpre trivial
    exact ⟨o, s2, z1, z3, z4⟩
  obtain ⟨hcase, hF, L, hW2, hsame, hL⟩ := hq2
  obtain ⟨T', e1', e2', X', hret, hthr⟩ := tc_back (mk := mk) (a := (Value.ref (ad q.1 q.2) :: t.map (sn_cv ad)).toArray) (g := F0 m pc ls rest) X1 rfl hdec hend hW2 hsame
  obtain ⟨hP, hD, hS, hR⟩ := hW
  have hin2 : ∀ q, va_A (sn_wd dA ad σ) T.heap.size q → A q := by
    intro q h
    rcases h with ⟨k, en, h⟩ | h
    · exact hD.2 k _ h
    · exact hA q (Nat.le_trans hS.1 h)
  obtain ⟨hz, hkq⟩ := hF
  rw [hch] at hz hkq
  have hSS : va_S A H0 T'.heap (locs ++ L) := by
    refine ⟨Nat.le_trans hS.1 (by rw [e1']; exact hz), fun q h1 h2 => ?_, fun q hq => ?_⟩
    · rw [e1', hkq q (Nat.lt_of_lt_of_le h1 hS.1) (fun z => h2 (hin2 q z))]
      exact hS.2.1 q h1 h2
    · rcases List.mem_append.mp hq with h | h
      · exact hS.2.2 q h
      · exact hin2 _ (hL q h)
  rcases hcase with ⟨rr, σ', ho, hp, hvo, hP1, hR1⟩ | ⟨k, a, ce, σ', ho, hk, htp, hP1, hR1, hce, hcv, hcc⟩
  · obtain ⟨tt, a1, b1⟩ := hk1 rr σ' T'.heap (locs ++ L) hp ⟨by rw [e1']; exact hP1, sn_wd_D hD, hSS, hR1⟩ hvo T' rfl X'
    refine ⟨tt, hstep1 _ (fun acts => ?_), b1⟩
    rw [doInvoke_state]
    refine hsteps.trans ?_
    rw [hret _ ho]
    exact a1
  · obtain ⟨vm2, hw2, hf2⟩ := tc_find X' hown hwc hi1 hi2 (g := F0 m pc ls rest) rfl htab hc1 hc2 (a := a) (ce := ce) hk (by rw [e1']; exact hce) hcv (by
      have h3 : (T.setVm vm1).vm.findClass (sn_xc k) = some ce.cls := hcc
      rw [hal.alike.findClass] at h3
      exact h3)
    obtain ⟨tt, a1, b1⟩ := hk2 k a σ' T'.heap (locs ++ L) hk htp ⟨by rw [e1']; exact hP1, sn_wd_D hD, hSS, hR1⟩ (T'.setVm vm2) rfl (X'.noted hw2)
    refine ⟨tt, hstep1 _ (fun acts => ?_), b1⟩
    rw [doInvoke_state]
    refine hsteps.trans ?_
    rw [hthr _ ho]
    exact tc_caught X' rfl hf2 a1
end SNZ
