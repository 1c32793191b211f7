/-! Constructors: the steps that they are made of. -/
theorem nw_gc {c : ClassId} {N : Nat} {f g : Nat → Value} (h : ∀ j, j < N → f j = g j) : arrV c N f = arrV c N g := by
  unfold arrV
  congr 1
  exact congrArg Array.ofFn (funext fun j => h j.val j.isLt)
theorem nw_ty {dA : Nat → ClassId} {D : va_G} {s : State} (hK : va_K D sn_cl (sn_tys dA) s) : s.vm.findClass "[I" = some (dA 0) ∧ s.vm.findClass "[Z" = some (dA 1) ∧ s.vm.findClass "[J" = some (dA 2) ∧ s.vm.findClass "[[I" = some (dA 3) := by
  have h0 := (hK.2 0 _ rfl).2
  have h1 := (hK.2 1 _ rfl).2
  have h2 := (hK.2 2 _ rfl).2
  have h3 := (hK.2 3 _ rfl).2
  have e0 : "[" ++ FieldType.int.toString = "[I" := by decide +kernel
  have e1 : "[" ++ FieldType.boolean.toString = "[Z" := by decide +kernel
  have e2 : "[" ++ FieldType.long.toString = "[J" := by decide +kernel
  have e3 : "[" ++ (FieldType.array FieldType.int).toString = "[[I" := by decide +kernel
  have h0 : s.vm.findClass ("[" ++ FieldType.int.toString) = some (dA 0) := h0
  have h1 : s.vm.findClass ("[" ++ FieldType.boolean.toString) = some (dA 1) := h1
  have h2 : s.vm.findClass ("[" ++ FieldType.long.toString) = some (dA 2) := h2
  have h3 : s.vm.findClass ("[" ++ (FieldType.array FieldType.int).toString) = some (dA 3) := h3
  rw [e0] at h0
  rw [e1] at h1
  rw [e2] at h2
  rw [e3] at h3
  exact ⟨h0, h1, h2, h3⟩
/-- a new row; a new table and its rows -/
def nw_e (q : Nat) (d : ClassId) (a0 : vp_A) : va_W := [(q, .inl (d, a0))]
def nw_tb (dA : Nat → ClassId) (q : Nat) : va_W := (q, .inl (dA 3, 9, .inr (.inr (.inr (.inr (fun j => some (q + 1 + j))))))) :: (List.range 9).map (fun j => (q + 1 + j, .inl (dA 0, 60, .inl (fun _ => 0))))
/-- links to the constructors of nest mates -/
def nw_ns : List (String × Nat × MethodName) := [("SwitchedNets", 9, ⟨"SwitchedNets$Formulas", "<init>", "()V"⟩), ("SwitchedNets", 18, ⟨"SwitchedNets$Structure", "<init>", "()V"⟩), ("SwitchedNets", 31, ⟨"SwitchedNets$Switchings", "<init>", "()V"⟩), ("SwitchedNets", 38, ⟨"SwitchedNets$Proof", "<init>", "()V"⟩), ("SwitchedNets", 45, ⟨"SwitchedNets$Likeness", "<init>", "()V"⟩), ("SwitchedNets", 52, ⟨"SwitchedNets$LinkingSearch", "<init>", "()V"⟩), ("SwitchedNets$LinkingSearch", 11, ⟨"SwitchedNets$Structure", "<init>", "()V"⟩), ("SwitchedNets$LinkingSearch", 20, ⟨"SwitchedNets$Switchings", "<init>", "()V"⟩)]
def nw_M (U : State) : Prop := mn_k U ∧ ∀ q ∈ nw_ns, va_Nw (.methodLinkNest q.1 q.2.1 q.2.2 "SwitchedNets") U
theorem nw_M_w {s U : State} (hW : s.WarmedH U.vm) (h : nw_M s) : nw_M U := ⟨mn_k_moved hW.alike h.1, fun q hq => (h.2 q hq).warmM hW⟩
theorem nw_M_s {u U : State} (hv : u.vm = U.vm) (h : nw_M u) : nw_M U := ⟨mn_k_moved (by rw [hv]; exact Vm.Alike.refl _) h.1, fun q hq => (h.2 q hq).same rfl hv⟩
def nw_P (D : va_G) (dA : Nat → ClassId) (ws : va_W) (sz : Nat) (U : State) : Prop := U.heap.size = sz ∧ va_P D sn_cl ws U.heap ∧ va_K D sn_cl (sn_tys dA) U ∧ va_D (fun _ => True) ws ∧ nw_M U
/-- a constructor's contract -/
def nw_C (y : MethodName) (code : ByteArray) (d mc ms : Nat) (w0 : Nat → va_W) (w1 : (Nat → ClassId) → Nat → (Nat → Nat) → va_W) : Prop := ∀ (l : Launch) (D : va_G) (dA : Nat → ClassId) (h0 sz : Nat),
  Met l y (Cond.code y code 1 none :: sn_ws) { frames := d, cells := mc, slots := ms, locals := 60 * d } (va_Pc [.ref h0] (nw_P D dA (w0 h0) sz)) (va_Qv (fun _ : Nat → Nat => True) (fun u t => va_P D sn_cl (w1 dA h0 u) t.heap ∧ va_D (va_A (w0 h0) sz) (w1 dA h0 u)) (va_A (w0 h0) sz)) mc ms (va_A (w0 h0) sz)
section NW
variable {p : Program} {l : Launch} {e : Env} {R : Room} {s : State} {m : MethodId} {args : Array Value} {below : List Frame} {meth : Method} {c : Code} {Q : State → Prop} {cells slots : Nat}
variable {D : va_G} {dA : Nat → ClassId} {A : Nat → Prop} {H0 H : Heap} {locs : List Loc} {cc : ByteArray} {own : String} {fi : Nat → Option (Nat × Nat)} {ws : va_W} {h0 ci k x pc : Nat} {fs : List Value} {ls : Array Slot}
/-- a final field of the object at place 0 -/
theorem nw_put (hx : p.tables.exec = Jvm.exec) (hb : c.code = cc) (hts : ∀ w ∈ sn_ws, w.before args s = true) (hown : s.vm.findClass own = some m.cls) (hname : meth.name = "<init>") (hfi : sn_FI own sn_ws fi) (hf : fi x = some (ci, k)) {r : vw_C} (hr : sn_cl[ci]? = some r) (hro : r.1 = own)
    (hK : va_K D sn_cl (sn_tys dA) s) (hP : va_P D sn_cl ((h0, .inr (ci, fs)) :: ws) H) (hD : va_D A ((h0, .inr (ci, fs)) :: ws)) (hS : va_S A H0 H locs) {fs1 : List Value} {ty : FieldType} {v : Value} (hfs : fs.set k v = fs1) (hty : parseFieldDescriptor (r.2.1 k).2.2.1 = some ty) (hn : narrow ty v = v) (hfit : fits ty v = true) (hl : k < fs.length) (hd : decode cc pc = .ok (.putfield x, 3))
    (kk : ∀ (H1 : Heap) (locs1 : List Loc), va_P D sn_cl ((h0, .inr (ci, fs1)) :: ws) H1 → va_D A ((h0, .inr (ci, fs1)) :: ws) → va_S A H0 H1 locs1 → W p l e R s m args below meth c H1 locs1 cells slots Q (F0 m (pc + 3) ls [])) :
    W p l e R s m args below meth c H locs cells slots Q (F0 m pc ls [v, .ref h0]) := by
  subst hfs
  obtain ⟨r', h1, h2, h3, h4, h5⟩ := hfi x ci k hf
  cases hr.symm.trans h1
  cases hfin : (r.2.1 k).2.2.2 with
  | true => exact va_putF (C := r.1) (T := r.2.1) (N := r.2.2) (ty := ty) hx hb hts h3 _ (sn_cl_f h1).1 (sn_cl_f h1).2 hown hK hP hD hS 0 rfl h1 k h2 (hts _ h5) (fun z hz => by rw [h4] at hz; exact hz) hfin hname (h4.trans hro) hty hn hfit hl hd kk
  | false => exact va_put (C := r.1) (T := r.2.1) (N := r.2.2) (ty := ty) hx hb hts h3 _ (sn_cl_f h1).1 (sn_cl_f h1).2 hown hK hP hD hS 0 rfl h1 k h2 (hts _ h5) (fun z hz => by rw [h4] at hz; exact hz) hfin hty hn hfit hl hd kk
/-- a new row, and its field -/
theorem nw_arr (hx : p.tables.exec = Jvm.exec) (hb : c.code = cc) (hts : ∀ w ∈ sn_ws, w.before args s = true) (hown : s.vm.findClass own = some m.cls) (hname : meth.name = "<init>") (hfi : sn_FI own sn_ws fi) (hf : fi x = some (ci, k)) {r : vw_C} (hr : sn_cl[ci]? = some r) (hro : r.1 = own)
    (hK : va_K D sn_cl (sn_tys dA) s) (hP : va_P D sn_cl ((h0, .inr (ci, fs)) :: ws) H) (hD : va_D A ((h0, .inr (ci, fs)) :: ws)) (hS : va_S A H0 H locs) (hA : ∀ q, H0.size ≤ q → A q) (fs1 : Nat → List Value) (hfs : ∀ q, fs.set k (.ref q) = fs1 q) {a0 : vp_A} {ti : Nat} (ws1 : Nat → va_W) (hws : ∀ q, ws ++ nw_e q (dA ti) a0 = ws1 q)
    {atype : ArrayType} {ty : FieldType} (hat : newarray.typeOf atype = ty) (harr : Cond.arrayClass ty ∈ sn_ws) (hti : ∀ cA : ClassId, va_RA s cA ty → cA = dA ti) {n : Int32} {N' : Nat} (ha : ∀ cA : ClassId, vp_cell cA a0 = arrV cA N' (fun _ => defaultValue ty)) (hn : ¬ n < 0) (hN : n.toNatClampNeg = N') (hby : N' * componentBytes ty ≤ 536870912)
    (hc1 : cells + 1 ≤ R.cells) (hc2 : slots + N' ≤ R.slots) (hty : parseFieldDescriptor (r.2.1 k).2.2.1 = some (.array ty)) (hl : k < fs.length) (hd : decode cc pc = .ok (.newarray atype, 2)) (hd2 : decode cc (pc + 2) = .ok (.putfield x, 3))
    (kk : ∀ (q : Nat) (H1 : Heap) (locs1 : List Loc), va_P D sn_cl ((h0, .inr (ci, fs1 q)) :: ws1 q) H1 → va_D A ((h0, .inr (ci, fs1 q)) :: ws1 q) → va_S A H0 H1 locs1 → W p l e R s m args below meth c H1 locs1 (cells + 1) (slots + N') Q (F0 m (pc + 2 + 3) ls [])) :
    W p l e R s m args below meth c H locs cells slots Q (F0 m pc ls [.int n, .ref h0]) := by
  subst hat
  refine va_newa (a0 := a0) hx hb (hts _ harr) rfl hK hP hD hS hA ha hn hN hby hc1 hc2 hd (fun q cA H1 g1 g2 g3 g4 => ?_)
  have hcA : cA = dA ti := hti cA (g1.2 4 _ rfl).2
  subst hcA
  exact nw_put hx hb hts hown hname hfi hf hr hro hK g2 g3 g4 (hfs _) hty rfl rfl hl hd2 (fun H2 locs2 z1 z2 z3 => kk q H2 locs2 (by rw [← hws]; exact z1) (by rw [← hws]; exact z2) z3)
/-- a new table of rows, and its field -/
theorem nw_tab (hx : p.tables.exec = Jvm.exec) (hb : c.code = cc) (hts : ∀ w ∈ sn_ws, w.before args s = true) (hown : s.vm.findClass own = some m.cls) (hname : meth.name = "<init>") (hfi : sn_FI own sn_ws fi) (hf : fi x = some (ci, k)) {r : vw_C} (hr : sn_cl[ci]? = some r) (hro : r.1 = own)
    (hK : va_K D sn_cl (sn_tys dA) s) (hP : va_P D sn_cl ((h0, .inr (ci, fs)) :: ws) H) (hD : va_D A ((h0, .inr (ci, fs)) :: ws)) (hS : va_S A H0 H locs) (hA : ∀ q, H0.size ≤ q → A q) (fs1 : Nat → List Value) (hfs : ∀ q, fs.set k (.ref q) = fs1 q) (hmk : mn_k s) {index : Nat} (hcl : Cond.classLink own index "[[I" ∈ sn_ws) (har : Cond.arrayClass .int ∈ sn_ws)
    (hc1 : cells + 10 ≤ R.cells) (hc2 : slots + 549 ≤ R.slots) (hty : parseFieldDescriptor (r.2.1 k).2.2.1 = some (.array (.array .int))) (hl : k < fs.length) (hd : decode cc pc = .ok (.multianewarray index 2, 4)) (hd2 : decode cc (pc + 4) = .ok (.putfield x, 3))
    (kk : ∀ (q : Nat) (H1 : Heap) (locs1 : List Loc), va_P D sn_cl ((h0, .inr (ci, fs1 q)) :: (ws ++ nw_tb dA q)) H1 → va_D A ((h0, .inr (ci, fs1 q)) :: (ws ++ nw_tb dA q)) → va_S A H0 H1 locs1 → W p l e R s m args below meth c H1 locs1 (cells + 10) (slots + 549) Q (F0 m (pc + 4 + 3) ls [])) :
    W p l e R s m args below meth c H locs cells slots Q (F0 m pc ls [.int 60, .int 9, .ref h0]) := by
  refine sn_mna hx hb hown (hts _ hcl) hmk (hts _ har) hc1 hc2 hd (fun H1 cA cB nB nA z1 z2 z3 z4 => ?_)
  obtain ⟨t0, -, -, t3⟩ := nw_ty hK
  cases t0.symm.trans nB
  cases t3.symm.trans nA
  have hold : va_P D sn_cl ((h0, .inr (ci, fs)) :: ws) H1 := hP.kept (fun i q hq => z2 q.1 ((hP i q hq).lt))
  have hlen : ∀ i (q : Nat × va_E), (nw_tb dA H.size)[i]? = some q → q.1 = H.size + i ∧ (i = 0 → q.2 = .inl (dA 3, 9, .inr (.inr (.inr (.inr (fun j => some (H.size + 1 + j))))))) ∧ (i ≠ 0 → i < 10 ∧ q.2 = .inl (dA 0, 60, .inl (fun _ => 0))) := by
    intro i q hq
    cases i with
    | zero =>
      cases hq
      exact ⟨rfl, fun _ => rfl, fun h => absurd rfl h⟩
    | succ i =>
      unfold nw_tb at hq
      rw [List.getElem?_cons_succ, List.getElem?_map] at hq
      obtain ⟨j, hj, hq⟩ := Option.map_eq_some_iff.mp hq
      obtain ⟨hi, hj⟩ := List.getElem?_eq_some_iff.mp hj
      rw [List.length_range] at hi
      rw [List.getElem_range] at hj
      subst hj
      subst hq
      exact ⟨by show H.size + 1 + i = H.size + (i + 1); omega, fun h => by omega, fun _ => ⟨by omega, rfl⟩⟩
  have hnew : va_P D sn_cl (nw_tb dA H.size) H1 := by
    intro i q hq
    obtain ⟨a1, a2, a3⟩ := hlen i q hq
    obtain ⟨q1, q2⟩ := q
    have a1 : q1 = H.size + i := a1
    subst a1
    by_cases hi : i = 0
    · have a2 : q2 = _ := a2 hi
      subst a2
      subst hi
      show H1[H.size]? = some (arrV (dA 3) 9 (fun j => va_rf (some (H.size + 1 + j))))
      rw [z3]
      unfold mn_o
      exact congrArg some (nw_gc (fun j hj => by rw [if_pos hj]; rfl))
    · obtain ⟨a4, a5⟩ := a3 hi
      have a5 : q2 = _ := a5
      subst a5
      show H1[H.size + i]? = some (arrV (dA 0) 60 (fun _ => .int 0))
      have := z4 (i - 1) (by omega)
      rw [show H.size + 1 + (i - 1) = H.size + i by omega] at this
      exact this
  have hSS : va_S A H0 H1 (locs ++ (List.range 9).map (fun j => ⟨H.size, j⟩)) := by
    refine ⟨by rw [z1]; have := hS.1; omega, fun q h1 h2 => (z2 q (Nat.lt_of_lt_of_le h1 hS.1)).trans (hS.2.1 q h1 h2), fun q hq => ?_⟩
    rcases List.mem_append.mp hq with h | h
    · exact hS.2.2 q h
    · obtain ⟨j, -, rfl⟩ := List.mem_map.mp h
      exact hA _ hS.1
  have hDD : va_D A (((h0, .inr (ci, fs)) :: ws) ++ nw_tb dA H.size) := by
    refine hD.app ⟨fun i j p q hp hq hpq => ?_, fun i q hq => ?_⟩ (fun i j p q hp hq => ?_)
    · have b1 := (hlen i p hp).1
      have b2 := (hlen j q hq).1
      omega
    · rw [(hlen i q hq).1]
      exact hA _ (Nat.le_trans hS.1 (by omega))
    · have b1 := (hP i p hp).lt
      have b2 := (hlen j q hq).1
      omega
  exact nw_put hx hb hts hown hname hfi hf hr hro hK (hold.app hnew) hDD hSS (hfs _) hty rfl rfl hl hd2 (fun H2 locs2 z1 z2 z3 => kk H.size H2 locs2 z1 z2 z3)
/-- a new object of a class of one's own, and its field -/
theorem nw_sub (hx : p.tables.exec = Jvm.exec) (hb : c.code = cc) (hml : c.maxLocals = ls.size) (hts : ∀ w ∈ sn_ws, w.before args s = true) (hown : s.vm.findClass own = some m.cls) (hname : meth.name = "<init>") (hfi : sn_FI own sn_ws fi) (hf : fi x = some (ci, k)) {r : vw_C} (hr : sn_cl[ci]? = some r) (hro : r.1 = own)
    (hK : va_K D sn_cl (sn_tys dA) s) (hP : va_P D sn_cl ((h0, .inr (ci, fs)) :: ws) H) (hD : va_D A ((h0, .inr (ci, fs)) :: ws)) (hS : va_S A H0 H locs) (hA : ∀ q, H0.size ≤ q → A q) (fs1 : Nat → List Value) (hfs : ∀ q, fs.set k (.ref q) = fs1 q) (hmk : nw_M s)
    {y : MethodName} {code : ByteArray} {d' mc ms ix ii cs : Nat} {w0 : Nat → va_W} {w1 : (Nat → ClassId) → Nat → (Nat → Nat) → va_W} (hC : nw_C y code d' mc ms w0 w1) {Cn : String} {Tn : u_T} {Ns : Nat} {fs0 : List Value} (hcs : sn_cl[cs]? = some (Cn, Tn, Ns)) (hyc : y.cls = Cn) (hyn : y.name = "<init>") (hw0 : ∀ q, w0 q = [(q, .inr (cs, fs0))])
    (hin : ∀ w ∈ u_ws Cn Tn Ns, w ∈ sn_ws) (hfs0 : ∀ j, j < Ns → defaultValue ((parseFieldDescriptor (Tn j).2.2.1).getD .int) = vp_V fs0 j) (hcl : Cond.classLink own ix Cn ∈ sn_ws) (hins : Cond.instantiable Cn Ns ∈ sn_ws) (hini : Cond.initialized Cn ∈ sn_ws) (hlk : (own, ii, y) ∈ nw_ns) (him : Cond.instanceMethod y ∈ sn_ws) (hcd : Cond.code y code 1 none ∈ sn_ws)
    (hny : y.cls ≠ "java/lang/invoke/MethodHandle" ∧ y.cls ≠ "java/lang/invoke/VarHandle" ∧ (parseMethodDescriptor y.desc).map (fun d => d.parameters.length) = some 0) (hR1 : d' + 1 ≤ R.frames) (hR2 : 20 + 60 * d' ≤ R.locals)
    (hc1 : cells + 1 + mc ≤ R.cells) (hc2 : slots + Ns + ms ≤ R.slots) (hty : parseFieldDescriptor (r.2.1 k).2.2.1 = some (.object Cn)) (hl : k < fs.length) (hd : decode cc pc = .ok (.new ix, 3)) (hd3 : decode cc (pc + 3) = .ok (.dup, 1)) (hd4 : decode cc (pc + 4) = .ok (.invokespecial ii, 3)) (hd7 : decode cc (pc + 7) = .ok (.putfield x, 3))
    (kk : ∀ (q : Nat) (u : Nat → Nat) (H1 : Heap) (locs1 : List Loc), va_P D sn_cl ((h0, .inr (ci, fs1 q)) :: (ws ++ w1 dA q u)) H1 → va_D A ((h0, .inr (ci, fs1 q)) :: (ws ++ w1 dA q u)) → va_S A H0 H1 locs1 → W p l e R s m args below meth c H1 locs1 (cells + 1 + mc) (slots + Ns + ms) Q (F0 m (pc + 7 + 3) ls [])) :
    W p l e R s m args below meth c H locs cells slots Q (F0 m pc ls [.ref h0]) := by
  refine va_new (ci := cs) (fs := fs0) (C := Cn) (T := Tn) (N := Ns) hx hb hts hin _ (sn_cl_f hcs).1 hown (hts _ hcl) (hts _ hins) (hts _ hini) hK hP hD hS hA hcs hfs0 (by omega) (by omega) hd (fun q H1 g1 g2 g3 => ?_)
  refine lv_dup hx hb hd3 rfl ?_
  have hPc : va_P D sn_cl (w0 q) H1 := by
    rw [hw0]
    intro i z hz
    have := g1 ((ws.length + 1) + i) z (by rw [List.getElem?_append_right (by rw [List.length_cons]; omega), List.length_cons, Nat.add_sub_cancel_left]; exact hz)
    exact this
  have hDc : va_D A (w0 q) := by
    rw [hw0]
    refine ⟨fun i j p1 p2 h1 h2 _ => ?_, fun i z hz => ?_⟩
    · have a1 : i < 1 := (List.getElem?_eq_some_iff.mp h1).1
      have a2 : j < 1 := (List.getElem?_eq_some_iff.mp h2).1
      omega
    · exact g2.2 ((ws.length + 1) + i) z (by rw [List.getElem?_append_right (by rw [List.length_cons]; omega), List.length_cons, Nat.add_sub_cancel_left]; exact hz)
  have hFc : ∀ z, va_A (w0 q) H1.size z → A z := by
    intro z hz
    rcases hz with ⟨i, en, h⟩ | h
    · exact hDc.2 i _ h
    · exact hA z (Nat.le_trans g3.1 h)
  refine va_callv (va_runIN (l := l) (e := e) (R := R) (below := below) (meth := meth) (As := []) (rest := [.ref q, .ref h0]) (b := q) (cells := cells + 1) (slots := slots + Ns) ⟨hx, hb, hml, hown, hts⟩ (hC l D dA q H1.size) ⟨va_cnB 0 hts (fun w hw => by
      rcases List.mem_cons.mp hw with rfl | h
      · exact ⟨hcd, good_of_word (sn_wg hcd)⟩
      · exact ⟨h, good_of_word (sn_wg h)⟩) rfl rfl rfl (hmk.2 _ hlk) (by rw [hyc]; exact hts _ hini) hny ⟨hR1, by show 8 + (1 + 11) + 60 * d' ≤ R.locals; omega⟩, hyn, hts _ him⟩
      ⟨fun a U g mk z => ⟨z.1, z.2.1, z.2.2.1, va_K.moved (u := U) (U := U.calling g mk a) (Vm.Alike.refl U.vm) z.2.2.2.1, z.2.2.2.2.1, nw_M_s (u := U) (U := U.calling g mk a) rfl z.2.2.2.2.2⟩, fun U hU hW => ⟨rfl, by rw [hU], by rw [hU]; exact hPc, va_K.moved hW.alike hK, hDc.weaken (fun _ _ _ _ => trivial), nw_M_w hW hmk⟩⟩ rfl rfl rfl rfl (show 2 * 0 + (1 + (1 + 0)) ≤ 8 by omega) hd4 ⟨hc1, hc2⟩) g3 (fun z _ h => hFc z h) hFc (fun u t H2 locs2 ht hvm _ hB hz1 hk1 hS2 => ?_)
  obtain ⟨hP1, hD1⟩ := hB
  rw [ht] at hP1
  have hne : ∀ (i : Nat) (z : Nat × va_E), (((h0, .inr (ci, fs)) :: ws : va_W))[i]? = some z → z.1 < H1.size ∧ ¬ va_A (w0 q) H1.size z.1 := by
    intro i z hz
    have hi : i < (ws.length + 1) := (List.getElem?_eq_some_iff.mp hz).1
    have hz' : (((h0, .inr (ci, fs)) :: ws : va_W) ++ [(q, .inr (cs, fs0))])[i]? = some z := by rw [List.getElem?_append_left hi]; exact hz
    have hlt := (g1 i z hz').lt
    refine ⟨hlt, fun h => ?_⟩
    rcases h with ⟨j, en, h⟩ | h
    · rw [hw0] at h
      have hj : j < 1 := (List.getElem?_eq_some_iff.mp h).1
      rw [show j = 0 by omega] at h
      cases h
      have := g2.1 i (ws.length + 1) z (z.1, .inr (cs, fs0)) hz' (by rw [List.getElem?_append_right (by rw [List.length_cons]; omega), List.length_cons, Nat.sub_self]; rfl) rfl
      omega
    · omega
  have hPP : va_P D sn_cl (((h0, .inr (ci, fs)) :: ws : va_W) ++ w1 dA q u) H2 := by
    refine va_P.app (fun i z hz => ?_) hP1
    have hi : i < (ws.length + 1) := (List.getElem?_eq_some_iff.mp hz).1
    have := g1 i z (by rw [List.getElem?_append_left hi]; exact hz)
    exact this.kept (hk1 z.1 (hne i z hz).1 (hne i z hz).2)
  have hDD : va_D A (((h0, .inr (ci, fs)) :: ws : va_W) ++ w1 dA q u) := by
    refine hD.app (hD1.weaken (fun _ _ _ h => hFc _ h)) (fun i j p1 p2 h1 h2 h3 => ?_)
    have := hD1.2 j p2 h2
    rw [← h3] at this
    exact (hne i p1 h1).2 this
  exact nw_put hx hb hts hown hname hfi hf hr hro hK hPP hDD hS2 (hfs _) hty rfl rfl hl hd7 (fun H3 locs3 z1 z2 z3 => kk q u H3 locs3 z1 z2 z3)
end NW
theorem nw_t0 {dA : Nat → ClassId} {D : va_G} {s : State} (hK : va_K D sn_cl (sn_tys dA) s) : ∀ cA : ClassId, va_RA s cA .int → cA = dA 0 := by
  intro cA h
  have h : s.vm.findClass ("[" ++ FieldType.int.toString) = some cA := h
  have h0 : s.vm.findClass ("[" ++ FieldType.int.toString) = some (dA 0) := (hK.2 0 _ rfl).2
  exact Option.some.inj (h.symm.trans h0)
theorem nw_t1 {dA : Nat → ClassId} {D : va_G} {s : State} (hK : va_K D sn_cl (sn_tys dA) s) : ∀ cA : ClassId, va_RA s cA .boolean → cA = dA 1 := by
  intro cA h
  have h : s.vm.findClass ("[" ++ FieldType.boolean.toString) = some cA := h
  have h0 : s.vm.findClass ("[" ++ FieldType.boolean.toString) = some (dA 1) := (hK.2 1 _ rfl).2
  exact Option.some.inj (h.symm.trans h0)
theorem nw_t2 {dA : Nat → ClassId} {D : va_G} {s : State} (hK : va_K D sn_cl (sn_tys dA) s) : ∀ cA : ClassId, va_RA s cA .long → cA = dA 2 := by
  intro cA h
  have h : s.vm.findClass ("[" ++ FieldType.long.toString) = some cA := h
  have h0 : s.vm.findClass ("[" ++ FieldType.long.toString) = some (dA 2) := (hK.2 2 _ rfl).2
  exact Option.some.inj (h.symm.trans h0)
/-- a constructor's body, with all that its walk needs -/
theorem nw_gen {y : MethodName} {code : ByteArray} {d mc ms : Nat} {w0 : Nat → va_W} {w1 : (Nat → ClassId) → Nat → (Nat → Nat) → va_W} (Ts : List Cond) (hy : plainName y.cls = true) (hn : y.name = "<init>")
    (body : ∀ (p : Program) (l : Launch) (e : Env) (s : State) (m : MethodId) (args : Array Value) (below : List Frame) (meth : Method) (c : Code) (D : va_G) (dA : Nat → ClassId) (h0 : Nat) (A : Nat → Prop) (ls : Array Slot) (Qf : State → Prop),
      p.tables.exec = Jvm.exec → c.code = code → c.maxLocals = 1 → (∀ w ∈ Ts, w.before args s = true) → s.vm.findClass y.cls = some m.cls → meth.name = "<init>" → va_P D sn_cl (w0 h0) s.heap → va_K D sn_cl (sn_tys dA) s → va_D A (w0 h0) → nw_M s → (∀ q, s.heap.size ≤ q → A q) → va_S A s.heap s.heap [] → lv_has ls 1 [(0, .ref h0)] →
      (∀ (H : Heap) (locs : List Loc) (pc : Nat) (u : Nat → Nat), decode code pc = .ok (.return_, 1) → va_P D sn_cl (w1 dA h0 u) H → va_D A (w1 dA h0 u) → va_S A s.heap H locs → W p l e { frames := d, cells := mc, slots := ms, locals := 60 * d } s m args below meth c H locs mc ms Qf (F0 m pc ls [])) →
      W p l e { frames := d, cells := mc, slots := ms, locals := 60 * d } s m args below meth c s.heap [] 0 0 Qf (F0 m 0 ls [])) :
    ∀ (l : Launch) (D : va_G) (dA : Nat → ClassId) (h0 sz : Nat), Met l y (Cond.code y code 1 none :: Ts) { frames := d, cells := mc, slots := ms, locals := 60 * d } (va_Pc [.ref h0] (nw_P D dA (w0 h0) sz)) (va_Qv (fun _ : Nat → Nat => True) (fun u t => va_P D sn_cl (w1 dA h0 u) t.heap ∧ va_D (va_A (w0 h0) sz) (w1 dA h0 u)) (va_A (w0 h0) sz)) mc ms (va_A (w0 h0) sz) := by
  intro l D dA h0 sz
  refine Met.ofW (cc := code) (maxL := 1) (ret := none) hy rfl ?_
  intro p e s m args below meth c s₁ B hml hv
  obtain ⟨rfl, hsz, hP, hK, hD0, hmk⟩ := hv
  have hx := B.exec
  have hb := B.bytes
  have hr := B.returns
  have hts0 := atoms_spec (ws := Cond.code y code 1 none :: Ts) B.pre
  have hts : ∀ w ∈ Ts, w.before ([.ref h0] : List Value).toArray s = true := fun w hw => hts0 w (List.mem_cons_of_mem _ hw)
  have hown : s.vm.findClass y.cls = some m.cls := findClass_of_methodNamed B.named
  have hlocks : meth.locks = false := B.notSynchronized
  have hin : meth.name = "<init>" := ((name_of_methodNamed B.named B.method).1).trans hn
  subst hsz
  have hD := hD0.self (sz := s.heap.size)
  generalize hAe : va_A (w0 h0) s.heap.size = A at hD ⊢
  have hA : ∀ q : Nat, s.heap.size ≤ q → A q := fun q h => by rw [← hAe]; exact Or.inr h
  have hl := lv_entry ([.ref h0]) (n := 1) (Nat.le_of_ble_eq_true rfl)
  rw [lg_entry_eq]
  generalize (lg_sl ([.ref h0]) ++ List.replicate (1 - (lg_sl ([.ref h0])).length) Slot.unset).toArray = ls at hl ⊢
  have hl : lv_has ls 1 [(0, .ref h0)] := hl
  refine body p l e s m _ below meth c D dA h0 A ls _ hx hb hml hts hown hin hP hK hD hmk hA va_S.rf hl (fun H locs pc u hd hP9 hD9 hS => ?_)
  exact W.vret hx hb hr (fun t ht hW => ⟨⟨u, rfl, trivial, by rw [ht]; exact hP9, hD9⟩, hS.F ht⟩) hS.2.2 hd
