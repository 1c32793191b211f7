/-! Calls from a walk that has a room of its own and may have made cells already. -/
section SNE
variable {p : Program} {l : Launch} {e : Env} {R : Room} {s : State} {m : MethodId} {args : Array Value} {below : List Frame} {meth : Method} {c : Code} {Q : State → Prop} {cells slots : Nat}
variable {D : va_G} {dA : Nat → ClassId} {ad : sn_A} {A : Nat → Prop} {H0 : Heap}
theorem sn_after2 {pc mc ms : Nat} {ls : Array Slot} {st0 : List Value} {rest : List Value} {σ : sn_M} {H : Heap} {locs : List Loc} {po : Option sn_V → sn_M → Prop} {a : Array Value} (hW : sn_Wd D dA ad A H0 σ H locs) (hA : ∀ q, H0.size ≤ q → A q)
    (hr : va_Run p l e R s m args below meth c H locs cells slots mc ms (F0 m pc ls st0) rest (sn_Qc D dA ad (va_A (sn_wd dA ad σ) H.size) po a) (va_A (sn_wd dA ad σ) H.size))
    (hk : ∀ (r : Option sn_V) (σ' : sn_M) (H1 : Heap) (locs1 : List Loc), po r σ' → sn_Wd D dA ad A H0 σ' H1 locs1 → (∀ v, r = some v → sn_vo v) → W p l e R s m args below meth c H1 locs1 (cells + mc) (slots + ms) Q (F0 m (pc + 3) ls ((r.map (sn_cv ad)).toList ++ rest))) :
    W p l e R s m args below meth c H locs cells slots Q (F0 m pc ls st0) := by
  intro T hT X
  obtain ⟨v, st₀, t, T', L, h0, X', hL, e1, e2, ⟨⟨r, σ', hv, hp, hvo, hP1, hR1⟩, hz, hkq⟩, st⟩ := hr T hT X
  have hv : v = r.map (sn_cv ad) := by injection hv
  subst hv
  rw [h0] at hz hkq
  obtain ⟨hP, hD, hS, hR⟩ := hW
  have hin : ∀ q, q < H.size → va_A (sn_wd dA ad σ) H.size q → A q := by
    intro q hq h
    rcases h with ⟨k, en, h⟩ | h
    · exact hD.2 k _ h
    · omega
  have hin2 : ∀ q, va_A (sn_wd dA ad σ) H.size q → A q := by
    intro q h
    rcases h with ⟨k, en, h⟩ | h
    · exact hD.2 k _ h
    · exact hA q (Nat.le_trans hS.1 h)
  obtain ⟨t2, a1, b1⟩ := hk r σ' T'.heap (locs ++ L) hp ⟨by rw [e1]; exact hP1, sn_wd_D hD, ⟨Nat.le_trans hS.1 (by rw [e1]; exact hz), fun q h1 h2 => by
      rw [e1, hkq q (Nat.lt_of_lt_of_le h1 hS.1) (fun z => h2 (hin q (Nat.lt_of_lt_of_le h1 hS.1) z))]
      exact hS.2.1 q h1 h2, fun q hq => by
      rcases List.mem_append.mp hq with h | h
      · exact hS.2.2 q h
      · exact hin2 _ (hL q h)⟩, hR1⟩ hvo T' rfl X'
  exact ⟨t2, st t2 a1, b1⟩
theorem sn_callV {own : String} {Ts ws : List Cond} {x n ci d' : Nat} {sp : sn_P} {y : MethodName} {code cc : ByteArray} {maxL nL pc : Nat} {ret : Option FieldType} {ls : Array Slot} {q : Nat × Nat} {t : List sn_V} {rest : List Value} {σ : sn_M} {H : Heap} {locs : List Loc} {po : Option sn_V → sn_M → Prop} (r : vw_C)
    (hM : sn_CT y (Cond.code y code maxL ret :: ws) d' sp) (hRf : d' + 1 ≤ R.frames) (hRl : 8 + (maxL + 11) + 60 * d' ≤ R.locals) (hcs : cells ≤ R.cells ∧ slots ≤ R.slots)
    (hT : GoodIn Ts (wsV own x y.cls y (Cond.code y code maxL ret :: ws))) (hci : ci ≠ 0) (hcl : sn_cl[ci - 1]? = some r) (hrc : r.1 = y.cls)
    (hnm : y.cls ≠ "java/lang/invoke/MethodHandle" ∧ y.cls ≠ "java/lang/invoke/VarHandle" ∧ (parseMethodDescriptor y.desc).map (fun d => d.parameters.length + 1) = some n)
    (hx : p.tables.exec = Jvm.exec) (hb : c.code = cc) (hml : c.maxLocals = nL) (hown : s.vm.findClass own = some m.cls) (hts : ∀ w ∈ Ts, w.before args s = true) (hK : va_K D sn_cl (sn_tys dA) s) (hA : ∀ q, H0.size ≤ q → A q)
    (hdec : decode cc pc = .ok (.invokevirtual x, 3)) (hq : sn_kc q.1 + 1 = ci) (hn : t.length + 1 = n) (hsp : sp (.inr (.inr q) :: t) σ po) (hW : sn_Wd D dA ad A H0 σ H locs) (has : ∀ v ∈ (.inr (.inr q) :: t : List sn_V), sn_vo v) (hls : ls.size = nL) (hr8 : (rest.map fun v => v.category).sum ≤ 8)
    (hkont : ∀ (r : Option sn_V) (σ' : sn_M) (H1 : Heap) (locs1 : List Loc), po r σ' → sn_Wd D dA ad A H0 σ' H1 locs1 → (∀ v, r = some v → sn_vo v) → W p l e R s m args below meth c H1 locs1 cells slots Q (F0 m (pc + 3) ls ((r.map (sn_cv ad)).toList ++ rest))) :
    W p l e R s m args below meth c H locs cells slots Q (F0 m pc ls ((t.map (sn_cv ad)).reverse ++ .ref (ad q.1 q.2) :: rest)) := by
  obtain ⟨g1, g2, g3⟩ := hnm
  have hM1 := hM l D dA ad H.size (.inr (.inr q) :: t) σ po hsp has hW.2.2.2
  have hqo : sn_ok q.1 q.2 := has (.inr (.inr q)) List.mem_cons_self
  obtain ⟨np, hnp⟩ := sn_ps_at hqo
  have he := sn_wd_at (dA := dA) (ad := ad) (σ := σ) hnp
  have hkc : sn_kc q.1 = ci - 1 := by omega
  rw [sn_en_o (by rw [hkc]; exact sn_cl_lt hcl), hkc] at he
  obtain ⟨cell, c1, c2, c3⟩ := va_recv hK hW.1 hcl he
  rw [hrc] at c3
  have hpar : (parseMethodDescriptor y.desc).map (fun d => d.parameters.length) = some (t.length) := by
    cases hpd : parseMethodDescriptor y.desc with
    | none => rw [hpd] at g3; cases g3
    | some dd =>
      rw [hpd] at g3
      have : dd.parameters.length + 1 = n := Option.some.inj g3
      exact congrArg some (show dd.parameters.length = t.length by omega)
  have hrun := va_runV (l := l) (e := e) (R := R) (below := below) (meth := meth) (H := H) (locs := locs) (cells := cells) (slots := slots) (g := F0 m pc ls ((t.map (sn_cv ad)).reverse ++ .ref (ad q.1 q.2) :: rest)) (As := t.map (sn_cv ad)) (rest := rest) (b := ad q.1 q.2) ⟨hx, hb, hml, hown, hts⟩ hM1
    (cwV t.length hts hT rfl rfl rfl ⟨rfl, g1, g2, hpar⟩ ⟨hRf, hRl⟩)
    ⟨sn_blind, ⟨cell, c1, c2, c3⟩, fun U hU hWm => ⟨rfl, by rw [hU], by rw [hU]; exact hW.1, va_K.moved hWm.alike hK, hW.2.1.weaken (fun _ _ _ _ => trivial)⟩⟩ rfl (by rw [List.length_map]) hls rfl
    (by show 2 * 0 + _ ≤ 8; rw [Nat.mul_zero, Nat.zero_add]; exact hr8) hdec hcs
  exact sn_after2 hW hA hrun hkont
theorem sn_callS {own : String} {Ts ws : List Cond} {x n d' : Nat} {sp : sn_P} {y : MethodName} {code cc : ByteArray} {maxL nL pc : Nat} {ret : Option FieldType} {ls : Array Slot} {t : List sn_V} {rest : List Value} {σ : sn_M} {H : Heap} {locs : List Loc} {po : Option sn_V → sn_M → Prop}
    (hM : sn_CT y (Cond.code y code maxL ret :: ws) d' sp) (hRf : d' + 1 ≤ R.frames) (hRl : 8 + (maxL + 11) + 60 * d' ≤ R.locals) (hcs : cells ≤ R.cells ∧ slots ≤ R.slots)
    (hT : GoodIn Ts (va_wsS own x y (Cond.code y code maxL ret :: ws)))
    (hnm : y.cls ≠ "java/lang/invoke/MethodHandle" ∧ y.cls ≠ "java/lang/invoke/VarHandle" ∧ (parseMethodDescriptor y.desc).map (fun d => d.parameters.length) = some n)
    (hx : p.tables.exec = Jvm.exec) (hb : c.code = cc) (hml : c.maxLocals = nL) (hown : s.vm.findClass own = some m.cls) (hts : ∀ w ∈ Ts, w.before args s = true) (hK : va_K D sn_cl (sn_tys dA) s) (hA : ∀ q, H0.size ≤ q → A q)
    (hdec : decode cc pc = .ok (.invokestatic x, 3)) (hn : t.length = n) (hsp : sp t σ po) (hW : sn_Wd D dA ad A H0 σ H locs) (has : ∀ v ∈ t, sn_vo v) (hls : ls.size = nL) (hr8 : (rest.map fun v => v.category).sum ≤ 8)
    (hkont : ∀ (r : Option sn_V) (σ' : sn_M) (H1 : Heap) (locs1 : List Loc), po r σ' → sn_Wd D dA ad A H0 σ' H1 locs1 → (∀ v, r = some v → sn_vo v) → W p l e R s m args below meth c H1 locs1 cells slots Q (F0 m (pc + 3) ls ((r.map (sn_cv ad)).toList ++ rest))) :
    W p l e R s m args below meth c H locs cells slots Q (F0 m pc ls ((t.map (sn_cv ad)).reverse ++ rest)) := by
  have hM1 := hM l D dA ad H.size t σ po hsp has hW.2.2.2
  have hrun := va_runS (l := l) (e := e) (R := R) (below := below) (meth := meth) (H := H) (locs := locs) (cells := cells) (slots := slots) (g := F0 m pc ls ((t.map (sn_cv ad)).reverse ++ rest)) (As := t.map (sn_cv ad)) (rest := rest) ⟨hx, hb, hml, hown, hts⟩ hM1
    (va_cwS n hts hT rfl rfl rfl hnm ⟨hRf, hRl⟩)
    ⟨sn_blind, fun U hU hWm => ⟨rfl, by rw [hU], by rw [hU]; exact hW.1, va_K.moved hWm.alike hK, hW.2.1.weaken (fun _ _ _ _ => trivial)⟩⟩ rfl (by rw [List.length_map]; exact hn) hls rfl
    (by show 2 * 0 + _ ≤ 8; rw [Nat.mul_zero, Nat.zero_add]; exact hr8) hdec hcs
  exact sn_after2 hW hA hrun hkont
end SNE
/-- a call's rule in a room of its own -/
def sn_CE (own : String) (Ts : List Cond) (d x n ci : Nat) (sp : sn_P) : Prop :=
  ∀ (p : Program) (l : Launch) (e : Env) (R : Room) (s : State) (m : MethodId) (args : Array Value) (below : List Frame) (meth : Method) (c : Code) (Q : State → Prop) (cc : ByteArray) (nL : Nat) (D : va_G) (dA : Nat → ClassId) (ad : sn_A) (A : Nat → Prop) (H0 : Heap),
    R.frames = d → R.locals = 60 * d → p.tables.exec = Jvm.exec → c.code = cc → c.maxLocals = nL → s.vm.findClass own = some m.cls → (∀ w ∈ Ts, w.before args s = true) → va_K D sn_cl (sn_tys dA) s → (∀ q, H0.size ≤ q → A q) →
    sn_CR p l e R s m args below meth c Q D dA ad A H0 nL cc x n ci sp
theorem sn_CE_V {own : String} {Ts ws : List Cond} {d x n ci d' : Nat} {sp : sn_P} {y : MethodName} {code : ByteArray} {maxL : Nat} {ret : Option FieldType} (r : vw_C) (hM : sn_CT y (Cond.code y code maxL ret :: ws) d' sp) (hd : d' < d) (hmax : maxL ≤ 41)
    (hT : GoodIn Ts (wsV own x y.cls y (Cond.code y code maxL ret :: ws))) (hci : ci ≠ 0) (hcl : sn_cl[ci - 1]? = some r) (hrc : r.1 = y.cls)
    (hnm : y.cls ≠ "java/lang/invoke/MethodHandle" ∧ y.cls ≠ "java/lang/invoke/VarHandle" ∧ (parseMethodDescriptor y.desc).map (fun d => d.parameters.length + 1) = some n) : sn_CE own Ts d x n ci sp := by
  intro p l e R s m args below meth c Q cc nL D dA ad A H0 hR1 hR2 hx hb hml hown hts hK hA
  intro pc ls as rest σ H locs po hdec hn hsp hW has hrest hls hr4 hkont
  rcases hdec with ⟨hdec, q, t, rfl, hq⟩ | ⟨-, h0⟩
  · have h := sn_callV (rest := rest.map (sn_cv ad)) (cells := 0) (slots := 0) (R := R) (Q := Q) (below := below) (meth := meth) r hM (by rw [hR1]; omega) (by rw [hR2]; omega) ⟨Nat.zero_le _, Nat.zero_le _⟩ hT hci hcl hrc hnm hx hb hml hown hts hK hA hdec hq (by rw [← hn, List.length_cons]) hsp hW has hls (sn_words hr4)
      (fun r σ' H1 locs1 h1 h2 h3 => by
        have h4 := hkont r σ' H1 locs1 h1 h2 h3
        rw [List.map_append] at h4
        cases r with
        | none => exact h4
        | some w => exact h4)
    rw [List.map_append, List.reverse_cons, List.map_append, List.map_reverse, List.append_assoc]
    exact h
  · exact absurd h0 hci
theorem sn_CE_S {own : String} {Ts ws : List Cond} {d x n d' : Nat} {sp : sn_P} {y : MethodName} {code : ByteArray} {maxL : Nat} {ret : Option FieldType} (hM : sn_CT y (Cond.code y code maxL ret :: ws) d' sp) (hd : d' < d) (hmax : maxL ≤ 41)
    (hT : GoodIn Ts (va_wsS own x y (Cond.code y code maxL ret :: ws)))
    (hnm : y.cls ≠ "java/lang/invoke/MethodHandle" ∧ y.cls ≠ "java/lang/invoke/VarHandle" ∧ (parseMethodDescriptor y.desc).map (fun d => d.parameters.length) = some n) : sn_CE own Ts d x n 0 sp := by
  intro p l e R s m args below meth c Q cc nL D dA ad A H0 hR1 hR2 hx hb hml hown hts hK hA
  intro pc ls as rest σ H locs po hdec hn hsp hW has hrest hls hr4 hkont
  rcases hdec with ⟨-, q, t, -, hq⟩ | ⟨hdec, -⟩
  · omega
  · have h := sn_callS (rest := rest.map (sn_cv ad)) (cells := 0) (slots := 0) (R := R) (Q := Q) (below := below) (meth := meth) hM (by rw [hR1]; omega) (by rw [hR2]; omega) ⟨Nat.zero_le _, Nat.zero_le _⟩ hT hnm hx hb hml hown hts hK hA hdec hn hsp hW has hls (sn_words hr4)
      (fun r σ' H1 locs1 h1 h2 h3 => by
        have h4 := hkont r σ' H1 locs1 h1 h2 h3
        rw [List.map_append] at h4
        cases r with
        | none => exact h4
        | some w => exact h4)
    rw [List.map_append, List.map_reverse]
    exact h
theorem sn_ce_of {own : String} {d : Nat} {l : List (Nat × Nat × Nat × sn_P)} (h : ∀ q ∈ l, sn_CE own sn_ws d q.1 q.2.1 q.2.2.1 q.2.2.2) : ∀ x n ci s', sn_lk l x = some (n, ci, s') → sn_CE own sn_ws d x n ci s' := fun x n ci s' hx => h (x, n, ci, s') (sn_lk_e l hx)
