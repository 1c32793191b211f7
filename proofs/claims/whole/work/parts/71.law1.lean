/-! The law: one case of its switch. -/
section LC
variable {p : Program} {l : Launch} {e : Env} {R : Room} {s : State} {m : MethodId} {args : Array Value} {below : List Frame} {meth : Method} {c : Code} {Q : State → Prop} {cells slots : Nat}
variable {D : va_G} {dA : Nat → ClassId} {ad : sn_A} {A : Nat → Prop} {H0 : Heap}
/-- a call of a helper, which has a table of handlers of its own -/
theorem sn_callH {own : String} {Ts ws tw : List Cond} {x n d' : Nat} {sp : sn_P} {y : MethodName} {bytes cc : ByteArray} {hh : List (Nat × Nat × Nat × Nat)} {maxL nL pc : Nat} {ls : Array Slot} {t : List sn_V} {rest : List Value} {σ : sn_M} {H : Heap} {locs : List Loc} {po : Option sn_V → sn_M → Prop}
    (hM : sn_HC y (Cond.codeWith y bytes maxL (some .int) hh :: ws) tw d' sp) (htr : l.stackTraces = false) (hRf : d' + 1 ≤ R.frames) (hRl : 8 + (maxL + 11) + 60 * d' ≤ R.locals) (hcs : cells + 1 ≤ R.cells ∧ slots + 6 ≤ R.slots)
    (hT : GoodIn Ts (([.methodLink own x y, .static y, .initialized y.cls] : List Cond) ++ (Cond.codeWith y bytes maxL (some .int) hh :: ws)))
    (hnm : y.cls ≠ "java/lang/invoke/MethodHandle" ∧ y.cls ≠ "java/lang/invoke/VarHandle" ∧ (parseMethodDescriptor y.desc).map (fun d => d.parameters.length) = some n)
    (hx : p.tables.exec = Jvm.exec) (hb : c.code = cc) (hml : c.maxLocals = nL) (hown : s.vm.findClass own = some m.cls) (hts : ∀ w ∈ Ts, w.before args s = true) (hK : va_K D sn_cl (sn_tys dA) s) (hA : ∀ q, H0.size ≤ q → A q)
    (htw : sn_ml tw = true) (hw : ∀ w ∈ tw, w.before args s = true) (hSt : ∀ (a : Nat) (cell : Cell), s.heap[a]? = some cell → cell.vm.isStatics = true → H[a]? = some cell)
    (hdec : decode cc pc = .ok (.invokestatic x, 3)) (hn : t.length = n) (hsp : sp t σ po) (hW : sn_Wd D dA ad A H0 σ H locs) (has : ∀ v ∈ t, sn_vo v) (hls : ls.size = nL) (hr8 : (rest.map fun v => v.category).sum ≤ 8)
    (hkont : ∀ (r : Option sn_V) (σ' : sn_M) (H1 : Heap) (locs1 : List Loc), po r σ' → sn_Wd D dA ad A H0 σ' H1 locs1 → (∀ v, r = some v → sn_vo v) → W p l e R s m args below meth c H1 locs1 (cells + 1) (slots + 6) Q (F0 m (pc + 3) ls ((r.map (sn_cv ad)).toList ++ rest))) :
    W p l e R s m args below meth c H locs cells slots Q (F0 m pc ls ((t.map (sn_cv ad)).reverse ++ rest)) := by
  subst hb
  have hM1 := hM l D dA ad H.size t σ po htr hsp has hW.2.2.2
  have hwv : ∀ w ∈ (([.methodLink own x y, .static y, .initialized y.cls] : List Cond) ++ (Cond.codeWith y bytes maxL (some .int) hh :: ws)), w.before args s = true := fun w h => hts w (hT w h).1
  have hini : (Cond.initialized y.cls).before args s = true := hwv _ (by simp)
  have hcode : (Cond.codeWith y bytes maxL (some .int) hh).before args s = true := hwv _ (by simp)
  have hblind : FrameBlind (va_Pc (t.map (sn_cv ad)) (fun U => sn_Pc D dA ad H.size σ U ∧ ∀ w ∈ tw, w.before #[] U = true)) := by
    intro a U g mk q
    obtain ⟨q0, ⟨q1, qP, qK, qD⟩, qw⟩ := q
    exact ⟨q0, ⟨q1, qP, va_K.moved (u := U) (U := U.calling g mk a) (Vm.Alike.refl U.vm) qK, qD⟩, sn_ml_ok htw (s := U) (U := U.calling g mk a) (State.WarmedH.refl U) (fun _ _ h _ => h) qw⟩
  have hB : Back l R p e below s args y 3 8 (PreOf R 1 6 (va_Pc (t.map (sn_cv ad)) (fun U => sn_Pc D dA ad H.size σ U ∧ ∀ w ∈ tw, w.before #[] U = true))) (PostOf (sn_Qc D dA ad (va_A (sn_wd dA ad σ) H.size) po) 1 6 (va_A (sn_wd dA ad σ) H.size)) :=
    va_backW (hh := hh) (bytes := bytes) (maxL := maxL) (ret := some .int) hM1 hblind rfl rfl hRf hRl (fun w h a' U hWm => word_at hWm (hT w (List.mem_append_right _ h)).2 (hwv w (List.mem_append_right _ h))) List.mem_cons_self (fun a' U hWm => word_at hWm (Or.inl rfl) hini)
  have hrun : va_Run p l e R s m args below meth c H locs cells slots 1 6 (F0 m pc ls ((t.map (sn_cv ad)).reverse ++ rest)) rest (sn_Qc D dA ad (va_A (sn_wd dA ad σ) H.size) po (t.map (sn_cv ad)).toArray) (va_A (sn_wd dA ad σ) H.size) := by
    intro T hT0 X
    obtain ⟨mk, methM, cM, hnamed, hmethM, -, -, -, -, -, -, hsigM⟩ := Cond.codeWith_spec hcode
    have hstatic : methM.isStatic = true := Cond.static_spec hnamed hmethM (hwv (.static y) (by simp))
    obtain ⟨kP, hkP, -⟩ := className_of_methodNamed hnamed
    have hinitP : kP.init = .initialized := Cond.initialized_spec (findClass_of_methodNamed hnamed) hkP hini
    have hlen : (t.map (sn_cv ad)).length = methM.sig.parameters.length := by
      have h3 := hnm.2.2
      rw [hsigM] at h3
      have : methM.sig.parameters.length = n := Option.some.inj h3
      rw [List.length_map]
      omega
    obtain ⟨vm1, X1, hstep1⟩ := X.invokestatic hx hown (hwv (.methodLink own x y) (by simp)) hnamed hmethM hstatic hkP hinitP ⟨hnm.1, hnm.2.1⟩ (g := F0 m pc ls ((t.map (sn_cv ad)).reverse ++ rest)) rfl (argsL := t.map (sn_cv ad)) (rest := rest) hlen rfl hdec
    have hpre : PreOf R 1 6 (va_Pc (t.map (sn_cv ad)) (fun U => sn_Pc D dA ad H.size σ U ∧ ∀ w ∈ tw, w.before #[] U = true)) ⟨T.setVm vm1, locs, cells, slots⟩ (t.map (sn_cv ad)).toArray :=
      ⟨hcs.1, hcs.2, rfl, ⟨by show T.heap.size = _; rw [hT0], by show va_P D sn_cl _ T.heap; rw [hT0]; exact hW.1, va_K.moved (u := s) X1.warmed.alike hK, hW.2.1.weaken (fun _ _ _ _ => trivial)⟩, sn_ml_ok htw (s := s) X1.warmed (by show ∀ (a : Nat) (cell : Cell), s.heap[a]? = some cell → cell.vm.isStatics = true → T.heap[a]? = some cell; rw [hT0]; exact hSt) hw⟩
    obtain ⟨v, ⟨U', l2, c2, s2⟩, X', ⟨g', mk', tt, L, e1, e2, hq, h1, hL, h2, h3⟩, hsteps⟩ := hB m meth c ⟨T.setVm vm1, locs, cells, slots⟩ (F0 m pc ls rest) (.invokestatic x) mk (t.map (sn_cv ad)).toArray X1 rfl (hls.trans hml.symm) hdec (by show 2 * 0 + _ ≤ 8; rw [Nat.mul_zero, Nat.zero_add]; exact hr8) (X1.named hnamed) hpre
    dsimp only [Pt.U, Pt.locs, Pt.cells, Pt.slots] at X' e1 e2 h1 h2 h3 hsteps
    subst h1; subst h2; subst h3
    exact ⟨v, (T.setVm vm1).calling g' mk' (t.map (sn_cv ad)).toArray, tt, U', L, hT0, X', hL, e1, e2, hq, fun target h => hstep1 _ fun acts => by rw [doInvoke_state]; exact hsteps.trans h⟩
  exact sn_after2 hW hA hrun hkont
end LC
section LD
variable {p : Program} {l : Launch} {e : Env} {R : Room} {s : State} {m : MethodId} {below : List Frame} {meth : Method} {c : Code} {Q : State → Prop} {cells slots : Nat}
variable {D : va_G} {dA : Nat → ClassId} {ad : sn_A} {b L i n : Nat} {xs : Nat → Int32} {tw : List Cond} {H : Heap} {locs : List Loc} {ls : Array Slot} {σ : sn_M} {Inv : Nat → sn_M → Prop}
def lw_go (pc : Nat) : Prop := (∃ off : Int, decode code pc = .ok (.goto off, 3) ∧ (pc : Int) + off = ((1028 : Nat) : Int)) ∨ pc = 1028
theorem lw_gone (hx : p.tables.exec = Jvm.exec) (hb : c.code = code) {pc : Nat} (hg : lw_go pc) (k : W p l e R s m #[.ref b] below meth c H locs cells slots Q (F0 m 1028 ls [])) : W p l e R s m #[.ref b] below meth c H locs cells slots Q (F0 m pc ls []) := by
  rcases hg with ⟨off, h1, h2⟩ | rfl
  · exact lv_goto hx hb h1 h2 k
  · exact k
theorem lw_ok0 : sn_ok 0 0 := ⟨by decide, by decide⟩
theorem lw_ok40 : sn_ok 40 0 := ⟨by decide, by decide⟩
theorem lw_ok65 : sn_ok 65 0 := ⟨by decide, by decide⟩
theorem lw_cV {yC yM : MethodName} {cC cM : ByteArray} {lC lM N pc xC xM : Nat} {off : Int} {rC rM : Option FieldType} (hop : lw_V Inv yC cC lC rC yM cM lM rM N) (hX : lw_X p s m c b L xs D dA tw) (hR1 : 100 ≤ R.frames) (hR2 : 6000 ≤ R.locals) (hcs : cells + 1 ≤ R.cells ∧ slots + 6 ≤ R.slots)
    (hTC : GoodIn sn_ws (wsV "SwitchedNetsLaw" xC yC.cls yC (Cond.code yC cC lC rC :: sn_ws))) (hTM : GoodIn sn_ws (wsV "SwitchedNetsLaw" xM yM.cls yM (Cond.code yM cM lM rM :: sn_ws))) (hcC : yC.cls = "SwitchedNets") (hcM : yM.cls = "SwitchedNetsModel")
    (hnC : (parseMethodDescriptor yC.desc).map (fun d => d.parameters.length + 1) = some (N + 1)) (hnM : (parseMethodDescriptor yM.desc).map (fun d => d.parameters.length + 1) = some (N + 1)) (hlC : lC ≤ 41) (hlM : lM ≤ 41) (hN : N ≤ 3)
    (d0 : decode code pc = .ok (.aload_n 1, 1)) (dA1 : lw_dA (pc + 1) N) (d1 : decode code (pc + 1 + 6 * N) = .ok (.invokevirtual xC, 3)) (d2 : decode code (pc + 1 + 6 * N + 3) = .ok (.aload_n 2, 1)) (dA2 : lw_dA (pc + 1 + 6 * N + 3 + 1) N) (d3 : decode code (pc + 1 + 6 * N + 3 + 1 + 6 * N) = .ok (.invokevirtual xM, 3)) (d4 : decode code (pc + 1 + 6 * N + 3 + 1 + 6 * N + 3) = .ok (.if_icmp .eq off, 3)) (d5 : ((pc + 1 + 6 * N + 3 + 1 + 6 * N + 3 : Nat) : Int) + off = ((1028 : Nat) : Int))
    (hI : Inv n σ) (hn : n < 512) (hW : sn_Wd D dA ad (fun q => s.heap.size ≤ q) s.heap σ H locs) (hl : lw_L ls b ad i) (hi : i + 3 < L)
    (hkk : ∀ (σ' : sn_M) (H1 : Heap) (locs1 : List Loc) (ls1 : Array Slot), Inv (n + 1) σ' → sn_Wd D dA ad (fun q => s.heap.size ≤ q) s.heap σ' H1 locs1 → lw_L ls1 b ad i → W p l e R s m #[.ref b] below meth c H1 locs1 (cells + 1) (slots + 6) Q (F0 m 1028 ls1 [])) :
    W p l e R s m #[.ref b] below meth c H locs cells slots Q (F0 m pc ls []) := by
  obtain ⟨hx, hb, hml, hown, hts, hK, hXs, hbl, hL, htw, hw⟩ := hX
  obtain ⟨dC, dM, spC, spM, hdC, hdM, hC, hM, hop⟩ := hop
  have hbA : ¬ (fun q => s.heap.size ≤ q) b := fun h => by have : s.heap.size ≤ b := h; omega
  refine lv_aload_n hx hb d0 rfl (lv_at hl 3 rfl) ?_
  refine lw_push hx hb hXs hbl hbA hW.2.2.1 hl hL N (by omega) dA1 ?_
  refine sn_callV (q := (0, 0)) (ci := 7) (n := N + 1) (t := lw_as xs i N) (rest := []) (nL := 7) (σ := σ) ("SwitchedNets", T_SN, 8) hC (by omega) (by omega) ⟨by omega, by omega⟩ hTC (by decide) rfl hcC.symm ⟨by rw [hcC]; decide, by rw [hcC]; decide, hnC⟩ hx hb hml hown hts hK (fun q h => h) d1 rfl (by rw [lw_as_len]) (hop n σ xs i hI hn hW.2.2.2) hW (List.forall_mem_cons.mpr ⟨lw_ok0, lw_as_vo⟩) hl.1 (Nat.zero_le _) ?_
  rintro r σ1 H1 locs1 ⟨v, rfl, h2⟩ hW1 hvo
  show W p l e R s m #[.ref b] below meth c H1 locs1 cells slots Q (F0 m (pc + 1 + 6 * N + 3) ls [.int (Int32.ofInt v)])
  refine lv_aload_n hx hb d2 rfl (lv_at hl 2 rfl) ?_
  refine lw_push hx hb hXs hbl hbA hW1.2.2.1 hl hL N (by omega) dA2 ?_
  refine sn_callV (q := (40, 0)) (ci := 8) (n := N + 1) (t := lw_as xs i N) (rest := [.int (Int32.ofInt v)]) (nL := 7) (σ := σ1) ("SwitchedNetsModel", T_MD, 29) hM (by omega) (by omega) ⟨by omega, by omega⟩ hTM (by decide) rfl hcM.symm ⟨by rw [hcM]; decide, by rw [hcM]; decide, hnM⟩ hx hb hml hown hts hK (fun q h => h) d3 rfl (by rw [lw_as_len]) (h2 hW1.2.2.2) hW1 (List.forall_mem_cons.mpr ⟨lw_ok40, lw_as_vo⟩) hl.1 (show 1 + 0 ≤ 8 by omega) ?_
  rintro r2 σ2 H2 locs2 ⟨rfl, hI2⟩ hW2 -
  show W p l e R s m #[.ref b] below meth c H2 locs2 cells slots Q (F0 m (pc + 1 + 6 * N + 3 + 1 + 6 * N + 3) ls [.int (Int32.ofInt v), .int (Int32.ofInt v)])
  refine lv_icmp_eq hx hb d4 (tgt := 1028) d5 (fun _ => ?_) (fun h => absurd rfl h)
  refine W.widen (k := cells + 1) (n := slots + 6) (by omega) (by omega) ?_
  exact hkk σ2 H2 locs2 ls hI2 hW2 hl
theorem lw_cK {yC yM : MethodName} {cC cM : ByteArray} {lC lM pc xC xM : Nat} (hop : lw_K Inv yC cC lC yM cM lM) (hX : lw_X p s m c b L xs D dA tw) (hR1 : 100 ≤ R.frames) (hR2 : 6000 ≤ R.locals) (hcs : cells + 1 ≤ R.cells ∧ slots + 6 ≤ R.slots)
    (hTC : GoodIn sn_ws (wsV "SwitchedNetsLaw" xC yC.cls yC (Cond.code yC cC lC none :: sn_ws))) (hTM : GoodIn sn_ws (wsV "SwitchedNetsLaw" xM yM.cls yM (Cond.code yM cM lM none :: sn_ws))) (hcC : yC.cls = "SwitchedNets") (hcM : yM.cls = "SwitchedNetsModel")
    (hnC : (parseMethodDescriptor yC.desc).map (fun d => d.parameters.length + 1) = some 1) (hnM : (parseMethodDescriptor yM.desc).map (fun d => d.parameters.length + 1) = some 1) (hlC : lC ≤ 41) (hlM : lM ≤ 41)
    (d0 : decode code pc = .ok (.aload_n 1, 1)) (d1 : decode code (pc + 1) = .ok (.invokevirtual xC, 3)) (d2 : decode code (pc + 1 + 3) = .ok (.aload_n 2, 1)) (d3 : decode code (pc + 1 + 3 + 1) = .ok (.invokevirtual xM, 3)) (d5 : lw_go (pc + 1 + 3 + 1 + 3))
    (hI : Inv n σ) (hn : n < 512) (hW : sn_Wd D dA ad (fun q => s.heap.size ≤ q) s.heap σ H locs) (hl : lw_L ls b ad i)
    (hkk : ∀ (σ' : sn_M) (H1 : Heap) (locs1 : List Loc) (ls1 : Array Slot), Inv (n + 1) σ' → sn_Wd D dA ad (fun q => s.heap.size ≤ q) s.heap σ' H1 locs1 → lw_L ls1 b ad i → W p l e R s m #[.ref b] below meth c H1 locs1 (cells + 1) (slots + 6) Q (F0 m 1028 ls1 [])) :
    W p l e R s m #[.ref b] below meth c H locs cells slots Q (F0 m pc ls []) := by
  obtain ⟨hx, hb, hml, hown, hts, hK, hXs, hbl, hL, htw, hw⟩ := hX
  obtain ⟨dC, dM, spC, spM, hdC, hdM, hC, hM, hop⟩ := hop
  refine lv_aload_n hx hb d0 rfl (lv_at hl 3 rfl) ?_
  refine sn_callV (q := (0, 0)) (ci := 7) (n := 1) (t := []) (rest := []) (nL := 7) (σ := σ) ("SwitchedNets", T_SN, 8) hC (by omega) (by omega) ⟨by omega, by omega⟩ hTC (by decide) rfl hcC.symm ⟨by rw [hcC]; decide, by rw [hcC]; decide, hnC⟩ hx hb hml hown hts hK (fun q h => h) d1 rfl rfl (hop n σ hI hn hW.2.2.2) hW (List.forall_mem_cons.mpr ⟨lw_ok0, fun _ h => by cases h⟩) hl.1 (Nat.zero_le _) ?_
  rintro r σ1 H1 locs1 ⟨rfl, h2⟩ hW1 hvo
  show W p l e R s m #[.ref b] below meth c H1 locs1 cells slots Q (F0 m (pc + 1 + 3) ls [])
  refine lv_aload_n hx hb d2 rfl (lv_at hl 2 rfl) ?_
  refine sn_callV (q := (40, 0)) (ci := 8) (n := 1) (t := []) (rest := []) (nL := 7) (σ := σ1) ("SwitchedNetsModel", T_MD, 29) hM (by omega) (by omega) ⟨by omega, by omega⟩ hTM (by decide) rfl hcM.symm ⟨by rw [hcM]; decide, by rw [hcM]; decide, hnM⟩ hx hb hml hown hts hK (fun q h => h) d3 rfl rfl (h2 hW1.2.2.2) hW1 (List.forall_mem_cons.mpr ⟨lw_ok40, fun _ h => by cases h⟩) hl.1 (Nat.zero_le _) ?_
  rintro r2 σ2 H2 locs2 ⟨rfl, hI2⟩ hW2 -
  show W p l e R s m #[.ref b] below meth c H2 locs2 cells slots Q (F0 m (pc + 1 + 3 + 1 + 3) ls [])
  refine lw_gone hx hb d5 ?_
  refine W.widen (k := cells + 1) (n := slots + 6) (by omega) (by omega) ?_
  exact hkk σ2 H2 locs2 ls hI2 hW2 hl
end LD
