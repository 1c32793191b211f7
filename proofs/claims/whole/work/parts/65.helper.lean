/-! The law's six helpers: a call, and what it throws is caught. -/
def sn_HC (y : MethodName) (ws tw : List Cond) (d : Nat) (sp : sn_P) : Prop :=
  ∀ (l : Launch) (D : va_G) (dA : Nat → ClassId) (ad : sn_A) (sz : Nat) (vs : List sn_V) (σ : sn_M) (post : Option sn_V → sn_M → Prop), l.stackTraces = false → sp vs σ post → (∀ v ∈ vs, sn_vo v) → (∀ k i j, sn_R (σ.1 k i j)) →
    Met l y ws (sn_rt d) (va_Pc (vs.map (sn_cv ad)) (fun U => sn_Pc D dA ad sz σ U ∧ ∀ w ∈ tw, w.before #[] U = true)) (sn_Qc D dA ad (va_A (sn_wd dA ad σ) sz) post) 1 6 (va_A (sn_wd dA ad σ) sz)
/-- what such a helper does -/
def sn_hp (sp : sn_PT) (as : List sn_V) : sn_P := fun vs σ po => vs = as ++ [.inr (.inr (65, 0))] ∧ sp as σ (fun r σ' => ∃ v, r = some (.inl v) ∧ po (some (.inl 0)) (σ'.1, sn_u σ'.2 65 0 0 (Int32.ofInt v).toInt64)) (fun k σ' => po (some (.inl k)) σ')
theorem sn_two {l : List ExceptionTableEntry} {b1 e1 h1 i1 b2 e2 h2 i2 : Nat} (h : l.map (fun h => (h.startPc, h.endPc, h.handlerPc, h.catchType)) = [(b1, e1, h1, i1), (b2, e2, h2, i2)]) : l = [⟨b1, e1, h1, i1⟩, ⟨b2, e2, h2, i2⟩] := by
  match l, h with
  | [x, y], h =>
    obtain ⟨a1, a2, a3, a4⟩ := x
    obtain ⟨c1, c2, c3, c4⟩ := y
    simp only [List.map_cons, List.map_nil, List.cons.injEq, Prod.mk.injEq, and_true] at h
    obtain ⟨⟨rfl, rfl, rfl, rfl⟩, rfl, rfl, rfl, rfl⟩ := h
    rfl
set_option maxHeartbeats 1000000 in
theorem sn_HC_of {y yc : MethodName} {cc code : ByteArray} {nL d d' maxL pc h1 h2 a1 a2 eP i1 i2 x iL tg n : Nat} {off : Int} {sp : sn_PT} {ws wsc tw : List Cond} {pr : Nat → Option (Instr × Nat)} {as : List sn_V} {t : List sn_V} (r : vw_C)
    (hy : plainName y.cls = true) (hM : sn_TC yc (Cond.code yc code maxL (some .int) :: wsc) tw d' sp) (hd : d' < d) (hmax : maxL ≤ 41) (has0 : as = .inr (.inr (0, 0)) :: t)
    (hpr : ∀ pc i t, pr pc = some (i, t) → sn_dk cc nL (some .int) pc i t = true) (hnL : (sn_L1 (as ++ [.inr (.inr (65, 0))])).length ≤ nL) (hiL : iL < nL)
    (hpx : ∀ (σ : sn_M) (G : Nat → sn_Ls → List sn_V → sn_M → Prop), (∀ (n : Nat) (st : List Nat) (pc : Nat) (L : sn_Ls) (S : List sn_V) (σ : sn_M), sn_it pr (sn_lk []) sn_no (sn_lk []) (fun _ _ => False) st G n pc L S σ → G pc L S σ) → G pc (sn_L0 nL (as ++ [.inr (.inr (65, 0))])) (as.reverse ++ [.inl 0, .inr (.inr (65, 0))]) σ → G 0 (sn_L0 nL (as ++ [.inr (.inr (65, 0))])) [] σ)
    (hT : GoodIn ws (wsV y.cls x yc.cls yc (Cond.code yc code maxL (some .int) :: wsc))) (hcl : sn_cl[6]? = some r) (hrc : r.1 = yc.cls)
    (hnm : yc.cls ≠ "java/lang/invoke/MethodHandle" ∧ yc.cls ≠ "java/lang/invoke/VarHandle" ∧ (parseMethodDescriptor yc.desc).map (fun d => d.parameters.length + 1) = some n) (hn : t.length + 1 = n)
    (htw : sn_ml tw = true) (hwc : ∀ w ∈ tc_ws y.cls i1 i2, w ∈ tw) (hi1 : i1 ≠ 0) (hi2 : i2 ≠ 0) (hpe : pc < eP)
    (dc : decode cc pc = .ok (.invokevirtual x, 3)) (d3 : decode cc (pc + 3) = .ok (.i2l, 1)) (d4 : decode cc (pc + 4) = .ok (.lastore, 1)) (d5 : decode cc (pc + 5) = .ok (.goto off, 3)) (ht : ((pc + 5 : Nat) : Int) + off = (tg : Int)) (dt : decode cc tg = .ok (.iconst 0, 1)) (dr : decode cc (tg + 1) = .ok (.ireturn, 1))
    (ds1 : (∃ k : Fin 4, decode cc h1 = .ok (.astore_n k, 1) ∧ (k : Nat) = iL ∧ a1 = h1 + 1) ∨ (decode cc h1 = .ok (.astore iL, 2) ∧ a1 = h1 + 2)) (dk1 : decode cc a1 = .ok (.iconst 1, 1)) (dr1 : decode cc (a1 + 1) = .ok (.ireturn, 1))
    (ds2 : (∃ k : Fin 4, decode cc h2 = .ok (.astore_n k, 1) ∧ (k : Nat) = iL ∧ a2 = h2 + 1) ∨ (decode cc h2 = .ok (.astore iL, 2) ∧ a2 = h2 + 2)) (dk2 : decode cc a2 = .ok (.iconst 2, 1)) (dr2 : decode cc (a2 + 1) = .ok (.ireturn, 1)) :
    sn_HC y (Cond.codeWith y cc nL (some .int) [(0, eP, h1, i1), (0, eP, h2, i2)] :: ws) tw d (sn_hp sp as) := by
  intro l D dA ad sz vs σ post htr hsp hvs hR
  obtain ⟨rfl, hsp⟩ := hsp
  refine va_MetW (cc := cc) (maxL := nL) (ret := some .int) (hh := [(0, eP, h1, i1), (0, eP, h2, i2)]) hy rfl ?_
  intro p e s m args below meth c s₁ B hml hv
  obtain ⟨rfl, ⟨hsz, hP, hK, hD0⟩, hw0⟩ := hv
  have hx := B.exec
  have hb := B.bytes
  have hr := B.returns
  have hts0 := atoms_spec (ws := Cond.codeWith y cc nL (some .int) [(0, eP, h1, i1), (0, eP, h2, i2)] :: ws) B.pre
  generalize hargs : ((as ++ [.inr (.inr (65, 0))] : List sn_V).map (sn_cv ad)).toArray = args at *
  have hts : ∀ w ∈ ws, w.before args s = true := fun w hw => hts0 w (List.mem_cons_of_mem _ hw)
  have hown : s.vm.findClass y.cls = some m.cls := findClass_of_methodNamed B.named
  have hlocks : meth.locks = false := B.notSynchronized
  have hw1 : ∀ w ∈ tw, w.before args s = true := sn_ml_ok htw (State.WarmedH.refl s) (fun _ _ h _ => h) hw0
  have htab : c.exceptionTable.toList = [⟨0, eP, h1, i1⟩, ⟨0, eP, h2, i2⟩] := by
    obtain ⟨m9, meth9, c9, n9, q1, q2, -, -, q5, -⟩ := Cond.codeWith_spec (hts0 _ List.mem_cons_self)
    cases n9.symm.trans B.named
    have X0 := Stand.of_body B
    cases q1.symm.trans X0.method
    cases q2.symm.trans X0.code
    exact sn_two q5
  subst hsz
  have hD := hD0.self (sz := s.heap.size)
  have hst0 : ∀ (a : Nat) (cell : Cell), s.heap[a]? = some cell → cell.vm.isStatics = true → s.heap[a]? = some cell := fun _ _ h _ => h
  have hPs := hP
  generalize hAe : va_A (sn_wd dA ad σ) s.heap.size = A at hD ⊢
  have hA : ∀ q : Nat, s.heap.size ≤ q → A q := fun q h => by rw [← hAe]; exact Or.inr h
  have hS : va_S A s.heap s.heap [] := va_S.rf
  have hl := lv_entry ((as ++ [.inr (.inr (65, 0))] : List sn_V).map (sn_cv ad)) (n := nL) (by rw [sn_L1_len]; exact hnL)
  rw [← hargs, lg_entry_eq, hargs]
  generalize (lg_sl ((as ++ [.inr (.inr (65, 0))] : List sn_V).map (sn_cv ad)) ++ List.replicate (nL - (lg_sl ((as ++ [.inr (.inr (65, 0))] : List sn_V).map (sn_cv ad))).length) Slot.unset).toArray = ls at hl ⊢
  have hLo := sn_L0_Lo hnL hvs hl
  have ho65 : sn_ok 65 0 := hvs (.inr (.inr (65, 0))) (by simp)
  have hasv : ∀ v ∈ as, sn_vo v := fun v hv => hvs v (List.mem_append_left _ hv)
  refine hpx σ (sn_G p l e (sn_rt d) s m args below meth c (MQ below (sn_Qc D dA ad A post) args s 1 6 A) D dA ad A s.heap nL) (fun n st => sn_it_ok (fun K hk pc L S σ h => ?_) n st) ?_ s.heap [] ls ⟨hP, hD, hS, hR⟩ hLo (fun v hv => by cases hv)
  · exact sn_step_ok (own := y.cls) (Ts := ws) (ret := some .int) (post := fun _ _ => False) hx hb hK hts hown hpr (fun _ _ _ h => by cases h) (fun _ _ h => by cases h) (fun _ _ _ _ h => by cases h) (fun _ _ _ _ _ _ _ _ _ _ _ _ h => h.elim) (fun _ _ _ _ _ _ _ _ _ h => h.elim) (fun _ _ _ _ _ _ _ _ h => h.elim) hk h
  · intro H locs ls hW hLs hSv
    subst has0
    have eS : ((.inr (.inr (0, 0)) :: t : List sn_V).reverse ++ ([.inl 0, .inr (.inr (65, 0))] : List sn_V)).map (sn_cv ad) = (t.map (sn_cv ad)).reverse ++ .ref (ad 0 0) :: [.int (Int32.ofInt 0), .ref (ad 65 0)] := by
      rw [List.map_append, List.reverse_cons, List.map_append, List.map_reverse, List.append_assoc]
      rfl
    rw [eS]
    have hfin : ∀ (k : Int) (σ' : sn_M) (H1 : Heap) (locs1 : List Loc) (ls1 : Array Slot) (pcr : Nat), decode cc pcr = .ok (.ireturn, 1) → sn_R k → post (some (.inl k)) σ' → sn_Wd D dA ad A s.heap σ' H1 locs1 → W p l e (sn_rt d) s m args below meth c H1 locs1 1 6 (MQ below (sn_Qc D dA ad A post) args s 1 6 A) (F0 m pcr ls1 [.int (Int32.ofInt k)]) := by
      intro k σ' H1 locs1 ls1 pcr hdr hk hp hW1
      exact W.iret (v := Int32.ofInt k) hx hb hr (fun t ht _ => ⟨⟨some (.inl k), σ', rfl, hp, fun v hv => by cases hv; exact hk, by rw [ht]; exact hW1.1, hW1.2.2.2⟩, hW1.2.2.1.F ht⟩) hW1.2.2.1.2.2 hdr
    refine sn_callT (q := (0, 0)) (ci := 7) (cells := 0) (slots := 0) (R := sn_rt d) (rest := [.int (Int32.ofInt 0), .ref (ad 65 0)]) r hM htr (show d' + 1 ≤ d by omega) (show 8 + (maxL + 11) + 60 * d' ≤ 60 * d by omega) ⟨Nat.le_refl _, Nat.le_refl _⟩ hT (by decide) hcl hrc hnm hx hb hml hown hts hK hA htw hw1 (fun w h => hw1 w (hwc w h)) hi1 hi2 (sn_stat hPs (by rw [hAe]; exact hW.2.2.1)) htab
      (by simp [covers, hpe]) (by simp [covers, hpe]) dc rfl hn hsp hW hasv hLs.1 (show 1 + (1 + 0) ≤ 8 by omega) ?_ ?_
    · rintro rv σ' H1 locs1 ⟨v, rfl, hpv⟩ hW1 hvo
      show W p l e (sn_rt d) s m args below meth c H1 locs1 1 6 _ (F0 m (pc + 3) ls [.int (Int32.ofInt v), .int (Int32.ofInt 0), .ref (ad 65 0)])
      refine lv_i2l hx hb d3 rfl ?_
      obtain ⟨np, hnp⟩ := sn_ps_at ho65
      have he := sn_wd_at (dA := dA) (ad := ad) (σ := σ') hnp
      rw [sn_en_l rfl] at he
      obtain ⟨hP1, hD1, hS1, hR1⟩ := hW1
      have hz : sn_R 0 := sn_R0
      refine va_last hx hb hK hP1 hD1 hS1 np 2 he rfl (sn_vin hz (by omega) (show (0 : Int) < (sn_kl 65 : Nat) by decide)) d4 (fun H2 locs2 z1 z2 z3 => ?_)
      have hset := sn_set (dA := dA) (ad := ad) (σ := σ') (σ' := (σ'.1, sn_u σ'.2 65 0 0 (Int32.ofInt v).toInt64)) (en := .inl (dA 2, sn_kl 65, .inr (.inl (vp_updL (fun j => σ'.2 65 0 j) 0 (Int32.ofInt v).toInt64)))) hnp (fun k' i' hn' => sn_en_other (fun j => rfl) (fun z => sn_u_n (fun y => hn' ⟨y.1, y.2.1⟩))) (by rw [sn_en_l rfl, ← sn_up64])
      have hc0 : (Int32.ofInt 0).toNatClampNeg = 0 := by decide
      rw [hc0, hset] at z1 z2
      refine lv_goto hx hb d5 ht ?_
      refine lv_iconst hx hb dt rfl ?_
      exact hfin 0 _ H2 locs2 ls (tg + 1) dr hz hpv ⟨z1, z2, z3, hR1⟩
    · intro k a σ' H1 locs1 hk htp hW1
      rcases hk with rfl | rfl
      · show W p l e (sn_rt d) s m args below meth c H1 locs1 1 6 _ (F0 m h1 ls [.ref a])
        rcases ds1 with ⟨k, dd, hkk, rfl⟩ | ⟨dd, rfl⟩
        · refine lv_astore_n hx hb dd hkk hLs.has hiL rfl (fun ls2 _ => ?_)
          refine lv_iconst hx hb dk1 rfl ?_
          exact hfin 1 _ H1 locs1 ls2 _ dr1 (by unfold sn_R; omega) htp hW1
        · refine lv_astore hx hb dd hLs.has hiL rfl (fun ls2 _ => ?_)
          refine lv_iconst hx hb dk1 rfl ?_
          exact hfin 1 _ H1 locs1 ls2 _ dr1 (by unfold sn_R; omega) htp hW1
      · show W p l e (sn_rt d) s m args below meth c H1 locs1 1 6 _ (F0 m h2 ls [.ref a])
        rcases ds2 with ⟨k, dd, hkk, rfl⟩ | ⟨dd, rfl⟩
        · refine lv_astore_n hx hb dd hkk hLs.has hiL rfl (fun ls2 _ => ?_)
          refine lv_iconst hx hb dk2 rfl ?_
          exact hfin 2 _ H1 locs1 ls2 _ dr2 (by unfold sn_R; omega) htp hW1
        · refine lv_astore hx hb dd hLs.has hiL rfl (fun ls2 _ => ?_)
          refine lv_iconst hx hb dk2 rfl ?_
          exact hfin 2 _ H1 locs1 ls2 _ dr2 (by unfold sn_R; omega) htp hW1
