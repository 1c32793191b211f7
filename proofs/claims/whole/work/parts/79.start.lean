/-! The law from its entry to its end (begun from the skeleton's rows). -/
theorem sg_R : ∀ k i j, sn_R (sg_0.1 k i j) := by
  intro k i j
  show sn_R (bif (Nat.beq k 19 && Nat.beq j 4) || (Nat.beq k 33 && Nat.beq j 8) then -1 else 0)
  unfold sn_R
  cases ((Nat.beq k 19 && Nat.beq j 4) || (Nat.beq k 33 && Nat.beq j 8))
  · decide
  · decide
def z0l_MD : List Value := [.int 0, .int 0, .null, .null, .null, .null, .null, .null, .null, .null, .null, .null, .null, .null, .null, .null, .null, .null, .null, .int 0, .int 0, .null, .null, .null, .int 0, .null, .null, .null, .null]
def R_law : String := "SwitchedNetsLaw"
def lw_P (b : Addr) (xs : List Int32) (args : Array Value) (s : State) : Prop := args = #[.ref b] ∧ s.IntsAt b xs ∧ xs.length ≤ 2048 ∧ (Jvm.Cond.and given_1 narrow_1).before args s = true
def lw_Q (_ : Array Value) (s : State) (o : Outcome) (t : State) : Prop := o = .returned (some (.int 1)) ∧ Framed s o t [] 601024 7293034
def lw_Z (below : List Frame) (a : Array Value) (s : State) : State → Prop := fun t => ∃ o, t.status = .running ∧ Ended t below o ∧ lw_Q a s o t
/-- the law's own end, with 1 on the stack, nothing written that was there before, its room as the claim has it -/
theorem lw_ret {p : Program} {l : Launch} {e : Env} {s : State} {m : MethodId} {below : List Frame} {meth : Method} {c : Code} {b : Nat} (hx : p.tables.exec = Jvm.exec) (hb : c.code = code) (hr : meth.sig.returnType = ret) (hlocks : meth.locks = false) {pc : Nat} {H : Heap} {ls : Array Slot} (hdg : decode code pc = .ok (.ireturn, 1)) : W p l e room_1 s m #[Value.ref b] below meth c H [] 601024 7293034 (lw_Z below #[Value.ref b] s) (F0 m pc ls [.int 1]) := by
  intro T hT X
  obtain ⟨fs, hret, hrun, hended, hW, hframe⟩ := X.leave (v := some (.int 1)) (hlocks := hlocks) (fun h => by rw [hr] at h; cases h)
  have hmeth' : T.vm.method? m = some meth := X.method'
  refine ⟨T.setFrames fs, ?_, .returned (some (.int 1)), hrun, hended, rfl, ⟨_, rfl⟩, hW, hframe⟩
  jvm_step X.here [X.here.top, hx, hb, hdg, hmeth', hr, ret, narrow_b1]
  (try refine ⟨rfl, ?_⟩); (try refine ⟨rfl, ?_⟩)
  first | (intro acts; rw [hret _ acts rfl rfl rfl]) | rw [hret _ _ rfl rfl rfl]
  exact Steps.refl _
/-- what holds at the law's entry: the machine, the code, the tables' words (any of lw_tbl by 'hts w (by decide +kernel)'), the script of L ints xs at the cell b, what the Statement gives of the start (any of its parts by flat_of_before) -/
def lw_At (p : Program) (s : State) (m : MethodId) (meth : Method) (c : Code) (b L : Nat) (xs : Nat → Int32) : Prop :=
  p.tables.exec = Jvm.exec ∧ c.code = code ∧ meth.sig.returnType = ret ∧ c.maxLocals = 7 ∧ s.vm.findClass R_law = some m.cls ∧ (∀ w ∈ lw_tbl, w.before #[Value.ref b] s = true) ∧ va_X b L xs s s.heap ∧ b < s.heap.size ∧ meth.locks = false ∧ (Jvm.Cond.and given_1 narrow_1).before #[Value.ref b] s = true
/-- an object of its own, made by the law -/
theorem nw_top {p : Program} {l : Launch} {e : Env} {R : Room} {s : State} {m : MethodId} {args : Array Value} {below : List Frame} {meth : Method} {c : Code} {Q : State → Prop} {cells slots : Nat} {D : va_G} {dA : Nat → ClassId} {A : Nat → Prop} {H0 H : Heap} {locs : List Loc} {cc : ByteArray} {own : String} {ws : va_W} {pc nL : Nat} {ls : Array Slot}
    (hx : p.tables.exec = Jvm.exec) (hb : c.code = cc) (hml : c.maxLocals = nL) (hls : ls.size = nL) (hts : ∀ w ∈ sn_ws, w.before args s = true) (hown : s.vm.findClass own = some m.cls)
    (hK : va_K D sn_cl (sn_tys dA) s) (hP : va_P D sn_cl ws H) (hD : va_D A ws) (hS : va_S A H0 H locs) (hA : ∀ q, H0.size ≤ q → A q) (hmk : nw_M s)
    {y : MethodName} {code : ByteArray} {d' mc ms ix ii cs : Nat} {w0 : Nat → va_W} {w1 : (Nat → ClassId) → Nat → (Nat → Nat) → va_W} (hC : nw_C y code d' mc ms w0 w1) {Cn : String} {Tn : u_T} {Ns : Nat} {fs0 : List Value} (hcs : sn_cl[cs]? = some (Cn, Tn, Ns)) (hyc : y.cls = Cn) (hyn : y.name = "<init>") (hw0 : ∀ q, w0 q = [(q, .inr (cs, fs0))])
    (hin : ∀ w ∈ u_ws Cn Tn Ns, w ∈ sn_ws) (hfs0 : ∀ j, j < Ns → defaultValue ((parseFieldDescriptor (Tn j).2.2.1).getD .int) = vp_V fs0 j) (hcl : Cond.classLink own ix Cn ∈ sn_ws) (hins : Cond.instantiable Cn Ns ∈ sn_ws) (hini : Cond.initialized Cn ∈ sn_ws) (hlk : Cond.methodLink own ii y ∈ sn_ws) (him : Cond.instanceMethod y ∈ sn_ws) (hcd : Cond.code y code 1 none ∈ sn_ws)
    (hny : y.cls ≠ "java/lang/invoke/MethodHandle" ∧ y.cls ≠ "java/lang/invoke/VarHandle" ∧ (parseMethodDescriptor y.desc).map (fun d => d.parameters.length) = some 0) (hR1 : d' + 1 ≤ R.frames) (hR2 : 20 + 60 * d' ≤ R.locals)
    (hc1 : cells + 1 + mc ≤ R.cells) (hc2 : slots + Ns + ms ≤ R.slots) (hd : decode cc pc = .ok (.new ix, 3)) (hd3 : decode cc (pc + 3) = .ok (.dup, 1)) (hd4 : decode cc (pc + 4) = .ok (.invokespecial ii, 3))
    (kk : ∀ (q : Nat) (u : Nat → Nat) (H1 : Heap) (locs1 : List Loc), va_P D sn_cl (ws ++ w1 dA q u) H1 → va_D A (ws ++ w1 dA q u) → va_S A H0 H1 locs1 → W p l e R s m args below meth c H1 locs1 (cells + 1 + mc) (slots + Ns + ms) Q (F0 m (pc + 7) ls [.ref q])) :
    W p l e R s m args below meth c H locs cells slots Q (F0 m pc ls []) := by
  refine va_new (ci := cs) (fs := fs0) (C := Cn) (T := Tn) (N := Ns) hx hb hts hin _ (sn_cl_f hcs).1 hown (hts _ hcl) (hts _ hins) (hts _ hini) hK hP hD hS hA hcs hfs0 (by omega) (by omega) hd (fun q H1 g1 g2 g3 => ?_)
  refine lv_dup hx hb hd3 rfl ?_
  have hPc : va_P D sn_cl (w0 q) H1 := by
    rw [hw0]
    intro i z hz
    exact g1 (ws.length + i) z (by rw [List.getElem?_append_right (by omega), Nat.add_sub_cancel_left]; exact hz)
  have hDc : va_D A (w0 q) := by
    rw [hw0]
    refine ⟨fun i j p1 p2 h1 h2 _ => ?_, fun i z hz => ?_⟩
    · have a1 : i < 1 := (List.getElem?_eq_some_iff.mp h1).1
      have a2 : j < 1 := (List.getElem?_eq_some_iff.mp h2).1
      omega
    · exact g2.2 (ws.length + i) z (by rw [List.getElem?_append_right (by omega), Nat.add_sub_cancel_left]; exact hz)
  have hFc : ∀ z, va_A (w0 q) H1.size z → A z := by
    intro z hz
    rcases hz with ⟨i, en, h⟩ | h
    · exact hDc.2 i _ h
    · exact hA z (Nat.le_trans g3.1 h)
  refine va_callv (va_runI (l := l) (e := e) (R := R) (below := below) (meth := meth) (As := []) (rest := [.ref q]) (b := q) (cells := cells + 1) (slots := slots + Ns) ⟨hx, hb, hml, hown, hts⟩ (hC l D dA q H1.size) (cwI 0 hts (fun w hw => by
      rcases List.mem_cons.mp hw with rfl | h
      · exact ⟨hcd, good_of_word (sn_wg hcd)⟩
      · exact ⟨h, good_of_word (sn_wg h)⟩) rfl rfl rfl (by rw [hyc]; exact hts _ hini) (hts _ hlk) (hts _ him) hyn hny ⟨hR1, by show 8 + (1 + 11) + 60 * d' ≤ R.locals; omega⟩)
      ⟨fun a U g mk z => ⟨z.1, z.2.1, z.2.2.1, va_K.moved (u := U) (U := U.calling g mk a) (Vm.Alike.refl U.vm) z.2.2.2.1, z.2.2.2.2.1, nw_M_s (u := U) (U := U.calling g mk a) rfl z.2.2.2.2.2⟩, fun U hU hW => ⟨rfl, by rw [hU], by rw [hU]; exact hPc, va_K.moved hW.alike hK, hDc.weaken (fun _ _ _ _ => trivial), nw_M_w hW hmk⟩⟩ rfl rfl hls rfl (show 2 * 0 + (1 + 0) ≤ 8 by omega) hd4 ⟨hc1, hc2⟩) g3 (fun z _ h => hFc z h) hFc (fun u t H2 locs2 ht hvm _ hB hz1 hk1 hS2 => ?_)
  obtain ⟨hP1, hD1⟩ := hB
  rw [ht] at hP1
  have hne : ∀ (i : Nat) (z : Nat × va_E), ws[i]? = some z → z.1 < H1.size ∧ ¬ va_A (w0 q) H1.size z.1 := by
    intro i z hz
    have hi : i < ws.length := (List.getElem?_eq_some_iff.mp hz).1
    have hz' : (ws ++ [(q, .inr (cs, fs0))])[i]? = some z := by rw [List.getElem?_append_left hi]; exact hz
    have hlt := (g1 i z hz').lt
    refine ⟨hlt, fun h => ?_⟩
    rcases h with ⟨j, en, h⟩ | h
    · rw [hw0] at h
      have hj : j < 1 := (List.getElem?_eq_some_iff.mp h).1
      rw [show j = 0 by omega] at h
      cases h
      have := g2.1 i ws.length z (z.1, .inr (cs, fs0)) hz' (by rw [List.getElem?_append_right (Nat.le_refl _), Nat.sub_self]; rfl) rfl
      omega
    · omega
  have hPP : va_P D sn_cl (ws ++ w1 dA q u) H2 := by
    refine va_P.app (fun i z hz => ?_) hP1
    have hi : i < ws.length := (List.getElem?_eq_some_iff.mp hz).1
    have := g1 i z (by rw [List.getElem?_append_left hi]; exact hz)
    exact this.kept (hk1 z.1 (hne i z hz).1 (hne i z hz).2)
  have hDD : va_D A (ws ++ w1 dA q u) := by
    refine hD.app (hD1.weaken (fun _ _ _ h => hFc _ h)) (fun i j p1 p2 h1 h2 h3 => ?_)
    have := hD1.2 j p2 h2
    rw [← h3] at this
    exact (hne i p1 h1).2 this
  exact kk q u H2 locs2 hPP hDD hS2
theorem lw_cls {args : Array Value} {s : State} (hts : ∀ w ∈ sn_ws, w.before args s = true) : ∃ D : va_G, ∀ (c : Nat) (q : vw_C), sn_cl[c]? = some q → u_Kn s q.1 q.2.1 q.2.2 (D.1 c) (D.2 c) := by
  have h : ∀ c : Nat, ∃ (cC : ClassId) (iS : Nat → Nat), ∀ q : vw_C, sn_cl[c]? = some q → u_Kn s q.1 q.2.1 q.2.2 cC iS := by
    intro c
    match c with
    | 0 => obtain ⟨cC, iS, h⟩ := u_known hts nq_FO_u (hts _ nq_FO_is); exact ⟨cC, iS, fun q hq => by cases hq; exact h⟩
    | 1 => obtain ⟨cC, iS, h⟩ := u_known hts nq_LK_u (hts _ nq_LK_is); exact ⟨cC, iS, fun q hq => by cases hq; exact h⟩
    | 2 => obtain ⟨cC, iS, h⟩ := u_known hts nq_LS_u (hts _ nq_LS_is); exact ⟨cC, iS, fun q hq => by cases hq; exact h⟩
    | 3 => obtain ⟨cC, iS, h⟩ := u_known hts nq_PR_u (hts _ nq_PR_is); exact ⟨cC, iS, fun q hq => by cases hq; exact h⟩
    | 4 => obtain ⟨cC, iS, h⟩ := u_known hts nq_ST_u (hts _ nq_ST_is); exact ⟨cC, iS, fun q hq => by cases hq; exact h⟩
    | 5 => obtain ⟨cC, iS, h⟩ := u_known hts nq_SW_u (hts _ nq_SW_is); exact ⟨cC, iS, fun q hq => by cases hq; exact h⟩
    | 6 => obtain ⟨cC, iS, h⟩ := u_known hts nq_SN_u (hts _ nq_SN_is); exact ⟨cC, iS, fun q hq => by cases hq; exact h⟩
    | 7 => obtain ⟨cC, iS, h⟩ := u_known hts nq_MD_u (hts _ nq_MD_is); exact ⟨cC, iS, fun q hq => by cases hq; exact h⟩
    | n + 8 => exact ⟨0, fun _ => 0, fun q hq => by cases hq⟩
  exact ⟨(fun c => (h c).choose, fun c => (h c).choose_spec.choose), fun c q hq => (h c).choose_spec.choose_spec q hq⟩
theorem lw_tys {args : Array Value} {s : State} (hts : ∀ w ∈ sn_ws, w.before args s = true) (hov : (Cond.arrayOver (.array .int)).before args s = true) {D : va_G} (hD : ∀ (c : Nat) (q : vw_C), sn_cl[c]? = some q → u_Kn s q.1 q.2.1 q.2.2 (D.1 c) (D.2 c)) : ∃ dA : Nat → ClassId, va_K D sn_cl (sn_tys dA) s := by
  obtain ⟨c0, k0, m0, f0, g0, t0⟩ := Cond.arrayClass_spec (hts _ nq_ai)
  obtain ⟨c1, k1, m1, f1, g1, t1⟩ := Cond.arrayClass_spec (hts _ nq_ab)
  obtain ⟨c2, k2, m2, f2, g2, t2⟩ := Cond.arrayClass_spec (hts _ nq_al)
  obtain ⟨cB, c3, k3, fB, f3, g3, t3⟩ := mn_over hov
  refine ⟨fun k => match k with | 0 => c0 | 1 => c1 | 2 => c2 | _ => c3, hD, fun k q hk => ?_⟩
  match k, hk with
  | 0, hk => cases hk; exact ⟨fun n z => ⟨fun k h => (by cases h), k0, g0, m0, t0⟩, f0⟩
  | 1, hk => cases hk; exact ⟨fun n z => ⟨fun k h => (by cases h), k1, g1, m1, t1⟩, f1⟩
  | 2, hk => cases hk; exact ⟨fun n z => ⟨fun k h => (by cases h), k2, g2, m2, t2⟩, f2⟩
  | 3, hk =>
    cases hk
    refine ⟨fun n z => ⟨fun k h => (by cases h), k3, g3, cB, t3⟩, ?_⟩
    show s.vm.findClass ("[" ++ (FieldType.array FieldType.int).toString) = some c3
    rw [show "[" ++ (FieldType.array FieldType.int).toString = "[[I" by decide +kernel]
    exact f3
theorem lw_tww {b : Nat} {s : State} (htbl : ∀ w ∈ lw_tbl, w.before #[Value.ref b] s = true) (hgv : (Jvm.Cond.and given_1 narrow_1).before #[Value.ref b] s = true) : ∀ w ∈ lw_tw, w.before #[Value.ref b] s = true := by
  intro w hw
  have h1 := of_decide_eq_true (List.all_eq_true.mp tw_all w hw)
  rcases List.mem_append.mp h1 with h | h
  · exact htbl w (tw_b_ok w h)
  · have hs := flat_of_before _ hgv
    rcases List.mem_cons.mp h with rfl | h
    · exact hs _ (by decide +kernel)
    · rcases List.mem_cons.mp h with rfl | h
      · exact hs _ (by decide +kernel)
      · rcases List.mem_cons.mp h with rfl | h
        · exact hs _ (by decide +kernel)
        · cases h
set_option maxHeartbeats 2000000 in
theorem whole_start (Inv : Nat → sn_M → Prop) (hops : ∀ j, j < 24 → lw_O Inv j) (hI0 : Inv 0 sg_0) {p : Program} {e : Env} {s : State} {m : MethodId} {below : List Frame} {meth : Method} {c : Code} (l : Launch) (htr : l.stackTraces = false) {b L : Nat} {xs : Nat → Int32} (hL : L ≤ 2048) (C0 : lw_At p s m meth c b L xs) : W p l e room_1 s m #[Value.ref b] below meth c s.heap [] 0 0 (lw_Z below #[Value.ref b] s) (entryFrame m ([Value.ref b] : List Value).toArray 7) := by
  obtain ⟨hx, hb, hr, hml, hown, htbl, hXs, hbl, hlocks, hgv⟩ := C0
  have hts : ∀ w ∈ sn_ws, w.before #[Value.ref b] s = true := fun w hw => htbl w (List.mem_filter.mp hw).1
  have hown : s.vm.findClass "SwitchedNetsLaw" = some m.cls := hown
  obtain ⟨D, hDk⟩ := lw_cls hts
  obtain ⟨dA, hK⟩ := lw_tys hts (htbl _ lw_nov) hDk
  have hmk : nw_M s := by
    refine ⟨?_, fun q hq => va_Nw.of rfl (htbl _ (lw_nst q hq))⟩
    obtain ⟨cB, c3, k3, fB, f3, g3, t3⟩ := mn_over (htbl _ lw_nov)
    exact ⟨cB, c3, k3, fB, f3, g3, t3⟩
  have hX : lw_X p s m c b L xs D dA lw_tw := ⟨hx, hb, hml, hown, hts, hK, hXs, hbl, hL, lw_tw_ml, lw_tww htbl hgv⟩
  have hA : ∀ q, s.heap.size ≤ q → (fun q => s.heap.size ≤ q) q := fun q h => h
  have hP : va_P D sn_cl [] s.heap := fun k q h => by cases h
  have hD : va_D (fun q => s.heap.size ≤ q) [] := ⟨fun i j p q h => (by cases h), fun k q h => (by cases h)⟩
  have hS : va_S (fun q => s.heap.size ≤ q) s.heap s.heap [] := va_S.rf
  have hl := lv_entry ([.ref b]) (n := 7) (Nat.le_of_ble_eq_true rfl)
  rw [lg_entry_eq]
  generalize (lg_sl ([.ref b]) ++ List.replicate (7 - (lg_sl ([.ref b])).length) Slot.unset).toArray = ls at hl ⊢
  have hl : lv_has ls 7 [(0, .ref b)] := hl
  refine nw_top hx hb hml hl.1 hts hown hK hP hD hS hA hmk ki_SN (fs0 := [.null, .null, .null, .null, .null, .null, .null, .null]) rfl rfl rfl (fun _ => rfl) nq_SN_u z0_SN lw_kSN nq_SN_is mz_SN lw_lSN nq_SN_mi nq_SN_mc nq_SN_n (by decide) (by decide) (by decide) (by decide) ld_0 ld_3 ld_4 (fun q1 u1 H locs hP hD hS => ?_)
  refine lv_astore_n hx hb ld_7 rfl hl (by decide) rfl (fun ls hl => ?_)
  refine nw_top hx hb hml hl.1 hts hown hK hP hD hS hA hmk ki_MD (fs0 := z0l_MD) rfl rfl rfl (fun _ => rfl) nq_MD_u z0_MD lw_kMD nq_MD_is mz_MD lw_lMD nq_MD_mi nq_MD_mc nq_MD_n (by decide) (by decide) (by decide) (by decide) ld_8 ld_11 ld_12 (fun q2 u2 H locs hP hD hS => ?_)
  refine lv_astore_n hx hb ld_15 rfl hl (by decide) rfl (fun ls hl => ?_)
  refine lv_iconst hx hb ld_16 (v := 1) rfl ?_
  refine va_newa (atype := .long) (ty := .long) (N' := 1) (a0 := (1, .inr (.inl (fun _ => 0)))) hx hb (hts _ nq_al) rfl hK hP hD hS hA (fun _ => rfl) (by decide) (by decide) (by decide) (by decide) (by decide) ld_17 (fun q3 cA H g1 hP hD hS => ?_)
  have hcA : cA = dA 2 := nw_t2 hK cA (g1.2 4 _ rfl).2
  subst hcA
  refine lv_astore_n hx hb ld_19 rfl hl (by decide) rfl (fun ls hl => ?_)
  refine lv_iconst hx hb ld_20 rfl ?_
  refine lv_istore hx hb ld_21 hl (by decide) rfl (fun ls hl => ?_)
  have hPW : va_P D sn_cl (lw_W dA q1 u1 q2 u2 q3) H := hP
  have hDW : va_D (fun q => s.heap.size ≤ q) (lw_W dA q1 u1 q2 u2 q3) := hD
  have hW0 : sn_Wd D dA (lw_ad q1 u1 q2 u2 q3) (fun q => s.heap.size ≤ q) s.heap sg_0 H _ := ⟨lw_P0all hPW, lw_D0 hDW, hS, sg_R⟩
  have hlL : lw_L ls b (lw_ad q1 u1 q2 u2 q3) (4 * 0) := hl
  exact lw_loop (C0 := 118) (S0 := 9277) hops hX htr (by decide) (by decide) (by decide) (by decide) (fun H1 locs1 ls1 hS1 => by
    refine lv_iconst hx hb ld_1034 (v := 1) rfl ?_
    refine va_forget hS1.2.2 ?_
    exact W.widen (by decide) (by decide) (lw_ret hx hb hr hlocks ld_1035)) 512 0 0 sg_0 H _ ls (by omega) (by omega) (Nat.le_refl _) hI0 hW0 hlL
set_option maxHeartbeats 4000000 in
theorem lw_walk (Inv : Nat → sn_M → Prop) (hops : ∀ j, j < 24 → lw_O Inv j) (hI0 : Inv 0 sg_0) (l : Launch) (htr : l.stackTraces = false) (b : Addr) (xs : List Int32) : MetFree l x (headSpec (Jvm.Cond.code x code maxLocals ret :: tables_1) room_1) (lw_P b xs) (fun _ _ _ _ _ => True) lw_Q := by
  refine MetFree.of_bodyS (code := code) (maxLocals := maxLocals) (ret := ret) (by decide) ?_ ?_
  · intro args s m h hn
    obtain ⟨meth, c, h1, h2, h3, h4, h5, h6, -, -⟩ := Cond.code_spec hn (atoms_spec (ws := Jvm.Cond.code x code maxLocals ret :: tables_1) h _ List.mem_cons_self)
    exact ⟨meth, c, h1, h2, h3, h4, h5, h6⟩
  · intro p e s m args below meth c s₁ B hml0 hP _
    obtain ⟨rfl, hx, hbd, hgv⟩ := hP
    obtain ⟨scr, harrAt, hlist, hof, hsmall⟩ := hx
    obtain ⟨hcb, hkn, -, -⟩ := State.arrayAt?_spec harrAt
    have hown : s.vm.findClass R_law = some m.cls := findClass_of_methodNamed B.named
    have hts0 : ∀ c ∈ (Jvm.Cond.code x code maxLocals ret :: tables_1), c.before #[Value.ref b] s = true := atoms_spec (ws := Jvm.Cond.code x code maxLocals ret :: tables_1) B.pre
    have hts : ∀ w ∈ lw_tbl, w.before #[Value.ref b] s = true := k2_hts_sels lw_privs (fun w hw => hts0 w (List.mem_cons_of_mem _ hw)) lw_privs_ok
    have hml : c.maxLocals = 7 := B.maxLocals_eq (hts0 _ List.mem_cons_self)
    have X₀ : Stand p l e room_1 s m #[Value.ref b] below meth c s₁ [] 0 0 := Stand.of_body B
    have hh0 : s₁.heap = s.heap := by rw [B.state]; rfl
    have hsz : scr.slots.size = xs.length := by rw [← Array.length_toList, hlist, List.length_map]
    have hval : ∀ j : Nat, j < xs.length → scr.slots[j]? = some (.int (xs.getD j 0)) := fun j hj => by
      rw [← Array.getElem?_toList, hlist]
      simp [hj]
    have hbl : b < s.heap.size := (Array.getElem?_eq_some_iff.mp hcb).1
    have hX : va_X b xs.length (fun j => xs.getD j 0) s s.heap := ⟨scr, hcb, hof, hkn, hsz, hval⟩
    have K : W p l e room_1 s m #[Value.ref b] below meth c s₁.heap [] 0 0 (lw_Z below #[Value.ref b] s) (entryFrame m ([Value.ref b] : List Value).toArray 7) := by
      rw [hh0]
      exact whole_start Inv hops hI0 l htr hbd ⟨B.exec, B.bytes, B.returns, hml, hown, hts, hX, hbl, B.notSynchronized, hgv⟩
    obtain ⟨t, a1, o, b1, b2, b3⟩ := K s₁ rfl X₀
    exact ⟨t, o, a1, b1, b2, b3⟩
theorem lw_pre_spec {args : Array Value} {s : State} (h : (Jvm.Cond.and given_1 narrow_1).before args s = true) (hr : rest_1_c.before args s = true) : ∃ (b : Addr) (xs : List Int32), lw_P b xs args s := by
  have hs := flat_of_before _ h
  have hq := flat_of_before _ hr
  have hc : (Cond.count 1).before args s = true := hs _ (by decide +kernel)
  have harr : (Cond.arrayOf (.arg 0) .int).before args s = true := hs _ (by decide +kernel)
  have hle : (Cond.le (.length (.arg 0)) (.int 2048)).before args s = true := hs _ (by decide +kernel)
  have hlen : (Cond.isInt (.length (.arg 0))).before args s = true := hq _ (by decide +kernel)
  have hall : (Cond.all (.arg 0) (.isInt (.elem (.arg 0) (.index 0)))).before args s = true := hq _ (by decide +kernel)
  obtain ⟨b, xs, hb, hx⟩ := State.ints_of_pre rfl harr hlen hall
  have hsm : xs.length < 2 ^ 31 := hx.choose_spec.2.2.2
  have hev : (Term.length (.arg 0)).eval args s none [] s = some (.int xs.length.toInt32) := hx.length_eval hb
  have hv := Cond.le_ints hev (show (Term.int 2048).eval args s none [] s = some (.int 2048) from rfl)
  have hd : xs.length.toInt32 ≤ 2048 := by
    simpa [Cond.before, Cond.holds, hv] using hle
  have hN : xs.length ≤ 2048 := (Int32.ofNat_le_ofNat hsm (by decide)).mp (show Int32.ofNat xs.length ≤ Int32.ofNat 2048 from hd)
  exact ⟨b, xs, Cond.one_arg hc (show args[0]? = some (.ref b) from hb), hx, hN, h⟩
theorem lw_comes (Inv : Nat → sn_M → Prop) (hops : ∀ j, j < 24 → lw_O Inv j) (hI0 : Inv 0 sg_0) (l : Launch) (htr : l.stackTraces = false) : Comes l x (Jvm.Cond.code x code maxLocals ret :: tables_1) room_1 (fun tb e args s => Calls_1 tb e args s ∧ rest_1 tb e args s ∧ Pre_1 tb e args s)
    (fun _ _ args s o t => lw_Q args s o t) := by
  intro p e ha hc hk s m args below hf hfit hheap happ hpre
  obtain ⟨b, xs, hP⟩ := lw_pre_spec hpre.2.2 hpre.2.1
  obtain ⟨k, o, h1, h2, h3, hQ⟩ := lw_walk Inv hops hI0 l htr b xs p e ha hc hk s m args below hf ((Spec.applies_iff_loose hf).mp happ).1 hP trivial
  exact ⟨k, o, h1, h2, h3, hQ⟩
theorem lw_frame {s t : State} {o : Outcome} {args : Array Value} (h : Framed s o t [] 601024 7293034) :
    Framed s o t (fieldLocs frame_1_writes args s ++ arrayLocs frame_1_arrays args s ++ staticLocs frame_1_statics s) 601024 7293034 := h
theorem lw_limb (Inv : Nat → sn_M → Prop) (hops : ∀ j, j < 24 → lw_O Inv j) (hI0 : Inv 0 sg_0) (L : Cond) (hL : ∀ (args : Array Value) (s t : State), L.after args s (.returned (some (.int 1))) t = true) :
    ArmFor flags0 classFile x code maxLocals ret World_1 tables_1 room_1 Calls_1 rest_1 Pre_1
      (fun tb e a s o t => postC L tb e a s o t ∧ Framed s o t (fieldLocs frame_1_writes a s ++ arrayLocs frame_1_arrays a s ++ staticLocs frame_1_statics s) 601024 7293034) := by
  intro l hfl _ _ p e ha hc hk s m args below hf hfit hheap happ hpre
  have htr : l.stackTraces = false := by
    unfold Launch.stackTraces
    rw [hfl]
    decide +kernel
  obtain ⟨k, o, h1, h2, h3, rfl, hF⟩ := lw_comes Inv hops hI0 l htr p e ha hc hk s m args below hf hfit hheap happ hpre
  exact ⟨k, _, h1, h2, h3, hL args s _, lw_frame hF⟩
theorem lw_vc (Inv : Nat → sn_M → Prop) (hops : ∀ j, j < 24 → lw_O Inv j) (hI0 : Inv 0 sg_0) : Claimed_1_1 ∧ Claimed_1_2 := ⟨lw_limb Inv hops hI0 limb_1_1 (fun args s t => by simp [limb_1_1, Cond.after, Cond.holds, Cond.value]), lw_limb Inv hops hI0 limb_1_2 (fun args s t => Cond.after_iff.mpr (by
  first | (rw [show limb_1_2 = Cond.eq .result (.int 1) from rfl, Cond.eq_ints (x := 1) (y := 1) rfl rfl]; simp; done) | (simp [limb_1_2, Cond.value, Term.eval]; done)))⟩
