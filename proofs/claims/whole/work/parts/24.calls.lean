/-! Contracts, bodies, calls. -/
def sn_rm (d : Nat) : Room := { frames := d, cells := 0, slots := 0, locals := 60 * d }
def sn_Qc (D : va_G) (dA : Nat → ClassId) (ad : sn_A) (A : Nat → Prop) (post : Option sn_V → sn_M → Prop) : Array Value → State → Outcome → State → Prop := fun _ st oc t =>
  (∃ (r : Option sn_V) (σ' : sn_M), oc = .returned (r.map (sn_cv ad)) ∧ post r σ' ∧ (∀ v, r = some v → sn_vo v) ∧ va_P D sn_cl (sn_wd dA ad σ') t.heap ∧ ∀ k i j, sn_R (σ'.1 k i j)) ∧ va_F A st t
def sn_Pc (D : va_G) (dA : Nat → ClassId) (ad : sn_A) (sz : Nat) (σ : sn_M) (U : State) : Prop := U.heap.size = sz ∧ va_P D sn_cl (sn_wd dA ad σ) U.heap ∧ va_K D sn_cl (sn_tys dA) U ∧ va_D (fun _ => True) (sn_wd dA ad σ)
/-- a method's contract: what it does to numbers and memory -/
def sn_CT (y : MethodName) (ws : List Cond) (d : Nat) (sp : sn_P) : Prop :=
  ∀ (l : Launch) (D : va_G) (dA : Nat → ClassId) (ad : sn_A) (sz : Nat) (vs : List sn_V) (σ : sn_M) (post : Option sn_V → sn_M → Prop), sp vs σ post → (∀ v ∈ vs, sn_vo v) → (∀ k i j, sn_R (σ.1 k i j)) →
    Met l y ws (sn_rm d) (va_Pc (vs.map (sn_cv ad)) (sn_Pc D dA ad sz σ)) (sn_Qc D dA ad (va_A (sn_wd dA ad σ) sz) post) 0 0 (va_A (sn_wd dA ad σ) sz)
def sn_CO (own : String) (Ts : List Cond) (d x n ci : Nat) (sp : sn_P) : Prop :=
  ∀ (p : Program) (l : Launch) (e : Env) (s : State) (m : MethodId) (args : Array Value) (below : List Frame) (meth : Method) (c : Code) (Q : State → Prop) (cc : ByteArray) (nL : Nat) (D : va_G) (dA : Nat → ClassId) (ad : sn_A) (A : Nat → Prop) (H0 : Heap),
    p.tables.exec = Jvm.exec → c.code = cc → c.maxLocals = nL → s.vm.findClass own = some m.cls → (∀ w ∈ Ts, w.before args s = true) → va_K D sn_cl (sn_tys dA) s → (∀ q, H0.size ≤ q → A q) →
    sn_CR p l e (sn_rm d) s m args below meth c Q D dA ad A H0 nL cc x n ci sp
theorem sn_L1_len (ad : sn_A) (vs : List sn_V) : (lg_sl (vs.map (sn_cv ad))).length = (sn_L1 vs).length := by
  induction vs with
  | nil => rfl
  | cons v t ih =>
    have e : lg_sl ((v :: t).map (sn_cv ad)) = (if (sn_cv ad v).category = 2 then [.val (sn_cv ad v), .second] else [.val (sn_cv ad v)]) ++ lg_sl (t.map (sn_cv ad)) := by
      unfold lg_sl
      rw [List.map_cons, List.flatMap_cons]
    rw [e, List.length_append, ih]
    match v with
    | .inl x => simp [sn_L1, sn_cv, Value.category]; omega
    | .inr (.inl x) => simp [sn_L1, sn_cv, Value.category]; omega
    | .inr (.inr x) => simp [sn_L1, sn_cv, Value.category]; omega
theorem sn_L1_at (ad : sn_A) (vs : List sn_V) : ∀ (o i : Nat) (v : sn_V), (sn_L1 vs)[i]? = some (some v) → v ∈ vs ∧ (o + i, sn_cv ad v) ∈ lv_args o (vs.map (sn_cv ad)) := by
  induction vs with
  | nil => intro o i v h; simp [sn_L1] at h
  | cons w t ih =>
    intro o i v h
    match w with
    | .inl x =>
      simp only [sn_L1] at h
      cases i with
      | zero =>
        simp at h
        subst h
        exact ⟨List.mem_cons_self, List.mem_cons_self⟩
      | succ i =>
        rw [List.getElem?_cons_succ] at h
        obtain ⟨h1, h2⟩ := ih (o + 1) i v h
        refine ⟨List.mem_cons_of_mem _ h1, List.mem_cons_of_mem _ ?_⟩
        rw [show o + (i + 1) = o + 1 + i by omega]
        exact h2
    | .inr (.inr x) =>
      simp only [sn_L1] at h
      cases i with
      | zero =>
        simp at h
        subst h
        exact ⟨List.mem_cons_self, List.mem_cons_self⟩
      | succ i =>
        rw [List.getElem?_cons_succ] at h
        obtain ⟨h1, h2⟩ := ih (o + 1) i v h
        refine ⟨List.mem_cons_of_mem _ h1, List.mem_cons_of_mem _ ?_⟩
        rw [show o + (i + 1) = o + 1 + i by omega]
        exact h2
    | .inr (.inl x) =>
      simp only [sn_L1] at h
      match i with
      | 0 =>
        simp at h
        subst h
        exact ⟨List.mem_cons_self, List.mem_cons_self⟩
      | 1 => simp at h
      | i + 2 =>
        rw [List.getElem?_cons_succ, List.getElem?_cons_succ] at h
        obtain ⟨h1, h2⟩ := ih (o + 2) i v h
        refine ⟨List.mem_cons_of_mem _ h1, List.mem_cons_of_mem _ ?_⟩
        rw [show o + (i + 2) = o + 2 + i by omega]
        exact h2
theorem sn_L0_Lo {ad : sn_A} {ls : Array Slot} {nL : Nat} {vs : List sn_V} (hlen : (sn_L1 vs).length ≤ nL) (hvs : ∀ v ∈ vs, sn_vo v) (h : lv_has ls nL (lv_args 0 (vs.map (sn_cv ad)))) : sn_Lo ad ls nL (sn_L0 nL vs) := by
  refine ⟨h.1, by unfold sn_L0; rw [List.length_append, List.length_replicate]; omega, h.2.1, fun i v hv => ?_⟩
  unfold sn_L0 at hv
  by_cases hi : i < (sn_L1 vs).length
  · rw [List.getElem?_append_left hi] at hv
    obtain ⟨h1, h2⟩ := sn_L1_at ad vs 0 i v hv
    have h3 := h.2.2 _ h2
    rw [Nat.zero_add] at h3
    exact ⟨hvs v h1, h3⟩
  · rw [List.getElem?_append_right (by omega)] at hv
    have h1 := List.eq_of_mem_replicate (List.mem_of_getElem? hv)
    cases h1
theorem sn_it_ok {pr : Nat → Option (Instr × Nat)} {fi : Nat → Option (Nat × Nat)} {lc : Nat → Option Int64} {ca : Nat → Option (Nat × Nat × sn_P)} {post : Option sn_V → sn_M → Prop} {G : Nat → sn_Ls → List sn_V → sn_M → Prop}
    (hs : ∀ (K : Nat → sn_Ls → List sn_V → sn_M → Prop), (∀ pc L S σ, K pc L S σ → G pc L S σ) → ∀ pc L S σ, sn_step pr fi lc ca post K pc L S σ → G pc L S σ) (n : Nat) (st : List Nat) : ∀ pc L S σ, sn_it pr fi lc ca post st G n pc L S σ → G pc L S σ := by
  induction n with
  | zero => intro pc L S σ h; exact h
  | succ n ih =>
    intro pc L S σ h
    refine hs _ (fun pc L S σ hk => ?_) pc L S σ h
    cases hi : sn_in pc st with
    | true => rw [hi] at hk; exact hk
    | false => rw [hi] at hk; exact ih _ _ _ _ hk
theorem sn_CT_of {y : MethodName} {code : ByteArray} {nL d : Nat} {ret : Option FieldType} {sp : sn_P} {ws : List Cond} {pr : Nat → Option (Instr × Nat)} {fi : Nat → Option (Nat × Nat)} {lc : Nat → Option Int64} {ca : Nat → Option (Nat × Nat × sn_P)}
    (hy : plainName y.cls = true) (hl0 : ∀ vs σ post, sp vs σ post → (sn_L1 vs).length ≤ nL) (hpr : ∀ pc i t, pr pc = some (i, t) → sn_dk code nL ret pc i t = true) (hfi : sn_FI y.cls ws fi) (hlc : ∀ x v, lc x = some v → Cond.constantLong y.cls x v ∈ ws)
    (hca : ∀ x n ci s', ca x = some (n, ci, s') → sn_CO y.cls ws d x n ci s')
    (hbody : ∀ vs σ post, sp vs σ post → (∀ v ∈ vs, sn_vo v) → (∀ k i j, sn_R (σ.1 k i j)) → sn_Bd pr fi lc ca nL vs σ post) : sn_CT y (Cond.code y code nL ret :: ws) d sp := by
  intro l D dA ad sz vs σ post hsp hvs hR
  refine Met.ofW (cc := code) (maxL := nL) (ret := ret) hy rfl ?_
  intro p e s m args below meth c s₁ B hml hv
  obtain ⟨rfl, hsz, hP, hK, hD0⟩ := hv
  have hx := B.exec
  have hb := B.bytes
  have hr := B.returns
  have hts0 := atoms_spec (ws := Cond.code y code nL ret :: ws) B.pre
  have hts : ∀ w ∈ ws, w.before (vs.map (sn_cv ad)).toArray s = true := fun w hw => hts0 w (List.mem_cons_of_mem _ hw)
  have hown : s.vm.findClass y.cls = some m.cls := findClass_of_methodNamed B.named
  have hlocks := B.notSynchronized
  subst hsz
  have hD := hD0.self (sz := s.heap.size)
  generalize hAe : va_A (sn_wd dA ad σ) s.heap.size = A at hD ⊢
  have hA : ∀ q : Nat, s.heap.size ≤ q → A q := fun q h => by rw [← hAe]; exact Or.inr h
  have hS : va_S A s.heap s.heap [] := va_S.rf
  have hlen := hl0 vs σ post hsp
  have hl := lv_entry (vs.map (sn_cv ad)) (n := nL) (by rw [sn_L1_len]; exact hlen)
  rw [lg_entry_eq]
  generalize (lg_sl (vs.map (sn_cv ad)) ++ List.replicate (nL - (lg_sl (vs.map (sn_cv ad))).length) Slot.unset).toArray = ls at hl ⊢
  have hLo := sn_L0_Lo hlen hvs hl
  refine hbody vs σ post hsp hvs hR (sn_G p l e (sn_rm d) s m (vs.map (sn_cv ad)).toArray below meth c _ D dA ad A s.heap nL) (fun n st => sn_it_ok (fun K hk pc L S σ h => ?_) n st) s.heap [] ls ⟨hP, hD, hS, hR⟩ hLo (fun v hv => by cases hv)
  refine sn_step_ok (ret := ret) hx hb hK hts hown hpr hfi hlc (fun x n ci s' hc => hca x n ci s' hc p l e s m _ below meth c _ code nL D dA ad A s.heap hx hb hml hown hts hK hA) ?_ ?_ ?_ hk h
  · intro pc t ls x σ' H locs hdec hfit ht hW hx1 hpost
    have hf2 : ((decide (ret = some .int) && Nat.beq t 0) || (decide (ret = some .boolean) && Nat.beq t 1)) = true := hfit
    rw [Bool.or_eq_true, Bool.and_eq_true, Bool.and_eq_true] at hf2
    rcases hf2 with ⟨h1, h2⟩ | ⟨h1, h2⟩
    · have h1 := of_decide_eq_true h1
      exact W.iret (v := Int32.ofInt x) hx hb (hr.trans h1) (fun t ht hWm => ⟨⟨some (.inl x), σ', rfl, hpost, fun v hv => by cases hv; exact hx1, by rw [ht]; exact hW.1, hW.2.2.2⟩, hW.2.2.1.F ht⟩) hW.2.2.1.2.2 hdec
    · have h1 := of_decide_eq_true h1
      have h2 := Nat.eq_of_beq_eq_true h2
      exact W.zret (v := Int32.ofInt x) (ty := .boolean) hx hb (hr.trans h1) (sn_nar (ht h2)).1 (fun t ht hWm => ⟨⟨some (.inl x), σ', rfl, hpost, fun v hv => by cases hv; exact hx1, by rw [ht]; exact hW.1, hW.2.2.2⟩, hW.2.2.1.F ht⟩) hW.2.2.1.2.2 hdec
  · intro pc ls x σ' H locs hdec hret hW hpost
    exact W.lret (v := x) hx hb (hr.trans hret) (fun t ht hWm => ⟨⟨some (.inr (.inl x)), σ', rfl, hpost, fun v hv => by cases hv; trivial, by rw [ht]; exact hW.1, hW.2.2.2⟩, hW.2.2.1.F ht⟩) hW.2.2.1.2.2 hdec
  · intro pc ls σ' H locs hdec hret hW hpost
    exact W.vret hx hb (hr.trans hret) (fun t ht hWm => ⟨⟨none, σ', rfl, hpost, (fun v hv => by cases hv), by rw [ht]; exact hW.1, hW.2.2.2⟩, hW.2.2.1.F ht⟩) hW.2.2.1.2.2 hdec
theorem sn_blind {D : va_G} {dA : Nat → ClassId} {ad : sn_A} {sz : Nat} {σ : sn_M} {vs : List Value} : FrameBlind (va_Pc vs (sn_Pc D dA ad sz σ)) := by
  intro a U g mk q
  obtain ⟨q0, q1, qP, qK, qD⟩ := q
  exact ⟨q0, q1, qP, va_K.moved (u := U) (U := U.calling g mk a) (Vm.Alike.refl U.vm) qK, qD⟩
theorem sn_words {ad : sn_A} {rest : List sn_V} (h : rest.length ≤ 4) : ((rest.map (sn_cv ad)).map fun v => v.category).sum ≤ 8 := by
  have h1 : ∀ l : List sn_V, ((l.map (sn_cv ad)).map fun v => v.category).sum ≤ 2 * l.length := by
    intro l
    induction l with
    | nil => exact Nat.le_refl _
    | cons v t ih =>
      have hv : (sn_cv ad v).category ≤ 2 := by
        match v with
        | .inl _ => show 1 ≤ 2; omega
        | .inr (.inl _) => show 2 ≤ 2; omega
        | .inr (.inr _) => show 1 ≤ 2; omega
      simp only [List.map_cons, List.sum_cons, List.length_cons]
      omega
  have := h1 rest
  omega
section SNC
variable {p : Program} {l : Launch} {e : Env} {R : Room} {s : State} {m : MethodId} {args : Array Value} {below : List Frame} {meth : Method} {c : Code} {Q : State → Prop}
variable {D : va_G} {dA : Nat → ClassId} {ad : sn_A} {A : Nat → Prop} {H0 : Heap}
/-- behind a call that is met -/
theorem sn_after {pc : Nat} {ls : Array Slot} {st0 : List Value} {rest : List sn_V} {σ : sn_M} {H : Heap} {locs : List Loc} {po : Option sn_V → sn_M → Prop} {a : Array Value} (hW : sn_Wd D dA ad A H0 σ H locs) (hA : ∀ q, H0.size ≤ q → A q)
    (hr : va_Run p l e R s m args below meth c H locs 0 0 0 0 (F0 m pc ls st0) (rest.map (sn_cv ad)) (sn_Qc D dA ad (va_A (sn_wd dA ad σ) H.size) po a) (va_A (sn_wd dA ad σ) H.size))
    (hk : ∀ (r : Option sn_V) (σ' : sn_M) (H1 : Heap) (locs1 : List Loc), po r σ' → sn_Wd D dA ad A H0 σ' H1 locs1 → (∀ v, r = some v → sn_vo v) → W p l e R s m args below meth c H1 locs1 0 0 Q (F0 m (pc + 3) ls ((r.toList ++ rest).map (sn_cv ad)))) :
    W p l e R s m args below meth c H locs 0 0 Q (F0 m pc ls st0) := by
  intro T hT X
  obtain ⟨v, st₀, t, T', L, h0, X', hL, e1, e2, ⟨⟨r, σ', hv, hp, hvo, hP1, hR1⟩, hz, hkq⟩, st⟩ := hr T hT X
  have hv : v = r.map (sn_cv ad) := by injection hv
  subst hv
  rw [h0] at hz hkq
  obtain ⟨hP, hD, hS, hR⟩ := hW
  have hin : ∀ q, q < H.size → va_A (sn_wd dA ad σ) H.size q → A q := by
    intro q hq h
    rcases h with ⟨k, en, h⟩ | h
    · exact hD.2 k _ h
    · omega
  have hin2 : ∀ q, va_A (sn_wd dA ad σ) H.size q → A q := by
    intro q h
    rcases h with ⟨k, en, h⟩ | h
    · exact hD.2 k _ h
    · exact hA q (Nat.le_trans hS.1 h)
  obtain ⟨t2, a1, b1⟩ := hk r σ' T'.heap (locs ++ L) hp ⟨by rw [e1]; exact hP1, sn_wd_D hD, ⟨Nat.le_trans hS.1 (by rw [e1]; exact hz), fun q h1 h2 => by
      rw [e1, hkq q (Nat.lt_of_lt_of_le h1 hS.1) (fun z => h2 (hin q (Nat.lt_of_lt_of_le h1 hS.1) z))]
      exact hS.2.1 q h1 h2, fun q hq => by
      rcases List.mem_append.mp hq with h | h
      · exact hS.2.2 q h
      · exact hin2 _ (hL q h)⟩, hR1⟩ hvo T' rfl X'
  refine ⟨t2, st t2 ?_, b1⟩
  cases r with
  | none => exact a1
  | some w => exact a1
end SNC
theorem sn_CO_V {own : String} {Ts ws : List Cond} {d x n ci d' : Nat} {sp : sn_P} {y : MethodName} {code : ByteArray} {maxL : Nat} {ret : Option FieldType} (r : vw_C) (hM : sn_CT y (Cond.code y code maxL ret :: ws) d' sp) (hd : d' < d) (hmax : maxL ≤ 41)
    (hT : GoodIn Ts (wsV own x y.cls y (Cond.code y code maxL ret :: ws))) (hci : ci ≠ 0) (hcl : sn_cl[ci - 1]? = some r) (hrc : r.1 = y.cls)
    (hnm : y.cls ≠ "java/lang/invoke/MethodHandle" ∧ y.cls ≠ "java/lang/invoke/VarHandle" ∧ (parseMethodDescriptor y.desc).map (fun d => d.parameters.length + 1) = some n) : sn_CO own Ts d x n ci sp := by
  intro p l e s m args below meth c Q cc nL D dA ad A H0 hx hb hml hown hts hK hA
  intro pc ls as rest σ H locs po hdec hn hsp hW has hrest hls hr4 hkont
  rcases hdec with ⟨hdec, q, t, rfl, hq⟩ | ⟨-, h0⟩
  · obtain ⟨g1, g2, g3⟩ := hnm
    have hM1 := hM l D dA ad H.size (.inr (.inr q) :: t) σ po hsp has hW.2.2.2
    have hqo : sn_ok q.1 q.2 := has (.inr (.inr q)) List.mem_cons_self
    obtain ⟨np, hnp⟩ := sn_ps_at hqo
    have he := sn_wd_at (dA := dA) (ad := ad) (σ := σ) hnp
    have hkc : sn_kc q.1 = ci - 1 := by omega
    rw [sn_en_o (by rw [hkc]; exact sn_cl_lt hcl), hkc] at he
    obtain ⟨cell, c1, c2, c3⟩ := va_recv hK hW.1 hcl he
    rw [hrc] at c3
    have hpar : (parseMethodDescriptor y.desc).map (fun d => d.parameters.length) = some (t.length) := by
      cases hpd : parseMethodDescriptor y.desc with
      | none => rw [hpd] at g3; cases g3
      | some dd =>
        rw [hpd] at g3
        have : dd.parameters.length + 1 = n := Option.some.inj g3
        rw [List.length_cons] at hn
        exact congrArg some (show dd.parameters.length = t.length by omega)
    have hrun := va_runV (l := l) (e := e) (R := sn_rm d) (below := below) (meth := meth) (H := H) (locs := locs) (cells := 0) (slots := 0) (g := F0 m pc ls (((.inr (.inr q) :: t : List sn_V).reverse ++ rest).map (sn_cv ad))) (As := t.map (sn_cv ad)) (rest := rest.map (sn_cv ad)) (b := ad q.1 q.2) ⟨hx, hb, hml, hown, hts⟩ hM1
      (cwV t.length hts hT rfl rfl rfl ⟨rfl, g1, g2, hpar⟩ ⟨by show d' + 1 ≤ d; omega, by show 8 + (maxL + 11) + 60 * d' ≤ 60 * d; omega⟩)
      ⟨sn_blind, ⟨cell, c1, c2, c3⟩, fun U hU hWm => ⟨rfl, by rw [hU], by rw [hU]; exact hW.1, va_K.moved hWm.alike hK, hW.2.1.weaken (fun _ _ _ _ => trivial)⟩⟩ rfl (by rw [List.length_map]) hls
      (by show List.map (sn_cv ad) ((Sum.inr (Sum.inr q) :: t).reverse ++ rest) = _; rw [List.map_append, List.reverse_cons, List.map_append, List.map_reverse, List.append_assoc]; rfl)
      (by show 2 * 0 + _ ≤ 8; rw [Nat.mul_zero, Nat.zero_add]; exact sn_words hr4) hdec ⟨Nat.le_refl _, Nat.le_refl _⟩
    exact sn_after hW hA hrun hkont
  · exact absurd h0 hci
theorem sn_CO_S {own : String} {Ts ws : List Cond} {d x n d' : Nat} {sp : sn_P} {y : MethodName} {code : ByteArray} {maxL : Nat} {ret : Option FieldType} (hM : sn_CT y (Cond.code y code maxL ret :: ws) d' sp) (hd : d' < d) (hmax : maxL ≤ 41)
    (hT : GoodIn Ts (va_wsS own x y (Cond.code y code maxL ret :: ws)))
    (hnm : y.cls ≠ "java/lang/invoke/MethodHandle" ∧ y.cls ≠ "java/lang/invoke/VarHandle" ∧ (parseMethodDescriptor y.desc).map (fun d => d.parameters.length) = some n) : sn_CO own Ts d x n 0 sp := by
  intro p l e s m args below meth c Q cc nL D dA ad A H0 hx hb hml hown hts hK hA
  intro pc ls as rest σ H locs po hdec hn hsp hW has hrest hls hr4 hkont
  rcases hdec with ⟨-, q, t, -, hq⟩ | ⟨hdec, -⟩
  · omega
  · have hM1 := hM l D dA ad H.size as σ po hsp has hW.2.2.2
    have hrun := va_runS (l := l) (e := e) (R := sn_rm d) (below := below) (meth := meth) (H := H) (locs := locs) (cells := 0) (slots := 0) (g := F0 m pc ls ((as.reverse ++ rest).map (sn_cv ad))) (As := as.map (sn_cv ad)) (rest := rest.map (sn_cv ad)) ⟨hx, hb, hml, hown, hts⟩ hM1
      (va_cwS n hts hT rfl rfl rfl hnm ⟨by show d' + 1 ≤ d; omega, by show 8 + (maxL + 11) + 60 * d' ≤ 60 * d; omega⟩)
      ⟨sn_blind, fun U hU hWm => ⟨rfl, by rw [hU], by rw [hU]; exact hW.1, va_K.moved hWm.alike hK, hW.2.1.weaken (fun _ _ _ _ => trivial)⟩⟩ rfl (by rw [List.length_map]; exact hn) hls
      (by show List.map (sn_cv ad) (as.reverse ++ rest) = _; rw [List.map_append, List.map_reverse])
      (by show 2 * 0 + _ ≤ 8; rw [Nat.mul_zero, Nat.zero_add]; exact sn_words hr4) hdec ⟨Nat.le_refl _, Nat.le_refl _⟩
    exact sn_after hW hA hrun hkont
