/-! The law: a case whose method may throw. -/
section LT
variable {p : Program} {l : Launch} {e : Env} {R : Room} {s : State} {m : MethodId} {below : List Frame} {meth : Method} {c : Code} {Q : State → Prop} {cells slots : Nat}
variable {D : va_G} {dA : Nat → ClassId} {ad : sn_A} {b L i n : Nat} {xs : Nat → Int32} {tw : List Cond} {H : Heap} {locs : List Loc} {ls : Array Slot} {σ : sn_M} {Inv : Nat → sn_M → Prop}
/-- arguments are pushed -/
def lw_Pu (p : Program) (l : Launch) (e : Env) (R : Room) (s : State) (m : MethodId) (below : List Frame) (meth : Method) (c : Code) (Q : State → Prop) (ad : sn_A) (b i : Nat) (pc len : Nat) (as : List sn_V) : Prop := ∀ (H : Heap) (locs : List Loc) (cells slots : Nat) (ls : Array Slot) (st : List Value), va_S (fun q => s.heap.size ≤ q) s.heap H locs → lw_L ls b ad i →
  W p l e R s m #[.ref b] below meth c H locs cells slots Q (F0 m (pc + len) ls ((as.map (sn_cv ad)).reverse ++ st)) → W p l e R s m #[.ref b] below meth c H locs cells slots Q (F0 m pc ls st)
theorem lw_z0 {k : Int} (h : sn_R k) (hz : Int32.ofInt k = 0) : k = 0 := by
  have h0 := sn_R0
  have a1 := sn_lt h h0
  have a2 := sn_lt h0 h
  have hz : Int32.ofInt k = Int32.ofInt 0 := hz
  rw [hz] at a1 a2
  have b1 : ¬ k < 0 := fun z => Int32.lt_irrefl (a1.mpr z)
  have b2 : ¬ 0 < k := fun z => Int32.lt_irrefl (a2.mpr z)
  omega
theorem lw_cT {yC yM yH : MethodName} {cC cM cH cT : ByteArray} {lC lM lH lT pc len xH xM xT N : Nat} {hh : List (Nat × Nat × Nat × Nat)} {asF : (Nat → Int32) → Nat → List sn_V} (hop : lw_T Inv tw yC cC lC yM cM lM asF) (hX : lw_X p s m c b L xs D dA tw) (htr : l.stackTraces = false) (hR1 : 100 ≤ R.frames) (hR2 : 6000 ≤ R.locals) (hcs : cells + 1 ≤ R.cells ∧ slots + 6 ≤ R.slots)
    (hH : ∀ (dC : Nat) (spC : sn_PT), dC ≤ 90 → sn_TC yC (Cond.code yC cC lC (some .int) :: sn_ws) tw dC spC → sn_HC yH (Cond.codeWith yH cH lH (some .int) hh :: sn_ws) tw (dC + 1) (sn_hp spC (.inr (.inr (0, 0)) :: asF xs i)))
    (hth : ∃ (dT : Nat) (spT : sn_P), dT ≤ 90 ∧ sn_CT y_MD_thrown (Cond.code y_MD_thrown cT lT (some .int) :: sn_ws) dT spT ∧ ∀ (σ : sn_M) (po : Option sn_V → sn_M → Prop), po (some (.inl (σ.1 40 0 0))) σ → spT [.inr (.inr (40, 0))] σ po)
    (hTH : GoodIn sn_ws (([.methodLink "SwitchedNetsLaw" xH yH, .static yH, .initialized yH.cls] : List Cond) ++ (Cond.codeWith yH cH lH (some .int) hh :: sn_ws))) (hTM : GoodIn sn_ws (wsV "SwitchedNetsLaw" xM yM.cls yM (Cond.code yM cM lM (some .int) :: sn_ws))) (hTT : GoodIn sn_ws (wsV "SwitchedNetsLaw" xT y_MD_thrown.cls y_MD_thrown (Cond.code y_MD_thrown cT lT (some .int) :: sn_ws)))
    (hcH : yH.cls = "SwitchedNetsLaw") (hcM : yM.cls = "SwitchedNetsModel") (hlen : (asF xs i).length = N) (hvo : ∀ v ∈ asF xs i, sn_vo v) (hnH : (parseMethodDescriptor yH.desc).map (fun d => d.parameters.length) = some (N + 2)) (hnM : (parseMethodDescriptor yM.desc).map (fun d => d.parameters.length + 1) = some (N + 1)) (hlH : lH ≤ 41) (hlM : lM ≤ 41) (hlT : lT ≤ 41)
    (P1 : lw_Pu p l e R s m below meth c Q ad b i (pc + 1) len (asF xs i)) (P2 : lw_Pu p l e R s m below meth c Q ad b i (pc + 1 + len + 1 + 3 + 2 + 1) len (asF xs i))
    (d0 : decode code pc = .ok (.aload_n 1, 1)) (d1 : decode code (pc + 1 + len) = .ok (.aload_n 3, 1)) (d2 : decode code (pc + 1 + len + 1) = .ok (.invokestatic xH, 3)) (d3 : decode code (pc + 1 + len + 1 + 3) = .ok (.istore 5, 2)) (d4 : decode code (pc + 1 + len + 1 + 3 + 2) = .ok (.aload_n 2, 1))
    {q : Nat} (hq : q = pc + 1 + len + 1 + 3 + 2 + 1 + len) (d5 : decode code q = .ok (.invokevirtual xM, 3)) (d6 : decode code (q + 3) = .ok (.istore 6, 2)) (d7 : decode code (q + 3 + 2) = .ok (.aload_n 2, 1)) (d8 : decode code (q + 3 + 2 + 1) = .ok (.invokevirtual xT, 3)) (d9 : decode code (q + 3 + 2 + 1 + 3) = .ok (.iload 5, 2)) (d10 : decode code (q + 3 + 2 + 1 + 3 + 2) = .ok (.if_icmp .eq 5, 3))
    (d11 : decode code (q + 16) = .ok (.iload 5, 2)) (d12 : decode code (q + 16 + 2) = .ok (.ifCond .ne 15, 3)) (d13 : decode code (q + 16 + 2 + 3) = .ok (.aload_n 3, 1)) (d14 : decode code (q + 16 + 2 + 3 + 1) = .ok (.iconst 0, 1)) (d15 : decode code (q + 16 + 2 + 3 + 1 + 1) = .ok (.laload, 1)) (d16 : decode code (q + 16 + 2 + 3 + 1 + 1 + 1) = .ok (.iload 6, 2)) (d17 : decode code (q + 16 + 2 + 3 + 1 + 1 + 1 + 2) = .ok (.i2l, 1)) (d18 : decode code (q + 16 + 2 + 3 + 1 + 1 + 1 + 2 + 1) = .ok (.lcmp, 1)) (d19 : decode code (q + 16 + 2 + 3 + 1 + 1 + 1 + 2 + 1 + 1) = .ok (.ifCond .eq 5, 3)) (d20 : lw_go (q + 33))
    (hI : Inv n σ) (hn : n < 512) (hW : sn_Wd D dA ad (fun q => s.heap.size ≤ q) s.heap σ H locs) (hl : lw_L ls b ad i)
    (hkk : ∀ (σ' : sn_M) (H1 : Heap) (locs1 : List Loc) (ls1 : Array Slot), Inv (n + 1) σ' → sn_Wd D dA ad (fun q => s.heap.size ≤ q) s.heap σ' H1 locs1 → lw_L ls1 b ad i → W p l e R s m #[.ref b] below meth c H1 locs1 (cells + 1) (slots + 6) Q (F0 m 1028 ls1 [])) :
    W p l e R s m #[.ref b] below meth c H locs cells slots Q (F0 m pc ls []) := by
  obtain ⟨hx, hb, hml, hown, hts, hK, hXs, hbl, hL, htw, hw⟩ := hX
  obtain ⟨dC, dM, spC, spM, hdC, hdM, hC, hM, hop⟩ := hop
  obtain ⟨dT, spT, hdT, hCT, hspT⟩ := hth
  have hHC := hH dC spC hdC hC
  refine lv_aload_n hx hb d0 rfl (lv_at hl 3 rfl) ?_
  refine P1 H locs cells slots ls _ hW.2.2.1 hl ?_
  refine lv_aload_n hx hb d1 rfl (lv_at hl 1 rfl) ?_
  have e1 : (.ref (ad 65 0) :: (((asF xs i).map (sn_cv ad)).reverse ++ [.ref (ad 0 0)]) : List Value) = (((.inr (.inr (0, 0)) :: asF xs i : List sn_V) ++ ([.inr (.inr (65, 0))] : List sn_V)).map (sn_cv ad)).reverse ++ [] := by
    rw [List.map_append, List.reverse_append, List.append_nil, List.map_cons (l := asF xs i), List.reverse_cons (as := (asF xs i).map (sn_cv ad))]
    rfl
  rw [e1]
  refine sn_callH (n := N + 2) (rest := []) (nL := 7) (σ := σ) (po := lw_po Inv spM n (asF xs i)) hHC htr (by omega) (by omega) hcs hTH ⟨by rw [hcH]; decide, by rw [hcH]; decide, hnH⟩ hx hb hml hown hts hK (fun q h => h) htw hw (fun a cell h1 _ => by
      have hlt : a < s.heap.size := (Array.getElem?_eq_some_iff.mp h1).1
      rw [hW.2.2.1.2.1 a hlt (fun z => by have : s.heap.size ≤ a := z; omega)]
      exact h1) d2 (by rw [List.length_append, List.length_cons, hlen]; rfl) ⟨rfl, hop n σ xs i hI hn hW.2.2.2⟩ hW (fun v hv => by
      rcases List.mem_append.mp hv with h | h
      · rcases List.mem_cons.mp h with rfl | h
        · exact lw_ok0
        · exact hvo v h
      · rcases List.mem_cons.mp h with rfl | h
        · exact lw_ok65
        · cases h) hl.1 (Nat.zero_le _) ?_
  rintro r σ1 H1 locs1 ⟨k, rfl, h2⟩ hW1 hv1
  have hk : sn_R k := hv1 (.inl k) rfl
  show W p l e R s m #[.ref b] below meth c H1 locs1 (cells + 1) (slots + 6) Q (F0 m (pc + 1 + len + 1 + 3) ls [.int (Int32.ofInt k)])
  refine lv_istore hx hb d3 hl (by decide) rfl (fun ls1 hl1 => ?_)
  have hl1L : lw_L ls1 b ad i := lv_sub hl1 [1, 2, 3, 4, 5] rfl
  refine lv_aload_n hx hb d4 rfl (lv_at hl1L 2 rfl) ?_
  refine P2 H1 locs1 (cells + 1) (slots + 6) ls1 _ hW1.2.2.1 hl1L ?_
  rw [← hq]
  refine sn_callV (q := (40, 0)) (ci := 8) (n := N + 1) (t := asF xs i) (rest := []) (nL := 7) (σ := σ1) ("SwitchedNetsModel", T_MD, 29) hM (by omega) (by omega) hcs hTM (by decide) rfl hcM.symm ⟨by rw [hcM]; decide, by rw [hcM]; decide, hnM⟩ hx hb hml hown hts hK (fun q h => h) d5 rfl (by rw [hlen]) (h2 hW1.2.2.2) hW1 (List.forall_mem_cons.mpr ⟨lw_ok40, hvo⟩) hl1.1 (Nat.zero_le _) ?_
  rintro r2 σ2 H2 locs2 ⟨v, rfl, hcode, hout, hI2⟩ hW2 hv2
  show W p l e R s m #[.ref b] below meth c H2 locs2 (cells + 1) (slots + 6) Q (F0 m (q + 3) ls1 [.int (Int32.ofInt v)])
  refine lv_istore hx hb d6 hl1 (by decide) rfl (fun ls2 hl2 => ?_)
  have hl2L : lw_L ls2 b ad i := lv_sub hl2 [2, 3, 4, 5, 6] rfl
  refine lv_aload_n hx hb d7 rfl (lv_at hl2L 2 rfl) ?_
  refine sn_callV (q := (40, 0)) (ci := 8) (n := 1) (t := []) (rest := []) (nL := 7) (σ := σ2) (po := fun r σ' => r = some (.inl (σ2.1 40 0 0)) ∧ σ' = σ2) ("SwitchedNetsModel", T_MD, 29) hCT (by omega) (by omega) hcs hTT (by decide) rfl rfl ⟨by decide, by decide, by decide +kernel⟩ hx hb hml hown hts hK (fun q h => h) d8 rfl rfl (hspT σ2 _ ⟨rfl, rfl⟩) hW2 (List.forall_mem_cons.mpr ⟨lw_ok40, fun _ h => by cases h⟩) hl2.1 (Nat.zero_le _) ?_
  rintro r3 σ3 H3 locs3 ⟨rfl, rfl⟩ hW3 -
  rw [hcode]
  show W p l e R s m #[.ref b] below meth c H3 locs3 (cells + 1) (slots + 6) Q (F0 m (q + 3 + 2 + 1 + 3) ls2 [.int (Int32.ofInt k)])
  refine lv_iload hx hb d9 (lv_at hl2 1 rfl) ?_
  refine lv_icmp_eq hx hb d10 (tgt := q + 16) (by omega) (fun _ => ?_) (fun h => absurd rfl h)
  refine lv_iload hx hb d11 (lv_at hl2 1 rfl) ?_
  refine lv_if_ne hx hb d12 (tgt := q + 33) (by omega) (fun _ => ?_) (fun h => ?_)
  · refine lw_gone hx hb d20 ?_
    exact hkk σ3 H3 locs3 ls2 hI2 hW3 hl2L
  · have hk0 : k = 0 := lw_z0 hk h
    refine lv_aload_n hx hb d13 rfl (lv_at hl2L 1 rfl) ?_
    refine lv_iconst hx hb d14 rfl ?_
    obtain ⟨np, hnp⟩ := sn_ps_at lw_ok65
    have he := sn_wd_at (dA := dA) (ad := ad) (σ := σ3) hnp
    rw [sn_en_l rfl] at he
    refine va_lald hx hb hK hW3.1 np 2 he rfl (sn_vin sn_R0 (by omega) (show (0 : Int) < (sn_kl 65 : Nat) by decide)) d15 ?_
    have hc0 : (Int32.ofInt 0).toNatClampNeg = 0 := by decide
    rw [hc0]
    show W p l e R s m #[.ref b] below meth c H3 locs3 (cells + 1) (slots + 6) Q (F0 m _ ls2 [.long (σ3.2 65 0 0)])
    rw [hout hk0]
    refine lv_iload hx hb d16 (lv_at hl2 0 rfl) ?_
    refine lv_i2l hx hb d17 rfl ?_
    refine W.lcmp hx hb d18 ?_
    have hc : lg_cmp (Int32.ofInt v).toInt64 (Int32.ofInt v).toInt64 = 0 := by
      unfold lg_cmp
      rw [if_neg (Int64.lt_irrefl), if_pos rfl]
    rw [hc]
    refine lv_if_eq hx hb d19 (tgt := q + 33) (by omega) (fun _ => ?_) (fun h => absurd rfl h)
    refine lw_gone hx hb d20 ?_
    exact hkk σ3 H3 locs3 ls2 hI2 hW3 hl2L
end LT
