/-! All instructions. -/
theorem sn_rb_R {n : Int} (h : sn_rb n = true) : sn_R n := by
  unfold sn_rb at h
  rw [Bool.and_eq_true] at h
  exact ⟨of_decide_eq_true h.1, of_decide_eq_true h.2⟩
theorem sn_cl_lt {ci : Nat} {r : vw_C} (h : sn_cl[ci]? = some r) : ci < 100 := by
  have h1 := (List.getElem?_eq_some_iff.mp h).1
  have h2 : sn_cl.length ≤ 100 := by decide
  omega
theorem sn_t1 {v : sn_V} {S : List sn_V} (h : ∀ w ∈ v :: S, sn_vo w) : sn_vo v ∧ ∀ w ∈ S, sn_vo w := ⟨h v List.mem_cons_self, fun w hw => h w (List.mem_cons_of_mem _ hw)⟩
theorem sn_nar {v : Int} (h : v = 0 ∨ v = 1) : narrow .boolean (.int (Int32.ofInt v)) = .int (Int32.ofInt v) ∧ vp_nar .boolean (Int32.ofInt v) = Int32.ofInt v := by
  rcases h with rfl | rfl
  · exact ⟨by decide, by decide⟩
  · exact ⟨by decide, by decide⟩
section SNS
variable {p : Program} {l : Launch} {e : Env} {R : Room} {s : State} {m : MethodId} {args : Array Value} {below : List Frame} {meth : Method} {c : Code} {Q : State → Prop}
variable {cc : ByteArray} {nL : Nat} {own : String} {Ts : List Cond} {D : va_G} {dA : Nat → ClassId} {ad : sn_A} {A : Nat → Prop} {H0 : Heap}
theorem sn_up32 {σ : sn_M} {k i j : Nat} {v : Int} : (fun q => Int32.ofInt (sn_u σ.1 k i j v k i q)) = upd (fun q => Int32.ofInt (σ.1 k i q)) j (Int32.ofInt v) := by
  funext q
  unfold upd
  by_cases h : q = j
  · subst h
    rw [if_pos rfl, sn_u_s]
  · rw [if_neg h, sn_u_n (fun z => h z.2.2)]
theorem sn_up64 {σ : sn_M} {k i j : Nat} {v : Int64} : (fun q => sn_u σ.2 k i j v k i q) = vp_updL (fun q => σ.2 k i q) j v := by
  funext q
  unfold vp_updL
  by_cases h : q = j
  · subst h
    rw [if_pos rfl, sn_u_s]
  · rw [if_neg h, sn_u_n (fun z => h z.2.2)]
set_option maxHeartbeats 8000000 in
set_option maxRecDepth 20000 in
theorem sn_step_ok {ret : Option FieldType} {pr : Nat → Option (Instr × Nat)} {fi : Nat → Option (Nat × Nat)} {lc : Nat → Option Int64} {ca : Nat → Option (Nat × Nat × sn_P)} {post : Option sn_V → sn_M → Prop} {K : Nat → sn_Ls → List sn_V → sn_M → Prop}
    (hx : p.tables.exec = Jvm.exec) (hb : c.code = cc) (hK : va_K D sn_cl (sn_tys dA) s) (hts : ∀ w ∈ Ts, w.before args s = true) (hown : s.vm.findClass own = some m.cls)
    (hpr : ∀ pc i t, pr pc = some (i, t) → sn_dk cc nL ret pc i t = true) (hfi : sn_FI own Ts fi) (hlc : ∀ x v, lc x = some v → Cond.constantLong own x v ∈ Ts)
    (hca : ∀ x n ci sp, ca x = some (n, ci, sp) → sn_CR p l e R s m args below meth c Q D dA ad A H0 nL cc x n ci sp)
    (hri : ∀ (pc t : Nat) (ls : Array Slot) (x : Int) (σ : sn_M) (H : Heap) (locs : List Loc), decode cc pc = .ok (.ireturn, 1) → sn_fit nL ret pc .ireturn t = true → (t = 1 → x = 0 ∨ x = 1) → sn_Wd D dA ad A H0 σ H locs → sn_R x → post (some (.inl x)) σ → W p l e R s m args below meth c H locs 0 0 Q (F0 m pc ls [.int (Int32.ofInt x)]))
    (hrl : ∀ (pc : Nat) (ls : Array Slot) (x : Int64) (σ : sn_M) (H : Heap) (locs : List Loc), decode cc pc = .ok (.lreturn, 1) → ret = some .long → sn_Wd D dA ad A H0 σ H locs → post (some (.inr (.inl x))) σ → W p l e R s m args below meth c H locs 0 0 Q (F0 m pc ls [.long x]))
    (hrv : ∀ (pc : Nat) (ls : Array Slot) (σ : sn_M) (H : Heap) (locs : List Loc), decode cc pc = .ok (.return_, 1) → ret = none → sn_Wd D dA ad A H0 σ H locs → post none σ → W p l e R s m args below meth c H locs 0 0 Q (F0 m pc ls []))
    (hk : ∀ pc L S σ, K pc L S σ → sn_G p l e R s m args below meth c Q D dA ad A H0 nL pc L S σ) {pc : Nat} {L : sn_Ls} {S : List sn_V} {σ : sn_M} (h : sn_step pr fi lc ca post K pc L S σ) : sn_G p l e R s m args below meth c Q D dA ad A H0 nL pc L S σ := by
  unfold sn_step at h
  cases hp : pr pc with
  | none => rw [hp] at h; exact False.elim h
  | some q =>
    obtain ⟨ins, t⟩ := q
    rw [hp] at h
    have hd := hpr pc ins t hp
    have hfit := (sn_dk_1 hd).2
    intro H locs ls hW hL hS
    have hvo : ∀ (j : Nat) (w : sn_V), L[j]? = some (some w) → sn_vo w := fun j w hj => (hL.2.2.2 j w hj).1
    cases ins with
    | iconst n =>
      exact lv_iconst (v := Int32.ofInt n) hx hb (sn_dk_2 hd rfl) rfl (hk _ _ _ _ h H locs ls hW hL (sn_vo_c (sn_rb_R hfit) hS))
    | bipush n =>
      have hf2 : (sn_rb n && decide ((Int8.ofInt n).toInt32 = Int32.ofInt n)) = true := hfit
      rw [Bool.and_eq_true] at hf2
      exact lv_bipush (v := Int32.ofInt n) hx hb (sn_dk_2 hd rfl) (of_decide_eq_true hf2.2) (hk _ _ _ _ h H locs ls hW hL (sn_vo_c (sn_rb_R hf2.1) hS))
    | sipush n =>
      have hf2 : (sn_rb n && decide ((Int16.ofInt n).toInt32 = Int32.ofInt n)) = true := hfit
      rw [Bool.and_eq_true] at hf2
      exact lv_sipush (v := Int32.ofInt n) hx hb (sn_dk_2 hd rfl) (of_decide_eq_true hf2.2) (hk _ _ _ _ h H locs ls hW hL (sn_vo_c (sn_rb_R hf2.1) hS))
    | lconst n =>
      exact lv_lconst (v := Int64.ofNat n.val) hx hb (sn_dk_2 hd rfl) rfl (hk _ _ _ _ h H locs ls hW hL (sn_vo_c (v := .inr (.inl (Int64.ofNat n.val))) trivial hS))
    | ldc2_w x =>
      dsimp only at h
      cases hv : lc x with
      | none => rw [hv] at h; exact False.elim h
      | some v =>
        rw [hv] at h
        exact lv_ldc2 hx hb hown (hts _ (hlc x v hv)) (sn_dk_2 hd rfl) (hk _ _ _ _ h H locs ls hW hL (sn_vo_c (v := .inr (.inl v)) trivial hS))
    | iload i =>
      obtain ⟨x, hl, h⟩ := sn_li_e h
      exact lv_iload hx hb (sn_dk_2 hd rfl) (hL.2.2.2 i _ hl).2 (hk _ _ _ _ h H locs ls hW hL (sn_vo_c (hvo _ _ hl) hS))
    | iload_n i =>
      obtain ⟨x, hl, h⟩ := sn_li_e h
      exact lv_iload_n hx hb (sn_dk_2 hd rfl) rfl (hL.2.2.2 i.val _ hl).2 (hk _ _ _ _ h H locs ls hW hL (sn_vo_c (hvo _ _ hl) hS))
    | lload i =>
      obtain ⟨x, hl, h⟩ := sn_ll_e h
      exact lv_lload hx hb (sn_dk_2 hd rfl) (hL.2.2.2 i _ hl).2 (hk _ _ _ _ h H locs ls hW hL (sn_vo_c (hvo _ _ hl) hS))
    | lload_n i =>
      obtain ⟨x, hl, h⟩ := sn_ll_e h
      exact lv_lload_n hx hb (sn_dk_2 hd rfl) rfl (hL.2.2.2 i.val _ hl).2 (hk _ _ _ _ h H locs ls hW hL (sn_vo_c (hvo _ _ hl) hS))
    | aload i =>
      obtain ⟨x, hl, h⟩ := sn_la_e h
      exact lv_aload hx hb (sn_dk_2 hd rfl) (hL.2.2.2 i _ hl).2 (hk _ _ _ _ h H locs ls hW hL (sn_vo_c (hvo _ _ hl) hS))
    | aload_n i =>
      obtain ⟨x, hl, h⟩ := sn_la_e h
      exact lv_aload_n hx hb (sn_dk_2 hd rfl) rfl (hL.2.2.2 i.val _ hl).2 (hk _ _ _ _ h H locs ls hW hL (sn_vo_c (hvo _ _ hl) hS))
    | istore i =>
      obtain ⟨x, S', rfl, h⟩ := sn_p1_e h
      obtain ⟨v1, v2⟩ := sn_t1 hS
      exact lv_istore hx hb (sn_dk_2 hd rfl) hL.has (Nat.le_of_ble_eq_true hfit) rfl (fun ls' hl' => hk _ _ _ _ h H locs ls' hW (sn_Lo.s1 (v := .inl x) hL.2.1 hvo v1 hl') v2)
    | istore_n i =>
      obtain ⟨x, S', rfl, h⟩ := sn_p1_e h
      obtain ⟨v1, v2⟩ := sn_t1 hS
      exact lv_istore_n hx hb (sn_dk_2 hd rfl) rfl hL.has (Nat.le_of_ble_eq_true hfit) rfl (fun ls' hl' => hk _ _ _ _ h H locs ls' hW (sn_Lo.s1 (v := .inl x) hL.2.1 hvo v1 hl') v2)
    | astore i =>
      obtain ⟨x, S', rfl, h⟩ := sn_r1_e h
      obtain ⟨v1, v2⟩ := sn_t1 hS
      exact lv_astore hx hb (sn_dk_2 hd rfl) hL.has (Nat.le_of_ble_eq_true hfit) rfl (fun ls' hl' => hk _ _ _ _ h H locs ls' hW (sn_Lo.s1 (v := .inr (.inr x)) hL.2.1 hvo v1 hl') v2)
    | astore_n i =>
      obtain ⟨x, S', rfl, h⟩ := sn_r1_e h
      obtain ⟨v1, v2⟩ := sn_t1 hS
      exact lv_astore_n hx hb (sn_dk_2 hd rfl) rfl hL.has (Nat.le_of_ble_eq_true hfit) rfl (fun ls' hl' => hk _ _ _ _ h H locs ls' hW (sn_Lo.s1 (v := .inr (.inr x)) hL.2.1 hvo v1 hl') v2)
    | lstore i =>
      obtain ⟨x, S', rfl, h⟩ := sn_q1_e h
      obtain ⟨v1, v2⟩ := sn_t1 hS
      exact lv_lstore hx hb (sn_dk_2 hd rfl) hL.has (Nat.le_of_ble_eq_true hfit) rfl (fun ls' hl' => hk _ _ _ _ h H locs ls' hW (sn_Lo.s2 (v := .inr (.inl x)) hL.2.1 hvo v1 hl') v2)
    | lstore_n i =>
      obtain ⟨x, S', rfl, h⟩ := sn_q1_e h
      obtain ⟨v1, v2⟩ := sn_t1 hS
      exact lv_lstore_n hx hb (sn_dk_2 hd rfl) rfl hL.has (Nat.le_of_ble_eq_true hfit) rfl (fun ls' hl' => hk _ _ _ _ h H locs ls' hW (sn_Lo.s2 (v := .inr (.inl x)) hL.2.1 hvo v1 hl') v2)
    | iinc i n =>
      obtain ⟨x, hl, h1, h⟩ := sn_li_e h
      obtain ⟨kq, hkq⟩ := List.getElem?_of_mem (sn_al_in (ad := ad) hl)
      exact lv_iinc (v := Int32.ofInt (x + n)) hx hb (sn_dk_2 hd rfl) hL.has hkq (Int32.ofInt_add x n).symm (Nat.le_of_ble_eq_true hfit) rfl (fun ls' hl' => hk _ _ _ _ h H locs ls' hW (sn_Lo.s1 (v := .inl (x + n)) hL.2.1 hvo h1 hl') hS)
    | iadd =>
      obtain ⟨x, y, S', rfl, h1, h⟩ := sn_p2_e h
      obtain ⟨v1, v2⟩ := sn_t1 hS
      obtain ⟨v3, v4⟩ := sn_t1 v2
      refine lv_iadd hx hb (sn_dk_2 hd rfl) ?_
      rw [← Int32.ofInt_add]
      exact hk _ _ _ _ h H locs ls hW hL (sn_vo_c h1 v4)
    | isub =>
      dsimp only at h
      obtain ⟨x, y, S', rfl, hh⟩ := sn_p2_e h
      clear h
      obtain ⟨v1, v2⟩ := sn_t1 hS
      obtain ⟨v3, v4⟩ := sn_t1 v2
      refine lv_isub hx hb (sn_dk_2 hd rfl) ?_
      rw [← Int32.ofInt_sub]
      cases ht : Nat.beq t 1 with
      | false =>
        rw [ht] at hh
        exact hk _ _ _ _ hh.2 H locs ls hW hL (sn_vo_c hh.1 v4)
      | true =>
        rw [ht] at hh
        have e : Int32.ofInt (x - y) = Int32.ofInt (sn_wr (x - y)) := (Int32.ofInt_toInt _).symm
        have r : sn_R (sn_wr (x - y)) := by
          have a := Int32.le_toInt (Int32.ofInt (x - y))
          have b := Int32.toInt_lt (Int32.ofInt (x - y))
          unfold sn_wr sn_R
          omega
        rw [e]
        exact hk _ _ _ _ hh H locs ls hW hL (sn_vo_c (v := .inl (sn_wr (x - y))) r v4)
    | imul =>
      obtain ⟨x, y, S', rfl, h1, h⟩ := sn_p2_e h
      obtain ⟨v1, v2⟩ := sn_t1 hS
      obtain ⟨v3, v4⟩ := sn_t1 v2
      refine lv_imul hx hb (sn_dk_2 hd rfl) ?_
      rw [← Int32.ofInt_mul]
      exact hk _ _ _ _ h H locs ls hW hL (sn_vo_c h1 v4)
    | idiv =>
      obtain ⟨x, y, S', rfl, h1, h⟩ := sn_p2_e h
      obtain ⟨v1, v2⟩ := sn_t1 hS
      obtain ⟨v3, v4⟩ := sn_t1 v2
      refine lv_idiv hx hb (sn_dk_2 hd rfl) (sn_ne0 v1 h1) ?_
      rw [← sn_tdiv v3 v1 h1]
      exact hk _ _ _ _ h H locs ls hW hL (sn_vo_c (sn_tdiv_R v3 h1) v4)
    | irem =>
      obtain ⟨x, y, S', rfl, h1, h⟩ := sn_p2_e h
      obtain ⟨v1, v2⟩ := sn_t1 hS
      obtain ⟨v3, v4⟩ := sn_t1 v2
      refine lv_irem hx hb (sn_dk_2 hd rfl) (sn_ne0 v1 h1) ?_
      rw [← sn_tmod v3 v1 h1]
      exact hk _ _ _ _ h H locs ls hW hL (sn_vo_c (sn_tmod_R v1 h1) v4)
    | ishl =>
      obtain ⟨x, y, S', rfl, ⟨h1, h2, h3⟩, h⟩ := sn_p2_e h
      obtain ⟨v1, v2⟩ := sn_t1 hS
      obtain ⟨v3, v4⟩ := sn_t1 v2
      refine lv_ishl hx hb (sn_dk_2 hd rfl) ?_
      rw [← sn_ishl h1 h2]
      exact hk _ _ _ _ h H locs ls hW hL (sn_vo_c h3 v4)
    | ishr =>
      obtain ⟨x, y, S', rfl, ⟨h1, h2⟩, h⟩ := sn_p2_e h
      obtain ⟨v1, v2⟩ := sn_t1 hS
      obtain ⟨v3, v4⟩ := sn_t1 v2
      refine lv_ishr hx hb (sn_dk_2 hd rfl) ?_
      rw [← (sn_ishr v3 h1 h2).1]
      exact hk _ _ _ _ h H locs ls hW hL (sn_vo_c (sn_ishr v3 h1 h2).2 v4)
    | iand =>
      obtain ⟨x, y, S', rfl, h⟩ := sn_p2_e h
      obtain ⟨v1, v2⟩ := sn_t1 hS
      obtain ⟨v3, v4⟩ := sn_t1 v2
      refine lv_iand hx hb (sn_dk_2 hd rfl) ?_
      rw [← Int32.ofInt_toInt (Int32.ofInt x &&& Int32.ofInt y)]
      exact hk _ _ _ _ h H locs ls hW hL (sn_vo_c (sn_and_R x y) v4)
    | land =>
      obtain ⟨x, y, S', rfl, h⟩ := sn_q2_e h
      obtain ⟨v1, v2⟩ := sn_t1 hS
      obtain ⟨v3, v4⟩ := sn_t1 v2
      exact lv_land hx hb (sn_dk_2 hd rfl) (hk _ _ _ _ h H locs ls hW hL (sn_vo_c (v := .inr (.inl (x &&& y))) trivial v4))
    | lor =>
      obtain ⟨x, y, S', rfl, h⟩ := sn_q2_e h
      obtain ⟨v1, v2⟩ := sn_t1 hS
      obtain ⟨v3, v4⟩ := sn_t1 v2
      exact lv_lor hx hb (sn_dk_2 hd rfl) (hk _ _ _ _ h H locs ls hW hL (sn_vo_c (v := .inr (.inl (x ||| y))) trivial v4))
    | lxor =>
      obtain ⟨x, y, S', rfl, h⟩ := sn_q2_e h
      obtain ⟨v1, v2⟩ := sn_t1 hS
      obtain ⟨v3, v4⟩ := sn_t1 v2
      exact lv_lxor hx hb (sn_dk_2 hd rfl) (hk _ _ _ _ h H locs ls hW hL (sn_vo_c (v := .inr (.inl (x ^^^ y))) trivial v4))
    | lshl =>
      obtain ⟨x, y, S', rfl, h⟩ := sn_qp_e h
      obtain ⟨v1, v2⟩ := sn_t1 hS
      obtain ⟨v3, v4⟩ := sn_t1 v2
      exact lv_lshl (v := sn_shl x y) hx hb (sn_dk_2 hd rfl) rfl (hk _ _ _ _ h H locs ls hW hL (sn_vo_c (v := .inr (.inl (sn_shl x y))) trivial v4))
    | lshr =>
      obtain ⟨x, y, S', rfl, h⟩ := sn_qp_e h
      obtain ⟨v1, v2⟩ := sn_t1 hS
      obtain ⟨v3, v4⟩ := sn_t1 v2
      exact lv_lshr (v := sn_shr x y) hx hb (sn_dk_2 hd rfl) rfl (hk _ _ _ _ h H locs ls hW hL (sn_vo_c (v := .inr (.inl (sn_shr x y))) trivial v4))
    | lcmp =>
      obtain ⟨x, y, S', rfl, h⟩ := sn_q2_e h
      obtain ⟨v1, v2⟩ := sn_t1 hS
      obtain ⟨v3, v4⟩ := sn_t1 v2
      refine W.lcmp hx hb (sn_dk_2 hd rfl) ?_
      rw [← (sn_cmp_v x y).1]
      exact hk _ _ _ _ h H locs ls hW hL (sn_vo_c (sn_cmp_v x y).2 v4)
    | dup =>
      obtain ⟨a, S1, rfl, ca1, h⟩ := sn_c1_e h
      obtain ⟨v1, v2⟩ := sn_t1 hS
      exact lv_dup hx hb (sn_dk_2 hd rfl) (ca1 ad) (hk _ _ _ _ h H locs ls hW hL (sn_vo_c v1 hS))
    | pop =>
      obtain ⟨a, S1, rfl, ca1, h⟩ := sn_c1_e h
      obtain ⟨v1, v2⟩ := sn_t1 hS
      exact lv_pop hx hb (sn_dk_2 hd rfl) (ca1 ad) (hk _ _ _ _ h H locs ls hW hL v2)
    | dup_x1 =>
      obtain ⟨a, S1, rfl, ca1, h⟩ := sn_c1_e h
      obtain ⟨b, S2, rfl, ca2, h⟩ := sn_c1_e h
      obtain ⟨v1, v2⟩ := sn_t1 hS
      obtain ⟨v3, v4⟩ := sn_t1 v2
      exact lv_dup_x1 hx hb (sn_dk_2 hd rfl) (ca1 ad) (ca2 ad) (hk _ _ _ _ h H locs ls hW hL (sn_vo_c v1 (sn_vo_c v3 (sn_vo_c v1 v4))))
    | dup_x2 =>
      obtain ⟨a, S1, rfl, ca1, h⟩ := sn_c1_e h
      obtain ⟨b, S2, rfl, ca2, h⟩ := sn_c1_e h
      obtain ⟨d, S3, rfl, ca3, h⟩ := sn_c1_e h
      obtain ⟨v1, v2⟩ := sn_t1 hS
      obtain ⟨v3, v4⟩ := sn_t1 v2
      obtain ⟨v5, v6⟩ := sn_t1 v4
      exact lv_dup_x2 hx hb (sn_dk_2 hd rfl) (ca1 ad) (ca2 ad) (ca3 ad) (hk _ _ _ _ h H locs ls hW hL (sn_vo_c v1 (sn_vo_c v3 (sn_vo_c v5 (sn_vo_c v1 v6)))))
    | dup2 =>
      obtain ⟨a, S1, rfl, ca1, h⟩ := sn_c1_e h
      obtain ⟨b, S2, rfl, ca2, h⟩ := sn_c1_e h
      obtain ⟨v1, v2⟩ := sn_t1 hS
      obtain ⟨v3, v4⟩ := sn_t1 v2
      exact lv_dup2_11 hx hb (sn_dk_2 hd rfl) (ca1 ad) (ca2 ad) (hk _ _ _ _ h H locs ls hW hL (sn_vo_c v1 (sn_vo_c v3 hS)))
    | goto off =>
      exact lv_goto hx hb (sn_dk_2 hd rfl) (of_decide_eq_true hfit) (hk _ _ _ _ h H locs ls hW hL hS)
    | ifCond cd off =>
      have ht : (pc : Int) + off = (t : Int) := of_decide_eq_true hfit
      cases cd with
      | eq =>
        obtain ⟨x, S', rfl, ha, hb2⟩ := sn_p1_e h
        obtain ⟨v1, v2⟩ := sn_t1 hS
        refine lv_if_eq hx hb (sn_dk_2 hd rfl) ht (fun hc => ?_) (fun hc => ?_)
        · exact hk _ _ _ _ (ha ((sn_inj v1 sn_R0).mp hc)) H locs ls hW hL v2
        · exact hk _ _ _ _ (hb2 (fun z => hc ((sn_inj v1 sn_R0).mpr z))) H locs ls hW hL v2
      | ne =>
        obtain ⟨x, S', rfl, ha, hb2⟩ := sn_p1_e h
        obtain ⟨v1, v2⟩ := sn_t1 hS
        refine lv_if_ne hx hb (sn_dk_2 hd rfl) ht (fun hc => ?_) (fun hc => ?_)
        · exact hk _ _ _ _ (hb2 (fun z => hc ((sn_inj v1 sn_R0).mpr z))) H locs ls hW hL v2
        · exact hk _ _ _ _ (ha ((sn_inj v1 sn_R0).mp hc)) H locs ls hW hL v2
      | lt =>
        obtain ⟨x, S', rfl, ha, hb2⟩ := sn_p1_e h
        obtain ⟨v1, v2⟩ := sn_t1 hS
        refine lv_if_lt hx hb (sn_dk_2 hd rfl) ht (fun hc => ?_) (fun hc => ?_)
        · exact hk _ _ _ _ (ha ((sn_lt v1 sn_R0).mp hc)) H locs ls hW hL v2
        · exact hk _ _ _ _ (hb2 (Int.not_lt.mp fun z => hc ((sn_lt v1 sn_R0).mpr z))) H locs ls hW hL v2
      | ge =>
        obtain ⟨x, S', rfl, ha, hb2⟩ := sn_p1_e h
        obtain ⟨v1, v2⟩ := sn_t1 hS
        refine lv_if_ge hx hb (sn_dk_2 hd rfl) ht (fun hc => ?_) (fun hc => ?_)
        · exact hk _ _ _ _ (hb2 ((sn_le sn_R0 v1).mp hc)) H locs ls hW hL v2
        · exact hk _ _ _ _ (ha (Int.not_le.mp fun z => hc ((sn_le sn_R0 v1).mpr z))) H locs ls hW hL v2
      | gt =>
        obtain ⟨x, S', rfl, ha, hb2⟩ := sn_p1_e h
        obtain ⟨v1, v2⟩ := sn_t1 hS
        refine lv_if_gt hx hb (sn_dk_2 hd rfl) ht (fun hc => ?_) (fun hc => ?_)
        · exact hk _ _ _ _ (hb2 ((sn_lt sn_R0 v1).mp hc)) H locs ls hW hL v2
        · exact hk _ _ _ _ (ha (Int.not_lt.mp fun z => hc ((sn_lt sn_R0 v1).mpr z))) H locs ls hW hL v2
      | le =>
        obtain ⟨x, S', rfl, ha, hb2⟩ := sn_p1_e h
        obtain ⟨v1, v2⟩ := sn_t1 hS
        refine lv_if_le hx hb (sn_dk_2 hd rfl) ht (fun hc => ?_) (fun hc => ?_)
        · exact hk _ _ _ _ (ha ((sn_le v1 sn_R0).mp hc)) H locs ls hW hL v2
        · exact hk _ _ _ _ (hb2 (Int.not_le.mp fun z => hc ((sn_le v1 sn_R0).mpr z))) H locs ls hW hL v2
    | if_icmp cd off =>
      have ht : (pc : Int) + off = (t : Int) := of_decide_eq_true hfit
      cases cd with
      | eq =>
        obtain ⟨x, y, S', rfl, ha, hb2⟩ := sn_p2_e h
        obtain ⟨v1, v2⟩ := sn_t1 hS
        obtain ⟨v3, v4⟩ := sn_t1 v2
        refine lv_icmp_eq hx hb (sn_dk_2 hd rfl) ht (fun hc => ?_) (fun hc => ?_)
        · exact hk _ _ _ _ (ha ((sn_inj v3 v1).mp hc)) H locs ls hW hL v4
        · exact hk _ _ _ _ (hb2 (fun z => hc ((sn_inj v3 v1).mpr z))) H locs ls hW hL v4
      | ne =>
        obtain ⟨x, y, S', rfl, ha, hb2⟩ := sn_p2_e h
        obtain ⟨v1, v2⟩ := sn_t1 hS
        obtain ⟨v3, v4⟩ := sn_t1 v2
        refine lv_icmp_ne hx hb (sn_dk_2 hd rfl) ht (fun hc => ?_) (fun hc => ?_)
        · exact hk _ _ _ _ (hb2 (fun z => hc ((sn_inj v3 v1).mpr z))) H locs ls hW hL v4
        · exact hk _ _ _ _ (ha ((sn_inj v3 v1).mp hc)) H locs ls hW hL v4
      | lt =>
        obtain ⟨x, y, S', rfl, ha, hb2⟩ := sn_p2_e h
        obtain ⟨v1, v2⟩ := sn_t1 hS
        obtain ⟨v3, v4⟩ := sn_t1 v2
        refine lv_icmp_lt hx hb (sn_dk_2 hd rfl) ht (fun hc => ?_) (fun hc => ?_)
        · exact hk _ _ _ _ (ha ((sn_lt v3 v1).mp hc)) H locs ls hW hL v4
        · exact hk _ _ _ _ (hb2 (Int.not_lt.mp fun z => hc ((sn_lt v3 v1).mpr z))) H locs ls hW hL v4
      | ge =>
        obtain ⟨x, y, S', rfl, ha, hb2⟩ := sn_p2_e h
        obtain ⟨v1, v2⟩ := sn_t1 hS
        obtain ⟨v3, v4⟩ := sn_t1 v2
        refine lv_icmp_ge hx hb (sn_dk_2 hd rfl) ht (fun hc => ?_) (fun hc => ?_)
        · exact hk _ _ _ _ (hb2 ((sn_le v1 v3).mp hc)) H locs ls hW hL v4
        · exact hk _ _ _ _ (ha (Int.not_le.mp fun z => hc ((sn_le v1 v3).mpr z))) H locs ls hW hL v4
      | gt =>
        obtain ⟨x, y, S', rfl, ha, hb2⟩ := sn_p2_e h
        obtain ⟨v1, v2⟩ := sn_t1 hS
        obtain ⟨v3, v4⟩ := sn_t1 v2
        refine lv_icmp_gt hx hb (sn_dk_2 hd rfl) ht (fun hc => ?_) (fun hc => ?_)
        · exact hk _ _ _ _ (hb2 ((sn_lt v1 v3).mp hc)) H locs ls hW hL v4
        · exact hk _ _ _ _ (ha (Int.not_lt.mp fun z => hc ((sn_lt v1 v3).mpr z))) H locs ls hW hL v4
      | le =>
        obtain ⟨x, y, S', rfl, ha, hb2⟩ := sn_p2_e h
        obtain ⟨v1, v2⟩ := sn_t1 hS
        obtain ⟨v3, v4⟩ := sn_t1 v2
        refine lv_icmp_le hx hb (sn_dk_2 hd rfl) ht (fun hc => ?_) (fun hc => ?_)
        · exact hk _ _ _ _ (ha ((sn_le v3 v1).mp hc)) H locs ls hW hL v4
        · exact hk _ _ _ _ (hb2 (Int.not_le.mp fun z => hc ((sn_le v3 v1).mpr z))) H locs ls hW hL v4
    | tableswitch df lo hi os =>
      obtain ⟨x, S', rfl, ha, hb2⟩ := sn_p1_e h
      obtain ⟨v1, v2⟩ := sn_t1 hS
      obtain ⟨⟨n, hdec, -⟩, -⟩ := sn_dk_1 hd
      have hf2 : (decide (0 ≤ (pc : Int) + df) && os.toList.all (fun o => decide (0 ≤ (pc : Int) + o)) && decide (hi < lo + os.toList.length)) = true := hfit
      rw [Bool.and_eq_true, Bool.and_eq_true] at hf2
      obtain ⟨⟨f1, f2⟩, f3⟩ := hf2
      have f1 := of_decide_eq_true f1
      have f3 := of_decide_eq_true f3
      by_cases hc : x < lo ∨ hi < x
      · exact lv_tableOut (tgt := ((pc : Int) + df).toNat) hx hb hdec (by rw [sn_toInt v1]; exact hc) (Int.toNat_of_nonneg f1).symm (hk _ _ _ _ (ha hc) H locs ls hW hL v2)
      · have hc1 : lo ≤ x := by omega
        have hc2 : x ≤ hi := by omega
        have hlt : (x - lo).toNat < os.toList.length := by omega
        obtain ⟨o, ho⟩ : ∃ o, os.toList[(x - lo).toNat]? = some o := ⟨_, List.getElem?_eq_getElem hlt⟩
        have hsn : ∀ (os : List Int) (lo : Int) (o : Int), lo ≤ x → os[(x - lo).toNat]? = some o → sn_tb x lo (fun o => K ((pc : Int) + o).toNat L S' σ) os → K ((pc : Int) + o).toNat L S' σ := by
          intro os
          induction os with
          | nil => intro lo o _ ho _; simp at ho
          | cons a t ih =>
            intro lo o hlo ho htb
            by_cases hz : x = lo
            · subst hz
              rw [show (x - x).toNat = 0 by omega] at ho
              cases ho
              exact htb.1 rfl
            · rw [show (x - lo).toNat = (x - (lo + 1)).toNat + 1 by omega] at ho
              exact ih (lo + 1) o (by omega) ho htb.2
        have f4 := of_decide_eq_true (List.all_eq_true.mp f2 o (List.mem_of_getElem? ho))
        exact lv_tableIn (tgt := ((pc : Int) + o).toNat) (off := o) hx hb hdec (by rw [sn_toInt v1]; omega) (by rw [sn_toInt v1]; omega) (by rw [sn_toInt v1]; simpa using ho) (Int.toNat_of_nonneg f4).symm (hk _ _ _ _ (hsn os.toList lo o hc1 ho hb2) H locs ls hW hL v2)
    | getfield x =>
      dsimp only at h
      obtain ⟨q, S', rfl, hh⟩ := sn_r1_e h
      clear h
      obtain ⟨v1, v2⟩ := sn_t1 hS
      cases hf : fi x with
      | none => rw [hf] at hh; exact False.elim hh
      | some y =>
        obtain ⟨ci, j⟩ := y
        rw [hf] at hh
        obtain ⟨r, hr, -⟩ := hfi x ci j hf
        have hci := sn_cl_lt hr
        cases hq : Nat.beq (sn_kc q.1) ci with
        | false =>
          dsimp only at hh
          rw [hq] at hh
          exact False.elim hh
        | true =>
          dsimp only at hh
          rw [hq] at hh
          have hq := Nat.eq_of_beq_eq_true hq
          refine sn_get hx hb hK hts hown hfi hf v1 hq hci hW.1 (sn_dk_2 hd rfl) (fun hj => ?_)
          obtain ⟨r2, -, -, hsl⟩ := sn_tab_o v1.1 (by rw [hq]; exact hci)
          have hsl := hsl j hj
          unfold sn_fv
          cases hs : sn_ks q.1 j with
          | inl b =>
            rw [hs] at hh
            cases b with
            | false => exact hk _ _ _ _ hh H locs ls hW hL (sn_vo_c (hW.2.2.2 _ _ _) v2)
            | true => exact hk _ _ _ _ hh H locs ls hW hL (sn_vo_c (v := .inr (.inl (σ.2 q.1 q.2 j))) trivial v2)
          | inr f =>
            rw [hs] at hh hsl
            exact hk _ _ _ _ hh H locs ls hW hL (sn_vo_c (v := .inr (.inr (f.1, f.2 q.2))) (hsl q.2 v1.2) v2)
    | putfield x =>
      dsimp only at h
      cases hf : fi x with
      | none => rw [hf] at h; exact False.elim h
      | some y =>
        obtain ⟨ci, j⟩ := y
        rw [hf] at h
        obtain ⟨r, hr, -⟩ := hfi x ci j hf
        have hci := sn_cl_lt hr
        dsimp only at h
        split at h
        · next v q S' =>
          obtain ⟨v1, v2⟩ := sn_t1 hS
          obtain ⟨v3, v4⟩ := sn_t1 v2
          cases hq : Nat.beq (sn_kc q.1) ci with
          | false => rw [hq] at h; exact False.elim h
          | true =>
            rw [hq] at h
            have hq := Nat.eq_of_beq_eq_true hq
            simp only [cond_true] at h
            split at h
            · next hs =>
              obtain ⟨r2, hr2, -, hsl⟩ := sn_tab_o v3.1 (by rw [hq]; exact hci)
              refine sn_put (σ' := (sn_u σ.1 q.1 q.2 j v, σ.2)) hx hb hK hts hown hfi hf v3 hq hci hW (sn_dk_2 hd rfl) ⟨.int, fun r3 hr3 hj => ?_, rfl, rfl⟩ ?_ ?_ ?_ (sn_u_R hW.2.2.2 v1) (fun H1 locs1 hW1 => hk _ _ _ _ h H1 locs1 ls hW1 hL v4)
              · have hsl := hsl j hj
                rw [hs] at hsl
                rw [hq, hr3] at hr2
                cases hr2
                exact hsl
              · exact fun k' i' hn => sn_en_other (fun z => sn_u_n (fun y => hn ⟨y.1, y.2.1⟩)) (fun _ => rfl)
              · unfold sn_fv
                rw [hs]
                show Value.int (Int32.ofInt (sn_u σ.1 q.1 q.2 j v q.1 q.2 j)) = _
                rw [sn_u_s]
                rfl
              · intro j' hj'
                unfold sn_fv
                show (match sn_ks q.1 j' with
                  | .inl false => Value.int (Int32.ofInt (sn_u σ.1 q.1 q.2 j v q.1 q.2 j'))
                  | .inl true => .long (σ.2 q.1 q.2 j')
                  | .inr q' => .ref (ad q'.1 (q'.2 q.2))) = _
                rw [sn_u_n (fun y => hj' y.2.2)]
                rfl
            · exact False.elim h
        · next v q S' =>
          obtain ⟨v1, v2⟩ := sn_t1 hS
          obtain ⟨v3, v4⟩ := sn_t1 v2
          cases hq : Nat.beq (sn_kc q.1) ci with
          | false => rw [hq] at h; exact False.elim h
          | true =>
            rw [hq] at h
            have hq := Nat.eq_of_beq_eq_true hq
            simp only [cond_true] at h
            split at h
            · next hs =>
              obtain ⟨r2, hr2, -, hsl⟩ := sn_tab_o v3.1 (by rw [hq]; exact hci)
              refine sn_put (σ' := (σ.1, sn_u σ.2 q.1 q.2 j v)) hx hb hK hts hown hfi hf v3 hq hci hW (sn_dk_2 hd rfl) ⟨.long, fun r3 hr3 hj => ?_, rfl, rfl⟩ ?_ ?_ ?_ hW.2.2.2 (fun H1 locs1 hW1 => hk _ _ _ _ h H1 locs1 ls hW1 hL v4)
              · have hsl := hsl j hj
                rw [hs] at hsl
                rw [hq, hr3] at hr2
                cases hr2
                exact hsl
              · exact fun k' i' hn => sn_en_other (fun _ => rfl) (fun z => sn_u_n (fun y => hn ⟨y.1, y.2.1⟩))
              · unfold sn_fv
                rw [hs]
                show Value.long (sn_u σ.2 q.1 q.2 j v q.1 q.2 j) = _
                rw [sn_u_s]
                rfl
              · intro j' hj'
                unfold sn_fv
                show (match sn_ks q.1 j' with
                  | .inl false => Value.int (Int32.ofInt (σ.1 q.1 q.2 j'))
                  | .inl true => .long (sn_u σ.2 q.1 q.2 j v q.1 q.2 j')
                  | .inr q' => .ref (ad q'.1 (q'.2 q.2))) = _
                rw [sn_u_n (fun y => hj' y.2.2)]
                rfl
            · exact False.elim h
        · exact False.elim h
    | arraylength =>
      dsimp only at h
      obtain ⟨q, S', rfl, hh⟩ := sn_r1_e h
      clear h
      obtain ⟨v1, v2⟩ := sn_t1 hS
      cases hq : Nat.beq (sn_kc q.1) 100 with
      | false => rw [hq] at hh; exact False.elim hh
      | true =>
        rw [hq] at hh
        have hc := Nat.eq_of_beq_eq_true hq
        obtain ⟨n, hn⟩ := sn_ps_at v1
        have he := sn_wd_at (dA := dA) (ad := ad) (σ := σ) hn
        rw [sn_en_i hc] at he
        have hl := sn_tab_a v1.1 (by omega) (by omega)
        exact va_alen (v := Int32.ofInt (sn_kl q.1 : Nat)) hx hb hK hW.1 n 0 he (ty := .int) rfl (Int32.ofInt_eq_ofNat).symm (sn_dk_2 hd rfl) (hk _ _ _ _ hh H locs ls hW hL (sn_vo_c (v := .inl (sn_kl q.1 : Nat)) ⟨by omega, by omega⟩ v2))
    | iaload =>
      obtain ⟨x, q, S', rfl, hc, ⟨hx0, hx1⟩, h⟩ := sn_ix_e h
      obtain ⟨v1, v2⟩ := sn_t1 hS
      obtain ⟨v3, v4⟩ := sn_t1 v2
      obtain ⟨n, hn⟩ := sn_ps_at v3
      have he := sn_wd_at (dA := dA) (ad := ad) (σ := σ) hn
      rw [sn_en_i hc] at he
      refine va_iald hx hb hK hW.1 n 0 he rfl (sn_vin v1 hx0 hx1) (sn_dk_2 hd rfl) ?_
      rw [sn_clamp v1]
      exact hk _ _ _ _ h H locs ls hW hL (sn_vo_c (hW.2.2.2 _ _ _) v4)
    | baload =>
      obtain ⟨x, q, S', rfl, hc, ⟨hx0, hx1⟩, h⟩ := sn_ix_e h
      obtain ⟨v1, v2⟩ := sn_t1 hS
      obtain ⟨v3, v4⟩ := sn_t1 v2
      obtain ⟨n, hn⟩ := sn_ps_at v3
      have he := sn_wd_at (dA := dA) (ad := ad) (σ := σ) hn
      rw [sn_en_z hc] at he
      refine va_zald hx hb hK hW.1 n 1 he rfl (sn_vin v1 hx0 hx1) (sn_dk_2 hd rfl) ?_
      rw [sn_clamp v1]
      exact hk _ _ _ _ h H locs ls hW hL (sn_vo_c (hW.2.2.2 _ _ _) v4)
    | laload =>
      obtain ⟨x, q, S', rfl, hc, ⟨hx0, hx1⟩, h⟩ := sn_ix_e h
      obtain ⟨v1, v2⟩ := sn_t1 hS
      obtain ⟨v3, v4⟩ := sn_t1 v2
      obtain ⟨n, hn⟩ := sn_ps_at v3
      have he := sn_wd_at (dA := dA) (ad := ad) (σ := σ) hn
      rw [sn_en_l hc] at he
      refine va_lald hx hb hK hW.1 n 2 he rfl (sn_vin v1 hx0 hx1) (sn_dk_2 hd rfl) ?_
      rw [sn_clamp v1]
      exact hk _ _ _ _ h H locs ls hW hL (sn_vo_c (v := .inr (.inl (σ.2 q.1 q.2 x.toNat))) trivial v4)
    | aaload =>
      obtain ⟨x, q, S', rfl, hc, ⟨hx0, hx1⟩, h⟩ := sn_ix_e h
      obtain ⟨v1, v2⟩ := sn_t1 hS
      obtain ⟨v3, v4⟩ := sn_t1 v2
      obtain ⟨n, hn⟩ := sn_ps_at v3
      have he := sn_wd_at (dA := dA) (ad := ad) (σ := σ) hn
      rw [sn_en_r hc] at he
      have hin := sn_vin v1 hx0 hx1
      have hlt : (Int32.ofInt x).toNatClampNeg < sn_kl q.1 := by rw [sn_clamp v1]; omega
      refine W.aald (v := .ref (ad (sn_ke q.1).1 ((sn_ke q.1).2 q.2 x.toNat))) (ty := .array .int) hx hb (hW.1 n _ he) ((hK.2 3 (dA 3, .array .int) rfl).1 (sn_kl q.1) (fun j => va_rf (some (ad (sn_ke q.1).1 ((sn_ke q.1).2 q.2 j))))) rfl (fun z => by cases z) (by show ¬ (_ < 0 ∨ (arrV _ _ _).slots.size ≤ _); rw [arrV_size]; exact hin) (by show (arrV _ _ _).slots[_]? = _; rw [arrV_read _ _ hlt, sn_clamp v1]; rfl) rfl rfl (sn_dk_2 hd rfl) ?_
      exact hk _ _ _ _ h H locs ls hW hL (sn_vo_c (v := .inr (.inr ((sn_ke q.1).1, (sn_ke q.1).2 q.2 x.toNat))) (sn_tab_r v3.1 hc v3.2 (by omega)) v4)
    | iastore =>
      obtain ⟨v, S1, rfl, h⟩ := sn_p1_e h
      obtain ⟨x, q, S', rfl, hc, ⟨hx0, hx1⟩, h⟩ := sn_ix_e h
      obtain ⟨v1, v2⟩ := sn_t1 hS
      obtain ⟨v3, v4⟩ := sn_t1 v2
      obtain ⟨v5, v6⟩ := sn_t1 v4
      obtain ⟨n, hn⟩ := sn_ps_at v5
      have he := sn_wd_at (dA := dA) (ad := ad) (σ := σ) hn
      rw [sn_en_i hc] at he
      obtain ⟨hP, hD, hS0, hR⟩ := hW
      refine va_iast hx hb hK hP hD hS0 n 0 he rfl (sn_vin v3 hx0 hx1) (sn_dk_2 hd rfl) (fun H1 locs1 a1 a2 a3 => ?_)
      rw [sn_clamp v3, sn_set (σ' := (sn_u σ.1 q.1 q.2 x.toNat v, σ.2)) hn (fun k' i' hn' => sn_en_other (fun z => sn_u_n (fun y => hn' ⟨y.1, y.2.1⟩)) (fun _ => rfl)) (by rw [sn_en_i hc]; show Sum.inl (_, _, Sum.inl (fun j => Int32.ofInt (sn_u σ.1 q.1 q.2 x.toNat v q.1 q.2 j))) = _; rw [sn_up32])] at a1 a2
      exact hk _ _ _ _ h H1 locs1 ls ⟨a1, a2, a3, sn_u_R hR v1⟩ hL v6
    | bastore =>
      obtain ⟨v, S1, rfl, h⟩ := sn_p1_e h
      obtain ⟨x, q, S', rfl, hc, ⟨hx0, hx1⟩, hz, h⟩ := sn_ix_e h
      obtain ⟨v1, v2⟩ := sn_t1 hS
      obtain ⟨v3, v4⟩ := sn_t1 v2
      obtain ⟨v5, v6⟩ := sn_t1 v4
      obtain ⟨n, hn⟩ := sn_ps_at v5
      have he := sn_wd_at (dA := dA) (ad := ad) (σ := σ) hn
      rw [sn_en_z hc] at he
      obtain ⟨hP, hD, hS0, hR⟩ := hW
      refine va_zast hx hb hK hP hD hS0 n 1 he rfl (sn_vin v3 hx0 hx1) (sn_dk_2 hd rfl) (fun H1 locs1 a1 a2 a3 => ?_)
      rw [sn_clamp v3, (sn_nar hz).2, sn_set (σ' := (sn_u σ.1 q.1 q.2 x.toNat v, σ.2)) hn (fun k' i' hn' => sn_en_other (fun z => sn_u_n (fun y => hn' ⟨y.1, y.2.1⟩)) (fun _ => rfl)) (by rw [sn_en_z hc]; show Sum.inl (_, _, Sum.inl (fun j => Int32.ofInt (sn_u σ.1 q.1 q.2 x.toNat v q.1 q.2 j))) = _; rw [sn_up32])] at a1 a2
      exact hk _ _ _ _ h H1 locs1 ls ⟨a1, a2, a3, sn_u_R hR v1⟩ hL v6
    | lastore =>
      obtain ⟨v, S1, rfl, h⟩ := sn_q1_e h
      obtain ⟨x, q, S', rfl, hc, ⟨hx0, hx1⟩, h⟩ := sn_ix_e h
      obtain ⟨v1, v2⟩ := sn_t1 hS
      obtain ⟨v3, v4⟩ := sn_t1 v2
      obtain ⟨v5, v6⟩ := sn_t1 v4
      obtain ⟨n, hn⟩ := sn_ps_at v5
      have he := sn_wd_at (dA := dA) (ad := ad) (σ := σ) hn
      rw [sn_en_l hc] at he
      obtain ⟨hP, hD, hS0, hR⟩ := hW
      refine va_last hx hb hK hP hD hS0 n 2 he rfl (sn_vin v3 hx0 hx1) (sn_dk_2 hd rfl) (fun H1 locs1 a1 a2 a3 => ?_)
      have hset := sn_set (dA := dA) (ad := ad) (σ := σ) (σ' := (σ.1, sn_u σ.2 q.1 q.2 x.toNat v)) (en := .inl (dA 2, sn_kl q.1, .inr (.inl (vp_updL (fun j => σ.2 q.1 q.2 j) x.toNat v)))) hn (fun k' i' hn' => sn_en_other (fun j => rfl) (fun z => sn_u_n (fun y => hn' ⟨y.1, y.2.1⟩))) (by rw [sn_en_l hc, ← sn_up64])
      rw [sn_clamp v3, hset] at a1 a2
      exact hk _ _ _ _ h H1 locs1 ls ⟨a1, a2, a3, hR⟩ hL v6
    | ireturn =>
      dsimp only at h
      split at h
      · next x =>
        obtain ⟨v1, v2⟩ := sn_t1 hS
        cases ht : Nat.beq t 1 with
        | false =>
          rw [ht] at h
          exact hri pc t ls x σ H locs (sn_dk_2 hd rfl) hfit (fun z => by subst z; cases ht) hW v1 h
        | true =>
          rw [ht] at h
          exact hri pc t ls x σ H locs (sn_dk_2 hd rfl) hfit (fun _ => h.1) hW v1 h.2
      · exact False.elim h
    | lreturn =>
      dsimp only at h
      split at h
      · exact hrl pc ls _ σ H locs (sn_dk_2 hd rfl) (of_decide_eq_true hfit) hW h
      · exact False.elim h
    | return_ =>
      dsimp only at h
      split at h
      · exact hrv pc ls σ H locs (sn_dk_2 hd rfl) (of_decide_eq_true hfit) hW h
      · exact False.elim h
    | invokevirtual x =>
      dsimp only at h
      cases hc : ca x with
      | none => rw [hc] at h; exact False.elim h
      | some y =>
        obtain ⟨n, ci, sp⟩ := y
        rw [hc] at h
        obtain ⟨q, t', hq1, hq2, h⟩ := sn_iv_e h
        obtain ⟨as, rest, he, hn, hr, has, hsp⟩ := sn_is_e h
        rw [← has] at hq1
        rw [he] at hS ⊢
        exact hca x n ci sp hc pc ls as rest σ H locs _ (Or.inl ⟨sn_dk_2 hd rfl, q, t', hq1, hq2⟩) hn hsp hW (fun v hv => hS v (List.mem_append_left _ (List.mem_reverse.mpr hv))) (fun v hv => hS v (List.mem_append_right _ hv)) hL.1 hr
          (fun r σ' H1 locs1 hpo hW1 hvr => hk _ _ _ _ hpo H1 locs1 ls hW1 hL (fun v hv => by
            rcases List.mem_append.mp hv with hv | hv
            · exact hvr v (by simpa using hv)
            · exact hS v (List.mem_append_right _ hv)))
    | invokestatic x =>
      dsimp only at h
      cases hc : ca x with
      | none => rw [hc] at h; exact False.elim h
      | some y =>
        obtain ⟨n, ci, sp⟩ := y
        rw [hc] at h
        dsimp only at h
        cases hci : Nat.beq ci 0 with
        | false => rw [hci] at h; exact False.elim h
        | true =>
          rw [hci] at h
          simp only [cond_true] at h
          obtain ⟨as, rest, he, hn, hr, has, hsp⟩ := sn_is_e h
          rw [he] at hS ⊢
          exact hca x n ci sp hc pc ls as rest σ H locs _ (Or.inr ⟨sn_dk_2 hd rfl, Nat.eq_of_beq_eq_true hci⟩) hn hsp hW (fun v hv => hS v (List.mem_append_left _ (List.mem_reverse.mpr hv))) (fun v hv => hS v (List.mem_append_right _ hv)) hL.1 hr
            (fun r σ' H1 locs1 hpo hW1 hvr => hk _ _ _ _ hpo H1 locs1 ls hW1 hL (fun v hv => by
              rcases List.mem_append.mp hv with hv | hv
              · exact hvr v (by simpa using hv)
              · exact hS v (List.mem_append_right _ hv)))
    | _ => exact False.elim h
end SNS
