/-! The law: its pushes, its calls, the comparing. -/
/-- the arguments that are read off the script at n -/
def lw_as (xs : Nat → Int32) (n N : Nat) : List sn_V := (List.range N).map (fun k => .inl (xs (n + 1 + k)).toInt)
def lw_bo (xs : Nat → Int32) (n N : Nat) : sn_V := .inl (if xs (n + 1 + N) = 0 then 0 else 1)
def lw_dA (pc N : Nat) : Prop := ∀ k, k < N → decode code (pc + 6 * k) = .ok (.aload_n 0, 1) ∧ decode code (pc + 6 * k + 1) = .ok (.iload 4, 2) ∧ decode code (pc + 6 * k + 3) = .ok (.iconst ((k + 1 : Nat) : Int), 1) ∧ decode code (pc + 6 * k + 4) = .ok (.iadd, 1) ∧ decode code (pc + 6 * k + 5) = .ok (.iaload, 1)
def lw_L (ls : Array Slot) (b : Nat) (ad : sn_A) (n : Nat) : Prop := lv_has ls 7 [(4, .int (Int32.ofInt (n : Int))), (3, .ref (ad 65 0)), (2, .ref (ad 40 0)), (1, .ref (ad 0 0)), (0, .ref b)]
theorem lw_of (x : Int32) : Int32.ofInt x.toInt = x := Int32.ofInt_toInt x
theorem lw_R (x : Int32) : sn_R x.toInt := by
  have h1 := Int32.le_toInt x
  have h2 := Int32.toInt_lt x
  unfold sn_R
  omega
section LW
variable {p : Program} {l : Launch} {e : Env} {R : Room} {s : State} {m : MethodId} {args : Array Value} {below : List Frame} {meth : Method} {c : Code} {Q : State → Prop} {cells slots : Nat}
variable {D : va_G} {dA : Nat → ClassId} {ad : sn_A} {A : Nat → Prop} {H : Heap} {locs : List Loc} {b L n pc : Nat} {xs : Nat → Int32} {ls : Array Slot} {st : List Value}
theorem lw_ld (hx : p.tables.exec = Jvm.exec) (hb : c.code = code) (hX : va_X b L xs s s.heap) (hbl : b < s.heap.size) (hbA : ¬ A b) (hS : va_S A s.heap H locs) (hl : lw_L ls b ad n) (hL : L ≤ 2048) {k : Nat} (hn : n + 1 + k < L)
    (d0 : decode code pc = .ok (.aload_n 0, 1)) (d1 : decode code (pc + 1) = .ok (.iload 4, 2)) (d3 : decode code (pc + 3) = .ok (.iconst ((k + 1 : Nat) : Int), 1)) (d4 : decode code (pc + 4) = .ok (.iadd, 1)) (d5 : decode code (pc + 5) = .ok (.iaload, 1))
    (kk : W p l e R s m args below meth c H locs cells slots Q (F0 m (pc + 6) ls (.int (xs (n + 1 + k)) :: st))) : W p l e R s m args below meth c H locs cells slots Q (F0 m pc ls st) := by
  refine lv_aload_n hx hb d0 rfl (lv_at hl 4 rfl) ?_
  refine lv_iload hx hb d1 (lv_at hl 0 rfl) ?_
  refine lv_iconst hx hb d3 rfl ?_
  refine lv_iadd hx hb d4 ?_
  have hR : sn_R ((n : Int) + ((k + 1 : Nat) : Int)) := by unfold sn_R; omega
  rw [← Int32.ofInt_add]
  refine va_sld hx hb hX hbl hbA hS (sn_vin hR (by omega) (by omega)) d5 ?_
  rw [sn_clamp hR, show ((n : Int) + ((k + 1 : Nat) : Int)).toNat = n + 1 + k by omega]
  exact kk
theorem lw_push (hx : p.tables.exec = Jvm.exec) (hb : c.code = code) (hX : va_X b L xs s s.heap) (hbl : b < s.heap.size) (hbA : ¬ A b) (hS : va_S A s.heap H locs) (hl : lw_L ls b ad n) (hL : L ≤ 2048) (N : Nat) (hn : n + N < L) (hd : lw_dA pc N)
    (kk : W p l e R s m args below meth c H locs cells slots Q (F0 m (pc + 6 * N) ls (((lw_as xs n N).map (sn_cv ad)).reverse ++ st))) : W p l e R s m args below meth c H locs cells slots Q (F0 m pc ls st) := by
  induction N with
  | zero => exact kk
  | succ N ih =>
    refine ih (by omega) (fun k hk => hd k (by omega)) ?_
    obtain ⟨d0, d1, d3, d4, d5⟩ := hd N (by omega)
    refine lw_ld hx hb hX hbl hbA hS hl hL (k := N) (by omega) d0 d1 d3 d4 d5 ?_
    have e1 : ((lw_as xs n (N + 1)).map (sn_cv ad)).reverse ++ st = .int (xs (n + 1 + N)) :: (((lw_as xs n N).map (sn_cv ad)).reverse ++ st) := by
      unfold lw_as
      rw [List.range_succ, List.map_append, List.map_append, List.reverse_append]
      show [Value.int (Int32.ofInt (xs (n + 1 + N)).toInt)] ++ _ ++ st = _
      rw [lw_of]
      rfl
    rw [e1] at kk
    exact kk
theorem lw_pb (hx : p.tables.exec = Jvm.exec) (hb : c.code = code) (hX : va_X b L xs s s.heap) (hbl : b < s.heap.size) (hbA : ¬ A b) (hS : va_S A s.heap H locs) (hl : lw_L ls b ad n) (hL : L ≤ 2048) (N : Nat) (hn : n + 1 + N < L)
    (d0 : decode code pc = .ok (.aload_n 0, 1)) (d1 : decode code (pc + 1) = .ok (.iload 4, 2)) (d3 : decode code (pc + 3) = .ok (.iconst ((N + 1 : Nat) : Int), 1)) (d4 : decode code (pc + 4) = .ok (.iadd, 1)) (d5 : decode code (pc + 5) = .ok (.iaload, 1))
    (d6 : decode code (pc + 6) = .ok (.ifCond .eq 7, 3)) (d9 : decode code (pc + 9) = .ok (.iconst 1, 1)) (d10 : decode code (pc + 10) = .ok (.goto 4, 3)) (d13 : decode code (pc + 13) = .ok (.iconst 0, 1))
    (kk : W p l e R s m args below meth c H locs cells slots Q (F0 m (pc + 14) ls (sn_cv ad (lw_bo xs n N) :: st))) : W p l e R s m args below meth c H locs cells slots Q (F0 m pc ls st) := by
  refine lw_ld hx hb hX hbl hbA hS hl hL hn d0 d1 d3 d4 d5 ?_
  refine lv_if_eq hx hb d6 (tgt := pc + 13) (by omega) (fun h => ?_) (fun h => ?_)
  · refine lv_iconst hx hb d13 rfl ?_
    unfold lw_bo at kk
    rw [if_pos h] at kk
    exact kk
  · refine lv_iconst hx hb d9 rfl ?_
    refine lv_goto hx hb d10 (tgt := pc + 14) (by omega) ?_
    unfold lw_bo at kk
    rw [if_neg h] at kk
    exact kk
end LW
theorem lw_as_vo {xs : Nat → Int32} {n N : Nat} : ∀ v ∈ lw_as xs n N, sn_vo v := by
  intro v hv
  obtain ⟨k, -, rfl⟩ := List.mem_map.mp hv
  exact lw_R _
theorem lw_bo_vo {xs : Nat → Int32} {n N : Nat} : sn_vo (lw_bo xs n N) := by
  unfold lw_bo
  split
  · exact sn_R0
  · show sn_R 1
    unfold sn_R
    omega
theorem lw_as_len (xs : Nat → Int32) (n N : Nat) : (lw_as xs n N).length = N := by
  unfold lw_as
  rw [List.length_map, List.length_range]
/-- what is known in the law -/
def lw_X (p : Program) (s : State) (m : MethodId) (c : Code) (b L : Nat) (xs : Nat → Int32) (D : va_G) (dA : Nat → ClassId) (tw : List Cond) : Prop :=
  p.tables.exec = Jvm.exec ∧ c.code = code ∧ c.maxLocals = 7 ∧ s.vm.findClass "SwitchedNetsLaw" = some m.cls ∧ (∀ w ∈ sn_ws, w.before #[.ref b] s = true) ∧ va_K D sn_cl (sn_tys dA) s ∧ va_X b L xs s s.heap ∧ b < s.heap.size ∧ L ≤ 2048 ∧ sn_ml tw = true ∧ ∀ w ∈ tw, w.before #[.ref b] s = true
/-- a method that throws nothing, and its counterpart: they answer alike -/
def lw_V (Inv : Nat → sn_M → Prop) (yC : MethodName) (cC : ByteArray) (lC : Nat) (rC : Option FieldType) (yM : MethodName) (cM : ByteArray) (lM : Nat) (rM : Option FieldType) (N : Nat) : Prop :=
  ∃ (dC dM : Nat) (spC spM : sn_P), dC ≤ 90 ∧ dM ≤ 90 ∧ sn_CT yC (Cond.code yC cC lC rC :: sn_ws) dC spC ∧ sn_CT yM (Cond.code yM cM lM rM :: sn_ws) dM spM ∧ ∀ (n : Nat) (σ : sn_M) (xs : Nat → Int32) (i : Nat), Inv n σ → n < 512 → (∀ k i j, sn_R (σ.1 k i j)) →
    spC (.inr (.inr (0, 0)) :: lw_as xs i N) σ (fun r σ1 => ∃ v, r = some (.inl v) ∧ ((∀ k i j, sn_R (σ1.1 k i j)) → spM (.inr (.inr (40, 0)) :: lw_as xs i N) σ1 (fun r' σ2 => r' = some (.inl v) ∧ Inv (n + 1) σ2)))
def lw_K (Inv : Nat → sn_M → Prop) (yC : MethodName) (cC : ByteArray) (lC : Nat) (yM : MethodName) (cM : ByteArray) (lM : Nat) : Prop :=
  ∃ (dC dM : Nat) (spC spM : sn_P), dC ≤ 90 ∧ dM ≤ 90 ∧ sn_CT yC (Cond.code yC cC lC none :: sn_ws) dC spC ∧ sn_CT yM (Cond.code yM cM lM none :: sn_ws) dM spM ∧ ∀ (n : Nat) (σ : sn_M), Inv n σ → n < 512 → (∀ k i j, sn_R (σ.1 k i j)) →
    spC [.inr (.inr (0, 0))] σ (fun r σ1 => r = none ∧ ((∀ k i j, sn_R (σ1.1 k i j)) → spM [.inr (.inr (40, 0))] σ1 (fun r' σ2 => r' = none ∧ Inv (n + 1) σ2)))
/-- a method that may throw, and its counterpart -/
def lw_po (Inv : Nat → sn_M → Prop) (spM : sn_P) (n : Nat) (as : List sn_V) : Option sn_V → sn_M → Prop := fun r σ' => ∃ k, r = some (.inl k) ∧ ((∀ k i j, sn_R (σ'.1 k i j)) → spM (.inr (.inr (40, 0)) :: as) σ' (fun r' σ2 => ∃ v, r' = some (.inl v) ∧ σ2.1 40 0 0 = k ∧ (k = 0 → σ2.2 65 0 0 = (Int32.ofInt v).toInt64) ∧ Inv (n + 1) σ2))
def lw_T (Inv : Nat → sn_M → Prop) (tw : List Cond) (yC : MethodName) (cC : ByteArray) (lC : Nat) (yM : MethodName) (cM : ByteArray) (lM : Nat) (as : (Nat → Int32) → Nat → List sn_V) : Prop :=
  ∃ (dC dM : Nat) (spC : sn_PT) (spM : sn_P), dC ≤ 90 ∧ dM ≤ 90 ∧ sn_TC yC (Cond.code yC cC lC (some .int) :: sn_ws) tw dC spC ∧ sn_CT yM (Cond.code yM cM lM (some .int) :: sn_ws) dM spM ∧ ∀ (n : Nat) (σ : sn_M) (xs : Nat → Int32) (i : Nat), Inv n σ → n < 512 → (∀ k i j, sn_R (σ.1 k i j)) →
    spC (.inr (.inr (0, 0)) :: as xs i) σ (fun r σ1 => ∃ v, r = some (.inl v) ∧ lw_po Inv spM n (as xs i) (some (.inl 0)) (σ1.1, sn_u σ1.2 65 0 0 (Int32.ofInt v).toInt64)) (fun k σ1 => lw_po Inv spM n (as xs i) (some (.inl k)) σ1)
