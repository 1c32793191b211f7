/-! Contracts of methods without a loop: the code itself says what it does. System.arraycopy. -/
def sn_wp (pr : Nat → Option (Instr × Nat)) (fi : Nat → Option (Nat × Nat)) (lc : Nat → Option Int64) (ca : Nat → Option (Nat × Nat × sn_P)) (nL N : Nat) : sn_P := fun vs σ po =>
  bif Nat.ble (sn_L1 vs).length nL then (∀ G : Nat → sn_Ls → List sn_V → sn_M → Prop, sn_it pr fi lc ca po [] G N 0 (sn_L0 nL vs) [] σ) else False
theorem sn_wp_e {pr : Nat → Option (Instr × Nat)} {fi : Nat → Option (Nat × Nat)} {lc : Nat → Option Int64} {ca : Nat → Option (Nat × Nat × sn_P)} {nL N : Nat} {vs : List sn_V} {σ : sn_M} {po : Option sn_V → sn_M → Prop} (h : sn_wp pr fi lc ca nL N vs σ po) : (sn_L1 vs).length ≤ nL ∧ ∀ G : Nat → sn_Ls → List sn_V → sn_M → Prop, sn_it pr fi lc ca po [] G N 0 (sn_L0 nL vs) [] σ := by
  unfold sn_wp at h
  cases hb : Nat.ble (sn_L1 vs).length nL with
  | false => rw [hb] at h; exact False.elim h
  | true => rw [hb] at h; exact ⟨Nat.le_of_ble_eq_true hb, h⟩
theorem sn_CT_wp {y : MethodName} {code : ByteArray} {nL d : Nat} {ret : Option FieldType} {ws : List Cond} {pr : Nat → Option (Instr × Nat)} {fi : Nat → Option (Nat × Nat)} {lc : Nat → Option Int64} {ca : Nat → Option (Nat × Nat × sn_P)} (N : Nat)
    (hy : plainName y.cls = true) (hpr : ∀ pc i t, pr pc = some (i, t) → sn_dk code nL ret pc i t = true) (hfi : sn_FI y.cls ws fi) (hlc : ∀ x v, lc x = some v → Cond.constantLong y.cls x v ∈ ws)
    (hca : ∀ x n ci s', ca x = some (n, ci, s') → sn_CO y.cls ws d x n ci s') : sn_CT y (Cond.code y code nL ret :: ws) d (sn_wp pr fi lc ca nL N) :=
  sn_CT_of hy (fun _ _ _ h => (sn_wp_e h).1) hpr hfi hlc hca (fun _ _ _ h _ _ G hG => hG N [] _ _ _ _ ((sn_wp_e h).2 G))
theorem sn_CT_mono {y : MethodName} {ws : List Cond} {d : Nat} {sp sp' : sn_P} (h : sn_CT y ws d sp) (hs : ∀ vs σ po, (∀ v ∈ vs, sn_vo v) → (∀ k i j, sn_R (σ.1 k i j)) → sp' vs σ po → sp vs σ po) : sn_CT y ws d sp' :=
  fun l D dA ad sz vs σ post h1 h2 h3 => h l D dA ad sz vs σ post (hs vs σ post h2 h3 h1) h2 h3
theorem sn_co_of {own : String} {d : Nat} {l : List (Nat × Nat × Nat × sn_P)} (h : ∀ q ∈ l, sn_CO own sn_ws d q.1 q.2.1 q.2.2.1 q.2.2.2) : ∀ x n ci s', sn_lk l x = some (n, ci, s') → sn_CO own sn_ws d x n ci s' := fun x n ci s' hx => h (x, n, ci, s') (sn_lk_e l hx)
theorem sn_FI_no (own : String) : sn_FI own sn_ws (sn_lk []) := fun _ _ _ h => by cases h
/-- copying a stretch of an array of ints -/
def sn_cp (f : Nat → Nat → Nat → Int) (k0 i0 k1 i1 sp dp n : Nat) : Nat → Nat → Nat → Int := fun k i j => if k = k1 ∧ i = i1 ∧ dp ≤ j ∧ j < dp + n then f k0 i0 (sp + (j - dp)) else f k i j
def sp_copy : sn_P := fun vs σ po => match vs with
  | [.inr (.inr q0), .inl sp, .inr (.inr q1), .inl dp, .inl n] => bif Nat.beq (sn_kc q0.1) 100 && Nat.beq (sn_kc q1.1) 100 then (0 ≤ sp ∧ 0 ≤ dp ∧ 0 ≤ n ∧ sp + n ≤ sn_kl q0.1 ∧ dp + n ≤ sn_kl q1.1) ∧ po none (sn_cp σ.1 q0.1 q0.2 q1.1 q1.2 sp.toNat dp.toNat n.toNat, σ.2) else False
  | _ => False
theorem sn_cp_R {f : Nat → Nat → Nat → Int} {k0 i0 k1 i1 sp dp n : Nat} (h : ∀ k i j, sn_R (f k i j)) : ∀ k i j, sn_R (sn_cp f k0 i0 k1 i1 sp dp n k i j) := by
  intro k i j
  unfold sn_cp
  split
  · exact h _ _ _
  · exact h _ _ _
theorem sn_CO_copy {own : String} {d x : Nat} (hd : 0 < d) (hl : Cond.methodLink own x arraycopyName ∈ sn_ws) (hn : Cond.native arraycopyName ∈ sn_ws) (hs : Cond.static arraycopyName ∈ sn_ws) (hi : Cond.initialized "java/lang/System" ∈ sn_ws) : sn_CO own sn_ws d x 5 0 sp_copy := by
  intro p l e s m args below meth c Q cc nL D dA ad A H0 hx hb hml hown hts hK hA
  intro pc ls as rest σ H locs po hdec hlen hsp hW has hrest hls hr4 hkont
  rcases hdec with ⟨-, q, t, -, hq⟩ | ⟨hdec, -⟩
  · omega
  · unfold sp_copy at hsp
    split at hsp
    · next q0 sp q1 dp n =>
      cases hbq : (Nat.beq (sn_kc q0.1) 100 && Nat.beq (sn_kc q1.1) 100) with
      | false => rw [hbq] at hsp; exact False.elim hsp
      | true =>
        rw [hbq] at hsp
        rw [Bool.and_eq_true] at hbq
        have hk0 := Nat.eq_of_beq_eq_true hbq.1
        have hk1 := Nat.eq_of_beq_eq_true hbq.2
        obtain ⟨⟨g1, g2, g3, g4, g5⟩, hpo⟩ := hsp
        have o0 : sn_ok q0.1 q0.2 := has (.inr (.inr q0)) (by simp)
        have o1 : sn_ok q1.1 q1.2 := has (.inr (.inr q1)) (by simp)
        have rs : sn_R sp := has (.inl sp) (by simp)
        have rd : sn_R dp := has (.inl dp) (by simp)
        have rn : sn_R n := has (.inl n) (by simp)
        obtain ⟨n0, hn0⟩ := sn_ps_at o0
        obtain ⟨n1, hn1⟩ := sn_ps_at o1
        have he0 := sn_wd_at (dA := dA) (ad := ad) (σ := σ) hn0
        have he1 := sn_wd_at (dA := dA) (ad := ad) (σ := σ) hn1
        rw [sn_en_i hk0] at he0
        rw [sn_en_i hk1] at he1
        obtain ⟨hP, hD, hS, hR⟩ := hW
        have z : ∀ v : Int, sn_R v → 0 ≤ v → ¬ Int32.ofInt v < 0 := fun v hv h0 => by
          rw [show (0 : Int32) = Int32.ofInt 0 from rfl, sn_lt hv sn_R0]
          omega
        have hw := sn_words (ad := ad) hr4
        have hnw : nativeFrameWords "java/lang/System" "arraycopy" 5 = 7 := by decide +kernel
        have hwo : ((rest.map (sn_cv ad)).map fun v => v.category).sum + (nativeFrameWords "java/lang/System" "arraycopy" 5 + 11) ≤ (sn_rm d).locals := by
          rw [hnw]
          show _ ≤ 60 * d
          omega
        have hset : (sn_wd dA ad σ).set n1 (ad q1.1 q1.2, .inl (dA 0, sn_kl q1.1, .inl (va_cpy (fun j => Int32.ofInt (σ.1 q0.1 q0.2 j)) (fun j => Int32.ofInt (σ.1 q1.1 q1.2 j)) sp.toNat dp.toNat n.toNat))) = sn_wd dA ad (sn_cp σ.1 q0.1 q0.2 q1.1 q1.2 sp.toNat dp.toNat n.toNat, σ.2) := by
          refine sn_set hn1 (fun k' i' hne => sn_en_other (fun j => ?_) (fun j => rfl)) ?_
          · show sn_cp σ.1 q0.1 q0.2 q1.1 q1.2 sp.toNat dp.toNat n.toNat k' i' j = σ.1 k' i' j
            unfold sn_cp
            rw [if_neg (fun y => hne ⟨y.1, y.2.1⟩)]
          · rw [sn_en_i hk1]
            congr 4
            funext j
            show Int32.ofInt (sn_cp σ.1 q0.1 q0.2 q1.1 q1.2 sp.toNat dp.toNat n.toNat q1.1 q1.2 j) = _
            unfold sn_cp va_cpy
            by_cases hj : dp.toNat ≤ j ∧ j < dp.toNat + n.toNat
            · rw [if_pos ⟨rfl, rfl, hj⟩, if_pos hj]
            · rw [if_neg (fun y => hj ⟨y.2.2.1, y.2.2.2⟩), if_neg hj]
        refine va_copyi (D := D) hx hb (by rw [hml, hls]) hown (hts _ hl) (hts _ hn) (hts _ hs) (hts _ hi) hK hP hD hS n0 n1 0 0 (ty := .int) he0 he1 rfl rfl rfl (z sp rs g1) (z dp rd g2) (z n rn g3) (by rw [sn_clamp rs, sn_clamp rn]; omega) (by rw [sn_clamp rd, sn_clamp rn]; omega) (fun _ _ => rfl) (by show 1 ≤ d; omega) (hwo) hdec (fun H1 locs1 a1 a2 a3 => ?_)
        rw [sn_clamp rs, sn_clamp rd, sn_clamp rn, hset] at a1 a2
        exact hkont none _ H1 locs1 hpo ⟨a1, a2, a3, sn_cp_R hR⟩ (fun v hv => by cases hv)
    · exact hsp.elim
def sp_min : sn_P := fun vs σ po => match vs with
  | [.inl x, .inl y] => po (some (.inl (if y < x then y else x))) σ
  | _ => False
theorem sn_CO_min {own : String} {d x : Nat} (hd : 0 < d) (hl : Cond.methodLink own x Lib.Math.min.name ∈ sn_ws) (hs : Cond.static Lib.Math.min.name ∈ sn_ws) (hi : Cond.initialized "java/lang/Math" ∈ sn_ws) (hc : Cond.code Lib.Math.min.name Lib.Math.min.code 2 (some .int) ∈ sn_ws) : sn_CO own sn_ws d x 2 0 sp_min := by
  intro p l e s m args below meth c Q cc nL D dA ad A H0 hx hb hml hown hts hK hA
  intro pc ls as rest σ H locs po hdec hlen hsp hW has hrest hls hr4 hkont
  rcases hdec with ⟨-, q, t, -, hq⟩ | ⟨hdec, -⟩
  · omega
  · unfold sp_min at hsp
    split at hsp
    · next x y =>
      have rx : sn_R x := has (.inl x) (by simp)
      have ry : sn_R y := has (.inl y) (by simp)
      have hw := sn_words (ad := ad) hr4
      refine va_mmin hx hb (by rw [hml, hls]) hown (hts _ hl) (hts _ hs) (hts _ hi) (hts _ hc) (by show 1 ≤ d; omega) (by show ((rest.map (sn_cv ad)).map fun v => v.category).sum + 13 ≤ 60 * d; omega) (Nat.zero_le _) (Nat.zero_le _) hdec ?_
      have e : (if Int32.ofInt y < Int32.ofInt x then Int32.ofInt y else Int32.ofInt x) = Int32.ofInt (if y < x then y else x) := by
        by_cases h : y < x
        · rw [if_pos h, if_pos ((sn_lt ry rx).mpr h)]
        · rw [if_neg h, if_neg (fun z => h ((sn_lt ry rx).mp z))]
      rw [e]
      exact hkont (some (.inl (if y < x then y else x))) σ H locs hsp hW (fun v hv => by
        cases hv
        show sn_R (if y < x then y else x)
        split
        · exact ry
        · exact rx)
    · exact hsp.elim
