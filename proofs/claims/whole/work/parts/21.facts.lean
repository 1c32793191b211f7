/-! What the tables and the shapes give. -/
theorem sn_li_e {L : sn_Ls} {i : Nat} {f : Int → Prop} (h : sn_li L i f) : ∃ x, L[i]? = some (some (.inl x)) ∧ f x := by
  unfold sn_li at h
  split at h
  · exact ⟨_, by assumption, h⟩
  · exact h.elim
theorem sn_ll_e {L : sn_Ls} {i : Nat} {f : Int64 → Prop} (h : sn_ll L i f) : ∃ x, L[i]? = some (some (.inr (.inl x))) ∧ f x := by
  unfold sn_ll at h
  split at h
  · exact ⟨_, by assumption, h⟩
  · exact h.elim
theorem sn_la_e {L : sn_Ls} {i : Nat} {f : Nat × Nat → Prop} (h : sn_la L i f) : ∃ x, L[i]? = some (some (.inr (.inr x))) ∧ f x := by
  unfold sn_la at h
  split at h
  · exact ⟨_, by assumption, h⟩
  · exact h.elim
theorem sn_p1_e {S : List sn_V} {f : Int → List sn_V → Prop} (h : sn_p1 S f) : ∃ x S', S = .inl x :: S' ∧ f x S' := by
  unfold sn_p1 at h
  split at h
  · exact ⟨_, _, rfl, h⟩
  · exact h.elim
theorem sn_p2_e {S : List sn_V} {f : Int → Int → List sn_V → Prop} (h : sn_p2 S f) : ∃ x y S', S = .inl y :: .inl x :: S' ∧ f x y S' := by
  unfold sn_p2 at h
  split at h
  · exact ⟨_, _, _, rfl, h⟩
  · exact h.elim
theorem sn_q1_e {S : List sn_V} {f : Int64 → List sn_V → Prop} (h : sn_q1 S f) : ∃ x S', S = .inr (.inl x) :: S' ∧ f x S' := by
  unfold sn_q1 at h
  split at h
  · exact ⟨_, _, rfl, h⟩
  · exact h.elim
theorem sn_q2_e {S : List sn_V} {f : Int64 → Int64 → List sn_V → Prop} (h : sn_q2 S f) : ∃ x y S', S = .inr (.inl y) :: .inr (.inl x) :: S' ∧ f x y S' := by
  unfold sn_q2 at h
  split at h
  · exact ⟨_, _, _, rfl, h⟩
  · exact h.elim
theorem sn_qp_e {S : List sn_V} {f : Int64 → Int → List sn_V → Prop} (h : sn_qp S f) : ∃ x y S', S = .inl y :: .inr (.inl x) :: S' ∧ f x y S' := by
  unfold sn_qp at h
  split at h
  · exact ⟨_, _, _, rfl, h⟩
  · exact h.elim
theorem sn_r1_e {S : List sn_V} {f : Nat × Nat → List sn_V → Prop} (h : sn_r1 S f) : ∃ x S', S = .inr (.inr x) :: S' ∧ f x S' := by
  unfold sn_r1 at h
  split at h
  · exact ⟨_, _, rfl, h⟩
  · exact h.elim
theorem sn_c1_e {S : List sn_V} {f : sn_V → List sn_V → Prop} (h : sn_c1 S f) : ∃ v S', S = v :: S' ∧ (∀ ad, (sn_cv ad v).category = 1) ∧ f v S' := by
  unfold sn_c1 at h
  split at h
  · exact ⟨_, _, rfl, fun _ => rfl, h⟩
  · exact ⟨_, _, rfl, fun _ => rfl, h⟩
  · exact h.elim
theorem sn_ix_e {c : Nat} {S : List sn_V} {f : Int → Nat × Nat → List sn_V → Prop} (h : sn_ix c S f) : ∃ x q S', S = .inl x :: .inr (.inr q) :: S' ∧ sn_kc q.1 = c ∧ (0 ≤ x ∧ x < sn_kl q.1) ∧ f x q S' := by
  unfold sn_ix at h
  split at h
  · next x q S' =>
    cases hb : Nat.beq (sn_kc q.1) c with
    | false => rw [hb] at h; exact False.elim h
    | true => rw [hb] at h; exact ⟨x, q, S', rfl, Nat.eq_of_beq_eq_true hb, h.1, h.2⟩
  · exact h.elim
theorem sn_is_e {n : Nat} {sp : sn_P} {S : List sn_V} {σ : sn_M} {k : Option sn_V → List sn_V → sn_M → Prop} (h : sn_is n sp S σ k) : ∃ as rest, S = as.reverse ++ rest ∧ as.length = n ∧ rest.length ≤ 4 ∧ as = (S.take n).reverse ∧ sp as σ (fun r σ' => k r rest σ') := by
  unfold sn_is at h
  cases hb : (Nat.ble n S.length && Nat.ble S.length (n + 4)) with
  | false => rw [hb] at h; exact False.elim h
  | true =>
    rw [hb] at h
    rw [Bool.and_eq_true] at hb
    have h1 := Nat.le_of_ble_eq_true hb.1
    have h2 := Nat.le_of_ble_eq_true hb.2
    exact ⟨(S.take n).reverse, S.drop n, by rw [List.reverse_reverse, List.take_append_drop], by rw [List.length_reverse, List.length_take]; omega, by rw [List.length_drop]; omega, rfl, h⟩
theorem sn_iv_e {n ci : Nat} {sp : sn_P} {S : List sn_V} {σ : sn_M} {k : Option sn_V → List sn_V → sn_M → Prop} (h : sn_iv n ci sp S σ k) : ∃ q t, (S.take n).reverse = .inr (.inr q) :: t ∧ sn_kc q.1 + 1 = ci ∧ sn_is n sp S σ k := by
  unfold sn_iv at h
  split at h
  · next q t he =>
    cases hb : Nat.beq (sn_kc q.1 + 1) ci with
    | false => rw [hb] at h; exact False.elim h
    | true => rw [hb] at h; exact ⟨q, t, he, Nat.eq_of_beq_eq_true hb, h⟩
  · exact h.elim
/-! the world -/
theorem sn_ps_at {k i : Nat} (h : sn_ok k i) : ∃ n : Nat, sn_ps[n]? = some (k, i) := by
  have h1 : (k, i) ∈ sn_ps := by
    unfold sn_ps
    rw [List.mem_flatMap]
    exact ⟨k, List.mem_range.mpr h.1, List.mem_map.mpr ⟨i, List.mem_range.mpr h.2, rfl⟩⟩
  exact List.getElem?_of_mem h1
theorem sn_wd_at {dA : Nat → ClassId} {ad : sn_A} {σ : sn_M} {n k i : Nat} (h : sn_ps[n]? = some (k, i)) : (sn_wd dA ad σ)[n]? = some (ad k i, sn_en dA ad σ k i) := by
  unfold sn_wd
  rw [List.getElem?_map, h]
  rfl
theorem sn_wd_of {dA : Nat → ClassId} {ad : sn_A} {σ : sn_M} {n : Nat} {q : Nat × va_E} (h : (sn_wd dA ad σ)[n]? = some q) : ∃ k i, sn_ps[n]? = some (k, i) ∧ q = (ad k i, sn_en dA ad σ k i) := by
  unfold sn_wd at h
  rw [List.getElem?_map] at h
  cases hp : sn_ps[n]? with
  | none => rw [hp] at h; cases h
  | some a =>
    rw [hp] at h
    exact ⟨a.1, a.2, rfl, (Option.some.inj h).symm⟩
theorem sn_wd_D {A : Nat → Prop} {dA : Nat → ClassId} {ad : sn_A} {σ σ' : sn_M} (h : va_D A (sn_wd dA ad σ)) : va_D A (sn_wd dA ad σ') := by
  refine ⟨fun i j p q hp hq he => ?_, fun n q hq => ?_⟩
  · obtain ⟨k1, i1, g1, rfl⟩ := sn_wd_of hp
    obtain ⟨k2, i2, g2, rfl⟩ := sn_wd_of hq
    exact h.1 i j _ _ (sn_wd_at g1) (sn_wd_at g2) he
  · obtain ⟨k1, i1, g1, rfl⟩ := sn_wd_of hq
    exact h.2 n (ad k1 i1, sn_en dA ad σ k1 i1) (sn_wd_at g1)
theorem sn_wd_A {dA : Nat → ClassId} {ad : sn_A} {σ σ' : sn_M} {sz q : Nat} (h : va_A (sn_wd dA ad σ) sz q) : va_A (sn_wd dA ad σ') sz q := by
  rcases h with ⟨n, e, h⟩ | h
  · obtain ⟨k1, i1, g1, g2⟩ := sn_wd_of h
    cases g2
    exact Or.inl ⟨n, _, sn_wd_at g1⟩
  · exact Or.inr h
theorem sn_ps_nd : sn_ps.Nodup := by decide +kernel
theorem sn_set {dA : Nat → ClassId} {ad : sn_A} {σ σ' : sn_M} {n k i : Nat} {en : va_E} (hn : sn_ps[n]? = some (k, i)) (h1 : ∀ k' i', ¬ (k' = k ∧ i' = i) → sn_en dA ad σ' k' i' = sn_en dA ad σ k' i') (h2 : sn_en dA ad σ' k i = en) : (sn_wd dA ad σ).set n (ad k i, en) = sn_wd dA ad σ' := by
  have hl : n < sn_ps.length := (List.getElem?_eq_some_iff.mp hn).1
  have hl2 : n < (sn_wd dA ad σ).length := by unfold sn_wd; rw [List.length_map]; exact hl
  apply List.ext_getElem?
  intro j
  by_cases hj : n = j
  · subst hj
    rw [List.getElem?_set_self hl2, sn_wd_at hn, h2]
  · rw [List.getElem?_set_ne hj]
    cases hp : sn_ps[j]? with
    | none =>
      unfold sn_wd
      rw [List.getElem?_map, List.getElem?_map, hp]
      rfl
    | some a =>
      obtain ⟨a, b⟩ := a
      rw [sn_wd_at hp, sn_wd_at hp, h1 a b]
      rintro ⟨rfl, rfl⟩
      exact hj ((List.getElem?_inj hl sn_ps_nd).mp (hn.trans hp.symm))
theorem sn_en_i {dA : Nat → ClassId} {ad : sn_A} {σ : sn_M} {k i : Nat} (h : sn_kc k = 100) : sn_en dA ad σ k i = .inl (dA 0, sn_kl k, .inl (fun j => Int32.ofInt (σ.1 k i j))) := by
  unfold sn_en; rw [if_pos h]
theorem sn_en_z {dA : Nat → ClassId} {ad : sn_A} {σ : sn_M} {k i : Nat} (h : sn_kc k = 101) : sn_en dA ad σ k i = .inl (dA 1, sn_kl k, .inl (fun j => Int32.ofInt (σ.1 k i j))) := by
  unfold sn_en; rw [if_neg (by omega), if_pos h]
theorem sn_en_l {dA : Nat → ClassId} {ad : sn_A} {σ : sn_M} {k i : Nat} (h : sn_kc k = 102) : sn_en dA ad σ k i = .inl (dA 2, sn_kl k, .inr (.inl (fun j => σ.2 k i j))) := by
  unfold sn_en; rw [if_neg (by omega), if_neg (by omega), if_pos h]
theorem sn_en_r {dA : Nat → ClassId} {ad : sn_A} {σ : sn_M} {k i : Nat} (h : sn_kc k = 103) : sn_en dA ad σ k i = .inl (dA 3, sn_kl k, .inr (.inr (.inr (.inr (fun j => some (ad (sn_ke k).1 ((sn_ke k).2 i j))))))) := by
  unfold sn_en; rw [if_neg (by omega), if_neg (by omega), if_neg (by omega), if_pos h]
theorem sn_en_o {dA : Nat → ClassId} {ad : sn_A} {σ : sn_M} {k i : Nat} (h : sn_kc k < 100) : sn_en dA ad σ k i = .inr (sn_kc k, (List.range (sn_kl k)).map (sn_fv ad σ k i)) := by
  unfold sn_en; rw [if_neg (by omega), if_neg (by omega), if_neg (by omega), if_neg (by omega)]
theorem sn_u_s {α : Type} {f : Nat → Nat → Nat → α} {k i j : Nat} {x : α} : sn_u f k i j x k i j = x := by
  unfold sn_u; rw [if_pos ⟨rfl, rfl, rfl⟩]
theorem sn_u_n {α : Type} {f : Nat → Nat → Nat → α} {k i j k' i' j' : Nat} {x : α} (h : ¬ (k' = k ∧ i' = i ∧ j' = j)) : sn_u f k i j x k' i' j' = f k' i' j' := by
  unfold sn_u; rw [if_neg h]
theorem sn_u_R {f : Nat → Nat → Nat → Int} {k i j : Nat} {x : Int} (h : ∀ k i j, sn_R (f k i j)) (hx : sn_R x) : ∀ k' i' j', sn_R (sn_u f k i j x k' i' j') := by
  intro k' i' j'
  unfold sn_u
  split
  · exact hx
  · exact h _ _ _
theorem sn_en_other {dA : Nat → ClassId} {ad : sn_A} {σ σ' : sn_M} {k i : Nat} (h1 : ∀ j, σ'.1 k i j = σ.1 k i j) (h2 : ∀ j, σ'.2 k i j = σ.2 k i j) : sn_en dA ad σ' k i = sn_en dA ad σ k i := by
  have e1 : σ'.1 k i = σ.1 k i := funext h1
  have e2 : σ'.2 k i = σ.2 k i := funext h2
  have e3 : sn_fv ad σ' k i = sn_fv ad σ k i := by
    funext j
    unfold sn_fv
    rw [e1, e2]
  unfold sn_en
  rw [e1, e2, e3]
/-! the tables, once for all -/
def sn_vd (k i : Nat) : Bool := Nat.blt k sn_K && Nat.blt i (sn_kn k)
theorem sn_vd_ok {k i : Nat} (h : sn_vd k i = true) : sn_ok k i := by
  unfold sn_vd at h
  rw [Bool.and_eq_true] at h
  exact ⟨Nat.le_of_ble_eq_true h.1, Nat.le_of_ble_eq_true h.2⟩
def sn_tab (k : Nat) : Bool :=
  bif Nat.blt (sn_kc k) 100 then (match sn_cl[sn_kc k]? with
    | some r => Nat.beq r.2.2 (sn_kl k) && (List.range (sn_kl k)).all (fun j => match sn_ks k j with
      | .inl false => decide (parseFieldDescriptor (r.2.1 j).2.2.1 = some .int) && !(r.2.1 j).2.2.2
      | .inl true => decide (parseFieldDescriptor (r.2.1 j).2.2.1 = some .long) && !(r.2.1 j).2.2.2
      | .inr f => (List.range (sn_kn k)).all (fun i => sn_vd f.1 (f.2 i)))
    | none => false)
  else (bif Nat.beq (sn_kc k) 103 then (List.range (sn_kn k)).all (fun i => (List.range (sn_kl k)).all (fun j => sn_vd (sn_ke k).1 ((sn_ke k).2 i j))) else Nat.blt (sn_kl k) 1000)
theorem sn_tab_ok : ∀ k, k < sn_K → sn_tab k = true := by decide +kernel
theorem sn_tab_o {k : Nat} (hk : k < sn_K) (hc : sn_kc k < 100) : ∃ r, sn_cl[sn_kc k]? = some r ∧ r.2.2 = sn_kl k ∧ ∀ j, j < sn_kl k → match sn_ks k j with
      | .inl false => parseFieldDescriptor (r.2.1 j).2.2.1 = some .int ∧ (r.2.1 j).2.2.2 = false
      | .inl true => parseFieldDescriptor (r.2.1 j).2.2.1 = some .long ∧ (r.2.1 j).2.2.2 = false
      | .inr f => ∀ i, i < sn_kn k → sn_ok f.1 (f.2 i) := by
  have h := sn_tab_ok k hk
  unfold sn_tab at h
  rw [show Nat.blt (sn_kc k) 100 = true from Nat.ble_eq_true_of_le hc] at h
  simp only [cond_true] at h
  split at h
  · next r hr =>
    rw [Bool.and_eq_true] at h
    refine ⟨r, hr, Nat.eq_of_beq_eq_true h.1, fun j hj => ?_⟩
    have h2 := List.all_eq_true.mp h.2 j (List.mem_range.mpr hj)
    split
    · next he =>
      rw [he] at h2
      simp only [Bool.and_eq_true, decide_eq_true_eq, Bool.not_eq_true'] at h2
      exact h2
    · next he =>
      rw [he] at h2
      simp only [Bool.and_eq_true, decide_eq_true_eq, Bool.not_eq_true'] at h2
      exact h2
    · next f he =>
      rw [he] at h2
      intro i hi
      exact sn_vd_ok (List.all_eq_true.mp h2 i (List.mem_range.mpr hi))
  · cases h
theorem sn_tab_r {k i j : Nat} (hk : k < sn_K) (hc : sn_kc k = 103) (hi : i < sn_kn k) (hj : j < sn_kl k) : sn_ok (sn_ke k).1 ((sn_ke k).2 i j) := by
  have h := sn_tab_ok k hk
  unfold sn_tab at h
  rw [hc] at h
  have h : ((List.range (sn_kn k)).all (fun i => (List.range (sn_kl k)).all (fun j => sn_vd (sn_ke k).1 ((sn_ke k).2 i j)))) = true := h
  exact sn_vd_ok (List.all_eq_true.mp (List.all_eq_true.mp h i (List.mem_range.mpr hi)) j (List.mem_range.mpr hj))
theorem sn_tab_a {k : Nat} (hk : k < sn_K) (hc : 100 ≤ sn_kc k) (hc2 : sn_kc k ≠ 103) : sn_kl k < 1000 := by
  have h := sn_tab_ok k hk
  unfold sn_tab at h
  have h0 : Nat.blt (sn_kc k) 100 = false := by
    cases hb : Nat.blt (sn_kc k) 100 with
    | false => rfl
    | true => have := Nat.le_of_ble_eq_true hb; omega
  have h1 : Nat.beq (sn_kc k) 103 = false := by
    cases hb : Nat.beq (sn_kc k) 103 with
    | false => rfl
    | true => exact absurd (Nat.eq_of_beq_eq_true hb) hc2
  rw [h0, h1] at h
  exact Nat.le_of_ble_eq_true h
def sn_clk (r : vw_C) : Bool := (List.range r.2.2).all (fun a => (parseFieldDescriptor (r.2.1 a).2.2.1).isSome && (List.range r.2.2).all (fun b => Nat.beq a b || decide ((r.2.1 a).2.1 ≠ (r.2.1 b).2.1)))
theorem sn_cl_ok : sn_cl.all sn_clk = true := by decide +kernel
theorem sn_cl_f {ci : Nat} {r : vw_C} (h : sn_cl[ci]? = some r) : (∀ k, k < r.2.2 → parseFieldDescriptor (r.2.1 k).2.2.1 = some ((parseFieldDescriptor (r.2.1 k).2.2.1).getD .int)) ∧ ∀ a, a < r.2.2 → ∀ b, b < r.2.2 → a ≠ b → (r.2.1 a).2.1 ≠ (r.2.1 b).2.1 := by
  have h1 := List.all_eq_true.mp sn_cl_ok r (List.mem_of_getElem? h)
  unfold sn_clk at h1
  refine ⟨fun k hk => ?_, fun a ha b hb hab => ?_⟩
  · have h2 := List.all_eq_true.mp h1 k (List.mem_range.mpr hk)
    rw [Bool.and_eq_true] at h2
    obtain ⟨x, hx⟩ := Option.isSome_iff_exists.mp h2.1
    rw [hx]
    rfl
  · have h2 := List.all_eq_true.mp h1 a (List.mem_range.mpr ha)
    rw [Bool.and_eq_true] at h2
    have h3 := List.all_eq_true.mp h2.2 b (List.mem_range.mpr hb)
    rw [Bool.or_eq_true] at h3
    rcases h3 with h3 | h3
    · exact absurd (Nat.eq_of_beq_eq_true h3) hab
    · exact of_decide_eq_true h3
/-! numbers -/
theorem sn_toInt {x : Int} (h : sn_R x) : (Int32.ofInt x).toInt = x := Int32.toInt_ofInt_of_le (by have := h.1; omega) (by have := h.2; omega)
theorem sn_inj {x y : Int} (hx : sn_R x) (hy : sn_R y) : Int32.ofInt x = Int32.ofInt y ↔ x = y := by
  constructor
  · intro h
    have h1 := congrArg Int32.toInt h
    rwa [sn_toInt hx, sn_toInt hy] at h1
  · intro h; rw [h]
theorem sn_lt {x y : Int} (hx : sn_R x) (hy : sn_R y) : Int32.ofInt x < Int32.ofInt y ↔ x < y := by
  rw [Int32.lt_iff_toInt_lt, sn_toInt hx, sn_toInt hy]
theorem sn_le {x y : Int} (hx : sn_R x) (hy : sn_R y) : Int32.ofInt x ≤ Int32.ofInt y ↔ x ≤ y := by
  rw [Int32.le_iff_toInt_le, sn_toInt hx, sn_toInt hy]
theorem sn_R0 : sn_R 0 := ⟨by decide, by decide⟩
theorem sn_clamp {x : Int} (h : sn_R x) : (Int32.ofInt x).toNatClampNeg = x.toNat := by
  show (Int32.ofInt x).toInt.toNat = x.toNat
  rw [sn_toInt h]
theorem sn_vin {x : Int} {n : Nat} (h : sn_R x) (h0 : 0 ≤ x) (h1 : x < n) : vp_in (Int32.ofInt x) n := by
  unfold vp_in
  rw [show (0 : Int32) = Int32.ofInt 0 from rfl, sn_lt h sn_R0, sn_clamp h]
  omega
theorem sn_tdiv {x y : Int} (hx : sn_R x) (hy : sn_R y) (h0 : 0 < y) : Int32.ofInt (x.tdiv y) = Int32.ofInt x / Int32.ofInt y :=
  Int32.ofInt_tdiv (by have := hx.1; exact this) (by have := hx.2; show x ≤ 2147483647; omega) (by have := hy.1; exact this) (by have := hy.2; show y ≤ 2147483647; omega)
theorem sn_tdiv_R {x y : Int} (hx : sn_R x) (h0 : 0 < y) : sn_R (x.tdiv y) := by
  obtain ⟨a, b⟩ := hx
  have h1 : (x.tdiv y).natAbs ≤ x.natAbs := by
    rw [Int.natAbs_tdiv]
    exact Nat.div_le_self _ _
  unfold sn_R
  rcases Int.le_total 0 x with h | h
  · have := Int.tdiv_nonneg h (Int.le_of_lt h0)
    omega
  · have h2 : (-x).tdiv y = -(x.tdiv y) := Int.neg_tdiv x y
    have h3 := Int.tdiv_nonneg (show (0 : Int) ≤ -x by omega) (Int.le_of_lt h0)
    omega
theorem sn_tmod {x y : Int} (hx : sn_R x) (hy : sn_R y) (h0 : 0 < y) : Int32.ofInt (x.tmod y) = Int32.ofInt x - Int32.ofInt x / Int32.ofInt y * Int32.ofInt y := by
  rw [← sn_tdiv hx hy h0, ← Int32.ofInt_mul, ← Int32.ofInt_sub]
  congr 1
  have := Int.tmod_add_tdiv_mul x y
  omega
theorem sn_tmod_R {x y : Int} (hy : sn_R y) (h0 : 0 < y) : sn_R (x.tmod y) := by
  have h1 := Int.tmod_lt_of_pos x h0
  have h2 := Int.lt_tmod_of_pos x h0
  have := hy.2
  unfold sn_R
  omega
theorem sn_ne0 {y : Int} (hy : sn_R y) (h0 : 0 < y) : ¬ Int32.ofInt y = 0 := by
  rw [show (0 : Int32) = Int32.ofInt 0 from rfl, sn_inj hy sn_R0]
  omega
theorem sn_sh31 : ∀ n : Nat, n < 32 → ((Int32.ofInt (n : Int) &&& 31).toBitVec.smod 32).toNat = n := by decide +kernel
theorem sn_ishl {x y : Int} (h0 : 0 ≤ y) (h1 : y < 32) : Int32.ofInt (x * 2 ^ y.toNat) = Int32.ofInt x <<< (Int32.ofInt y &&& 31) := by
  obtain ⟨n, rfl⟩ := Int.eq_ofNat_of_zero_le h0
  have hn : n < 32 := by omega
  have h2 := pk_shl (Int32.ofInt x) (Int32.ofInt (n : Int) &&& 31) n (sn_sh31 n hn)
  apply Int32.toBitVec.inj
  apply BitVec.eq_of_toNat_eq
  rw [show ((n : Int)).toNat = n from rfl]
  refine Eq.trans ?_ h2.symm
  have e1 : (Int32.ofInt (x * 2 ^ n)).toBitVec.toNat = ((x * 2 ^ n) % 4294967296).toNat := by
    rw [Int32.toBitVec_ofInt, BitVec.toNat_ofInt]
    rfl
  have e2 : (Int32.ofInt x).toBitVec.toNat = (x % 4294967296).toNat := by
    rw [Int32.toBitVec_ofInt, BitVec.toNat_ofInt]
    rfl
  rw [e1, e2]
  have h3 : (((x % 4294967296).toNat * 2 ^ n % 2 ^ 32 : Nat) : Int) = (x * 2 ^ n) % 4294967296 := by
    have h4 : (((x % 4294967296).toNat : Nat) : Int) = x % 4294967296 := Int.toNat_of_nonneg (Int.emod_nonneg _ (by decide))
    rw [Int.natCast_emod, Int.natCast_mul, h4, Int.natCast_pow]
    show (x % 4294967296 * 2 ^ n) % 4294967296 = _
    rw [Int.mul_emod, Int.emod_emod_of_dvd _ (Int.dvd_refl _), ← Int.mul_emod]
  have h5 : 0 ≤ (x * 2 ^ n) % 4294967296 := Int.emod_nonneg _ (by decide)
  omega
theorem sn_ishr {x y : Int} (hx : sn_R x) (h0 : 0 ≤ y) (h1 : y < 32) : Int32.ofInt (x / 2 ^ y.toNat) = Int32.ofInt x >>> (Int32.ofInt y &&& 31) ∧ sn_R (x / 2 ^ y.toNat) := by
  obtain ⟨n, rfl⟩ := Int.eq_ofNat_of_zero_le h0
  have hn : n < 32 := by omega
  have h2 := pk_shr (Int32.ofInt x) (Int32.ofInt (n : Int) &&& 31) n (sn_sh31 n hn)
  rw [sn_toInt hx, Int.shiftRight_eq_div_pow] at h2
  have hR : sn_R (x / 2 ^ n) := by
    have a := Int32.le_toInt (Int32.ofInt x >>> (Int32.ofInt (n : Int) &&& 31))
    have b := Int32.toInt_lt (Int32.ofInt x >>> (Int32.ofInt (n : Int) &&& 31))
    rw [h2] at a b
    have e : ((2 ^ n : Nat) : Int) = 2 ^ n := Int.natCast_pow 2 n
    rw [e] at a b
    exact ⟨by omega, by omega⟩
  refine ⟨?_, hR⟩
  apply Int32.toInt_inj.mp
  rw [h2]
  have e : ((2 ^ n : Nat) : Int) = 2 ^ n := Int.natCast_pow 2 n
  rw [e]
  exact sn_toInt hR
theorem sn_and_R (x y : Int) : sn_R (sn_and x y) := by
  unfold sn_and sn_R
  have a := Int32.le_toInt (Int32.ofInt x &&& Int32.ofInt y)
  have b := Int32.toInt_lt (Int32.ofInt x &&& Int32.ofInt y)
  omega
theorem sn_cmp_v (x y : Int64) : Int32.ofInt (sn_cmp x y) = lg_cmp x y ∧ sn_R (sn_cmp x y) := by
  unfold sn_cmp lg_cmp
  split
  · exact ⟨rfl, by decide, by decide⟩
  · split
    · exact ⟨rfl, by decide, by decide⟩
    · exact ⟨rfl, by decide, by decide⟩
