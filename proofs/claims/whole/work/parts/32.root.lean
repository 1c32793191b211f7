/-! Rows laid over the memory; forests; the reference's root and isJoined. -/
def sn_ov (σ : sn_M) (k0 i0 : Nat) (p : Nat → Int) : sn_M := (fun k i j => bif Nat.beq k k0 && Nat.beq i i0 then p j else σ.1 k i j, σ.2)
def sn_up (p : Nat → Int) (a : Nat) (x : Int) : Nat → Int := fun t => if t = a then x else p t
theorem sn_ov_s (σ : sn_M) (k0 i0 : Nat) (p : Nat → Int) (j : Nat) : (sn_ov σ k0 i0 p).1 k0 i0 j = p j := by
  show (bif Nat.beq k0 k0 && Nat.beq i0 i0 then p j else σ.1 k0 i0 j) = p j
  rw [Nat.beq_refl, Nat.beq_refl]
  rfl
theorem sn_ov_n {σ : sn_M} {k0 i0 : Nat} {p : Nat → Int} {k i j : Nat} (h : ¬ (k = k0 ∧ i = i0)) : (sn_ov σ k0 i0 p).1 k i j = σ.1 k i j := by
  show (bif Nat.beq k k0 && Nat.beq i i0 then p j else σ.1 k i j) = σ.1 k i j
  cases h1 : Nat.beq k k0 with
  | false => rfl
  | true =>
    cases h2 : Nat.beq i i0 with
    | false => rfl
    | true => exact absurd ⟨Nat.eq_of_beq_eq_true h1, Nat.eq_of_beq_eq_true h2⟩ h
theorem sn_ov_rf (σ : sn_M) (k0 i0 : Nat) : sn_ov σ k0 i0 (σ.1 k0 i0) = σ := by
  refine Prod.ext (funext fun k => funext fun i => funext fun j => ?_) rfl
  by_cases h : k = k0 ∧ i = i0
  · obtain ⟨rfl, rfl⟩ := h
    rw [sn_ov_s]
  · rw [sn_ov_n h]
theorem sn_ov_u (σ : sn_M) (k0 i0 : Nat) (p : Nat → Int) (a : Nat) (x : Int) : (sn_u (sn_ov σ k0 i0 p).1 k0 i0 a x, (sn_ov σ k0 i0 p).2) = sn_ov σ k0 i0 (sn_up p a x) := by
  refine Prod.ext (funext fun k => funext fun i => funext fun j => ?_) rfl
  show sn_u (sn_ov σ k0 i0 p).1 k0 i0 a x k i j = (sn_ov σ k0 i0 (sn_up p a x)).1 k i j
  by_cases h : k = k0 ∧ i = i0
  · obtain ⟨rfl, rfl⟩ := h
    rw [sn_ov_s]
    unfold sn_u sn_up
    by_cases hj : j = a
    · rw [if_pos ⟨rfl, rfl, hj⟩, if_pos hj]
    · rw [if_neg (fun z => hj z.2.2), if_neg hj, sn_ov_s]
  · rw [sn_ov_n h, sn_u_n (fun z => h ⟨z.1, z.2.1⟩), sn_ov_n h]
/-- going up in a forest -/
def uf_up (p : Nat → Int) (n : Nat) (x : Nat) : Nat := match n with
  | 0 => x
  | n + 1 => uf_up p n (p x).toNat
theorem uf_up_s (p : Nat → Int) (n x : Nat) : uf_up p (n + 1) x = uf_up p n (p x).toNat := rfl
theorem uf_up_e (p : Nat → Int) (n : Nat) : ∀ x, uf_up p (n + 1) x = (p (uf_up p n x)).toNat := by
  induction n with
  | zero => intro x; rfl
  | succ n ih => intro x; rw [uf_up_s, ih, ← uf_up_s]
theorem uf_fix {p : Nat → Int} {x : Nat} (h : p x = (x : Int)) (n : Nat) : uf_up p n x = x := by
  induction n with
  | zero => rfl
  | succ n ih => rw [uf_up_s, h]; exact ih
/-- p is a forest over the first N places, of depth j at most, with the roots r -/
def uf_ok (N : Nat) (p : Nat → Int) (j : Nat) (r : Nat → Nat) : Prop := (∀ x, x < N → 0 ≤ p x ∧ p x < (N : Int)) ∧ ∀ x, x < N → r x < N ∧ p (r x) = (r x : Int) ∧ uf_up p j x = r x
theorem uf_id {N : Nat} {p : Nat → Int} (h : ∀ x, x < N → p x = (x : Int)) : uf_ok N p 0 (fun x => x) := ⟨fun x hx => by rw [h x hx]; omega, fun x hx => ⟨hx, h x hx, rfl⟩⟩
theorem uf_par {N : Nat} {p : Nat → Int} {j : Nat} {r : Nat → Nat} (h : uf_ok N p j r) {x : Nat} (hx : x < N) : (p x).toNat < N ∧ r (p x).toNat = r x := by
  have h1 := h.1 x hx
  have h2 : (p x).toNat < N := by omega
  refine ⟨h2, ?_⟩
  obtain ⟨-, a2, a3⟩ := h.2 x hx
  obtain ⟨-, b2, b3⟩ := h.2 _ h2
  rw [← b3, ← uf_up_s, uf_up_e, a3, a2]
  rfl
theorem uf_join {N : Nat} {p : Nat → Int} {j : Nat} {r : Nat → Nat} (h : uf_ok N p j r) {u v : Nat} (hu : u < N) (hv : v < N) (hne : r u ≠ r v) : uf_ok N (sn_up p (r u) (r v)) (j + 1) (jn_step r u v) := by
  obtain ⟨ru, pu, -⟩ := h.2 u hu
  obtain ⟨rv, pv, -⟩ := h.2 v hv
  have key : ∀ (k x : Nat), x < N → uf_up p k x = r x → uf_up (sn_up p (r u) (r v)) (k + 1) x = if r x = r u then r v else r x := by
    intro k
    induction k with
    | zero =>
      intro x hx he
      have he : x = r x := he
      rw [uf_up_s]
      show (sn_up p (r u) (r v) x).toNat = _
      unfold sn_up
      by_cases hxa : x = r u
      · rw [if_pos hxa, if_pos (by rw [← he]; exact hxa)]
        rfl
      · rw [if_neg hxa, if_neg (by rw [← he]; exact hxa)]
        obtain ⟨-, a2, -⟩ := h.2 x hx
        rw [← he] at a2
        rw [a2, ← he]
        rfl
    | succ k ih =>
      intro x hx he
      rw [uf_up_s]
      by_cases hxa : x = r u
      · have hr : r x = r u := by
          have h1 : uf_up p (k + 1) x = x := uf_fix (by rw [hxa]; exact pu) _
          rw [← he, h1]; exact hxa
        rw [if_pos hr]
        have e1 : (sn_up p (r u) (r v) x).toNat = r v := by unfold sn_up; rw [if_pos hxa]; rfl
        rw [e1]
        refine uf_fix ?_ _
        unfold sn_up
        rw [if_neg (fun z => hne z.symm)]
        exact pv
      · have e1 : sn_up p (r u) (r v) x = p x := by unfold sn_up; rw [if_neg hxa]
        obtain ⟨g1, g2⟩ := uf_par h hx
        rw [e1, ih _ g1 (by rw [g2]; exact he), g2]
  refine ⟨fun x hx => ?_, fun x hx => ?_⟩
  · unfold sn_up
    split
    · omega
    · exact h.1 x hx
  · obtain ⟨a1, a2, a3⟩ := h.2 x hx
    have hk := key j x hx a3
    refine ⟨?_, ?_, hk⟩
    · unfold jn_step
      split
      · exact rv
      · exact a1
    · unfold jn_step sn_up
      by_cases hx2 : r x = r u
      · rw [if_pos hx2, if_neg (fun z => hne z.symm)]
        exact pv
      · rw [if_neg hx2, if_neg hx2]
        exact a2
def sp_MD_root : sn_P := fun vs σ po => match vs with
  | [.inr (.inr q), .inl l] => q = (40, 0) ∧ (0 ≤ l ∧ l < 60) ∧ ∃ (j : Nat) (r : Nat → Nat), uf_ok 60 (σ.1 58 0) j r ∧ po (some (.inl (r l.toNat : Nat))) σ
  | _ => False
def ca_MD_root : List (Nat × Nat × Nat × sn_P) := []
theorem co_MD_root : ∀ x n ci s', sn_lk ca_MD_root x = some (n, ci, s') → sn_CO "SwitchedNetsModel" sn_ws 0 x n ci s' := fun _ _ _ _ h => by cases h
theorem ct_MD_root : sn_CT y_MD_root ws_MD_root 0 sp_MD_root := by
  refine sn_CT_of (pr := pr_MD_root) (fi := (sn_lk ft_MD)) (lc := (sn_lk lc_MD)) (ca := sn_lk ca_MD_root) pl_MD ?_ pk_MD_root FI_MD LC_MD co_MD_root ?_
  · intro vs σ post h
    unfold sp_MD_root at h
    split at h
    · exact Nat.le_of_ble_eq_true rfl
    · exact h.elim
  · intro vs σ post h hvs hR
    unfold sp_MD_root at h
    split at h
    · next q l =>
      obtain ⟨rfl, ⟨hl0, hl1⟩, j, r, hu, h⟩ := h
      intro G hG
      obtain ⟨ln, rfl⟩ := Int.eq_ofNat_of_zero_le hl0
      have h : post (some (.inl (r ln : Nat))) σ := h
      have loop : ∀ (k x : Nat), x < 60 → r x = r ln → uf_up (σ.1 58 0) k x = r x → G 2 [some (.inr (.inr (40, 0))), some (.inl (ln : Int)), some (.inl (x : Int))] [] σ := by
        intro k
        induction k with
        | zero =>
          intro x hx hr he
          have he : x = r x := he
          have hb : (0 : Int) ≤ (x : Int) ∧ (x : Int) < (60 : Nat) := ⟨by omega, by omega⟩
          obtain ⟨-, a2, -⟩ := hu.2 x hx
          rw [← he] at a2
          refine hG 60 [2] _ _ _ _ ?_
          refine And.intro hb (And.intro (fun c1 => ?_) (fun c1 => ?_))
          · rw [← hr, ← he] at h
            exact h
          · exact absurd a2 c1
        | succ k ih =>
          intro x hx hr he
          have hb : (0 : Int) ≤ (x : Int) ∧ (x : Int) < (60 : Nat) := ⟨by omega, by omega⟩
          refine hG 60 [2] _ _ _ _ ?_
          refine And.intro hb (And.intro (fun c1 => ?_) (fun c1 => And.intro hb ?_))
          · have c1 : σ.1 58 0 x = (x : Int) := c1
            have e : uf_up (σ.1 58 0) (k + 1) x = x := uf_fix c1 _
            rw [e] at he
            rw [← hr, ← he] at h
            exact h
          · obtain ⟨g1, g2⟩ := uf_par hu hx
            have g3 := hu.1 x hx
            have e : ((σ.1 58 0 x).toNat : Int) = σ.1 58 0 x := by omega
            have hi := ih (σ.1 58 0 x).toNat g1 (g2.trans hr) (by rw [g2, ← uf_up_s]; exact he)
            rw [e] at hi
            exact hi
      refine hG 60 [2] _ _ _ _ ?_
      exact loop j ln (by omega) rfl (hu.2 ln (by omega)).2.2
    · exact h.elim
