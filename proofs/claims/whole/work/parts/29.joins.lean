/-! Joining edges one by one: how many joins succeed, and what is joined in the end, don't depend on the order. -/
def jn_step (r : Nat → Nat) (u v : Nat) : Nat → Nat := fun x => if r x = r u then r v else r x
def jn_run (E : List (Nat × Nat)) (r : Nat → Nat) : (Nat → Nat) × Nat := match E with
  | [] => (r, 0)
  | q :: t => if r q.1 = r q.2 then jn_run t r else ((jn_run t (jn_step r q.1 q.2)).1, (jn_run t (jn_step r q.1 q.2)).2 + 1)
def jn_eq (r r' : Nat → Nat) : Prop := ∀ x y, r x = r y ↔ r' x = r' y
theorem jn_eq_rf (r : Nat → Nat) : jn_eq r r := fun _ _ => Iff.rfl
theorem jn_eq_tr {r s t : Nat → Nat} (h : jn_eq r s) (g : jn_eq s t) : jn_eq r t := fun x y => (h x y).trans (g x y)
theorem jn_eq_sy {r s : Nat → Nat} (h : jn_eq r s) : jn_eq s r := fun x y => (h x y).symm
theorem jn_step_iff (r : Nat → Nat) (u v x y : Nat) : jn_step r u v x = jn_step r u v y ↔ (r x = r y ∨ ((r x = r u ∨ r x = r v) ∧ (r y = r u ∨ r y = r v))) := by
  unfold jn_step
  split <;> split <;> omega
theorem jn_step_eq {r r' : Nat → Nat} (h : jn_eq r r') (u v : Nat) : jn_eq (jn_step r u v) (jn_step r' u v) := by
  intro x y
  rw [jn_step_iff, jn_step_iff, h x y, h x u, h x v, h y u, h y v]
theorem jn_run_eq (E : List (Nat × Nat)) : ∀ r r' : Nat → Nat, jn_eq r r' → (jn_run E r).2 = (jn_run E r').2 ∧ jn_eq (jn_run E r).1 (jn_run E r').1 := by
  induction E with
  | nil => intro r r' h; exact ⟨rfl, h⟩
  | cons q t ih =>
    intro r r' h
    unfold jn_run
    by_cases hq : r q.1 = r q.2
    · rw [if_pos hq, if_pos ((h _ _).mp hq)]
      exact ih r r' h
    · rw [if_neg hq, if_neg (fun z => hq ((h _ _).mpr z))]
      obtain ⟨h1, h2⟩ := ih _ _ (jn_step_eq h q.1 q.2)
      exact ⟨congrArg (· + 1) h1, h2⟩
theorem jn_app (E F : List (Nat × Nat)) : ∀ r : Nat → Nat, jn_run (E ++ F) r = ((jn_run F (jn_run E r).1).1, (jn_run E r).2 + (jn_run F (jn_run E r).1).2) := by
  induction E with
  | nil => intro r; simp [jn_run]
  | cons q t ih =>
    intro r
    rw [List.cons_append, jn_run, jn_run]
    by_cases hq : r q.1 = r q.2
    · rw [if_pos hq, if_pos hq, ih]
    · rw [if_neg hq, if_neg hq, ih]
      simp only [Prod.mk.injEq, true_and]
      omega
theorem jn_le (E : List (Nat × Nat)) : ∀ r : Nat → Nat, (jn_run E r).2 ≤ E.length := by
  induction E with
  | nil => intro r; exact Nat.le_refl _
  | cons q t ih =>
    intro r
    rw [jn_run]
    split
    · exact Nat.le_trans (ih r) (Nat.le_succ _)
    · exact Nat.succ_le_succ (ih _)
/-- what was joined stays joined -/
theorem jn_keep (E : List (Nat × Nat)) : ∀ (r : Nat → Nat) (x y : Nat), r x = r y → (jn_run E r).1 x = (jn_run E r).1 y := by
  induction E with
  | nil => intro r x y h; exact h
  | cons q t ih =>
    intro r x y h
    rw [jn_run]
    split
    · exact ih r x y h
    · exact ih _ x y ((jn_step_iff r q.1 q.2 x y).mpr (Or.inl h))
theorem jn_in (E : List (Nat × Nat)) : ∀ (r : Nat → Nat) (q : Nat × Nat), q ∈ E → (jn_run E r).1 q.1 = (jn_run E r).1 q.2 := by
  induction E with
  | nil => intro r q h; cases h
  | cons p t ih =>
    intro r q h
    rw [jn_run]
    rcases List.mem_cons.mp h with rfl | h
    · split
      · next hq => exact jn_keep t r _ _ hq
      · exact jn_keep t _ _ _ ((jn_step_iff r q.1 q.2 q.1 q.2).mpr (Or.inr ⟨Or.inl rfl, Or.inr rfl⟩))
    · split
      · exact ih r q h
      · exact ih _ q h
/-- a relation that holds of all edges, and an equivalence, holds of all that is joined -/
theorem jn_least {P : Nat → Nat → Prop} (hs : ∀ x y, P x y → P y x) (ht : ∀ x y z, P x y → P y z → P x z) (E : List (Nat × Nat)) : ∀ r : Nat → Nat, (∀ x y, r x = r y → P x y) → (∀ q ∈ E, P q.1 q.2) → ∀ x y, (jn_run E r).1 x = (jn_run E r).1 y → P x y := by
  induction E with
  | nil => intro r h _ x y hxy; exact h x y hxy
  | cons q t ih =>
    intro r h hE
    rw [jn_run]
    split
    · exact ih r h (fun p hp => hE p (List.mem_cons_of_mem _ hp))
    · refine ih _ (fun x y hxy => ?_) (fun p hp => hE p (List.mem_cons_of_mem _ hp))
      have hq := hE q List.mem_cons_self
      rcases (jn_step_iff r q.1 q.2 x y).mp hxy with h1 | ⟨h1 | h1, h2 | h2⟩
      · exact h x y h1
      · exact h x y (h1.trans h2.symm)
      · exact ht _ _ _ (h _ _ h1) (ht _ _ _ hq (h _ _ h2.symm))
      · exact ht _ _ _ (h _ _ h1) (ht _ _ _ (hs _ _ hq) (h _ _ h2.symm))
      · exact h x y (h1.trans h2.symm)
theorem jn_sub {E F : List (Nat × Nat)} (h : ∀ q ∈ E, q ∈ F) (r : Nat → Nat) (x y : Nat) (hxy : (jn_run E r).1 x = (jn_run E r).1 y) : (jn_run F r).1 x = (jn_run F r).1 y :=
  jn_least (P := fun x y => (jn_run F r).1 x = (jn_run F r).1 y) (fun _ _ h => h.symm) (fun _ _ _ h g => h.trans g) E r (fun x y h => jn_keep F r x y h) (fun q hq => jn_in F r q (h q hq)) x y hxy
theorem jn_sub2 {E F : List (Nat × Nat)} (h : ∀ q, q ∈ E ↔ q ∈ F) (r : Nat → Nat) : jn_eq (jn_run E r).1 (jn_run F r).1 := fun x y => ⟨jn_sub (fun q hq => (h q).mp hq) r x y, jn_sub (fun q hq => (h q).mpr hq) r x y⟩
theorem jn_run1 (p : Nat × Nat) (t : List (Nat × Nat)) (s : Nat → Nat) : jn_run (p :: t) s = if s p.1 = s p.2 then jn_run t s else ((jn_run t (jn_step s p.1 p.2)).1, (jn_run t (jn_step s p.1 p.2)).2 + 1) := by rw [jn_run]
theorem jn_two (r : Nat → Nat) (p q : Nat × Nat) : (jn_run [p, q] r).2 = (jn_run [q, p] r).2 := by
  simp only [jn_run1]
  have i1 := jn_step_iff r p.1 p.2 q.1 q.2
  have i2 := jn_step_iff r q.1 q.2 p.1 p.2
  by_cases hp : r p.1 = r p.2 <;> by_cases hq : r q.1 = r q.2
  · simp only [hp, hq, if_true]
  · have h2 : jn_step r q.1 q.2 p.1 = jn_step r q.1 q.2 p.2 := i2.mpr (Or.inl hp)
    simp only [hp, hq, h2, if_true, if_false, jn_run]
  · have h1 : jn_step r p.1 p.2 q.1 = jn_step r p.1 p.2 q.2 := i1.mpr (Or.inl hq)
    simp only [hp, hq, h1, if_true, if_false, jn_run]
  · by_cases h1 : jn_step r p.1 p.2 q.1 = jn_step r p.1 p.2 q.2
    · have h2 : jn_step r q.1 q.2 p.1 = jn_step r q.1 q.2 p.2 := by
        apply i2.mpr
        have := i1.mp h1
        omega
      simp only [hp, hq, h1, h2, if_true, if_false, jn_run]
    · have h2 : ¬ jn_step r q.1 q.2 p.1 = jn_step r q.1 q.2 p.2 := by
        intro z
        apply h1
        apply i1.mpr
        have := i2.mp z
        omega
      simp only [hp, hq, h1, h2, if_false, jn_run]
theorem jn_swap (r : Nat → Nat) (p q : Nat × Nat) (t : List (Nat × Nat)) : (jn_run (p :: q :: t) r).2 = (jn_run (q :: p :: t) r).2 ∧ jn_eq (jn_run (p :: q :: t) r).1 (jn_run (q :: p :: t) r).1 := by
  refine ⟨?_, jn_sub2 (fun z => by simp only [List.mem_cons]; exact ⟨fun h => by rcases h with h | h | h <;> simp [h], fun h => by rcases h with h | h | h <;> simp [h]⟩) r⟩
  have e1 := jn_app [p, q] t r
  have e2 := jn_app [q, p] t r
  have h := jn_run_eq t _ _ (jn_sub2 (E := [p, q]) (F := [q, p]) (fun z => by simp only [List.mem_cons]; exact ⟨fun h => by rcases h with h | h | h <;> simp_all, fun h => by rcases h with h | h | h <;> simp_all⟩) r)
  have h2 := jn_two r p q
  show (jn_run ([p, q] ++ t) r).2 = (jn_run ([q, p] ++ t) r).2
  rw [e1, e2]
  show (jn_run [p, q] r).2 + _ = (jn_run [q, p] r).2 + _
  rw [h2, h.1]
theorem jn_perm {E F : List (Nat × Nat)} (h : E.Perm F) : ∀ r : Nat → Nat, (jn_run E r).2 = (jn_run F r).2 ∧ jn_eq (jn_run E r).1 (jn_run F r).1 := by
  induction h with
  | nil => intro r; exact ⟨rfl, jn_eq_rf _⟩
  | cons q _ ih =>
    intro r
    rw [jn_run, jn_run]
    by_cases hq : r q.1 = r q.2
    · rw [if_pos hq, if_pos hq]
      exact ih r
    · rw [if_neg hq, if_neg hq]
      obtain ⟨a, b⟩ := ih (jn_step r q.1 q.2)
      exact ⟨congrArg (· + 1) a, b⟩
  | swap q p t => intro r; exact jn_swap r p q t
  | trans _ _ ih1 ih2 =>
    intro r
    exact ⟨(ih1 r).1.trans (ih2 r).1, jn_eq_tr (ih1 r).2 (ih2 r).2⟩
