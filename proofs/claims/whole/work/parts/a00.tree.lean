/-! What a list of edges connects; counting. -/
def cn (E : List (Nat × Nat)) (x y : Nat) : Prop := (jn_run E (fun x => x)).1 x = (jn_run E (fun x => x)).1 y
theorem cn_rf (E : List (Nat × Nat)) (x : Nat) : cn E x x := rfl
theorem cn_sy {E : List (Nat × Nat)} {x y : Nat} (h : cn E x y) : cn E y x := Eq.symm h
theorem cn_tr {E : List (Nat × Nat)} {x y z : Nat} (h : cn E x y) (g : cn E y z) : cn E x z := Eq.trans h g
theorem cn_in {E : List (Nat × Nat)} {q : Nat × Nat} (h : q ∈ E) : cn E q.1 q.2 := jn_in E _ q h
theorem cn_least {P : Nat → Nat → Prop} (hr : ∀ x, P x x) (hs : ∀ x y, P x y → P y x) (ht : ∀ x y z, P x y → P y z → P x z) {E : List (Nat × Nat)} (h : ∀ q ∈ E, P q.1 q.2) {x y : Nat} (c : cn E x y) : P x y :=
  jn_least hs ht E _ (fun x y e => by have e : x = y := e; rw [e]; exact hr y) h x y c
theorem cn_lift {E F : List (Nat × Nat)} (h : ∀ q ∈ E, cn F q.1 q.2) {x y : Nat} (c : cn E x y) : cn F x y := cn_least (P := fun x y => cn F x y) (cn_rf F) (fun _ _ => cn_sy) (fun _ _ _ => cn_tr) h c
theorem cn_sub {E F : List (Nat × Nat)} (h : ∀ q ∈ E, q ∈ F) {x y : Nat} (c : cn E x y) : cn F x y := cn_lift (fun q hq => cn_in (h q hq)) c
theorem cn_map (φ : Nat → Nat) {E F : List (Nat × Nat)} (h : ∀ q ∈ E, cn F (φ q.1) (φ q.2)) {x y : Nat} (c : cn E x y) : cn F (φ x) (φ y) := cn_least (P := fun x y => cn F (φ x) (φ y)) (fun _ => cn_rf F _) (fun _ _ => cn_sy) (fun _ _ _ => cn_tr) h c
theorem cn_perm {E F : List (Nat × Nat)} (h : E.Perm F) {x y : Nat} (c : cn E x y) : cn F x y := cn_sub (fun q hq => h.mem_iff.mp hq) c
/-- one more edge -/
theorem cn_add {E : List (Nat × Nat)} {q : Nat × Nat} {x y : Nat} (h : cn (q :: E) x y) : cn E x y ∨ (cn E x q.1 ∧ cn E q.2 y) ∨ (cn E x q.2 ∧ cn E q.1 y) := by
  refine cn_least (P := fun x y => cn E x y ∨ (cn E x q.1 ∧ cn E q.2 y) ∨ (cn E x q.2 ∧ cn E q.1 y)) (fun x => Or.inl (cn_rf E x)) (fun x y h => ?_) (fun x y z h g => ?_) (fun p hp => ?_) h
  · rcases h with h | ⟨h1, h2⟩ | ⟨h1, h2⟩
    · exact Or.inl (cn_sy h)
    · exact Or.inr (Or.inr ⟨cn_sy h2, cn_sy h1⟩)
    · exact Or.inr (Or.inl ⟨cn_sy h2, cn_sy h1⟩)
  · rcases h with h | ⟨h1, h2⟩ | ⟨h1, h2⟩ <;> rcases g with g | ⟨g1, g2⟩ | ⟨g1, g2⟩
    · exact Or.inl (cn_tr h g)
    · exact Or.inr (Or.inl ⟨cn_tr h g1, g2⟩)
    · exact Or.inr (Or.inr ⟨cn_tr h g1, g2⟩)
    · exact Or.inr (Or.inl ⟨h1, cn_tr h2 g⟩)
    · exact Or.inr (Or.inl ⟨h1, g2⟩)
    · exact Or.inl (cn_tr h1 g2)
    · exact Or.inr (Or.inr ⟨h1, cn_tr h2 g⟩)
    · exact Or.inl (cn_tr h1 g2)
    · exact Or.inr (Or.inr ⟨h1, g2⟩)
  · rcases List.mem_cons.mp hp with rfl | hp
    · exact Or.inr (Or.inl ⟨cn_rf E _, cn_rf E _⟩)
    · exact Or.inl (cn_in hp)
/-- of things that differ in r, at most one has a given value -/
theorem pw_f {α : Type} {r : α → Nat} (a : Nat) : ∀ (R : List α), R.Pairwise (fun x y => r x ≠ r y) → R.length ≤ (R.filter (fun x => decide (r x ≠ a))).length + 1 := by
  intro R
  induction R with
  | nil => intro _; exact Nat.zero_le _
  | cons x t ih =>
    intro h
    obtain ⟨h1, h2⟩ := List.pairwise_cons.mp h
    by_cases e : r x = a
    · rw [List.filter_cons_of_neg (by simp [e])]
      have hs : t.filter (fun x => decide (r x ≠ a)) = t := List.filter_eq_self.mpr (fun y hy => decide_eq_true (fun (z : r y = a) => h1 y hy (e.trans z.symm)))
      rw [hs]
      exact Nat.le_refl _
    · rw [List.filter_cons_of_pos (by simp [e])]
      have := ih h2
      simp only [List.length_cons]
      omega
theorem jn_pack : ∀ (E : List (Nat × Nat)) (r : Nat → Nat) (R : List Nat), R.Pairwise (fun x y => r x ≠ r y) → ∃ R' : List Nat, (∀ x ∈ R', x ∈ R) ∧ R'.Pairwise (fun x y => (jn_run E r).1 x ≠ (jn_run E r).1 y) ∧ R.length ≤ R'.length + E.length := by
  intro E
  induction E with
  | nil => intro r R h; exact ⟨R, fun _ h => h, h, Nat.le_refl _⟩
  | cons q t ih =>
    intro r R h
    rw [jn_run1]
    by_cases e : r q.1 = r q.2
    · rw [if_pos e]
      obtain ⟨R', h1, h2, h3⟩ := ih r R h
      exact ⟨R', h1, h2, by simp only [List.length_cons]; omega⟩
    · rw [if_neg e]
      have hp : (R.filter (fun x => decide (r x ≠ r q.1))).Pairwise (fun x y => jn_step r q.1 q.2 x ≠ jn_step r q.1 q.2 y) := by
        refine (List.Pairwise.filter _ h).imp_of_mem ?_
        intro x y hx hy hxy z
        have x1 := of_decide_eq_true (List.mem_filter.mp hx).2
        have y1 := of_decide_eq_true (List.mem_filter.mp hy).2
        rcases (jn_step_iff r q.1 q.2 x y).mp z with w | ⟨w1, w2⟩
        · exact hxy w
        · rcases w1 with w1 | w1
          · exact x1 w1
          · rcases w2 with w2 | w2
            · exact y1 w2
            · exact hxy (w1.trans w2.symm)
      obtain ⟨R', h1, h2, h3⟩ := ih _ _ hp
      have := pw_f (r q.1) R h
      refine ⟨R', fun x hx => (List.mem_filter.mp (h1 x hx)).1, h2, by simp only [List.length_cons]; omega⟩
/-- to connect n things takes n - 1 edges -/
theorem cn_len {A : List Nat} (hA : A.Nodup) {E : List (Nat × Nat)} (h : ∀ x ∈ A, ∀ y ∈ A, cn E x y) : A.length ≤ E.length + 1 := by
  obtain ⟨R, h1, h2, h3⟩ := jn_pack E (fun x => x) A hA
  have : R.length ≤ 1 := by
    match R, h1, h2 with
    | [], _, _ => exact Nat.zero_le _
    | [x], _, _ => exact Nat.le_refl _
    | x :: y :: t, h1, h2 =>
      exact absurd (h x (h1 x List.mem_cons_self) y (h1 y (List.mem_cons_of_mem _ List.mem_cons_self))) ((List.pairwise_cons.mp h2).1 y List.mem_cons_self)
  omega
/-- edges that all join something connect all, if there are enough -/
theorem jn_cover {A : List Nat} : ∀ (E : List (Nat × Nat)) (r : Nat → Nat) (R : List Nat), (∀ q ∈ E, q.1 ∈ A ∧ q.2 ∈ A) → (∀ x ∈ A, ∃ y ∈ R, r x = r y) → ∃ R' : List Nat, (∀ x ∈ A, ∃ y ∈ R', (jn_run E r).1 x = (jn_run E r).1 y) ∧ R'.length + (jn_run E r).2 = R.length := by
  intro E
  induction E with
  | nil => intro r R _ h; exact ⟨R, h, rfl⟩
  | cons q t ih =>
    intro r R hq h
    rw [jn_run1]
    by_cases e : r q.1 = r q.2
    · rw [if_pos e]
      exact ih r R (fun p hp => hq p (List.mem_cons_of_mem _ hp)) h
    · rw [if_neg e]
      obtain ⟨q1, q2⟩ := hq q List.mem_cons_self
      obtain ⟨yu, hyu, eu⟩ := h q.1 q1
      obtain ⟨yv, hyv, ev⟩ := h q.2 q2
      have hne : yv ≠ yu := fun z => e (by rw [eu, ev, z])
      obtain ⟨R', h1, h2⟩ := ih (jn_step r q.1 q.2) (R.erase yu) (fun p hp => hq p (List.mem_cons_of_mem _ hp)) (fun x hx => by
        obtain ⟨y, hy, exy⟩ := h x hx
        by_cases z : y = yu
        · refine ⟨yv, (List.mem_erase_of_ne hne).mpr hyv, (jn_step_iff _ _ _ _ _).mpr (Or.inr ⟨Or.inl ?_, Or.inr ev.symm⟩)⟩
          rw [exy, z, eu]
        · exact ⟨y, (List.mem_erase_of_ne z).mpr hy, (jn_step_iff _ _ _ _ _).mpr (Or.inl exy)⟩)
      refine ⟨R', h1, ?_⟩
      have hl := List.length_erase_of_mem hyu
      have hp := List.length_pos_of_mem hyu
      show R'.length + ((jn_run t (jn_step r q.1 q.2)).2 + 1) = R.length
      omega
theorem cn_full {A : List Nat} {E : List (Nat × Nat)} (hq : ∀ q ∈ E, q.1 ∈ A ∧ q.2 ∈ A) (h1 : (jn_run E (fun x => x)).2 = E.length) (h2 : A.length ≤ E.length + 1) : ∀ x ∈ A, ∀ y ∈ A, cn E x y := by
  obtain ⟨R, c1, c2⟩ := jn_cover E (fun x => x) A hq (fun x hx => ⟨x, hx, rfl⟩)
  intro x hx y hy
  obtain ⟨u, hu, eu⟩ := c1 x hx
  obtain ⟨v, hv, ev⟩ := c1 y hy
  have : R.length ≤ 1 := by omega
  match R, hu, hv, this with
  | [w], hu, hv, _ =>
    obtain rfl := List.mem_singleton.mp hu
    obtain rfl := List.mem_singleton.mp hv
    exact eu.trans ev.symm
  | [], hu, _, _ => cases hu
  | _ :: _ :: _, _, _, h => simp only [List.length_cons] at h; omega
/-- pars: the link, and where its two premises come from -/
def ce (ch : Nat → Bool) (Q : List (Nat × Nat × Nat)) : List (Nat × Nat) := Q.map (fun q => (if ch q.1 then q.2.2 else q.2.1, q.1))
def ex (Q : List (Nat × Nat × Nat)) (k : Nat) : List (Nat × Nat × Nat) := Q.filter (fun q => decide (q.1 ≠ k))
def kn (Q : List (Nat × Nat × Nat)) : Prop := Q.Pairwise (fun p q => p.1 ≠ q.1)
theorem ex_in {Q : List (Nat × Nat × Nat)} {k : Nat} {q : Nat × Nat × Nat} : q ∈ ex Q k ↔ q ∈ Q ∧ q.1 ≠ k := by
  unfold ex
  rw [List.mem_filter]
  exact and_congr_right (fun _ => ⟨fun h => of_decide_eq_true h, fun h => decide_eq_true h⟩)
theorem ex_kn {Q : List (Nat × Nat × Nat)} (h : kn Q) (k : Nat) : kn (ex Q k) := List.Pairwise.filter _ h
theorem kn_u {Q : List (Nat × Nat × Nat)} (h : kn Q) {p q : Nat × Nat × Nat} (hp : p ∈ Q) (hq : q ∈ Q) (e : p.1 = q.1) : p = q := by
  induction Q with
  | nil => cases hp
  | cons a t ih =>
    obtain ⟨h1, h2⟩ := List.pairwise_cons.mp h
    rcases List.mem_cons.mp hp with p1 | p1 <;> rcases List.mem_cons.mp hq with q1 | q1
    · rw [p1, q1]
    · rw [p1] at e
      exact absurd e (h1 q q1)
    · rw [q1] at e
      exact absurd e.symm (h1 p p1)
    · exact ih h2 p1 q1
theorem ex_len {Q : List (Nat × Nat × Nat)} (h : kn Q) {q : Nat × Nat × Nat} (hq : q ∈ Q) : (ex Q q.1).length + 1 = Q.length := by
  induction Q with
  | nil => cases hq
  | cons a t ih =>
    obtain ⟨h1, h2⟩ := List.pairwise_cons.mp h
    rcases List.mem_cons.mp hq with rfl | hq
    · have hs : t.filter (fun p => decide (p.1 ≠ q.1)) = t := List.filter_eq_self.mpr (fun y hy => decide_eq_true (Ne.symm (h1 y hy)))
      unfold ex
      rw [List.filter_cons_of_neg (by simp), hs]
      rfl
    · have := ih h2 hq
      unfold ex at this ⊢
      have ha : (fun p : Nat × Nat × Nat => decide (p.1 ≠ q.1)) a = true := decide_eq_true (h1 q hq)
      rw [List.filter_cons_of_pos (p := fun p : Nat × Nat × Nat => decide (p.1 ≠ q.1)) ha]
      simp only [List.length_cons]
      omega
theorem ce_in {ch : Nat → Bool} {Q : List (Nat × Nat × Nat)} {e : Nat × Nat} : e ∈ ce ch Q ↔ ∃ q ∈ Q, e = (if ch q.1 then q.2.2 else q.2.1, q.1) := by
  unfold ce
  rw [List.mem_map]
  exact ⟨fun ⟨q, h1, h2⟩ => ⟨q, h1, h2.symm⟩, fun ⟨q, h1, h2⟩ => ⟨q, h1, h2.symm⟩⟩
theorem ce_len (ch : Nat → Bool) (Q : List (Nat × Nat × Nat)) : (ce ch Q).length = Q.length := List.length_map _
