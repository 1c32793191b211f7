/-! Where every choice at the pars gives a tree, some par has both premises in one part that has no par. -/
/-- every choice connects, and there are just enough edges -/
def gd (A : List Nat) (B : List (Nat × Nat)) (Q : List (Nat × Nat × Nat)) : Prop := A.Nodup ∧ kn Q ∧ B.length + Q.length + 1 = A.length ∧ (∀ q ∈ Q, q.1 ∈ A ∧ q.2.1 ∈ A ∧ q.2.2 ∈ A) ∧ ∀ ch, ∀ x ∈ A, ∀ y ∈ A, cn (B ++ ce ch Q) x y
def cx (ch : Nat → Bool) (q : Nat × Nat × Nat) : Nat := if ch q.1 then q.2.2 else q.2.1
theorem ce_at {ch : Nat → Bool} {Q : List (Nat × Nat × Nat)} {q : Nat × Nat × Nat} (h : q ∈ Q) : (cx ch q, q.1) ∈ ce ch Q := ce_in.mpr ⟨q, h, rfl⟩
/-- a par's chosen premise is a bridge -/
theorem gd_br {A : List Nat} {B : List (Nat × Nat)} {Q : List (Nat × Nat × Nat)} (h : gd A B Q) (ch : Nat → Bool) {q : Nat × Nat × Nat} (hq : q ∈ Q) : ¬ cn (B ++ ce ch (ex Q q.1)) (cx ch q) q.1 := by
  intro c
  obtain ⟨h1, h2, h3, -, h5⟩ := h
  have := cn_len h1 (E := B ++ ce ch (ex Q q.1)) (fun x hx y hy => cn_lift (fun e he => by
    rcases List.mem_append.mp he with he | he
    · exact cn_in (List.mem_append_left _ he)
    · obtain ⟨p, hp, rfl⟩ := ce_in.mp he
      by_cases z : p.1 = q.1
      · obtain rfl := kn_u h2 hp hq z
        exact c
      · exact cn_in (List.mem_append_right _ (ce_in.mpr ⟨p, ex_in.mpr ⟨hp, z⟩, rfl⟩))) (h5 ch x hx y hy))
  have := ex_len h2 hq
  rw [List.length_append, ce_len] at *
  omega
def fl (ch : Nat → Bool) (k : Nat) (b : Bool) : Nat → Bool := fun x => if x = k then b else ch x
theorem ce_fl {ch : Nat → Bool} {Q : List (Nat × Nat × Nat)} {k : Nat} {b : Bool} (h : ∀ q ∈ Q, q.1 ≠ k) : ce (fl ch k b) Q = ce ch Q := by
  unfold ce
  refine List.map_congr_left (fun q hq => ?_)
  have : fl ch k b q.1 = ch q.1 := by unfold fl; rw [if_neg (h q hq)]
  rw [this]
theorem ce_ex {ch : Nat → Bool} {Q : List (Nat × Nat × Nat)} {k : Nat} {b : Bool} : ce (fl ch k b) (ex Q k) = ce ch (ex Q k) := ce_fl (fun _ hq => (ex_in.mp hq).2)
/-- both premises lie on the same side -/
theorem gd_ab {A : List Nat} {B : List (Nat × Nat)} {Q : List (Nat × Nat × Nat)} (h : gd A B Q) (ch : Nat → Bool) {q : Nat × Nat × Nat} (hq : q ∈ Q) : cn (B ++ ce ch (ex Q q.1)) q.2.1 q.2.2 := by
  have br := fun b => gd_br h (fl ch q.1 b) hq
  have b0 := br false
  have b1 := br true
  rw [ce_ex] at b0 b1
  have e0 : cx (fl ch q.1 false) q = q.2.1 := by unfold cx fl; simp
  have e1 : cx (fl ch q.1 true) q = q.2.2 := by unfold cx fl; simp
  rw [e0] at b0
  rw [e1] at b1
  obtain ⟨-, h2, -, h4, h5⟩ := h
  obtain ⟨k1, k2, k3⟩ := h4 q hq
  have c := h5 (fl ch q.1 true) q.2.1 k2 q.1 k1
  have c : cn ((q.2.2, q.1) :: (B ++ ce ch (ex Q q.1))) q.2.1 q.1 := cn_sub (fun e he => by
    rcases List.mem_append.mp he with he | he
    · exact List.mem_cons_of_mem _ (List.mem_append_left _ he)
    · obtain ⟨p, hp, rfl⟩ := ce_in.mp he
      by_cases z : p.1 = q.1
      · obtain rfl := kn_u h2 hp hq z
        rw [show (if fl ch p.1 true p.1 = true then p.2.2 else p.2.1) = p.2.2 from e1]
        exact List.mem_cons_self
      · refine List.mem_cons_of_mem _ (List.mem_append_right _ ?_)
        rw [← ce_ex (b := true)]
        exact ce_in.mpr ⟨p, ex_in.mpr ⟨hp, z⟩, rfl⟩) c
  rcases cn_add c with c | ⟨c, -⟩ | ⟨c, -⟩
  · exact absurd c b0
  · exact c
  · exact absurd c b0
/-- the edge at which two things come together -/
theorem cn_sep {B : List (Nat × Nat)} {x y : Nat} : ∀ (L : List (Nat × Nat)), cn (B ++ L) x y → ¬ cn B x y → ∃ (B1 : List (Nat × Nat)) (e : Nat × Nat), (∀ p ∈ B1, p ∈ B ∨ p ∈ L) ∧ e ∈ L ∧ ¬ cn B1 x y ∧ ((cn B1 x e.1 ∧ cn B1 e.2 y) ∨ (cn B1 x e.2 ∧ cn B1 e.1 y)) ∧ (∀ p ∈ B, p ∈ B1) := by
  intro L
  induction L generalizing B with
  | nil => intro h g; rw [List.append_nil] at h; exact absurd h g
  | cons e t ih =>
    intro h g
    by_cases c : cn (e :: B) x y
    · rcases cn_add c with c | c | c
      · exact absurd c g
      · exact ⟨B, e, fun p hp => Or.inl hp, List.mem_cons_self, g, Or.inl c, fun p hp => hp⟩
      · exact ⟨B, e, fun p hp => Or.inl hp, List.mem_cons_self, g, Or.inr c, fun p hp => hp⟩
    · obtain ⟨B1, e1, h1, h2, h3, h4, h5⟩ := ih (B := e :: B) (cn_sub (fun p hp => by
        rcases List.mem_append.mp hp with hp | hp
        · exact List.mem_append_left _ (List.mem_cons_of_mem _ hp)
        · rcases List.mem_cons.mp hp with rfl | hp
          · exact List.mem_append_left _ List.mem_cons_self
          · exact List.mem_append_right _ hp) h) c
      refine ⟨B1, e1, fun p hp => ?_, List.mem_cons_of_mem _ h2, h3, h4, fun p hp => h5 p (List.mem_cons_of_mem _ hp)⟩
      rcases h1 p hp with z | z
      · rcases List.mem_cons.mp z with rfl | z
        · exact Or.inr List.mem_cons_self
        · exact Or.inl z
      · exact Or.inr (List.mem_cons_of_mem _ z)
noncomputable def fc (A : List Nat) (P : Nat → Prop) : Nat := (A.filter (fun x => @decide (P x) (Classical.propDecidable _))).length
theorem fc_lt {A : List Nat} {P P' : Nat → Prop} (h : ∀ x, P' x → P x) {z : Nat} (hz : z ∈ A) (h1 : P z) (h2 : ¬ P' z) : fc A P' < fc A P := by
  induction A with
  | nil => cases hz
  | cons a t ih =>
    have le : ∀ l : List Nat, fc l P' ≤ fc l P := by
      intro l
      induction l with
      | nil => exact Nat.le_refl _
      | cons b u ihu =>
        unfold fc at ihu ⊢
        by_cases p' : P' b
        · rw [List.filter_cons_of_pos (by simpa using p'), List.filter_cons_of_pos (by simpa using h b p')]
          exact Nat.succ_le_succ ihu
        · rw [List.filter_cons_of_neg (by simpa using p')]
          by_cases p : P b
          · rw [List.filter_cons_of_pos (by simpa using p)]
            exact Nat.le_succ_of_le ihu
          · rw [List.filter_cons_of_neg (by simpa using p)]
            exact ihu
    rcases List.mem_cons.mp hz with rfl | hz
    · have l := le t
      unfold fc at l ⊢
      rw [List.filter_cons_of_neg (by simpa using h2), List.filter_cons_of_pos (by simpa using h1)]
      exact Nat.lt_succ_of_le l
    · have l := ih hz
      unfold fc at l ⊢
      by_cases p' : P' a
      · rw [List.filter_cons_of_pos (by simpa using p'), List.filter_cons_of_pos (by simpa using h a p')]
        exact Nat.succ_lt_succ l
      · rw [List.filter_cons_of_neg (by simpa using p')]
        by_cases p : P a
        · rw [List.filter_cons_of_pos (by simpa using p)]
          exact Nat.lt_succ_of_lt l
        · rw [List.filter_cons_of_neg (by simpa using p)]
          exact l
theorem gd_no {A : List Nat} {B : List (Nat × Nat)} {Q : List (Nat × Nat × Nat)} (h : gd A B Q) (hab : ∀ q ∈ Q, ¬ cn B q.2.1 q.2.2) : ∀ (m : Nat) (ch : Nat → Bool) (q : Nat × Nat × Nat), q ∈ Q → fc A (fun x => cn (B ++ ce ch (ex Q q.1)) x (cx ch q)) ≤ m → False := by
  intro m
  induction m with
  | zero =>
    intro ch q hq hm
    have hc : cx ch q ∈ A := by
      obtain ⟨-, k2, k3⟩ := h.2.2.2.1 q hq
      unfold cx
      split
      · exact k3
      · exact k2
    have := fc_lt (A := A) (P := fun x => cn (B ++ ce ch (ex Q q.1)) x (cx ch q)) (P' := fun _ => False) (fun _ z => z.elim) hc (cn_rf _ _) (fun z => z)
    omega
  | succ m ih =>
    intro ch q hq hm
    have ab := gd_ab h ch hq
    have bq := gd_br h ch hq
    obtain ⟨k1, k2, k3⟩ := h.2.2.2.1 q hq
    obtain ⟨B1, e, s1, s2, s3, s4, s5⟩ := cn_sep (ce ch (ex Q q.1)) ab (hab q hq)
    obtain ⟨j, hj, rfl⟩ := ce_in.mp s2
    obtain ⟨hjQ, hjq⟩ := ex_in.mp hj
    -- all edges but those of q and j
    have gsub : ∀ p ∈ B ++ ce ch (ex (ex Q q.1) j.1), p ∈ B ++ ce ch (ex Q q.1) := by
      intro p hp
      rcases List.mem_append.mp hp with hp | hp
      · exact List.mem_append_left _ hp
      · obtain ⟨r, hr, rfl⟩ := ce_in.mp hp
        exact List.mem_append_right _ (ce_in.mpr ⟨r, (ex_in.mp hr).1, rfl⟩)
    have gsub2 : ∀ p ∈ B ++ ce ch (ex (ex Q q.1) j.1), p ∈ B ++ ce ch (ex Q j.1) := by
      intro p hp
      rcases List.mem_append.mp hp with hp | hp
      · exact List.mem_append_left _ hp
      · obtain ⟨r, hr, rfl⟩ := ce_in.mp hp
        exact List.mem_append_right _ (ce_in.mpr ⟨r, ex_in.mpr ⟨(ex_in.mp (ex_in.mp hr).1).1, (ex_in.mp hr).2⟩, rfl⟩)
    have bj := gd_br h ch hjQ
    have nj : ¬ ((cx ch j, j.1) : Nat × Nat) ∈ B1 := fun z => by
      rcases s4 with ⟨c1, c2⟩ | ⟨c1, c2⟩
      · exact s3 (cn_tr c1 (cn_tr (cn_in z) c2))
      · exact s3 (cn_tr c1 (cn_tr (cn_sy (cn_in z)) c2))
    have b1sub : ∀ p ∈ B1, p ∈ B ++ ce ch (ex (ex Q q.1) j.1) := by
      intro p hp
      rcases s1 p hp with z | z
      · exact List.mem_append_left _ z
      · obtain ⟨r, hr, rfl⟩ := ce_in.mp z
        refine List.mem_append_right _ (ce_in.mpr ⟨r, ex_in.mpr ⟨hr, fun y => ?_⟩, rfl⟩)
        obtain rfl := kn_u h.2.1 (ex_in.mp hr).1 hjQ y
        exact nj hp
    have lift1 : ∀ {u v}, cn B1 u v → cn (B ++ ce ch (ex (ex Q q.1) j.1)) u v := fun c => cn_sub b1sub c
    -- a and b of q are apart without j
    have apart : ¬ cn (B ++ ce ch (ex (ex Q q.1) j.1)) q.2.1 q.2.2 := by
      intro c
      refine bj (cn_sub gsub2 ?_)
      rcases s4 with ⟨c1, c2⟩ | ⟨c1, c2⟩
      · exact cn_tr (cn_sy (lift1 c1)) (cn_tr c (cn_sy (lift1 c2)))
      · exact cn_tr (lift1 c2) (cn_tr (cn_sy c) (lift1 c1))
    have far : ∀ (o : Bool), cn (B ++ ce ch (ex (ex Q q.1) j.1)) (if o then q.2.1 else q.2.2) (cx ch j) → cn (B ++ ce ch (ex (ex Q q.1) j.1)) (if o then q.2.2 else q.2.1) j.1 → False := by
      intro o c1 c2
      -- q attaches on the side of j's link
      have ej : cx (fl ch q.1 o) j = cx ch j := by
        unfold cx fl
        rw [if_neg hjq]
      have hcq : ∀ b : Bool, cn (B ++ ce ch (ex Q q.1)) (if b then q.2.2 else q.2.1) (cx ch q) := by
        intro b
        unfold cx
        cases b <;> cases ch q.1
        · exact cn_rf _ _
        · exact ab
        · exact cn_sy ab
        · exact cn_rf _ _
      have hcq2 : ∀ b : Bool, cn (B ++ ce ch (ex Q q.1)) (if b then q.2.1 else q.2.2) (cx ch q) := by
        intro b
        have := hcq (!b)
        cases b
        · exact this
        · exact this
      have eqo : cx (fl ch q.1 o) q = if o then q.2.2 else q.2.1 := by
        unfold cx fl
        rw [if_pos rfl]
      have key : ∀ x, cn (B ++ ce (fl ch q.1 o) (ex Q j.1)) x (cx (fl ch q.1 o) j) → cn (B ++ ce ch (ex (ex Q q.1) j.1)) x (cx ch j) := by
        intro x c
        rw [ej] at c
        have c : cn ((cx (fl ch q.1 o) q, q.1) :: (B ++ ce ch (ex (ex Q q.1) j.1))) x (cx ch j) := cn_sub (fun p hp => by
          rcases List.mem_append.mp hp with hp | hp
          · exact List.mem_cons_of_mem _ (List.mem_append_left _ hp)
          · obtain ⟨r, hr, rfl⟩ := ce_in.mp hp
            by_cases z : r.1 = q.1
            · obtain rfl := kn_u h.2.1 (ex_in.mp hr).1 hq z
              exact List.mem_cons_self
            · refine List.mem_cons_of_mem _ (List.mem_append_right _ ?_)
              rw [← ce_fl (ch := ch) (k := q.1) (b := o) (Q := ex (ex Q q.1) j.1) (fun p hp => (ex_in.mp (ex_in.mp hp).1).2)]
              exact ce_in.mpr ⟨r, ex_in.mpr ⟨ex_in.mpr ⟨(ex_in.mp hr).1, z⟩, (ex_in.mp hr).2⟩, rfl⟩) c
        rcases cn_add c with c | ⟨d1, d2⟩ | ⟨d1, d2⟩
        · exact c
        · -- q's link would be joined to its own premises
          exact absurd (cn_sy (cn_tr (cn_sub gsub (cn_tr d2 (cn_sy c1))) (hcq2 o))) bq
        · have d2 : cn (B ++ ce ch (ex (ex Q q.1) j.1)) (cx (fl ch q.1 o) q) (cx ch j) := d2
          rw [eqo] at d2
          refine absurd ?_ apart
          cases o
          · exact cn_tr d2 (cn_sy c1)
          · exact cn_tr c1 (cn_sy d2)
      have lt : fc A (fun x => cn (B ++ ce (fl ch q.1 o) (ex Q j.1)) x (cx (fl ch q.1 o) j)) < fc A (fun x => cn (B ++ ce ch (ex Q q.1)) x (cx ch q)) := by
        refine fc_lt (z := if o then q.2.2 else q.2.1) (fun x c => ?_) ?_ (hcq o) (fun c => ?_)
        · exact cn_tr (cn_sub gsub (cn_tr (key x c) (cn_sy c1))) (hcq2 o)
        · cases o
          · exact k2
          · exact k3
        · have d := key _ c
          refine absurd ?_ apart
          cases o
          · exact cn_tr d (cn_sy c1)
          · exact cn_tr c1 (cn_sy d)
      exact ih (fl ch q.1 o) j hjQ (by omega)
    rcases s4 with ⟨c1, c2⟩ | ⟨c1, c2⟩
    · exact far true (lift1 c1) (cn_sy (lift1 c2))
    · exact far false (cn_sy (lift1 c2)) (lift1 c1)
theorem gd_ex {A : List Nat} {B : List (Nat × Nat)} {Q : List (Nat × Nat × Nat)} (h : gd A B Q) (hQ : Q ≠ []) : ∃ q ∈ Q, cn B q.2.1 q.2.2 := by
  refine Classical.byContradiction (fun z => ?_)
  have hab : ∀ q ∈ Q, ¬ cn B q.2.1 q.2.2 := fun q hq c => z ⟨q, hq, c⟩
  match Q, hQ with
  | q :: t, _ => exact gd_no h hab _ (fun _ => true) q List.mem_cons_self (Nat.le_refl _)
