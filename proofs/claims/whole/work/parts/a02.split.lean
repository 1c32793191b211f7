/-! Splitting: where no par is lowest, some lowest tensor or cut parts the rest. -/
def bp (Q : List (Nat × Nat × Nat)) : List (Nat × Nat) := Q.flatMap (fun q => [(q.2.1, q.1), (q.2.2, q.1)])
theorem bp_in {Q : List (Nat × Nat × Nat)} {e : Nat × Nat} : e ∈ bp Q ↔ ∃ q ∈ Q, e = (q.2.1, q.1) ∨ e = (q.2.2, q.1) := by
  unfold bp
  rw [List.mem_flatMap]
  constructor
  · rintro ⟨q, hq, h⟩
    rcases List.mem_cons.mp h with h | h
    · exact ⟨q, hq, Or.inl h⟩
    · exact ⟨q, hq, Or.inr (List.mem_singleton.mp h)⟩
  · rintro ⟨q, hq, h | h⟩
    · exact ⟨q, hq, by rw [h]; exact List.mem_cons_self⟩
    · exact ⟨q, hq, by rw [h]; exact List.mem_cons_of_mem _ List.mem_cons_self⟩
theorem src_len : ∀ (E : List (Nat × Nat)) (R : List Nat) (r : Nat → Nat), R.Pairwise (fun x y => r x ≠ r y) → (∀ v ∈ R, ∃ e ∈ E, r v = r e.1) → R.length ≤ E.length := by
  intro E
  induction E with
  | nil =>
    intro R r _ h
    match R, h with
    | [], _ => exact Nat.le_refl _
    | v :: t, h => obtain ⟨e, he, -⟩ := h v List.mem_cons_self; cases he
  | cons e t ih =>
    intro R r hp h
    have h1 := pw_f (r e.1) R hp
    have h2 := ih (R.filter (fun x => decide (r x ≠ r e.1))) r (List.Pairwise.filter _ hp) (fun v hv => by
      obtain ⟨v1, v2⟩ := List.mem_filter.mp hv
      obtain ⟨p, hp, e1⟩ := h v v1
      rcases List.mem_cons.mp hp with rfl | hp
      · exact absurd e1 (of_decide_eq_true v2)
      · exact ⟨p, hp, e1⟩)
    simp only [List.length_cons]
    omega
theorem cn_min {X : List (Nat × Nat)} {a b : Nat} : ∀ (n : Nat) (E : List (Nat × Nat)), E.length ≤ n → cn (X ++ E) a b → ∃ Em Er : List (Nat × Nat), E.Perm (Em ++ Er) ∧ cn (X ++ Em) a b ∧ ∀ e Em', Em.Perm (e :: Em') → ¬ cn (X ++ Em') a b := by
  intro n
  induction n with
  | zero =>
    intro E hE h
    refine ⟨E, [], by rw [List.append_nil], h, fun e Em' hp => ?_⟩
    have := hp.length_eq
    simp only [List.length_cons] at this
    omega
  | succ n ih =>
    intro E hE h
    by_cases z : ∃ e E', E.Perm (e :: E') ∧ cn (X ++ E') a b
    · obtain ⟨e, E', hp, hc⟩ := z
      have hl := hp.length_eq
      simp only [List.length_cons] at hl
      obtain ⟨Em, Er, h1, h2, h3⟩ := ih E' (by omega) hc
      refine ⟨Em, e :: Er, ?_, h2, h3⟩
      exact hp.trans ((List.Perm.cons e h1).trans List.perm_middle.symm)
    · exact ⟨E, [], by rw [List.append_nil], h, fun e Em' hp hc => z ⟨e, Em', hp, hc⟩⟩
theorem fil_two {Em Er E : List (Nat × Nat)} {x y t : Nat} {Et : List (Nat × Nat)} (h : E.Perm (Em ++ Er)) (hE : E.Perm ((x, t) :: (y, t) :: Et)) (h1 : ∀ e ∈ Et, e.2 ≠ t) (h2 : ∀ e ∈ Em, e.2 ≠ t) : Er.Perm ((x, t) :: (y, t) :: Er.filter (fun e => !decide (e.2 = t))) := by
  have hp := (h.symm.trans hE).filter (fun e => decide (e.2 = t))
  have e1 : Em.filter (fun e => decide (e.2 = t)) = [] := List.filter_eq_nil_iff.mpr (fun e he => by simpa using h2 e he)
  have e2 : Et.filter (fun e => decide (e.2 = t)) = [] := List.filter_eq_nil_iff.mpr (fun e he => by simpa using h1 e he)
  rw [List.filter_append, e1, List.nil_append, List.filter_cons_of_pos (by simp), List.filter_cons_of_pos (by simp), e2] at hp
  have q := (List.filter_append_perm (fun e : Nat × Nat => decide (e.2 = t)) Er).symm
  exact q.trans (List.Perm.append_right _ hp)
theorem gd_split : ∀ (n : Nat) (A : List Nat) (X E : List (Nat × Nat)) (Q : List (Nat × Nat × Nat)) (Cd : Nat → Prop), Q.length = n → gd A (X ++ E) Q →
    (∀ t, Cd t → ∃ x y Et, E.Perm ((x, t) :: (y, t) :: Et) ∧ (∀ e ∈ Et, e.2 ≠ t) ∧ x ∈ A ∧ y ∈ A ∧ t ∈ A) →
    (∀ v ∈ A, ∃ w, cn X v w ∧ (Cd w ∨ (∃ e ∈ E, e.1 = w) ∨ ∃ q ∈ Q, q.2.1 = w ∨ q.2.2 = w)) →
    ∃ t, Cd t ∧ ∃ x y Et, E.Perm ((x, t) :: (y, t) :: Et) ∧ ¬ cn (X ++ Et ++ bp Q) x y := by
  intro n
  induction n with
  | zero =>
    intro A X E Q Cd hn h hC hO
    obtain rfl := List.eq_nil_of_length_eq_zero hn
    obtain ⟨h1, -, h3, -, h5⟩ := h
    rw [List.length_append] at h3
    simp only [List.length_nil] at h3
    by_cases hc : ∃ t, Cd t
    · obtain ⟨t, ht⟩ := hc
      obtain ⟨x, y, Et, hp, -, -⟩ := hC t ht
      refine ⟨t, ht, x, y, Et, hp, fun c => ?_⟩
      have c : cn (X ++ Et) x y := cn_sub (fun e he => by
        rcases List.mem_append.mp he with he | he
        · exact he
        · cases he) c
      have := cn_len h1 (E := X ++ (x, t) :: Et) (fun u hu v hv => cn_lift (fun e he => by
        have xt : cn (X ++ (x, t) :: Et) x t := cn_in (q := (x, t)) (List.mem_append_right _ List.mem_cons_self)
        rcases List.mem_append.mp he with he | he
        · rcases List.mem_append.mp he with he | he
          · exact cn_in (List.mem_append_left _ he)
          · rcases List.mem_cons.mp (hp.mem_iff.mp he) with rfl | he
            · exact xt
            · rcases List.mem_cons.mp he with rfl | he
              · refine cn_tr (cn_sy (cn_sub (fun e he => ?_) c)) xt
                rcases List.mem_append.mp he with he | he
                · exact List.mem_append_left _ he
                · exact List.mem_append_right _ (List.mem_cons_of_mem _ he)
              · exact cn_in (List.mem_append_right _ (List.mem_cons_of_mem _ he))
        · cases he) (h5 (fun _ => true) u hu v hv))
      have hl := hp.length_eq
      rw [List.length_append] at this
      simp only [List.length_cons] at this hl
      omega
    · exfalso
      obtain ⟨R, r1, r2, r3⟩ := jn_pack X (fun x => x) A h1
      have := src_len E R _ r2 (fun v hv => by
        obtain ⟨w, hw, c | ⟨e, he, rfl⟩ | ⟨q, hq, -⟩⟩ := hO v (r1 v hv)
        · exact absurd ⟨w, c⟩ hc
        · exact ⟨e, he, hw⟩
        · cases hq)
      omega
  | succ n ih =>
    intro A X E Q Cd hn h hC hO
    obtain ⟨q, hq, hab⟩ := gd_ex h (fun z => by rw [z] at hn; cases hn)
    obtain ⟨Em, Er, hp, hm, hmin⟩ := cn_min (X := X) E.length E (Nat.le_refl _) hab
    obtain ⟨k1, k2, k3⟩ := h.2.2.2.1 q hq
    have nk : ¬ cn (X ++ E) q.2.1 q.1 := fun c => gd_br h (fun _ => false) hq (cn_sub (fun e he => List.mem_append_left _ he) c)
    have inE : ∀ e, e ∈ Em → e ∈ E := fun e he => hp.mem_iff.mpr (List.mem_append_left _ he)
    have inE' : ∀ e, e ∈ Er → e ∈ E := fun e he => hp.mem_iff.mpr (List.mem_append_right _ he)
    have onm : ∀ e ∈ Em, cn (X ++ Em) e.1 q.2.1 ∧ cn (X ++ Em) e.2 q.2.1 := by
      intro e he
      have hpe := List.perm_cons_erase he
      have sub : ∀ {u v}, cn (X ++ Em.erase e) u v → cn (X ++ Em) u v := fun c => cn_sub (fun p hp => by
        rcases List.mem_append.mp hp with hp | hp
        · exact List.mem_append_left _ hp
        · exact List.mem_append_right _ (List.mem_of_mem_erase hp)) c
      have ein : cn (X ++ Em) e.1 e.2 := cn_in (List.mem_append_right _ he)
      have c : cn (e :: (X ++ Em.erase e)) q.2.1 q.2.2 := cn_sub (fun p hp => by
        rcases List.mem_append.mp hp with hp | hp
        · exact List.mem_cons_of_mem _ (List.mem_append_left _ hp)
        · rcases List.mem_cons.mp (hpe.mem_iff.mp hp) with rfl | hp
          · exact List.mem_cons_self
          · exact List.mem_cons_of_mem _ (List.mem_append_right _ hp)) hm
      rcases cn_add c with c | ⟨c, -⟩ | ⟨c, -⟩
      · exact absurd c (hmin e _ hpe)
      · exact ⟨cn_sy (sub c), cn_tr (cn_sy ein) (cn_sy (sub c))⟩
      · exact ⟨cn_tr ein (cn_sy (sub c)), cn_sy (sub c)⟩
    have toE : ∀ {u v}, cn (X ++ Em) u v → cn (X ++ E) u v := fun c => cn_sub (fun p hp => by
      rcases List.mem_append.mp hp with hp | hp
      · exact List.mem_append_left _ hp
      · exact List.mem_append_right _ (inE p hp)) c
    have XtoE : ∀ {u v}, cn X u v → cn (X ++ E) u v := fun c => cn_sub (fun p hp => List.mem_append_left _ hp) c
    -- the contracted graph
    have hgd : gd A ((X ++ Em ++ [(q.2.1, q.1)]) ++ Er) (ex Q q.1) := by
      refine ⟨h.1, ex_kn h.2.1 _, ?_, fun p hp => h.2.2.2.1 p (ex_in.mp hp).1, fun ch x hx y hy => ?_⟩
      · have := h.2.2.1
        have := ex_len h.2.1 hq
        have := hp.length_eq
        simp only [List.length_append, List.length_cons, List.length_nil] at *
        omega
      · refine cn_sub (fun e he => ?_) (h.2.2.2.2 (fl ch q.1 false) x hx y hy)
        rcases List.mem_append.mp he with he | he
        · rcases List.mem_append.mp he with he | he
          · exact List.mem_append_left _ (List.mem_append_left _ (List.mem_append_left _ (List.mem_append_left _ he)))
          · rcases List.mem_append.mp (hp.mem_iff.mp he) with he | he
            · exact List.mem_append_left _ (List.mem_append_left _ (List.mem_append_left _ (List.mem_append_right _ he)))
            · exact List.mem_append_left _ (List.mem_append_right _ he)
        · obtain ⟨p, hpQ, rfl⟩ := ce_in.mp he
          by_cases z : p.1 = q.1
          · obtain rfl := kn_u h.2.1 hpQ hq z
            have e0 : (if fl ch p.1 false p.1 = true then p.2.2 else p.2.1) = p.2.1 := by unfold fl; simp
            rw [e0]
            exact List.mem_append_left _ (List.mem_append_left _ (List.mem_append_right _ List.mem_cons_self))
          · refine List.mem_append_right _ ?_
            rw [← ce_ex (b := false)]
            exact ce_in.mpr ⟨p, ex_in.mpr ⟨hpQ, z⟩, rfl⟩
    have toX : ∀ {u v}, cn X u v → cn (X ++ Em ++ [(q.2.1, q.1)]) u v := fun c => cn_sub (fun p hp => List.mem_append_left _ (List.mem_append_left _ hp)) c
    have toX' : ∀ {u v}, cn (X ++ Em) u v → cn (X ++ Em ++ [(q.2.1, q.1)]) u v := fun c => cn_sub (fun p hp => List.mem_append_left _ hp) c
    have ak : cn (X ++ Em ++ [(q.2.1, q.1)]) q.2.1 q.1 := cn_in (q := (q.2.1, q.1)) (List.mem_append_right _ List.mem_cons_self)
    have kout : ∃ w, cn X q.1 w ∧ ((Cd w ∧ ∀ e ∈ Em, e.2 ≠ w) ∨ (∃ e ∈ Er, e.1 = w) ∨ ∃ p ∈ ex Q q.1, p.2.1 = w ∨ p.2.2 = w) := by
      obtain ⟨w, hw, c | ⟨e, he, rfl⟩ | ⟨p, hpQ, hpw⟩⟩ := hO q.1 k1
      · refine ⟨w, hw, Or.inl ⟨c, fun e he z => ?_⟩⟩
        subst z
        exact nk (cn_sy (cn_tr (XtoE hw) (toE (onm e he).2)))
      · rcases List.mem_append.mp (hp.mem_iff.mp he) with he | he
        · exact absurd (cn_sy (cn_tr (XtoE hw) (toE (onm e he).1))) nk
        · exact ⟨e.1, hw, Or.inr (Or.inl ⟨e, he, rfl⟩)⟩
      · by_cases z : p.1 = q.1
        · obtain rfl := kn_u h.2.1 hpQ hq z
          rcases hpw with rfl | rfl
          · exact absurd (cn_sy (XtoE hw)) nk
          · exact absurd (cn_tr hab (cn_sy (XtoE hw))) nk
        · exact ⟨w, hw, Or.inr (Or.inr ⟨p, ex_in.mpr ⟨hpQ, z⟩, hpw⟩)⟩
    have hO' : ∀ v ∈ A, ∃ w, cn (X ++ Em ++ [(q.2.1, q.1)]) v w ∧ ((Cd w ∧ ∀ e ∈ Em, e.2 ≠ w) ∨ (∃ e ∈ Er, e.1 = w) ∨ ∃ p ∈ ex Q q.1, p.2.1 = w ∨ p.2.2 = w) := by
      intro v hv
      have viaK : cn (X ++ Em ++ [(q.2.1, q.1)]) v q.2.1 → ∃ w, cn (X ++ Em ++ [(q.2.1, q.1)]) v w ∧ ((Cd w ∧ ∀ e ∈ Em, e.2 ≠ w) ∨ (∃ e ∈ Er, e.1 = w) ∨ ∃ p ∈ ex Q q.1, p.2.1 = w ∨ p.2.2 = w) := by
        intro c
        obtain ⟨w, hw, hs⟩ := kout
        exact ⟨w, cn_tr c (cn_tr ak (toX hw)), hs⟩
      obtain ⟨w, hw, c | ⟨e, he, rfl⟩ | ⟨p, hpQ, hpw⟩⟩ := hO v hv
      · by_cases z : ∀ e ∈ Em, e.2 ≠ w
        · exact ⟨w, toX hw, Or.inl ⟨c, z⟩⟩
        · obtain ⟨e, he, ew⟩ : ∃ e ∈ Em, e.2 = w := Classical.byContradiction (fun y => z (fun e he ew => y ⟨e, he, ew⟩))
          subst ew
          exact viaK (cn_tr (toX hw) (toX' (onm e he).2))
      · rcases List.mem_append.mp (hp.mem_iff.mp he) with he | he
        · exact viaK (cn_tr (toX hw) (toX' (onm e he).1))
        · exact ⟨e.1, toX hw, Or.inr (Or.inl ⟨e, he, rfl⟩)⟩
      · by_cases z : p.1 = q.1
        · obtain rfl := kn_u h.2.1 hpQ hq z
          rcases hpw with rfl | rfl
          · exact viaK (toX hw)
          · exact viaK (cn_tr (toX hw) (toX' (cn_sy hm)))
        · exact ⟨w, toX hw, Or.inr (Or.inr ⟨p, ex_in.mpr ⟨hpQ, z⟩, hpw⟩)⟩
    obtain ⟨t, ⟨ht, -⟩, x, y, Et, hpt, hns⟩ := ih A (X ++ Em ++ [(q.2.1, q.1)]) Er (ex Q q.1) (fun t => Cd t ∧ ∀ e ∈ Em, e.2 ≠ t) (by have := ex_len h.2.1 hq; omega) hgd (fun t ht => by
      obtain ⟨x, y, Et, h1, h2, h3⟩ := hC t ht.1
      exact ⟨x, y, _, fil_two hp h1 h2 ht.2, fun e he => by simpa using (List.mem_filter.mp he).2, h3⟩) hO'
    refine ⟨t, ht, x, y, Em ++ Et, ?_, fun c => hns ?_⟩
    · refine hp.trans ((List.Perm.append_left Em hpt).trans ?_)
      exact List.perm_middle.trans (List.Perm.cons _ List.perm_middle)
    · refine cn_lift (fun e he => ?_) c
      rcases List.mem_append.mp he with he | he
      · rcases List.mem_append.mp he with he | he
        · exact cn_in (List.mem_append_left _ (List.mem_append_left _ (List.mem_append_left _ (List.mem_append_left _ he))))
        · rcases List.mem_append.mp he with he | he
          · exact cn_in (List.mem_append_left _ (List.mem_append_left _ (List.mem_append_left _ (List.mem_append_right _ he))))
          · exact cn_in (List.mem_append_left _ (List.mem_append_right _ he))
      · obtain ⟨p, hpQ, hpe⟩ := bp_in.mp he
        by_cases z : p.1 = q.1
        · obtain rfl := kn_u h.2.1 hpQ hq z
          have up : ∀ {u v}, cn (X ++ Em ++ [(p.2.1, p.1)]) u v → cn (X ++ Em ++ [(p.2.1, p.1)] ++ Et ++ bp (ex Q p.1)) u v := fun c => cn_sub (fun r hr => List.mem_append_left _ (List.mem_append_left _ hr)) c
          rcases hpe with rfl | rfl
          · exact up ak
          · exact up (cn_tr (toX' (cn_sy hm)) ak)
        · exact cn_in (List.mem_append_right _ (bp_in.mpr ⟨p, ex_in.mpr ⟨hpQ, z⟩, hpe⟩))
