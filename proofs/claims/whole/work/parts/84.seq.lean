/-! Steps on structures that are the same as far as they reach. -/
theorem up_eq {p q : Nat → Int} {a l : Nat} {x : Int} (h : l ≠ a → p l = q l) : sn_up p a x l = sn_up q a x l := by
  unfold sn_up
  by_cases e : l = a
  · rw [if_pos e, if_pos e]
  · rw [if_neg e, if_neg e]
    exact h e
theorem s_ax_eq {S S' : sT} (f d : Int) (h : s_eq S S') : s_eq (s_ax S f d) (s_ax S' f d) := by
  obtain ⟨h1, h2, h3, h4⟩ := h
  refine ⟨by unfold s_ax; rw [h1], fun a l ha hl => ?_, fun a e g1 g2 he => ?_, fun c hc => h4 c hc⟩
  · have hl : l < S.2.1 + 1 := hl
    unfold s_ax
    rw [h1]
    match a, ha with
    | 0, _ => exact up_eq (fun z => h2 0 l (by omega) (by omega))
    | 1, _ => exact up_eq (fun z => h2 1 l (by omega) (by omega))
    | 2, _ => exact up_eq (fun z => h2 2 l (by omega) (by omega))
    | 3, _ => exact up_eq (fun z => h2 3 l (by omega) (by omega))
    | a + 4, h => omega
  · have he : e < S.2.2.1 + 2 := he
    unfold s_ax
    rw [h1]
    match a, g1, g2 with
    | 4, _, _ => exact up_eq (fun z => up_eq (fun y => h3 4 e (by omega) (by omega) (by omega)))
    | 5, _, _ => exact up_eq (fun z => up_eq (fun y => h3 5 e (by omega) (by omega) (by omega)))
    | 6, _, _ => exact up_eq (fun z => up_eq (fun y => h3 6 e (by omega) (by omega) (by omega)))
    | 7, _, _ => exact up_eq (fun z => up_eq (fun y => h3 7 e (by omega) (by omega) (by omega)))
    | a + 8, _, h => omega
theorem s_jn_eq {S S' : sT} (k l r f : Int) (h : s_eq S S') : s_eq (s_jn S k l r f) (s_jn S' k l r f) := by
  obtain ⟨h1, h2, h3, h4⟩ := h
  refine ⟨by unfold s_jn; rw [h1], fun a x ha hl => ?_, fun a e g1 g2 he => ?_, fun c hc => h4 c hc⟩
  · have hl : x < S.2.1 + 1 := hl
    unfold s_jn
    rw [h1]
    match a, ha with
    | 0, _ => exact up_eq (fun z => h2 0 x (by omega) (by omega))
    | 1, _ => exact up_eq (fun z => h2 1 x (by omega) (by omega))
    | 2, _ => exact up_eq (fun z => h2 2 x (by omega) (by omega))
    | 3, _ => exact up_eq (fun z => h2 3 x (by omega) (by omega))
    | a + 4, h => omega
  · have he : e < S.2.2.1 + 1 := he
    unfold s_jn
    rw [h1]
    match a, g1, g2 with
    | 4, _, _ => exact up_eq (fun z => h3 4 e (by omega) (by omega) (by omega))
    | 5, _, _ => exact up_eq (fun z => h3 5 e (by omega) (by omega) (by omega))
    | 6, _, _ => exact up_eq (fun z => up_eq (fun y => up_eq (fun w => h3 6 e (by omega) (by omega) (by omega))))
    | 7, _, _ => exact up_eq (fun z => h3 7 e (by omega) (by omega) (by omega))
    | a + 8, _, h => omega
theorem s_ct_eq {S S' : sT} (l r : Int) (h : s_eq S S') : s_eq (s_ct S l r) (s_ct S' l r) := by
  obtain ⟨h1, h2, h3, h4⟩ := h
  refine ⟨by unfold s_ct; rw [h1], fun a x ha hl => ?_, fun a e g1 g2 he => ?_, fun c hc => h4 c hc⟩
  · have hl : x < S.2.1 + 1 := hl
    unfold s_ct
    rw [h1]
    match a, ha with
    | 0, _ => exact up_eq (fun z => h2 0 x (by omega) (by omega))
    | 1, _ => exact up_eq (fun z => h2 1 x (by omega) (by omega))
    | 2, _ => exact up_eq (fun z => h2 2 x (by omega) (by omega))
    | 3, _ => exact up_eq (fun z => h2 3 x (by omega) (by omega))
    | a + 4, h => omega
  · have he : e < S.2.2.1 := he
    unfold s_ct
    rw [h1]
    match a, g1, g2 with
    | 4, _, _ => exact h3 4 e (by omega) (by omega) (by omega)
    | 5, _, _ => exact h3 5 e (by omega) (by omega) (by omega)
    | 6, _, _ => exact up_eq (fun z => up_eq (fun y => h3 6 e (by omega) (by omega) (by omega)))
    | 7, _, _ => exact h3 7 e (by omega) (by omega) (by omega)
    | a + 8, _, h => omega
theorem s_nm_eq {S S' : sT} (x : Int) (h : s_eq S S') : s_eq (s_nm S x) (s_nm S' x) := by
  obtain ⟨h1, h2, h3, h4⟩ := h
  refine ⟨by unfold s_nm; rw [h1], fun a l ha hl => ?_, fun a e g1 g2 he => ?_, fun c hc => ?_⟩
  · have hl : l < S.2.1 := hl
    match a, ha with
    | 0, _ => exact h2 0 l (by omega) hl
    | 1, _ => exact h2 1 l (by omega) hl
    | 2, _ => exact h2 2 l (by omega) hl
    | 3, _ => exact h2 3 l (by omega) hl
    | a + 4, h => omega
  · have he : e < S.2.2.1 := he
    unfold s_nm
    rw [h1]
    match a, g1, g2 with
    | 4, _, _ => exact h3 4 e (by omega) (by omega) he
    | 5, _, _ => exact h3 5 e (by omega) (by omega) he
    | 6, _, _ => exact h3 6 e (by omega) (by omega) he
    | 7, _, _ => exact up_eq (fun z => h3 7 e (by omega) (by omega) he)
    | a + 8, _, h => omega
  · have hc : c < S.2.2.2 + 1 := hc
    unfold s_nm
    rw [h1]
    exact up_eq (fun z => h4 c (by omega))
theorem s_0_eq {S S' : sT} : s_eq (s_0 S) (s_0 S') := ⟨rfl, fun a l _ hl => absurd hl (Nat.not_lt_zero l), fun a e _ _ he => absurd he (Nat.not_lt_zero e), fun c hc => absurd hc (Nat.not_lt_zero c)⟩
theorem s_kl_eq {S S' : sT} (h : s_eq S S') {c one two : Nat} (hc : c < S.2.1) (ho : one < S.2.1) (ht : two < S.2.1) : s_eq (s_kl S c one two) (s_kl S' c one two) := by
  obtain ⟨h1, h2, h3, h4⟩ := h
  have p1 := h2 1 c (by omega) hc
  have p2 := h2 2 c (by omega) hc
  have p3 := h2 1 one (by omega) ho
  have p4 := h2 2 one (by omega) ho
  have p5 := h2 1 two (by omega) ht
  have p6 := h2 2 two (by omega) ht
  refine ⟨h1, fun a l ha hl => ?_, fun a e g1 g2 he => ?_, fun c hc => h4 c hc⟩
  · have hl : l < S.2.1 := hl
    match a, ha with
    | 0, _ => exact up_eq (fun _ => up_eq (fun _ => up_eq (fun _ => h2 0 l (by omega) hl)))
    | 1, _ => exact h2 1 l (by omega) hl
    | 2, _ => exact h2 2 l (by omega) hl
    | 3, _ => exact h2 3 l (by omega) hl
    | a + 4, h => omega
  · have he : e < S.2.2.1 := he
    unfold s_kl
    rw [p1, p2, p3, p4, p5, p6]
    match a, g1, g2 with
    | 4, _, _ => exact up_eq (fun _ => up_eq (fun _ => h3 4 e (by omega) (by omega) he))
    | 5, _, _ => exact h3 5 e (by omega) (by omega) he
    | 6, _, _ => exact up_eq (fun _ => up_eq (fun _ => up_eq (fun _ => up_eq (fun _ => h3 6 e (by omega) (by omega) he))))
    | 7, _, _ => exact h3 7 e (by omega) (by omega) he
    | a + 8, _, h => omega
theorem s_sp_eq {S S' : sT} (h : s_eq S S') {c one two : Nat} (hc : c < S.2.1) (ho : one < S.2.1) (ht : two < S.2.1) : s_eq (s_sp S c one two) (s_sp S' c one two) := by
  unfold s_sp
  rw [h.2.1 1 one (by omega) ho, h.2.1 2 one (by omega) ho, h.2.1 1 two (by omega) ht, h.2.1 2 two (by omega) ht]
  exact s_ct_eq _ _ (s_ct_eq _ _ (s_kl_eq h hc ho ht))
theorem s_sl_eq {S S' : sT} (h : s_eq S S') {c a : Nat} {of other gone : Int} (hg : 0 ≤ gone ∧ gone < (S.2.2.1 : Int)) (h6 : S.1 6 gone.toNat < (S.2.1 : Int)) : s_eq (s_sl S c a of other gone) (s_sl S' c a of other gone) := by
  obtain ⟨h1, h2, h3, h4⟩ := h
  have p6 := h3 6 gone.toNat (by omega) (by omega) (by omega)
  have p7 := h3 7 gone.toNat (by omega) (by omega) (by omega)
  have key : 0 ≤ S.1 6 gone.toNat → S'.1 1 (S.1 6 gone.toNat).toNat = S.1 1 (S.1 6 gone.toNat).toNat := fun z => h2 1 _ (by omega) (by omega)
  refine ⟨h1, fun x l ha hl => ?_, fun x e g1 g2 he => ?_, fun x hx => ?_⟩
  · have hl : l < S.2.1 := hl
    unfold s_sl
    rw [p6]
    match x, ha with
    | 0, _ => exact up_eq (fun _ => up_eq (fun _ => h2 0 l (by omega) hl))
    | 1, _ =>
      show (if 0 ≤ S.1 6 gone.toNat ∧ S'.1 1 (S.1 6 gone.toNat).toNat = gone then sn_up (S'.1 1) (S.1 6 gone.toNat).toNat other else S'.1 1) l = (if 0 ≤ S.1 6 gone.toNat ∧ S.1 1 (S.1 6 gone.toNat).toNat = gone then sn_up (S.1 1) (S.1 6 gone.toNat).toNat other else S.1 1) l
      by_cases z : 0 ≤ S.1 6 gone.toNat ∧ S.1 1 (S.1 6 gone.toNat).toNat = gone
      · rw [if_pos z, if_pos ⟨z.1, by rw [key z.1]; exact z.2⟩]
        exact up_eq (fun _ => h2 1 l (by omega) hl)
      · rw [if_neg z, if_neg (fun y => z ⟨y.1, by rw [← key y.1]; exact y.2⟩)]
        exact h2 1 l (by omega) hl
    | 2, _ =>
      show (if 0 ≤ S.1 6 gone.toNat ∧ ¬ S'.1 1 (S.1 6 gone.toNat).toNat = gone then sn_up (S'.1 2) (S.1 6 gone.toNat).toNat other else S'.1 2) l = (if 0 ≤ S.1 6 gone.toNat ∧ ¬ S.1 1 (S.1 6 gone.toNat).toNat = gone then sn_up (S.1 2) (S.1 6 gone.toNat).toNat other else S.1 2) l
      by_cases z : 0 ≤ S.1 6 gone.toNat ∧ ¬ S.1 1 (S.1 6 gone.toNat).toNat = gone
      · rw [if_pos z, if_pos ⟨z.1, by rw [key z.1]; exact z.2⟩]
        exact up_eq (fun _ => h2 2 l (by omega) hl)
      · rw [if_neg z, if_neg (fun y => z ⟨y.1, by rw [← key y.1]; exact y.2⟩)]
        exact h2 2 l (by omega) hl
    | 3, _ => exact h2 3 l (by omega) hl
    | x + 4, h => omega
  · have he : e < S.2.2.1 := he
    unfold s_sl
    rw [p6, p7]
    match x, g1, g2 with
    | 4, _, _ => exact up_eq (fun _ => up_eq (fun _ => h3 4 e (by omega) (by omega) he))
    | 5, _, _ => exact h3 5 e (by omega) (by omega) he
    | 6, _, _ => exact up_eq (fun _ => h3 6 e (by omega) (by omega) he)
    | 7, _, _ => exact up_eq (fun _ => h3 7 e (by omega) (by omega) he)
    | x + 8, _, h => omega
  · have hx : x < S.2.2.2 := hx
    unfold s_sl
    rw [p7]
    show (if 0 ≤ S.1 7 gone.toNat then sn_up (S'.1 8) (S.1 7 gone.toNat).toNat other else S'.1 8) x = (if 0 ≤ S.1 7 gone.toNat then sn_up (S.1 8) (S.1 7 gone.toNat).toNat other else S.1 8) x
    by_cases z : 0 ≤ S.1 7 gone.toNat
    · rw [if_pos z, if_pos z]
      exact up_eq (fun _ => h4 x hx)
    · rw [if_neg z, if_neg z]
      exact h4 x hx
theorem s_rd_eq {T : fT} {S S' : sT} (hok : s_ok T S) (h : s_eq S S') {c : Nat} (hc : c < S.2.1) (hk : S.1 0 c = 3) : (s_rd S c = none → s_rd S' c = none) ∧ ∀ S1, s_rd S c = some S1 → ∃ S2, s_rd S' c = some S2 ∧ s_eq S1 S2 := by
  obtain ⟨⟨al, ar⟩, s1, s2⟩ := s_rd_src hok hc hk
  have g1 := fun a ha h0 => (s_go_f hok hc hk (of := S.1 1 c) (other := S.1 2 c) (Or.inl ⟨rfl, rfl⟩) (a := a) ha h0).1
  have g2 := fun a ha h0 => (s_go_f hok hc hk (of := S.1 2 c) (other := S.1 1 c) (Or.inr ⟨rfl, rfl⟩) (a := a) ha h0).1
  have p1 := h.2.1 1 c (by omega) hc
  have p2 := h.2.1 2 c (by omega) hc
  have p3 := h.2.2.1 5 (S.1 1 c).toNat (by omega) (by omega) (by have := al.1; have := al.2.1; omega)
  have p4 := h.2.2.1 5 (S.1 2 c).toNat (by omega) (by omega) (by have := ar.1; have := ar.2.1; omega)
  have k1 := h.2.1 0 (S.1 5 (S.1 1 c).toNat).toNat (by omega) (by omega)
  have k2 := h.2.1 0 (S.1 5 (S.1 2 c).toNat).toNat (by omega) (by omega)
  have o1 : s_go S' (S.1 5 (S.1 1 c).toNat).toNat (S.1 1 c) = s_go S (S.1 5 (S.1 1 c).toNat).toNat (S.1 1 c) := by
    unfold s_go
    rw [h.2.1 1 (S.1 5 (S.1 1 c).toNat).toNat (by omega) (by omega), h.2.1 2 (S.1 5 (S.1 1 c).toNat).toNat (by omega) (by omega)]
  have o2 : s_go S' (S.1 5 (S.1 2 c).toNat).toNat (S.1 2 c) = s_go S (S.1 5 (S.1 2 c).toNat).toNat (S.1 2 c) := by
    unfold s_go
    rw [h.2.1 1 (S.1 5 (S.1 2 c).toNat).toNat (by omega) (by omega), h.2.1 2 (S.1 5 (S.1 2 c).toNat).toNat (by omega) (by omega)]
  have e : s_rd S' c = (if S.1 5 (S.1 1 c).toNat = S.1 5 (S.1 2 c).toNat then none else if S.1 0 (S.1 5 (S.1 1 c).toNat).toNat = 0 then some (s_sl S' c (S.1 5 (S.1 1 c).toNat).toNat (S.1 1 c) (S.1 2 c) (s_go S (S.1 5 (S.1 1 c).toNat).toNat (S.1 1 c))) else if S.1 0 (S.1 5 (S.1 2 c).toNat).toNat = 0 then some (s_sl S' c (S.1 5 (S.1 2 c).toNat).toNat (S.1 2 c) (S.1 1 c) (s_go S (S.1 5 (S.1 2 c).toNat).toNat (S.1 2 c))) else if 60 < S.2.1 + 2 then none else some (s_sp S' c (S.1 5 (S.1 1 c).toNat).toNat (S.1 5 (S.1 2 c).toNat).toNat)) := by
    unfold s_rd
    rw [p1, p2, p3, p4, k1, k2, o1, o2, h.1]
  rw [e]
  unfold s_rd
  have sl : ∀ (a : Nat) (of other : Int), s_al S (s_go S a of) → s_eq (s_sl S c a of other (s_go S a of)) (s_sl S' c a of other (s_go S a of)) := fun a of other hg => s_sl_eq h ⟨hg.1, hg.2.1⟩ (hok.2.2.1 _ (by have := hg.1; have := hg.2.1; omega)).2.1.2
  by_cases z1 : S.1 5 (S.1 1 c).toNat = S.1 5 (S.1 2 c).toNat
  · rw [if_pos z1, if_pos z1]
    exact ⟨fun _ => rfl, fun S1 q => (by cases q)⟩
  · rw [if_neg z1, if_neg z1]
    by_cases z2 : S.1 0 (S.1 5 (S.1 1 c).toNat).toNat = 0
    · rw [if_pos z2, if_pos z2]
      refine ⟨fun q => (by cases q), fun S1 q => ?_⟩
      cases q
      exact ⟨_, rfl, sl _ _ _ (g1 _ (by omega) z2)⟩
    · rw [if_neg z2, if_neg z2]
      by_cases z3 : S.1 0 (S.1 5 (S.1 2 c).toNat).toNat = 0
      · rw [if_pos z3, if_pos z3]
        refine ⟨fun q => (by cases q), fun S1 q => ?_⟩
        cases q
        exact ⟨_, rfl, sl _ _ _ (g2 _ (by omega) z3)⟩
      · rw [if_neg z3, if_neg z3]
        by_cases z4 : 60 < S.2.1 + 2
        · rw [if_pos z4, if_pos z4]
          exact ⟨fun _ => rfl, fun S1 q => (by cases q)⟩
        · rw [if_neg z4, if_neg z4]
          refine ⟨fun q => (by cases q), fun S1 q => ?_⟩
          cases q
          exact ⟨_, rfl, s_sp_eq h hc (by omega) (by omega)⟩
