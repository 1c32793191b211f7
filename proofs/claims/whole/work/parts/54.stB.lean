/-! The class's structures: small steps. -/
abbrev sX := (Nat → Nat → Int) × (Nat → Int)
def sx_v (X : sX) (i : Nat) (σ : sn_M) : Prop := (∀ a, a < 9 → σ.1 (10 + a) i = X.1 a) ∧ ∀ j, 9 ≤ j → j ≤ 14 → σ.1 9 i j = X.2 j
def x_r (X : sX) (a j : Nat) (v : Int) : sX := (fun a' => if a' = a then sn_up (X.1 a) j v else X.1 a', X.2)
def x_s (X : sX) (j : Nat) (v : Int) : sX := (X.1, sn_up X.2 j v)
def sx_f (i : Nat) (σ σ' : sn_M) : Prop := sn_fr (fun a b _ => (9 ≤ a ∧ a ≤ 18) ∧ b = i) σ σ'
theorem sx_f_rf (i : Nat) (σ : sn_M) : sx_f i σ σ := ⟨rfl, fun _ _ _ _ => rfl⟩
theorem sx_f_t {i : Nat} {σ σ' σ'' : sn_M} (h : sx_f i σ σ') (g : sx_f i σ' σ'') : sx_f i σ σ'' := sn_fr_t h g
theorem sx_f_r {i : Nat} {σ σ' : sn_M} (h : sx_f i σ σ') {k j : Nat} (v : Int) (hk : 9 ≤ k ∧ k ≤ 18) : sx_f i σ (sn_u σ'.1 k i j v, σ'.2) := sn_fr_u h ⟨hk, rfl⟩ v
theorem sx_r {X : sX} {i : Nat} {σ : sn_M} (h : sx_v X i σ) (a : Nat) {k : Nat} (j : Nat) (v : Int) (hk : k = 10 + a) : sx_v (x_r X a j v) i (sn_u σ.1 k i j v, σ.2) := by
  subst hk
  refine ⟨fun a' ha' => ?_, fun j' h1 h2 => ?_⟩
  · show sn_u σ.1 (10 + a) i j v (10 + a') i = (if a' = a then sn_up (X.1 a) j v else X.1 a')
    by_cases e : a' = a
    · subst e
      rw [if_pos rfl, sn_u_rs, h.1 a' ha']
    · rw [if_neg e, sn_u_rk (by omega), h.1 a' ha']
  · show sn_u σ.1 (10 + a) i j v 9 i j' = _
    rw [sn_u_rk (by omega)]
    exact h.2 j' h1 h2
theorem sx_s {X : sX} {i : Nat} {σ : sn_M} (h : sx_v X i σ) (j : Nat) (v : Int) : sx_v (x_s X j v) i (sn_u σ.1 9 i j v, σ.2) := by
  refine ⟨fun a' ha' => ?_, fun j' h1 h2 => ?_⟩
  · show sn_u σ.1 9 i j v (10 + a') i = _
    rw [sn_u_rk (by omega)]
    exact h.1 a' ha'
  · show sn_u σ.1 9 i j v 9 i j' = sn_up X.2 j v j'
    rw [sn_u_at]
    unfold sn_up
    rw [h.2 j' h1 h2]
theorem sx_9 {X : sX} {i : Nat} {σ : sn_M} (h : sx_v X i σ) {j : Nat} (h1 : 9 ≤ j ∧ j ≤ 14) : σ.1 9 i j = X.2 j := h.2 j h1.1 h1.2
def sp_ST_empty : sn_P := fun vs σ po => match vs with
  | [.inr (.inr q)] => q.1 = 9 ∧ ∃ X, sx_v X q.2 σ ∧ ∀ σ', sx_v (x_s (x_s (x_s (x_s (x_s (x_s X 9 0) 10 0) 11 0) 12 0) 13 0) 14 0) q.2 σ' → sx_f q.2 σ σ' → po none σ'
  | _ => False
def ca_ST_empty : List (Nat × Nat × Nat × sn_P) := []
theorem co_ST_empty : ∀ x n ci s', sn_lk ca_ST_empty x = some (n, ci, s') → sn_CO "SwitchedNets$Structure" sn_ws 0 x n ci s' := fun _ _ _ _ h => by cases h
theorem ct_ST_empty : sn_CT y_ST_empty ws_ST_empty 0 sp_ST_empty := by
  refine sn_CT_of (pr := pr_ST_empty) (fi := (sn_lk ft_ST)) (lc := sn_no) (ca := sn_lk ca_ST_empty) pl_ST ?_ pk_ST_empty FI_ST (sn_no_ok _) co_ST_empty ?_
  · intro vs σ post h
    unfold sp_ST_empty at h
    split at h
    · exact Nat.le_of_ble_eq_true rfl
    · exact h.elim
  · intro vs σ post h hvs hR
    unfold sp_ST_empty at h
    split at h
    · next q =>
      obtain ⟨a, i⟩ := q
      obtain ⟨ha, X, hv, h⟩ := h
      have ha : a = 9 := ha
      subst ha
      intro G hG
      refine hG 60 [] _ _ _ _ ?_
      exact h _ (sx_s (sx_s (sx_s (sx_s (sx_s (sx_s hv 9 0) 10 0) 11 0) 12 0) 13 0) 14 0) (sx_f_r (sx_f_r (sx_f_r (sx_f_r (sx_f_r (sx_f_r (sx_f_rf i σ) 0 (by omega)) 0 (by omega)) 0 (by omega)) 0 (by omega)) 0 (by omega)) 0 (by omega))
    · exact h.elim
def sp_ST_hasLink : sn_P := fun vs σ po => match vs with
  | [.inr (.inr q), .inl l] => q.1 = 9 ∧ σ.1 9 q.2 9 ≤ 60 ∧ ((0 ≤ l ∧ l < σ.1 9 q.2 9 ∧ ¬ σ.1 10 q.2 l.toNat = -1) → po (some (.inl 1)) σ) ∧ (¬ (0 ≤ l ∧ l < σ.1 9 q.2 9 ∧ ¬ σ.1 10 q.2 l.toNat = -1) → po (some (.inl 0)) σ)
  | _ => False
def ca_ST_hasLink : List (Nat × Nat × Nat × sn_P) := []
theorem co_ST_hasLink : ∀ x n ci s', sn_lk ca_ST_hasLink x = some (n, ci, s') → sn_CO "SwitchedNets$Structure" sn_ws 0 x n ci s' := fun _ _ _ _ h => by cases h
theorem ct_ST_hasLink : sn_CT y_ST_hasLink ws_ST_hasLink 0 sp_ST_hasLink := by
  refine sn_CT_of (pr := pr_ST_hasLink) (fi := (sn_lk ft_ST)) (lc := sn_no) (ca := sn_lk ca_ST_hasLink) pl_ST ?_ pk_ST_hasLink FI_ST (sn_no_ok _) co_ST_hasLink ?_
  · intro vs σ post h
    unfold sp_ST_hasLink at h
    split at h
    · exact Nat.le_of_ble_eq_true rfl
    · exact h.elim
  · intro vs σ post h hvs hR
    unfold sp_ST_hasLink at h
    split at h
    · next q l =>
      obtain ⟨a, i⟩ := q
      obtain ⟨ha, hn, h1, h0⟩ := h
      have ha : a = 9 := ha
      subst ha
      intro G hG
      have hn : σ.1 9 i 9 ≤ 60 := hn
      refine hG 60 [] _ _ _ _ ?_
      refine And.intro (fun c1 => And.intro (Or.inl rfl) (h0 (fun z => by have := z.1; omega))) (fun c1 => And.intro (fun c2 => ?_) (fun c2 => And.intro (Or.inl rfl) (h0 (fun z => ?_))))
      · have c2 : l < σ.1 9 i 9 := c2
        have hb : (0 : Int) ≤ l ∧ l < (60 : Nat) := ⟨c1, by omega⟩
        exact And.intro hb (And.intro (fun c3 => And.intro (Or.inl rfl) (h0 (fun z => z.2.2 c3))) (fun c3 => And.intro (Or.inr rfl) (h1 ⟨c1, c2, c3⟩)))
      · have c2 : σ.1 9 i 9 ≤ l := c2
        have := z.2.1
        have this : l < σ.1 9 i 9 := this
        omega
    · exact h.elim
def hr_ok (X : sX) (k : Int) : Prop := X.2 9 < 60 ∧ X.2 11 < 24 ∧ X.2 10 + (if k = 0 then 2 else if k = 3 then 0 else 1) ≤ 100 ∧ (k = 2 → X.2 12 < 8)
def sp_ST_hasRoomFor : sn_P := fun vs σ po => match vs with
  | [.inr (.inr q), .inl k] => q.1 = 9 ∧ ∃ X, sx_v X q.2 σ ∧ (0 ≤ X.2 10 ∧ X.2 10 ≤ 100) ∧ (hr_ok X k → po (some (.inl 1)) σ) ∧ (¬ hr_ok X k → po (some (.inl 0)) σ)
  | _ => False
def ca_ST_hasRoomFor : List (Nat × Nat × Nat × sn_P) := []
theorem co_ST_hasRoomFor : ∀ x n ci s', sn_lk ca_ST_hasRoomFor x = some (n, ci, s') → sn_CO "SwitchedNets$Structure" sn_ws 0 x n ci s' := fun _ _ _ _ h => by cases h
theorem ct_ST_hasRoomFor : sn_CT y_ST_hasRoomFor ws_ST_hasRoomFor 0 sp_ST_hasRoomFor := by
  refine sn_CT_of (pr := pr_ST_hasRoomFor) (fi := (sn_lk ft_ST)) (lc := sn_no) (ca := sn_lk ca_ST_hasRoomFor) pl_ST ?_ pk_ST_hasRoomFor FI_ST (sn_no_ok _) co_ST_hasRoomFor ?_
  · intro vs σ post h
    unfold sp_ST_hasRoomFor at h
    split at h
    · exact Nat.le_of_ble_eq_true rfl
    · exact h.elim
  · intro vs σ post h hvs hR
    unfold sp_ST_hasRoomFor at h
    split at h
    · next q k =>
      obtain ⟨a, i⟩ := q
      obtain ⟨ha, X, hv, hn, h1, h0⟩ := h
      have ha : a = 9 := ha
      subst ha
      intro G hG
      have s9 : σ.1 9 i 9 = X.2 9 := sx_9 hv (by omega)
      have s10 : σ.1 9 i 10 = X.2 10 := sx_9 hv (by omega)
      have s11 : σ.1 9 i 11 = X.2 11 := sx_9 hv (by omega)
      have s12 : σ.1 9 i 12 = X.2 12 := sx_9 hv (by omega)
      have key : ∀ m : Int, m = (if k = 0 then 2 else if k = 3 then 0 else 1) → (σ.1 9 i 9 < 60 → (σ.1 9 i 11 < 24 → sn_R (σ.1 9 i 10 + m) ∧ (σ.1 9 i 10 + m ≤ 100 → (k = 2 → (σ.1 9 i 12 < 8 → ((1 : Int) = 0 ∨ (1 : Int) = 1) ∧ post (some (.inl 1)) σ) ∧ (8 ≤ σ.1 9 i 12 → ((0 : Int) = 0 ∨ (0 : Int) = 1) ∧ post (some (.inl 0)) σ)) ∧ (¬ k = 2 → ((1 : Int) = 0 ∨ (1 : Int) = 1) ∧ post (some (.inl 1)) σ)) ∧ (100 < σ.1 9 i 10 + m → ((0 : Int) = 0 ∨ (0 : Int) = 1) ∧ post (some (.inl 0)) σ)) ∧ (24 ≤ σ.1 9 i 11 → ((0 : Int) = 0 ∨ (0 : Int) = 1) ∧ post (some (.inl 0)) σ)) ∧ (60 ≤ σ.1 9 i 9 → ((0 : Int) = 0 ∨ (0 : Int) = 1) ∧ post (some (.inl 0)) σ) := by
        intro m hm
        rw [s9, s10, s11, s12]
        have hm2 : 0 ≤ m ∧ m ≤ 2 := by rw [hm]; split; omega; split <;> omega
        refine ⟨fun c1 => ⟨fun c2 => ⟨⟨by omega, by omega⟩, fun c3 => ⟨fun c4 => ⟨fun c5 => ⟨Or.inr rfl, h1 ⟨c1, c2, by rw [← hm]; exact c3, fun _ => c5⟩⟩, fun c5 => ⟨Or.inl rfl, h0 (fun z => by have := z.2.2.2 c4; omega)⟩⟩, fun c4 => ⟨Or.inr rfl, h1 ⟨c1, c2, by rw [← hm]; exact c3, fun z => absurd z c4⟩⟩⟩, fun c3 => ⟨Or.inl rfl, h0 (fun z => by have := z.2.2.1; rw [← hm] at this; omega)⟩⟩, fun c2 => ⟨Or.inl rfl, h0 (fun z => by have := z.2.1; omega)⟩⟩, fun c1 => ⟨Or.inl rfl, h0 (fun z => by have := z.1; omega)⟩⟩
      refine hG 60 [] _ _ _ _ ?_
      refine And.intro (fun c1 => ?_) (fun c1 => And.intro (fun c2 => ?_) (fun c2 => ?_))
      · exact key 2 (by have c1 : k = 0 := c1; rw [if_pos c1])
      · exact key 0 (by have c1 : ¬ k = 0 := c1; have c2 : k = 3 := c2; rw [if_neg c1, if_pos c2])
      · exact key 1 (by have c1 : ¬ k = 0 := c1; have c2 : ¬ k = 3 := c2; rw [if_neg c1, if_neg c2])
    · exact h.elim
def x_aL (X : sX) (k : Int) : sX := x_r (x_r (x_s (x_s X 9 (X.2 9 + 1)) 11 (X.2 11 + 1)) 0 (X.2 9).toNat k) 3 (X.2 9).toNat (-1)
def sp_ST_addLink : sn_P := fun vs σ po => match vs with
  | [.inr (.inr q), .inl k] => q.1 = 9 ∧ ∃ X, sx_v X q.2 σ ∧ (0 ≤ X.2 9 ∧ X.2 9 < 60) ∧ (0 ≤ X.2 11 ∧ X.2 11 ≤ 60) ∧ ∀ σ', sx_v (x_aL X k) q.2 σ' → sx_f q.2 σ σ' → po (some (.inl (X.2 9))) σ'
  | _ => False
def ca_ST_addLink : List (Nat × Nat × Nat × sn_P) := []
theorem co_ST_addLink : ∀ x n ci s', sn_lk ca_ST_addLink x = some (n, ci, s') → sn_CO "SwitchedNets$Structure" sn_ws 0 x n ci s' := fun _ _ _ _ h => by cases h
theorem ct_ST_addLink : sn_CT y_ST_addLink ws_ST_addLink 0 sp_ST_addLink := by
  refine sn_CT_of (pr := pr_ST_addLink) (fi := (sn_lk ft_ST)) (lc := sn_no) (ca := sn_lk ca_ST_addLink) pl_ST ?_ pk_ST_addLink FI_ST (sn_no_ok _) co_ST_addLink ?_
  · intro vs σ post h
    unfold sp_ST_addLink at h
    split at h
    · exact Nat.le_of_ble_eq_true rfl
    · exact h.elim
  · intro vs σ post h hvs hR
    unfold sp_ST_addLink at h
    split at h
    · next q k =>
      obtain ⟨a, i⟩ := q
      obtain ⟨ha, X, hv, h9, h11, h⟩ := h
      have ha : a = 9 := ha
      subst ha
      intro G hG
      have s9 : σ.1 9 i 9 = X.2 9 := sx_9 hv (by omega)
      have s11 : σ.1 9 i 11 = X.2 11 := sx_9 hv (by omega)
      have u11 : sn_u σ.1 9 i 9 (σ.1 9 i 9 + 1) 9 i 11 = X.2 11 := by rw [sn_u_at, if_neg (by omega), s11]
      have hb : (0 : Int) ≤ σ.1 9 i 9 ∧ σ.1 9 i 9 < (60 : Nat) := by rw [s9]; omega
      refine hG 60 [] _ _ _ _ ?_
      refine And.intro ⟨by show -2147483648 ≤ σ.1 9 i 9 + 1; omega, by show σ.1 9 i 9 + 1 < 2147483648; omega⟩ (And.intro ⟨by show -2147483648 ≤ sn_u σ.1 9 i 9 (σ.1 9 i 9 + 1) 9 i 11 + 1; omega, by show sn_u σ.1 9 i 9 (σ.1 9 i 9 + 1) 9 i 11 + 1 < 2147483648; omega⟩ (And.intro hb (And.intro hb ?_)))
      have g := h (sn_u (sn_u (sn_u (sn_u σ.1 9 i 9 (X.2 9 + 1)) 9 i 11 (X.2 11 + 1)) 10 i (X.2 9).toNat k) 13 i (X.2 9).toNat (-1), σ.2) (sx_r (sx_r (sx_s (sx_s hv _ _) _ _) 0 _ _ rfl) 3 _ _ rfl) (sx_f_r (sx_f_r (sx_f_r (sx_f_r (sx_f_rf i σ) _ (by omega)) _ (by omega)) _ (by omega)) _ (by omega))
      rw [← s9, ← u11] at g
      exact g
    · exact h.elim
def x_aE (X : sX) (f s : Int) : sX := x_r (x_r (x_r (x_r (x_s X 10 (X.2 10 + 1)) 4 (X.2 10).toNat f) 5 (X.2 10).toNat s) 6 (X.2 10).toNat (-1)) 7 (X.2 10).toNat (-1)
def sp_ST_addEdge : sn_P := fun vs σ po => match vs with
  | [.inr (.inr q), .inl f, .inl s] => q.1 = 9 ∧ ∃ X, sx_v X q.2 σ ∧ (0 ≤ X.2 10 ∧ X.2 10 < 100) ∧ ∀ σ', sx_v (x_aE X f s) q.2 σ' → sx_f q.2 σ σ' → po (some (.inl (X.2 10))) σ'
  | _ => False
def ca_ST_addEdge : List (Nat × Nat × Nat × sn_P) := []
theorem co_ST_addEdge : ∀ x n ci s', sn_lk ca_ST_addEdge x = some (n, ci, s') → sn_CO "SwitchedNets$Structure" sn_ws 0 x n ci s' := fun _ _ _ _ h => by cases h
theorem ct_ST_addEdge : sn_CT y_ST_addEdge ws_ST_addEdge 0 sp_ST_addEdge := by
  refine sn_CT_of (pr := pr_ST_addEdge) (fi := (sn_lk ft_ST)) (lc := sn_no) (ca := sn_lk ca_ST_addEdge) pl_ST ?_ pk_ST_addEdge FI_ST (sn_no_ok _) co_ST_addEdge ?_
  · intro vs σ post h
    unfold sp_ST_addEdge at h
    split at h
    · exact Nat.le_of_ble_eq_true rfl
    · exact h.elim
  · intro vs σ post h hvs hR
    unfold sp_ST_addEdge at h
    split at h
    · next q f s =>
      obtain ⟨a, i⟩ := q
      obtain ⟨ha, X, hv, h10, h⟩ := h
      have ha : a = 9 := ha
      subst ha
      intro G hG
      have s10 : σ.1 9 i 10 = X.2 10 := sx_9 hv (by omega)
      have hb : (0 : Int) ≤ σ.1 9 i 10 ∧ σ.1 9 i 10 < (100 : Nat) := by rw [s10]; omega
      refine hG 60 [] _ _ _ _ ?_
      refine And.intro ⟨by show -2147483648 ≤ σ.1 9 i 10 + 1; omega, by show σ.1 9 i 10 + 1 < 2147483648; omega⟩ (And.intro hb (And.intro hb (And.intro hb (And.intro hb ?_))))
      have g := h (sn_u (sn_u (sn_u (sn_u (sn_u σ.1 9 i 10 (X.2 10 + 1)) 14 i (X.2 10).toNat f) 15 i (X.2 10).toNat s) 16 i (X.2 10).toNat (-1)) 17 i (X.2 10).toNat (-1), σ.2) (sx_r (sx_r (sx_r (sx_r (sx_s hv _ _) 4 _ _ rfl) 5 _ _ rfl) 6 _ _ rfl) 7 _ _ rfl) (sx_f_r (sx_f_r (sx_f_r (sx_f_r (sx_f_r (sx_f_rf i σ) _ (by omega)) _ (by omega)) _ (by omega)) _ (by omega)) _ (by omega))
      rw [← s10] at g
      exact g
    · exact h.elim
def x_tP (X : sX) (m l r : Int) : sX := x_r (x_r (x_r (x_r X 1 m.toNat l) 2 m.toNat r) 6 l.toNat m) 6 r.toNat m
def sp_ST_takePremises : sn_P := fun vs σ po => match vs with
  | [.inr (.inr q), .inl m, .inl l, .inl r] => q.1 = 9 ∧ ∃ X, sx_v X q.2 σ ∧ (0 ≤ m ∧ m < 60) ∧ (0 ≤ l ∧ l < 100) ∧ (0 ≤ r ∧ r < 100) ∧ ∀ σ', sx_v (x_tP X m l r) q.2 σ' → sx_f q.2 σ σ' → po none σ'
  | _ => False
def ca_ST_takePremises : List (Nat × Nat × Nat × sn_P) := []
theorem co_ST_takePremises : ∀ x n ci s', sn_lk ca_ST_takePremises x = some (n, ci, s') → sn_CO "SwitchedNets$Structure" sn_ws 0 x n ci s' := fun _ _ _ _ h => by cases h
theorem ct_ST_takePremises : sn_CT y_ST_takePremises ws_ST_takePremises 0 sp_ST_takePremises := by
  refine sn_CT_of (pr := pr_ST_takePremises) (fi := (sn_lk ft_ST)) (lc := sn_no) (ca := sn_lk ca_ST_takePremises) pl_ST ?_ pk_ST_takePremises FI_ST (sn_no_ok _) co_ST_takePremises ?_
  · intro vs σ post h
    unfold sp_ST_takePremises at h
    split at h
    · exact Nat.le_of_ble_eq_true rfl
    · exact h.elim
  · intro vs σ post h hvs hR
    unfold sp_ST_takePremises at h
    split at h
    · next q m l r =>
      obtain ⟨a, i⟩ := q
      obtain ⟨ha, X, hv, ⟨m0, m1⟩, ⟨l0, l1⟩, ⟨r0, r1⟩, h⟩ := h
      have ha : a = 9 := ha
      subst ha
      intro G hG
      refine hG 60 [] _ _ _ _ ?_
      refine And.intro ⟨m0, by show m < (60 : Nat); omega⟩ (And.intro ⟨m0, by show m < (60 : Nat); omega⟩ (And.intro ⟨l0, by show l < (100 : Nat); omega⟩ (And.intro ⟨r0, by show r < (100 : Nat); omega⟩ ?_)))
      exact h (sn_u (sn_u (sn_u (sn_u σ.1 11 i m.toNat l) 12 i m.toNat r) 16 i l.toNat m) 16 i r.toNat m, σ.2) (sx_r (sx_r (sx_r (sx_r hv 1 _ _ rfl) 2 _ _ rfl) 6 _ _ rfl) 6 _ _ rfl) (sx_f_r (sx_f_r (sx_f_r (sx_f_r (sx_f_rf i σ) _ (by omega)) _ (by omega)) _ (by omega)) _ (by omega))
    · exact h.elim
def x_nE (X : sX) (e : Int) : sX := x_r (x_r (x_s X 14 (X.2 14 + 1)) 7 e.toNat (X.2 14)) 8 (X.2 14).toNat e
def sp_ST_nameEdge : sn_P := fun vs σ po => match vs with
  | [.inr (.inr q), .inl e] => q.1 = 9 ∧ ∃ X, sx_v X q.2 σ ∧ (0 ≤ X.2 14 ∧ X.2 14 < 100) ∧ (0 ≤ e ∧ e < 100) ∧ ∀ σ', sx_v (x_nE X e) q.2 σ' → sx_f q.2 σ σ' → po (some (.inl (X.2 14))) σ'
  | _ => False
def ca_ST_nameEdge : List (Nat × Nat × Nat × sn_P) := []
theorem co_ST_nameEdge : ∀ x n ci s', sn_lk ca_ST_nameEdge x = some (n, ci, s') → sn_CO "SwitchedNets$Structure" sn_ws 0 x n ci s' := fun _ _ _ _ h => by cases h
theorem ct_ST_nameEdge : sn_CT y_ST_nameEdge ws_ST_nameEdge 0 sp_ST_nameEdge := by
  refine sn_CT_of (pr := pr_ST_nameEdge) (fi := (sn_lk ft_ST)) (lc := sn_no) (ca := sn_lk ca_ST_nameEdge) pl_ST ?_ pk_ST_nameEdge FI_ST (sn_no_ok _) co_ST_nameEdge ?_
  · intro vs σ post h
    unfold sp_ST_nameEdge at h
    split at h
    · exact Nat.le_of_ble_eq_true rfl
    · exact h.elim
  · intro vs σ post h hvs hR
    unfold sp_ST_nameEdge at h
    split at h
    · next q e =>
      obtain ⟨a, i⟩ := q
      obtain ⟨ha, X, hv, h14, ⟨e0, e1⟩, h⟩ := h
      have ha : a = 9 := ha
      subst ha
      intro G hG
      have s14 : σ.1 9 i 14 = X.2 14 := sx_9 hv (by omega)
      have hb : (0 : Int) ≤ σ.1 9 i 14 ∧ σ.1 9 i 14 < (100 : Nat) := by rw [s14]; omega
      refine hG 60 [] _ _ _ _ ?_
      refine And.intro ⟨by show -2147483648 ≤ σ.1 9 i 14 + 1; omega, by show σ.1 9 i 14 + 1 < 2147483648; omega⟩ (And.intro ⟨e0, by show e < (100 : Nat); omega⟩ (And.intro hb ?_))
      have g := h (sn_u (sn_u (sn_u σ.1 9 i 14 (X.2 14 + 1)) 17 i e.toNat (X.2 14)) 18 i (X.2 14).toNat e, σ.2) (sx_r (sx_r (sx_s hv _ _) 7 _ _ rfl) 8 _ _ rfl) (sx_f_r (sx_f_r (sx_f_r (sx_f_rf i σ) _ (by omega)) _ (by omega)) _ (by omega))
      rw [← s14] at g
      exact g
    · exact h.elim
