/-! Looking a formula up: in the class (the first that fits), in the reference (the last). -/
def fm_M (K L R : Nat → Int) (k l r : Int) (j : Nat) : Prop := K j = k ∧ L j = l ∧ R j = r
def fm_F (K L R : Nat → Int) (n : Nat) (k l r x : Int) : Prop := (x = -1 ∧ ∀ j, j < n → ¬ fm_M K L R k l r j) ∨ ∃ j : Nat, j < n ∧ x = (j : Int) ∧ fm_M K L R k l r j
def ca_FO_has : List (Nat × Nat × Nat × sn_P) := []
theorem co_FO_has : ∀ x n ci s', sn_lk ca_FO_has x = some (n, ci, s') → sn_CO "SwitchedNets$Formulas" sn_ws 0 x n ci s' := fun _ _ _ _ h => by cases h
def sp_FO_has : sn_P := sn_wp pr_FO_has (sn_lk ft_FO) sn_no (sn_lk ca_FO_has) 2 11
theorem ct_FO_has : sn_CT y_FO_has ws_FO_has 0 sp_FO_has := sn_CT_wp 11 pl_FO pk_FO_has FI_FO (sn_no_ok _) co_FO_has
def ca_FO_otherKind : List (Nat × Nat × Nat × sn_P) := []
theorem co_FO_otherKind : ∀ x n ci s', sn_lk ca_FO_otherKind x = some (n, ci, s') → sn_CO "SwitchedNets$Formulas" sn_ws 0 x n ci s' := fun _ _ _ _ h => by cases h
def sp_FO_otherKind : sn_P := sn_wp pr_FO_otherKind (sn_lk ft_FO) sn_no (sn_lk ca_FO_otherKind) 1 8
theorem ct_FO_otherKind : sn_CT y_FO_otherKind ws_FO_otherKind 0 sp_FO_otherKind := sn_CT_wp 8 pl_FO pk_FO_otherKind FI_FO (sn_no_ok _) co_FO_otherKind
def sp_FO_find : sn_P := fun vs σ po => match vs with
  | [.inr (.inr q), .inl k, .inl l, .inl r] => q = (1, 0) ∧ (0 ≤ σ.1 1 0 7 ∧ σ.1 1 0 7 ≤ 80) ∧ ∀ x, fm_F (σ.1 2 0) (σ.1 3 0) (σ.1 4 0) (σ.1 1 0 7).toNat k l r x → po (some (.inl x)) σ
  | _ => False
def ca_FO_find : List (Nat × Nat × Nat × sn_P) := []
theorem co_FO_find : ∀ x n ci s', sn_lk ca_FO_find x = some (n, ci, s') → sn_CO "SwitchedNets$Formulas" sn_ws 0 x n ci s' := fun _ _ _ _ h => by cases h
theorem ct_FO_find : sn_CT y_FO_find ws_FO_find 0 sp_FO_find := by
  refine sn_CT_of (pr := pr_FO_find) (fi := (sn_lk ft_FO)) (lc := sn_no) (ca := sn_lk ca_FO_find) pl_FO ?_ pk_FO_find FI_FO (sn_no_ok _) co_FO_find ?_
  · intro vs σ post h
    unfold sp_FO_find at h
    split at h
    · exact Nat.le_of_ble_eq_true rfl
    · exact h.elim
  · intro vs σ post h hvs hR
    unfold sp_FO_find at h
    split at h
    · next q k l r =>
      obtain ⟨rfl, ⟨hn0, hn1⟩, h⟩ := h
      intro G hG
      obtain ⟨n, hn⟩ := Int.eq_ofNat_of_zero_le hn0
      rw [hn] at hn1 h
      have loop : ∀ (d i : Nat), n - i = d → i ≤ n → (∀ j, j < i → ¬ fm_M (σ.1 2 0) (σ.1 3 0) (σ.1 4 0) k l r j) → G 3 [some (.inr (.inr (1, 0))), some (.inl k), some (.inl l), some (.inl r), some (.inl (i : Int))] [] σ := by
        intro d
        induction d with
        | zero =>
          intro i hd hi hno
          refine hG 60 [3] _ _ _ _ ?_
          refine And.intro (fun c1 => ?_) (fun c1 => ?_)
          · have c1 : (i : Int) < σ.1 1 0 7 := c1
            omega
          · exact h (-1) (Or.inl ⟨rfl, fun j hj => hno j (by have : j < n := hj; omega)⟩)
        | succ d ih =>
          intro i hd hi hno
          have hlt : i < n := by omega
          have hb : (0 : Int) ≤ (i : Int) ∧ (i : Int) < (80 : Nat) := ⟨by omega, by omega⟩
          have next : ¬ fm_M (σ.1 2 0) (σ.1 3 0) (σ.1 4 0) k l r i → sn_R ((i : Int) + 1) ∧ G 3 [some (.inr (.inr (1, 0))), some (.inl k), some (.inl l), some (.inl r), some (.inl ((i : Int) + 1))] [] σ := by
            intro hm
            refine ⟨⟨by omega, by omega⟩, ih (i + 1) (by omega) (by omega) (fun j hj => ?_)⟩
            by_cases hji : j = i
            · subst hji; exact hm
            · exact hno j (by omega)
          refine hG 60 [3] _ _ _ _ ?_
          refine And.intro (fun c1 => ?_) (fun c1 => ?_)
          · refine And.intro hb (And.intro (fun c2 => And.intro hb (And.intro (fun c3 => And.intro hb (And.intro (fun c4 => ?_) (fun c4 => ?_))) (fun c3 => ?_))) (fun c2 => ?_))
            · exact h i (Or.inr ⟨i, hlt, rfl, c2, c3, c4⟩)
            · exact next (fun z => c4 z.2.2)
            · exact next (fun z => c3 z.2.1)
            · exact next (fun z => c2 z.1)
          · have c1 : σ.1 1 0 7 ≤ (i : Int) := c1
            omega
      refine hG 60 [3] _ _ _ _ ?_
      exact loop n 0 (by omega) (by omega) (fun j hj => by omega)
    · exact h.elim
def ca_MD_thrown : List (Nat × Nat × Nat × sn_P) := []
theorem co_MD_thrown : ∀ x n ci s', sn_lk ca_MD_thrown x = some (n, ci, s') → sn_CO "SwitchedNetsModel" sn_ws 0 x n ci s' := fun _ _ _ _ h => by cases h
def sp_MD_thrown : sn_P := sn_wp pr_MD_thrown (sn_lk ft_MD) (sn_lk lc_MD) (sn_lk ca_MD_thrown) 1 4
theorem ct_MD_thrown : sn_CT y_MD_thrown ws_MD_thrown 0 sp_MD_thrown := sn_CT_wp 4 pl_MD pk_MD_thrown FI_MD LC_MD co_MD_thrown
def ca_MD_isFormula : List (Nat × Nat × Nat × sn_P) := []
theorem co_MD_isFormula : ∀ x n ci s', sn_lk ca_MD_isFormula x = some (n, ci, s') → sn_CO "SwitchedNetsModel" sn_ws 0 x n ci s' := fun _ _ _ _ h => by cases h
def sp_MD_isFormula : sn_P := sn_wp pr_MD_isFormula (sn_lk ft_MD) (sn_lk lc_MD) (sn_lk ca_MD_isFormula) 2 11
theorem ct_MD_isFormula : sn_CT y_MD_isFormula ws_MD_isFormula 0 sp_MD_isFormula := sn_CT_wp 11 pl_MD pk_MD_isFormula FI_MD LC_MD co_MD_isFormula
def sp_MD_find : sn_P := fun vs σ po => match vs with
  | [.inr (.inr q), .inl k, .inl l, .inl r] => q = (40, 0) ∧ (0 ≤ σ.1 40 0 1 ∧ σ.1 40 0 1 ≤ 80) ∧ ∀ x, fm_F (σ.1 41 0) (σ.1 42 0) (σ.1 43 0) (σ.1 40 0 1).toNat k l r x → po (some (.inl x)) σ
  | _ => False
def ca_MD_find : List (Nat × Nat × Nat × sn_P) := []
theorem co_MD_find : ∀ x n ci s', sn_lk ca_MD_find x = some (n, ci, s') → sn_CO "SwitchedNetsModel" sn_ws 0 x n ci s' := fun _ _ _ _ h => by cases h
theorem ct_MD_find : sn_CT y_MD_find ws_MD_find 0 sp_MD_find := by
  refine sn_CT_of (pr := pr_MD_find) (fi := (sn_lk ft_MD)) (lc := (sn_lk lc_MD)) (ca := sn_lk ca_MD_find) pl_MD ?_ pk_MD_find FI_MD LC_MD co_MD_find ?_
  · intro vs σ post h
    unfold sp_MD_find at h
    split at h
    · exact Nat.le_of_ble_eq_true rfl
    · exact h.elim
  · intro vs σ post h hvs hR
    unfold sp_MD_find at h
    split at h
    · next q k l r =>
      obtain ⟨rfl, ⟨hn0, hn1⟩, h⟩ := h
      intro G hG
      obtain ⟨n, hn⟩ := Int.eq_ofNat_of_zero_le hn0
      rw [hn] at hn1 h
      have loop : ∀ (d i : Nat) (x : Int), n - i = d → i ≤ n → fm_F (σ.1 41 0) (σ.1 42 0) (σ.1 43 0) i k l r x → G 6 [some (.inr (.inr (40, 0))), some (.inl k), some (.inl l), some (.inl r), some (.inl x), some (.inl (i : Int))] [] σ := by
        intro d
        induction d with
        | zero =>
          intro i x hd hi hx
          refine hG 60 [6] _ _ _ _ ?_
          refine And.intro (fun c1 => ?_) (fun c1 => ?_)
          · have c1 : (i : Int) < σ.1 40 0 1 := c1
            omega
          · have e : i = n := by omega
            subst e
            exact h x hx
        | succ d ih =>
          intro i x hd hi hx
          have hlt : i < n := by omega
          have hb : (0 : Int) ≤ (i : Int) ∧ (i : Int) < (80 : Nat) := ⟨by omega, by omega⟩
          have hr : sn_R ((i : Int) + 1) := ⟨by omega, by omega⟩
          have next : ¬ fm_M (σ.1 41 0) (σ.1 42 0) (σ.1 43 0) k l r i → sn_R ((i : Int) + 1) ∧ G 6 [some (.inr (.inr (40, 0))), some (.inl k), some (.inl l), some (.inl r), some (.inl x), some (.inl ((i : Int) + 1))] [] σ := by
            intro hm
            refine ⟨hr, ih (i + 1) x (by omega) (by omega) ?_⟩
            rcases hx with ⟨hx, hno⟩ | ⟨j, hj, hx, hmj⟩
            · refine Or.inl ⟨hx, fun j hj => ?_⟩
              by_cases hji : j = i
              · subst hji; exact hm
              · exact hno j (by omega)
            · exact Or.inr ⟨j, by omega, hx, hmj⟩
          refine hG 60 [6] _ _ _ _ ?_
          refine And.intro (fun c1 => ?_) (fun c1 => ?_)
          · refine And.intro hb (And.intro (fun c2 => And.intro hb (And.intro (fun c3 => And.intro hb (And.intro (fun c4 => ?_) (fun c4 => ?_))) (fun c3 => ?_))) (fun c2 => ?_))
            · exact ⟨hr, ih (i + 1) i (by omega) (by omega) (Or.inr ⟨i, by omega, rfl, c2, c3, c4⟩)⟩
            · exact next (fun z => c4 z.2.2)
            · exact next (fun z => c3 z.2.1)
            · exact next (fun z => c2 z.1)
          · have c1 : σ.1 40 0 1 ≤ (i : Int) := c1
            omega
      refine hG 60 [6] _ _ _ _ ?_
      exact loop n 0 (-1) (by omega) (by omega) (Or.inl ⟨rfl, fun j hj => by omega⟩)
    · exact h.elim
