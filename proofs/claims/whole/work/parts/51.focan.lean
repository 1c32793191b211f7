/-! The class's canHold, obtain, canHoldDual. -/
def sp_FO_canHold : sn_P := fun vs σ po => match vs with
  | [.inr (.inr q), .inl k, .inl l, .inl r] => q = (1, 0) ∧ ∃ T : fT, fo_v T σ ∧ T.2 ≤ 80 ∧ (T.2 < 80 → po (some (.inl 1)) σ) ∧ (T.2 = 80 → ∀ x, fm_F (T.1 0) (T.1 1) (T.1 2) T.2 k l r x → (x = -1 → po (some (.inl 0)) σ) ∧ (¬ x = -1 → po (some (.inl 1)) σ))
  | _ => False
def ca_FO_canHold : List (Nat × Nat × Nat × sn_P) := [(38, 4, 1, sp_FO_find)]
theorem co_FO_canHold : ∀ x n ci s', sn_lk ca_FO_canHold x = some (n, ci, s') → sn_CO "SwitchedNets$Formulas" sn_ws 1 x n ci s' := sn_co_of (List.forall_mem_cons.mpr ⟨sn_CO_V ("SwitchedNets$Formulas", T_FO, 8) ct_FO_find (by decide) (by decide) (sn_gV ml_FO_38 mi_FO_find ms_FO_find mz_FO mc_FO_find) (by decide) rfl rfl ⟨nh_FO.1, nh_FO.2, pn_FO_find⟩, fun _ h => absurd h List.not_mem_nil⟩)
theorem ct_FO_canHold : sn_CT y_FO_canHold ws_FO_canHold 1 sp_FO_canHold := by
  refine sn_CT_of (pr := pr_FO_canHold) (fi := (sn_lk ft_FO)) (lc := sn_no) (ca := sn_lk ca_FO_canHold) pl_FO ?_ pk_FO_canHold FI_FO (sn_no_ok _) co_FO_canHold ?_
  · intro vs σ post h
    unfold sp_FO_canHold at h
    split at h
    · exact Nat.le_of_ble_eq_true rfl
    · exact h.elim
  · intro vs σ post h hvs hR
    unfold sp_FO_canHold at h
    split at h
    · next q k l r =>
      obtain ⟨rfl, T, ⟨⟨v0, v1, v2, v3, v4⟩, vn⟩, h80, h1, h2⟩ := h
      intro G hG
      have en : (σ.1 1 0 7).toNat = T.2 := by rw [vn]; rfl
      refine hG 60 [] _ _ _ _ ?_
      refine And.intro (fun c1 => ?_) (fun c1 => And.intro rfl (And.intro ?_ (fun x hx => ?_)))
      · have c1 : σ.1 1 0 7 < 80 := c1
        rw [vn] at c1
        exact And.intro (Or.inr rfl) (h1 (by omega))
      · show 0 ≤ σ.1 1 0 7 ∧ σ.1 1 0 7 ≤ 80
        rw [vn]; omega
      · have c1 : 80 ≤ σ.1 1 0 7 := c1
        rw [vn] at c1
        rw [en, v0, v1, v2] at hx
        obtain ⟨p1, p2⟩ := h2 (by omega) x hx
        exact And.intro (fun c => And.intro (Or.inl rfl) (p1 c)) (fun c => And.intro (Or.inr rfl) (p2 c))
    · exact h.elim
def sp_FO_obtain : sn_P := fun vs σ po => match vs with
  | [.inr (.inr q), .inl k, .inl l, .inl r] => q = (1, 0) ∧ ∃ T : fT, fo_v T σ ∧ fT_ok T ∧ T.2 ≤ 80 ∧ ∀ x, fm_F (T.1 0) (T.1 1) (T.1 2) T.2 k l r x → (0 ≤ x → po (some (.inl x)) σ) ∧ (x = -1 → T.2 < 80 ∧ tb_new (T.1 0) (T.1 1) (T.1 2) T.2 k l r ∧ ∀ y σ', dx_is (T.1 0) (T.1 1) (T.1 2) T.2 (T.1 3) k l r y → fo_v (fT_add T k l r y) σ' → fo_f σ σ' → po (some (.inl (T.2 : Int))) σ')
  | _ => False
def ca_FO_obtain : List (Nat × Nat × Nat × sn_P) := [(38, 4, 1, sp_FO_find), (42, 4, 1, sp_FO_add)]
theorem co_FO_obtain : ∀ x n ci s', sn_lk ca_FO_obtain x = some (n, ci, s') → sn_CO "SwitchedNets$Formulas" sn_ws 3 x n ci s' := sn_co_of (List.forall_mem_cons.mpr ⟨sn_CO_V ("SwitchedNets$Formulas", T_FO, 8) ct_FO_find (by decide) (by decide) (sn_gV ml_FO_38 mi_FO_find ms_FO_find mz_FO mc_FO_find) (by decide) rfl rfl ⟨nh_FO.1, nh_FO.2, pn_FO_find⟩, List.forall_mem_cons.mpr ⟨sn_CO_V ("SwitchedNets$Formulas", T_FO, 8) ct_FO_add (by decide) (by decide) (sn_gV ml_FO_42 mi_FO_add ms_FO_add mz_FO mc_FO_add) (by decide) rfl rfl ⟨nh_FO.1, nh_FO.2, pn_FO_add⟩, fun _ h => absurd h List.not_mem_nil⟩⟩)
theorem ct_FO_obtain : sn_CT y_FO_obtain ws_FO_obtain 3 sp_FO_obtain := by
  refine sn_CT_of (pr := pr_FO_obtain) (fi := (sn_lk ft_FO)) (lc := sn_no) (ca := sn_lk ca_FO_obtain) pl_FO ?_ pk_FO_obtain FI_FO (sn_no_ok _) co_FO_obtain ?_
  · intro vs σ post h
    unfold sp_FO_obtain at h
    split at h
    · exact Nat.le_of_ble_eq_true rfl
    · exact h.elim
  · intro vs σ post h hvs hR
    unfold sp_FO_obtain at h
    split at h
    · next q k l r =>
      obtain ⟨rfl, T, hv, hT, h80, h⟩ := h
      obtain ⟨⟨v0, v1, v2, v3, v4⟩, vn⟩ := id hv
      intro G hG
      have en : (σ.1 1 0 7).toNat = T.2 := by rw [vn]; rfl
      refine hG 60 [] _ _ _ _ ?_
      refine And.intro rfl (And.intro ?_ (fun x hx => ?_))
      · show 0 ≤ σ.1 1 0 7 ∧ σ.1 1 0 7 ≤ 80
        rw [vn]; omega
      · rw [en, v0, v1, v2] at hx
        have hb := fm_F_b hx
        obtain ⟨p1, p2⟩ := h x hx
        refine And.intro (fun c => ?_) (fun c => ?_)
        · have c : x = -1 := c
          obtain ⟨q1, q2, q3⟩ := p2 c
          exact And.intro rfl ⟨T, hv, hT, q1, q2, fun y σ' a b c => q3 y σ' a b c⟩
        · have c : ¬ x = -1 := c
          exact p1 (by omega)
    · exact h.elim
def sp_FO_canHoldDual : sn_P := fun vs σ po => match vs with
  | [.inr (.inr q), .inl f] => q = (1, 0) ∧ ∃ T T' : fT, fo_v T σ ∧ fT_ok T ∧ T.2 ≤ 80 ∧ (0 ≤ f ∧ f < (T.2 : Int)) ∧ dl 80 f.toNat T T' ∧ ∀ σ', sn_fr (fun a _ _ => a = 7) σ σ' → (T'.2 ≤ 80 → po (some (.inl 1)) σ') ∧ (80 < T'.2 → po (some (.inl 0)) σ')
  | _ => False
theorem fo_v_7 {T : fT} {σ σ' : sn_M} (h : fo_v T σ) (hf : sn_fr (fun a _ _ => a = 7) σ σ') : fo_v T σ' := by
  have e : ∀ a b, a ≠ 7 → σ'.1 a b = σ.1 a b := fun a b ha => funext fun c => hf.2 a b c ha
  unfold fo_v
  rw [e 2 0 (by omega), e 3 0 (by omega), e 4 0 (by omega), e 5 0 (by omega), e 6 0 (by omega), e 1 0 (by omega)]
  exact h
def ca_FO_canHoldDual : List (Nat × Nat × Nat × sn_P) := [(45, 2, 1, sp_FO_missingDuals)]
theorem co_FO_canHoldDual : ∀ x n ci s', sn_lk ca_FO_canHoldDual x = some (n, ci, s') → sn_CO "SwitchedNets$Formulas" sn_ws 1 x n ci s' := sn_co_of (List.forall_mem_cons.mpr ⟨sn_CO_V ("SwitchedNets$Formulas", T_FO, 8) ct_FO_missingDuals (by decide) (by decide) (sn_gV ml_FO_45 mi_FO_missingDuals ms_FO_missingDuals mz_FO mc_FO_missingDuals) (by decide) rfl rfl ⟨nh_FO.1, nh_FO.2, pn_FO_missingDuals⟩, fun _ h => absurd h List.not_mem_nil⟩)
theorem ct_FO_canHoldDual : sn_CT y_FO_canHoldDual ws_FO_canHoldDual 1 sp_FO_canHoldDual := by
  refine sn_CT_of (pr := pr_FO_canHoldDual) (fi := (sn_lk ft_FO)) (lc := sn_no) (ca := sn_lk ca_FO_canHoldDual) pl_FO ?_ pk_FO_canHoldDual FI_FO (sn_no_ok _) co_FO_canHoldDual ?_
  · intro vs σ post h
    unfold sp_FO_canHoldDual at h
    split at h
    · exact Nat.le_of_ble_eq_true rfl
    · exact h.elim
  · intro vs σ post h hvs hR
    unfold sp_FO_canHoldDual at h
    split at h
    · next q f' =>
      obtain ⟨rfl, T, T', hv, hT, h80, ⟨hf0, hf1⟩, hdl, h⟩ := h
      intro G hG
      obtain ⟨f, rfl⟩ := Int.eq_ofNat_of_zero_le hf0
      have ef : ((f : Int)).toNat = f := rfl
      rw [ef] at hdl
      obtain ⟨kk, bb⟩ := dl_all hT (by omega) (by omega) hdl
      refine hG 60 [] _ _ _ _ ?_
      refine And.intro rfl ⟨T, hv, hT, h80, ⟨hf0, hf1⟩, fun m σ' hm hfr => ?_⟩
      have en := dl_n (by omega) hT.1 kk bb m hm
      have hc : cB (fun g => decide (T.1 3 g < 0) && m g) (f + 1) = T'.2 - T.2 := by omega
      have hle : cB (fun g => decide (T.1 3 g < 0) && m g) (f + 1) ≤ f + 1 := by
        have : ∀ (p : Nat → Bool) (n : Nat), cB p n ≤ n := by
          intro p n
          induction n with
          | zero => exact Nat.le_refl _
          | succ n ih =>
            show cB p n + (bif p n then 1 else 0) ≤ n + 1
            cases p n <;> simp <;> omega
        exact this _ _
      have vn : σ.1 1 0 7 = (T.2 : Int) := hv.2
      obtain ⟨p1, p2⟩ := h σ' hfr
      refine And.intro ⟨by show -2147483648 ≤ σ.1 1 0 7 + ((cB (fun g => decide (T.1 3 g < 0) && m g) (f + 1) : Nat) : Int); omega, by show σ.1 1 0 7 + ((cB (fun g => decide (T.1 3 g < 0) && m g) (f + 1) : Nat) : Int) < 2147483648; omega⟩ (And.intro (fun c => ?_) (fun c => ?_))
      · have c : σ.1 1 0 7 + ((cB (fun g => decide (T.1 3 g < 0) && m g) (f + 1) : Nat) : Int) ≤ 80 := c
        exact And.intro (Or.inr rfl) (p1 (by omega))
      · have c : 80 < σ.1 1 0 7 + ((cB (fun g => decide (T.1 3 g < 0) && m g) (f + 1) : Nat) : Int) := c
        exact And.intro (Or.inl rfl) (p2 (by omega))
    · exact h.elim
