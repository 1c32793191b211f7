/-! What is reached from a link: the class. -/
def ca_PR_bit : List (Nat × Nat × Nat × sn_P) := []
theorem co_PR_bit : ∀ x n ci s', sn_lk ca_PR_bit x = some (n, ci, s') → sn_CO "SwitchedNets$Proof" sn_ws 0 x n ci s' := fun _ _ _ _ h => by cases h
def sp_PR_bit : sn_P := sn_wp pr_PR_bit (sn_lk ft_PR) (sn_lk lc_PR) (sn_lk ca_PR_bit) 1 5
theorem ct_PR_bit : sn_CT y_PR_bit ws_PR_bit 0 sp_PR_bit := sn_CT_wp 5 pl_PR pk_PR_bit FI_PR LC_PR co_PR_bit
def ca_PR_isIn : List (Nat × Nat × Nat × sn_P) := []
theorem co_PR_isIn : ∀ x n ci s', sn_lk ca_PR_isIn x = some (n, ci, s') → sn_CO "SwitchedNets$Proof" sn_ws 0 x n ci s' := fun _ _ _ _ h => by cases h
def sp_PR_isIn : sn_P := sn_wp pr_PR_isIn (sn_lk ft_PR) (sn_lk lc_PR) (sn_lk ca_PR_isIn) 3 13
theorem ct_PR_isIn : sn_CT y_PR_isIn ws_PR_isIn 0 sp_PR_isIn := sn_CT_wp 13 pl_PR pk_PR_isIn FI_PR LC_PR co_PR_isIn
theorem pr_isIn {m : Int64} {v : Nat} (hv : v < 64) {σ : sn_M} (po : Option sn_V → sn_M → Prop) (h1 : ib m v = true → po (some (.inl 1)) σ) (h0 : ¬ ib m v = true → po (some (.inl 0)) σ) : sp_PR_isIn [.inr (.inl m), .inl (v : Int)] σ po := by
  refine fun G => And.intro (fun z => And.intro (Or.inr rfl) (h1 ((ib_is hv).mp (cmp_0.mp z)))) (fun z => And.intro (Or.inl rfl) (h0 (fun y => z (cmp_0.mpr ((ib_is hv).mpr y)))))
def pr_f (σ σ' : sn_M) : Prop := (∀ a b c, ¬ a = 28 → ¬ (a = 25 ∧ c = 3) → σ'.1 a b c = σ.1 a b c) ∧ ∀ a b c, ¬ (a = 25 ∧ c = 4) → σ'.2 a b c = σ.2 a b c
theorem pr_f_rf (σ : sn_M) : pr_f σ σ := ⟨fun _ _ _ _ _ => rfl, fun _ _ _ _ => rfl⟩
theorem pr_f_t {σ σ' σ'' : sn_M} (h : pr_f σ σ') (g : pr_f σ' σ'') : pr_f σ σ'' := ⟨fun a b c h1 h2 => (g.1 a b c h1 h2).trans (h.1 a b c h1 h2), fun a b c h1 => (g.2 a b c h1).trans (h.2 a b c h1)⟩
/-- the queue, and what is reached -/
def bq (σ : sn_M) (L : List Nat) : Prop := (∀ (j v : Nat), L[j]? = some v → σ.1 28 0 j = (v : Int)) ∧ σ.1 25 0 3 = (L.length : Int) ∧ ∀ v, v < 64 → (ib (σ.2 25 0 4) v = true ↔ v ∈ L)
def sp_PR_enter : sn_P := fun vs σ po => match vs with
  | [.inr (.inr q), .inl x, .inr (.inl W)] => q = (25, 0) ∧ ∃ L : List Nat, bq σ L ∧ (x = -1 ∨ (0 ≤ x ∧ x < 60)) ∧ (∀ v : Nat, x = (v : Int) → ib W v = true → v ∉ L → L.length < 24) ∧ ∀ (L' : List Nat) (σ' : sn_M), bq σ' L' → (L' = L ∨ ∃ v : Nat, x = (v : Int) ∧ ib W v = true ∧ v ∉ L ∧ L' = L ++ [v]) → (∀ v : Nat, x = (v : Int) → ib W v = true → v ∈ L') → pr_f σ σ' → po none σ'
  | _ => False
def ca_PR_enter : List (Nat × Nat × Nat × sn_P) := [(43, 1, 0, sp_PR_bit), (65, 2, 0, sp_PR_isIn)]
theorem co_PR_enter : ∀ x n ci s', sn_lk ca_PR_enter x = some (n, ci, s') → sn_CO "SwitchedNets$Proof" sn_ws 1 x n ci s' := sn_co_of (List.forall_mem_cons.mpr ⟨sn_CO_S ct_PR_bit (by decide) (by decide) (sn_gS ml_PR_43 mt_PR_bit mz_PR mc_PR_bit) ⟨nh_PR.1, nh_PR.2, pn_PR_bit⟩, List.forall_mem_cons.mpr ⟨sn_CO_S ct_PR_isIn (by decide) (by decide) (sn_gS ml_PR_65 mt_PR_isIn mz_PR mc_PR_isIn) ⟨nh_PR.1, nh_PR.2, pn_PR_isIn⟩, fun _ h => absurd h List.not_mem_nil⟩⟩)
theorem ct_PR_enter : sn_CT y_PR_enter ws_PR_enter 1 sp_PR_enter := by
  refine sn_CT_of (pr := pr_PR_enter) (fi := (sn_lk ft_PR)) (lc := (sn_lk lc_PR)) (ca := sn_lk ca_PR_enter) pl_PR ?_ pk_PR_enter FI_PR LC_PR co_PR_enter ?_
  · intro vs σ post h
    unfold sp_PR_enter at h
    split at h
    · exact Nat.le_of_ble_eq_true rfl
    · exact h.elim
  · intro vs σ post h hvs hR
    unfold sp_PR_enter at h
    split at h
    · next q x W =>
      obtain ⟨rfl, L, hb, hx, h24, hP⟩ := h
      have h1 : ∀ v : Nat, x = (v : Int) → ib W v = true → v ∉ L → L.length < 24 ∧ ∀ σ', bq σ' (L ++ [v]) → pr_f σ σ' → post none σ' := fun v e1 e2 e3 => ⟨h24 v e1 e2 e3, fun σ' b f => hP (L ++ [v]) σ' b (Or.inr ⟨v, e1, e2, e3, rfl⟩) (fun w e4 _ => by
        have : w = v := by omega
        rw [this]
        exact List.mem_append_right _ List.mem_cons_self) f⟩
      have h2 : (x = -1 ∨ ∃ v : Nat, x = (v : Int) ∧ (¬ ib W v = true ∨ v ∈ L)) → post none σ := fun c => hP L σ hb (Or.inl rfl) (fun w e4 e5 => by
        rcases c with c | ⟨v, e1, c⟩
        · omega
        · have : w = v := by omega
          subst this
          rcases c with c | c
          · exact absurd e5 c
          · exact c) (pr_f_rf σ)
      intro G hG
      refine hG 40 [] _ _ _ _ ?_
      refine And.intro (fun c => h2 (Or.inl c)) (fun c => ?_)
      have c : ¬ x = -1 := c
      obtain ⟨v, rfl⟩ := Int.eq_ofNat_of_zero_le (show 0 ≤ x by omega)
      have hv : v < 60 := by omega
      refine pr_isIn (by omega) _ (fun w => And.intro (fun z => absurd z (by decide)) (fun _ => ?_)) (fun w => And.intro (fun _ => h2 (Or.inr ⟨v, rfl, Or.inl w⟩)) (fun z => absurd rfl z))
      refine pr_isIn (by omega) _ (fun w2 => And.intro (fun z => absurd z (by decide)) (fun _ => h2 (Or.inr ⟨v, rfl, Or.inr ((hb.2.2 v (by omega)).mp w2)⟩))) (fun w2 => And.intro (fun _ => ?_) (fun z => absurd rfl z))
      have nL : v ∉ L := fun z => w2 ((hb.2.2 v (by omega)).mpr z)
      obtain ⟨l24, hpo⟩ := h1 v rfl w nL
      have e3 : σ.1 25 0 3 = (L.length : Int) := hb.2.1
      have i3 : 0 ≤ σ.1 25 0 3 ∧ σ.1 25 0 3 < (24 : Nat) := by rw [e3]; omega
      have r3 : sn_R (σ.1 25 0 3 + 1) := by rw [e3]; unfold sn_R; omega
      refine fun G2 => And.intro i3 (And.intro r3 ?_)
      refine hpo _ ⟨fun j w hj => ?_, ?_, fun w hw => ?_⟩ ⟨fun a b c z1 z2 => ?_, fun a b c z => ?_⟩
      · show sn_u (sn_u σ.1 28 0 (σ.1 25 0 3).toNat (v : Int)) 25 0 3 (σ.1 25 0 3 + 1) 28 0 j = (w : Int)
        rw [sn_u_n (by omega), sn_u_at, e3, show ((L.length : Int)).toNat = L.length from rfl]
        by_cases z : j = L.length
        · subst z
          rw [List.getElem?_append_right (Nat.le_refl _), Nat.sub_self] at hj
          have : v = w := by simpa using hj
          rw [if_pos rfl, this]
        · have hlt : j < (L ++ [v]).length := (List.getElem?_eq_some_iff.mp hj).1
          rw [List.length_append, List.length_singleton] at hlt
          rw [List.getElem?_append_left (by omega)] at hj
          rw [if_neg z]
          exact hb.1 j w hj
      · show sn_u (sn_u σ.1 28 0 (σ.1 25 0 3).toNat (v : Int)) 25 0 3 (σ.1 25 0 3 + 1) 25 0 3 = _
        rw [sn_u_s, e3, List.length_append, List.length_singleton]
        omega
      · show ib (sn_u σ.2 25 0 4 (σ.2 25 0 4 ||| sn_shl 1 (v : Int)) 25 0 4) w = true ↔ _
        rw [sn_u_s, ib_or, ib_bit (by omega) hw, Bool.or_eq_true, hb.2.2 w hw, List.mem_append, List.mem_singleton, decide_eq_true_eq]
      · show sn_u (sn_u σ.1 28 0 (σ.1 25 0 3).toNat (v : Int)) 25 0 3 (σ.1 25 0 3 + 1) a b c = _
        rw [sn_u_n (fun y => z2 ⟨y.1, y.2.2⟩), sn_u_n (fun y => z1 y.1)]
      · show sn_u σ.2 25 0 4 (σ.2 25 0 4 ||| sn_shl 1 (v : Int)) a b c = _
        exact sn_u_n (fun y => z ⟨y.1, y.2.2⟩)
    · exact h.elim
