/-! The reference's axioms, joins, names; an empty block. -/
def sp_MD_addAxiom : sn_P := fun vs σ po => match vs with
  | [.inr (.inr q), .inl b, .inl f, .inl d] => q = (40, 0) ∧ ∃ (c : Nat) (S : sT), b = (c : Int) ∧ c < 4 ∧ my_v S c σ ∧ S.2.1 < 60 ∧ S.2.2.1 + 2 ≤ 100 ∧ ∀ σ', my_v (s_ax S f d) c σ' → sn_fr (cp_P c) σ σ' → po (some (.inl (S.2.1 : Int))) σ'
  | _ => False
def ca_MD_addAxiom : List (Nat × Nat × Nat × sn_P) := [(112, 5, 8, sp_MD_addLink), (116, 4, 8, sp_MD_addEdge)]
theorem co_MD_addAxiom : ∀ x n ci s', sn_lk ca_MD_addAxiom x = some (n, ci, s') → sn_CO "SwitchedNetsModel" sn_ws 1 x n ci s' := sn_co_of (List.forall_mem_cons.mpr ⟨sn_CO_V ("SwitchedNetsModel", T_MD, 29) ct_MD_addLink (by decide) (by decide) (sn_gV ml_MD_112 mi_MD_addLink ms_MD_addLink mz_MD mc_MD_addLink) (by decide) rfl rfl ⟨nh_MD.1, nh_MD.2, pn_MD_addLink⟩, List.forall_mem_cons.mpr ⟨sn_CO_V ("SwitchedNetsModel", T_MD, 29) ct_MD_addEdge (by decide) (by decide) (sn_gV ml_MD_116 mi_MD_addEdge ms_MD_addEdge mz_MD mc_MD_addEdge) (by decide) rfl rfl ⟨nh_MD.1, nh_MD.2, pn_MD_addEdge⟩, fun _ h => absurd h List.not_mem_nil⟩⟩)
theorem ct_MD_addAxiom : sn_CT y_MD_addAxiom ws_MD_addAxiom 1 sp_MD_addAxiom := by
  refine sn_CT_of (pr := pr_MD_addAxiom) (fi := (sn_lk ft_MD)) (lc := (sn_lk lc_MD)) (ca := sn_lk ca_MD_addAxiom) pl_MD ?_ pk_MD_addAxiom FI_MD LC_MD co_MD_addAxiom ?_
  · intro vs σ post h
    unfold sp_MD_addAxiom at h
    split at h
    · exact Nat.le_of_ble_eq_true rfl
    · exact h.elim
  · intro vs σ post h hvs hR
    unfold sp_MD_addAxiom at h
    split at h
    · next q b f d =>
      obtain ⟨rfl, c, S, rfl, hc, hv, hm, he, h⟩ := h
      intro G hG
      have r1 : sn_R (60 * (c : Int)) := by unfold sn_R; omega
      have r2 : sn_R (60 * (c : Int) + (S.2.1 : Int)) := by unfold sn_R; omega
      have i1 : 0 ≤ 60 * (c : Int) + (S.2.1 : Int) ∧ 60 * (c : Int) + (S.2.1 : Int) < (240 : Nat) := by omega
      have ix : (60 * (c : Int) + (S.2.1 : Int)).toNat = 60 * c + S.2.1 := by omega
      refine hG 60 [] _ _ _ _ ?_
      refine And.intro rfl ⟨c, S, rfl, hc, hv, hm, fun z => absurd rfl z, fun σ1 v1 f1 => ?_⟩
      refine And.intro r1 (And.intro r2 ?_)
      refine And.intro rfl ⟨c, _, rfl, hc, v1, (by show S.2.2.1 < 100; omega), fun σ2 v2 f2 => ?_⟩
      refine And.intro i1 ?_
      have v3 := my_l v2 1 S.2.1 (S.2.2.1 : Int) (by omega) hm (k := 50) rfl ix
      have f3 := sn_fr_u (sn_fr_t f1 f2) (cp_l (k := 50) (by omega) (by omega) hm ix) (S.2.2.1 : Int)
      refine And.intro r1 (And.intro r2 ?_)
      refine And.intro rfl ⟨c, _, rfl, hc, v3, (by show S.2.2.1 + 1 < 100; omega), fun σ4 v4 f4 => ?_⟩
      refine And.intro i1 ?_
      have v5 := my_l v4 2 S.2.1 ((S.2.2.1 + 1 : Nat) : Int) (by omega) hm (k := 51) rfl ix
      have f5 := sn_fr_u (sn_fr_t f3 f4) (cp_l (k := 51) (by omega) (by omega) hm ix) ((S.2.2.1 + 1 : Nat) : Int)
      refine h _ (my_e v5 (fun a ha => ?_) rfl) f5
      match a, ha with
      | 0, _ => rfl
      | 1, _ => exact (sn_up_up _ _ _ _).symm
      | 2, _ => exact (sn_up_up _ _ _ _).symm
      | 3, _ => rfl
      | 4, _ => rfl
      | 5, _ => rfl
      | 6, _ => rfl
      | 7, _ => rfl
      | 8, _ => rfl
      | a + 9, h => omega
    · exact h.elim
def sp_MD_addPair : sn_P := fun vs σ po => match vs with
  | [.inr (.inr q), .inl b, .inl k, .inl l, .inl r, .inl f] => q = (40, 0) ∧ ∃ (c : Nat) (S : sT), b = (c : Int) ∧ c < 4 ∧ my_v S c σ ∧ S.2.1 < 60 ∧ S.2.2.1 + 1 ≤ 100 ∧ (¬ k = 0 ∧ (0 ≤ l ∧ l < 100) ∧ 0 ≤ r ∧ r < 100) ∧ ∀ σ', my_v (s_jn S k l r f) c σ' → sn_fr (cp_P c) σ σ' → po (some (.inl (S.2.1 : Int))) σ'
  | _ => False
def ca_MD_addPair : List (Nat × Nat × Nat × sn_P) := [(112, 5, 8, sp_MD_addLink), (116, 4, 8, sp_MD_addEdge)]
theorem co_MD_addPair : ∀ x n ci s', sn_lk ca_MD_addPair x = some (n, ci, s') → sn_CO "SwitchedNetsModel" sn_ws 1 x n ci s' := sn_co_of (List.forall_mem_cons.mpr ⟨sn_CO_V ("SwitchedNetsModel", T_MD, 29) ct_MD_addLink (by decide) (by decide) (sn_gV ml_MD_112 mi_MD_addLink ms_MD_addLink mz_MD mc_MD_addLink) (by decide) rfl rfl ⟨nh_MD.1, nh_MD.2, pn_MD_addLink⟩, List.forall_mem_cons.mpr ⟨sn_CO_V ("SwitchedNetsModel", T_MD, 29) ct_MD_addEdge (by decide) (by decide) (sn_gV ml_MD_116 mi_MD_addEdge ms_MD_addEdge mz_MD mc_MD_addEdge) (by decide) rfl rfl ⟨nh_MD.1, nh_MD.2, pn_MD_addEdge⟩, fun _ h => absurd h List.not_mem_nil⟩⟩)
theorem ct_MD_addPair : sn_CT y_MD_addPair ws_MD_addPair 1 sp_MD_addPair := by
  refine sn_CT_of (pr := pr_MD_addPair) (fi := (sn_lk ft_MD)) (lc := (sn_lk lc_MD)) (ca := sn_lk ca_MD_addPair) pl_MD ?_ pk_MD_addPair FI_MD LC_MD co_MD_addPair ?_
  · intro vs σ post h
    unfold sp_MD_addPair at h
    split at h
    · exact Nat.le_of_ble_eq_true rfl
    · exact h.elim
  · intro vs σ post h hvs hR
    unfold sp_MD_addPair at h
    split at h
    · next q b k l r f =>
      obtain ⟨rfl, c, S, rfl, hc, hv, hm, he, ⟨hk, hlr⟩, h⟩ := h
      intro G hG
      have r1 : sn_R (60 * (c : Int)) := by unfold sn_R; omega
      have r2 : sn_R (60 * (c : Int) + (S.2.1 : Int)) := by unfold sn_R; omega
      have i1 : 0 ≤ 60 * (c : Int) + (S.2.1 : Int) ∧ 60 * (c : Int) + (S.2.1 : Int) < (240 : Nat) := by omega
      have ix : (60 * (c : Int) + (S.2.1 : Int)).toNat = 60 * c + S.2.1 := by omega
      refine hG 60 [] _ _ _ _ ?_
      refine And.intro rfl ⟨c, S, rfl, hc, hv, hm, fun _ => hlr, fun σ1 v1 f1 => ?_⟩
      refine And.intro r1 (And.intro r2 ?_)
      refine And.intro rfl ⟨c, _, rfl, hc, v1, (by show S.2.2.1 < 100; omega), fun σ2 v2 f2 => ?_⟩
      refine And.intro i1 ?_
      have v3 := my_l v2 3 S.2.1 (S.2.2.1 : Int) (by omega) hm (k := 52) rfl ix
      have f3 := sn_fr_u (sn_fr_t f1 f2) (cp_l (k := 52) (by omega) (by omega) hm ix) (S.2.2.1 : Int)
      refine h _ (my_e v3 (fun a ha => ?_) rfl) f3
      match a, ha with
      | 0, _ => rfl
      | 1, _ => rfl
      | 2, _ => rfl
      | 3, _ => exact (sn_up_up _ _ _ _).symm
      | 4, _ => rfl
      | 5, _ => rfl
      | 6, _ =>
        show _ = sn_up (if k = 0 then S.1 6 else _) _ _
        rw [if_neg hk]
        rfl
      | 7, _ => rfl
      | 8, _ => rfl
      | a + 9, h => omega
    · exact h.elim
def sp_MD_name : sn_P := fun vs σ po => match vs with
  | [.inr (.inr q), .inl b, .inl e] => q = (40, 0) ∧ ∃ (c : Nat) (S : sT), b = (c : Int) ∧ c < 4 ∧ my_v S c σ ∧ S.2.2.2 < 100 ∧ (0 ≤ e ∧ e < 100) ∧ ∀ σ', my_v (s_nm S e) c σ' → sn_fr (cp_P c) σ σ' → po none σ'
  | _ => False
def ca_MD_name : List (Nat × Nat × Nat × sn_P) := []
theorem co_MD_name : ∀ x n ci s', sn_lk ca_MD_name x = some (n, ci, s') → sn_CO "SwitchedNetsModel" sn_ws 0 x n ci s' := fun _ _ _ _ h => by cases h
theorem ct_MD_name : sn_CT y_MD_name ws_MD_name 0 sp_MD_name := by
  refine sn_CT_of (pr := pr_MD_name) (fi := (sn_lk ft_MD)) (lc := (sn_lk lc_MD)) (ca := sn_lk ca_MD_name) pl_MD ?_ pk_MD_name FI_MD LC_MD co_MD_name ?_
  · intro vs σ post h
    unfold sp_MD_name at h
    split at h
    · exact Nat.le_of_ble_eq_true rfl
    · exact h.elim
  · intro vs σ post h hvs hR
    unfold sp_MD_name at h
    split at h
    · next q b e =>
      obtain ⟨rfl, c, S, rfl, hc, hv, hm, he, h⟩ := h
      intro G hG
      have e1 : σ.1 48 0 c = (S.2.2.2 : Int) := hv.2.2.2.2
      have c0 : (0 : Int) ≤ (c : Int) ∧ (c : Int) < (4 : Nat) := by omega
      have r1 : sn_R (100 * (c : Int)) := by unfold sn_R; omega
      have r2 : sn_R (100 * (c : Int) + e) := by unfold sn_R; omega
      have r3 : sn_R (100 * (c : Int) + σ.1 48 0 c) := by rw [e1]; unfold sn_R; omega
      have r4 : sn_R (σ.1 48 0 c + 1) := by rw [e1]; unfold sn_R; omega
      have i1 : 0 ≤ 100 * (c : Int) + e ∧ 100 * (c : Int) + e < (400 : Nat) := by omega
      have i2 : 0 ≤ 100 * (c : Int) + σ.1 48 0 c ∧ 100 * (c : Int) + σ.1 48 0 c < (400 : Nat) := by rw [e1]; omega
      have x1 : (100 * (c : Int) + e).toNat = 100 * c + e.toNat := by omega
      have x2 : (100 * (c : Int) + (S.2.2.2 : Int)).toNat = 100 * c + S.2.2.2 := by omega
      refine hG 60 [] _ _ _ _ ?_
      refine And.intro r1 (And.intro r2 (And.intro c0 (And.intro i1 (And.intro r1 (And.intro c0 (And.intro r3 (And.intro i2 (And.intro c0 (And.intro r4 (And.intro c0 ?_))))))))))
      have v1 := my_g (my_g hv 7 e.toNat (S.2.2.2 : Int) (by omega) (by omega) (by omega) (k := 56) rfl x1) 8 S.2.2.2 e (by omega) (by omega) hm (k := 57) rfl x2
      have v2 := my_e (S' := s_nm S e) (my_c v1 (k := 48) (by omega) (v := (S.2.2.2 : Int) + 1) (_, S.2.1, S.2.2.1, S.2.2.2 + 1) rfl ⟨rfl, rfl, rfl⟩) (fun a ha => by
          match a, ha with
          | 0, _ => rfl
          | 1, _ => rfl
          | 2, _ => rfl
          | 3, _ => rfl
          | 4, _ => rfl
          | 5, _ => rfl
          | 6, _ => rfl
          | 7, _ => rfl
          | 8, _ => rfl
          | a + 9, h => omega) rfl
      have g := h _ v2 (sn_fr_u (sn_fr_u (sn_fr_u (sn_fr_rf _ σ) (cp_g (by omega) (by omega) (by omega) x1) _) (cp_g (by omega) (by omega) hm x2) _) (cp_c (by omega)) _)
      rw [← e1] at g
      exact g
    · exact h.elim
def sp_MD_empty : sn_P := fun vs σ po => match vs with
  | [.inr (.inr q), .inl b] => q = (40, 0) ∧ ∃ (c : Nat) (S : sT), b = (c : Int) ∧ c < 4 ∧ my_v S c σ ∧ ∀ σ', my_v (s_0 S) c σ' → sn_fr (cp_P c) σ σ' → po none σ'
  | _ => False
def ca_MD_empty : List (Nat × Nat × Nat × sn_P) := []
theorem co_MD_empty : ∀ x n ci s', sn_lk ca_MD_empty x = some (n, ci, s') → sn_CO "SwitchedNetsModel" sn_ws 0 x n ci s' := fun _ _ _ _ h => by cases h
theorem ct_MD_empty : sn_CT y_MD_empty ws_MD_empty 0 sp_MD_empty := by
  refine sn_CT_of (pr := pr_MD_empty) (fi := (sn_lk ft_MD)) (lc := (sn_lk lc_MD)) (ca := sn_lk ca_MD_empty) pl_MD ?_ pk_MD_empty FI_MD LC_MD co_MD_empty ?_
  · intro vs σ post h
    unfold sp_MD_empty at h
    split at h
    · exact Nat.le_of_ble_eq_true rfl
    · exact h.elim
  · intro vs σ post h hvs hR
    unfold sp_MD_empty at h
    split at h
    · next q b =>
      obtain ⟨rfl, c, S, rfl, hc, hv, h⟩ := h
      intro G hG
      have c0 : (0 : Int) ≤ (c : Int) ∧ (c : Int) < (4 : Nat) := by omega
      refine hG 60 [] _ _ _ _ ?_
      refine And.intro c0 (And.intro c0 (And.intro c0 ?_))
      have v1 := my_c hv (k := 46) (by omega) (v := 0) (S.1, 0, S.2.2.1, S.2.2.2) rfl ⟨rfl, rfl, rfl⟩
      have v2 := my_c v1 (k := 47) (by omega) (v := 0) (S.1, 0, 0, S.2.2.2) rfl ⟨rfl, rfl, rfl⟩
      have v3 := my_c v2 (k := 48) (by omega) (v := 0) (s_0 S) rfl ⟨rfl, rfl, rfl⟩
      exact h _ v3 (sn_fr_u (sn_fr_u (sn_fr_u (sn_fr_rf _ σ) (cp_c (by omega)) _) (cp_c (by omega)) _) (cp_c (by omega)) _)
    · exact h.elim
