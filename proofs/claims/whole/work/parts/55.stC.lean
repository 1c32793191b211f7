/-! The class's structures: axioms, joins, cuts; links that go. -/
def s_X (S : sT) : sX := (S.1, fun j => match j with
  | 9 => (S.2.1 : Int)
  | 10 => (S.2.2.1 : Int)
  | 11 => cn_ct (S.1 0) (-1) S.2.1
  | 12 => cn_ct (S.1 0) 2 S.2.1
  | 13 => cn_ct (S.1 0) 3 S.2.1
  | 14 => (S.2.2.2 : Int)
  | _ => 0)
theorem sx_e {X X' : sX} {i : Nat} {σ : sn_M} (h : sx_v X i σ) (h1 : X'.1 0 = X.1 0 ∧ X'.1 1 = X.1 1 ∧ X'.1 2 = X.1 2 ∧ X'.1 3 = X.1 3 ∧ X'.1 4 = X.1 4 ∧ X'.1 5 = X.1 5 ∧ X'.1 6 = X.1 6 ∧ X'.1 7 = X.1 7 ∧ X'.1 8 = X.1 8) (h2 : X'.2 9 = X.2 9 ∧ X'.2 10 = X.2 10 ∧ X'.2 11 = X.2 11 ∧ X'.2 12 = X.2 12 ∧ X'.2 13 = X.2 13 ∧ X'.2 14 = X.2 14) : sx_v X' i σ := by
  obtain ⟨a0, a1, a2, a3, a4, a5, a6, a7, a8⟩ := h1
  obtain ⟨b0, b1, b2, b3, b4, b5⟩ := h2
  refine ⟨fun a ha => ?_, fun j j1 j2 => ?_⟩
  · rw [h.1 a ha]
    match a, ha with
    | 0, _ => exact a0.symm
    | 1, _ => exact a1.symm
    | 2, _ => exact a2.symm
    | 3, _ => exact a3.symm
    | 4, _ => exact a4.symm
    | 5, _ => exact a5.symm
    | 6, _ => exact a6.symm
    | 7, _ => exact a7.symm
    | 8, _ => exact a8.symm
    | a + 9, h => omega
  · rw [h.2 j j1 j2]
    match j, j1, j2 with
    | 9, _, _ => exact b0.symm
    | 10, _, _ => exact b1.symm
    | 11, _, _ => exact b2.symm
    | 12, _, _ => exact b3.symm
    | 13, _, _ => exact b4.symm
    | 14, _, _ => exact b5.symm
    | j + 15, _, h => omega
def sp_ST_addAxiom : sn_P := fun vs σ po => match vs with
  | [.inr (.inr q), .inl f, .inl d] => q.1 = 9 ∧ ∃ S, sx_v (s_X S) q.2 σ ∧ S.2.1 < 60 ∧ S.2.2.1 + 2 ≤ 100 ∧ ∀ σ', sx_v (s_X (s_ax S f d)) q.2 σ' → sx_f q.2 σ σ' → po (some (.inl (S.2.1 : Int))) σ'
  | _ => False
def ca_ST_addAxiom : List (Nat × Nat × Nat × sn_P) := [(71, 2, 5, sp_ST_addLink), (75, 3, 5, sp_ST_addEdge)]
theorem co_ST_addAxiom : ∀ x n ci s', sn_lk ca_ST_addAxiom x = some (n, ci, s') → sn_CO "SwitchedNets$Structure" sn_ws 1 x n ci s' := sn_co_of (List.forall_mem_cons.mpr ⟨sn_CO_V ("SwitchedNets$Structure", T_ST, 15) ct_ST_addLink (by decide) (by decide) (sn_gV ml_ST_71 mi_ST_addLink ms_ST_addLink mz_ST mc_ST_addLink) (by decide) rfl rfl ⟨nh_ST.1, nh_ST.2, pn_ST_addLink⟩, List.forall_mem_cons.mpr ⟨sn_CO_V ("SwitchedNets$Structure", T_ST, 15) ct_ST_addEdge (by decide) (by decide) (sn_gV ml_ST_75 mi_ST_addEdge ms_ST_addEdge mz_ST mc_ST_addEdge) (by decide) rfl rfl ⟨nh_ST.1, nh_ST.2, pn_ST_addEdge⟩, fun _ h => absurd h List.not_mem_nil⟩⟩)
theorem ct_ST_addAxiom : sn_CT y_ST_addAxiom ws_ST_addAxiom 1 sp_ST_addAxiom := by
  refine sn_CT_of (pr := pr_ST_addAxiom) (fi := (sn_lk ft_ST)) (lc := sn_no) (ca := sn_lk ca_ST_addAxiom) pl_ST ?_ pk_ST_addAxiom FI_ST (sn_no_ok _) co_ST_addAxiom ?_
  · intro vs σ post h
    unfold sp_ST_addAxiom at h
    split at h
    · exact Nat.le_of_ble_eq_true rfl
    · exact h.elim
  · intro vs σ post h hvs hR
    unfold sp_ST_addAxiom at h
    split at h
    · next q f d =>
      obtain ⟨a, i⟩ := q
      obtain ⟨ha, S, hv, h60, h100, h⟩ := h
      have ha : a = 9 := ha
      subst ha
      intro G hG
      have cb := cn_ct_b (S.1 0) (-1) S.2.1
      have hb : (0 : Int) ≤ (S.2.1 : Int) ∧ (S.2.1 : Int) < (60 : Nat) := ⟨by omega, by omega⟩
      refine hG 60 [] _ _ _ _ ?_
      refine And.intro rfl ⟨s_X S, hv, ⟨by show (0 : Int) ≤ (S.2.1 : Int); omega, by show (S.2.1 : Int) < 60; omega⟩, ⟨by show 0 ≤ cn_ct _ _ _; omega, by show cn_ct _ _ _ ≤ 60; omega⟩, fun σ1 v1 f1 => ?_⟩
      refine And.intro rfl ⟨x_aL (s_X S) 0, v1, ⟨by show (0 : Int) ≤ (S.2.2.1 : Int); omega, by show (S.2.2.1 : Int) < 100; omega⟩, fun σ2 v2 f2 => And.intro hb ?_⟩
      have v3 := sx_r v2 1 (k := 11) ((S.2.1 : Int)).toNat (S.2.2.1 : Int) rfl
      refine And.intro rfl ⟨_, v3, ⟨by show (0 : Int) ≤ (S.2.2.1 : Int) + 1; omega, by show (S.2.2.1 : Int) + 1 < 100; omega⟩, fun σ4 v4 f4 => And.intro hb ?_⟩
      have v5 := sx_r v4 2 (k := 12) ((S.2.1 : Int)).toNat ((S.2.2.1 : Int) + 1) rfl
      refine h _ (sx_e v5 ⟨rfl, rfl, rfl, rfl, rfl, rfl, rfl, rfl, rfl⟩ ⟨rfl, rfl, ?_, ?_, ?_, rfl⟩) (sx_f_r (sx_f_t f1 (sx_f_t f2 (sx_f_t (sx_f_r (sx_f_rf i σ2) _ (by omega)) f4))) _ (by omega))
      · show cn_ct (sn_up (S.1 0) S.2.1 0) (-1) (S.2.1 + 1) = cn_ct (S.1 0) (-1) S.2.1 + 1
        rw [cn_ct_add, if_pos (by omega)]
      · show cn_ct (sn_up (S.1 0) S.2.1 0) 2 (S.2.1 + 1) = cn_ct (S.1 0) 2 S.2.1
        rw [cn_ct_add, if_neg (by omega)]; omega
      · show cn_ct (sn_up (S.1 0) S.2.1 0) 3 (S.2.1 + 1) = cn_ct (S.1 0) 3 S.2.1
        rw [cn_ct_add, if_neg (by omega)]; omega
    · exact h.elim
def sp_ST_addJoin : sn_P := fun vs σ po => match vs with
  | [.inr (.inr q), .inl k, .inl l, .inl r, .inl f] => q.1 = 9 ∧ (k = 1 ∨ k = 2) ∧ (0 ≤ l ∧ l < 100) ∧ (0 ≤ r ∧ r < 100) ∧ ∃ S, sx_v (s_X S) q.2 σ ∧ S.2.1 < 60 ∧ S.2.2.1 + 1 ≤ 100 ∧ ∀ σ', sx_v (s_X (s_jn S k l r f)) q.2 σ' → sx_f q.2 σ σ' → po (some (.inl (S.2.1 : Int))) σ'
  | _ => False
def ca_ST_addJoin : List (Nat × Nat × Nat × sn_P) := [(71, 2, 5, sp_ST_addLink), (75, 3, 5, sp_ST_addEdge), (79, 4, 5, sp_ST_takePremises)]
theorem co_ST_addJoin : ∀ x n ci s', sn_lk ca_ST_addJoin x = some (n, ci, s') → sn_CO "SwitchedNets$Structure" sn_ws 1 x n ci s' := sn_co_of (List.forall_mem_cons.mpr ⟨sn_CO_V ("SwitchedNets$Structure", T_ST, 15) ct_ST_addLink (by decide) (by decide) (sn_gV ml_ST_71 mi_ST_addLink ms_ST_addLink mz_ST mc_ST_addLink) (by decide) rfl rfl ⟨nh_ST.1, nh_ST.2, pn_ST_addLink⟩, List.forall_mem_cons.mpr ⟨sn_CO_V ("SwitchedNets$Structure", T_ST, 15) ct_ST_addEdge (by decide) (by decide) (sn_gV ml_ST_75 mi_ST_addEdge ms_ST_addEdge mz_ST mc_ST_addEdge) (by decide) rfl rfl ⟨nh_ST.1, nh_ST.2, pn_ST_addEdge⟩, List.forall_mem_cons.mpr ⟨sn_CO_V ("SwitchedNets$Structure", T_ST, 15) ct_ST_takePremises (by decide) (by decide) (sn_gV ml_ST_79 mi_ST_takePremises ms_ST_takePremises mz_ST mc_ST_takePremises) (by decide) rfl rfl ⟨nh_ST.1, nh_ST.2, pn_ST_takePremises⟩, fun _ h => absurd h List.not_mem_nil⟩⟩⟩)
theorem ct_ST_addJoin : sn_CT y_ST_addJoin ws_ST_addJoin 1 sp_ST_addJoin := by
  refine sn_CT_of (pr := pr_ST_addJoin) (fi := (sn_lk ft_ST)) (lc := sn_no) (ca := sn_lk ca_ST_addJoin) pl_ST ?_ pk_ST_addJoin FI_ST (sn_no_ok _) co_ST_addJoin ?_
  · intro vs σ post h
    unfold sp_ST_addJoin at h
    split at h
    · exact Nat.le_of_ble_eq_true rfl
    · exact h.elim
  · intro vs σ post h hvs hR
    unfold sp_ST_addJoin at h
    split at h
    · next q k l r f =>
      obtain ⟨a, i⟩ := q
      obtain ⟨ha, hk, hl, hr, S, hv, h60, h100, h⟩ := h
      have ha : a = 9 := ha
      subst ha
      intro G hG
      have cb := cn_ct_b (S.1 0) (-1) S.2.1
      have cb2 := cn_ct_b (S.1 0) 2 S.2.1
      have hb : (0 : Int) ≤ (S.2.1 : Int) ∧ (S.2.1 : Int) < (60 : Nat) := ⟨by omega, by omega⟩
      refine hG 60 [] _ _ _ _ ?_
      refine And.intro rfl ⟨s_X S, hv, ⟨by show (0 : Int) ≤ (S.2.1 : Int); omega, by show (S.2.1 : Int) < 60; omega⟩, ⟨by show 0 ≤ cn_ct _ _ _; omega, by show cn_ct _ _ _ ≤ 60; omega⟩, fun σ1 v1 f1 => ?_⟩
      refine And.intro rfl ⟨x_aL (s_X S) k, v1, ⟨by show (0 : Int) ≤ (S.2.1 : Int); omega, by show (S.2.1 : Int) < 60; omega⟩, hl, hr, fun σ2 v2 f2 => ?_⟩
      refine And.intro rfl ⟨_, v2, ⟨by show (0 : Int) ≤ (S.2.2.1 : Int); omega, by show (S.2.2.1 : Int) < 100; omega⟩, fun σ3 v3 f3 => And.intro hb ?_⟩
      have v4 := sx_r v3 3 (k := 13) ((S.2.1 : Int)).toNat (S.2.2.1 : Int) rfl
      have e12 : sn_u σ3.1 13 i ((S.2.1 : Int)).toNat (S.2.2.1 : Int) 9 i 12 = cn_ct (S.1 0) 2 S.2.1 := sx_9 v4 (by omega)
      have ff := sx_f_r (sx_f_t f1 (sx_f_t f2 f3)) (k := 13) (j := ((S.2.1 : Int)).toNat) (S.2.2.1 : Int) (by omega)
      have e3 : sn_up (S.1 3) S.2.1 (S.2.2.1 : Int) = sn_up (sn_up (S.1 3) S.2.1 (-1)) S.2.1 (S.2.2.1 : Int) := (sn_up_up _ _ _ _).symm
      have q11 : cn_ct (sn_up (S.1 0) S.2.1 k) (-1) (S.2.1 + 1) = cn_ct (S.1 0) (-1) S.2.1 + 1 := by rw [cn_ct_add, if_pos (by omega)]
      have q13 : cn_ct (sn_up (S.1 0) S.2.1 k) 3 (S.2.1 + 1) = cn_ct (S.1 0) 3 S.2.1 := by rw [cn_ct_add, if_neg (by omega)]; omega
      refine And.intro (fun c1 => ?_) (fun c1 => ?_)
      · have c1 : k = 2 := c1
        refine And.intro ⟨by show -2147483648 ≤ sn_u σ3.1 13 i ((S.2.1 : Int)).toNat (S.2.2.1 : Int) 9 i 12 + 1; omega, by show sn_u σ3.1 13 i ((S.2.1 : Int)).toNat (S.2.2.1 : Int) 9 i 12 + 1 < 2147483648; omega⟩ ?_
        have v5 := sx_s v4 12 (cn_ct (S.1 0) 2 S.2.1 + 1)
        rw [← e12] at v5
        refine h _ (sx_e v5 ⟨rfl, rfl, rfl, e3, rfl, rfl, rfl, rfl, rfl⟩ ⟨rfl, rfl, q11, ?_, q13, rfl⟩) (sx_f_r ff _ (by omega))
        show cn_ct (sn_up (S.1 0) S.2.1 k) 2 (S.2.1 + 1) = sn_u σ3.1 13 i ((S.2.1 : Int)).toNat (S.2.2.1 : Int) 9 i 12 + 1
        rw [e12, cn_ct_add, if_pos (by omega)]
      · have c1 : ¬ k = 2 := c1
        refine h _ (sx_e v4 ⟨rfl, rfl, rfl, e3, rfl, rfl, rfl, rfl, rfl⟩ ⟨rfl, rfl, q11, ?_, q13, rfl⟩) ff
        show cn_ct (sn_up (S.1 0) S.2.1 k) 2 (S.2.1 + 1) = cn_ct (S.1 0) 2 S.2.1
        rw [cn_ct_add, if_neg (by omega)]; omega
    · exact h.elim
def sp_ST_addCut : sn_P := fun vs σ po => match vs with
  | [.inr (.inr q), .inl l, .inl r] => q.1 = 9 ∧ (0 ≤ l ∧ l < 100) ∧ (0 ≤ r ∧ r < 100) ∧ ∃ S, sx_v (s_X S) q.2 σ ∧ S.2.1 < 60 ∧ ∀ σ', sx_v (s_X (s_ct S l r)) q.2 σ' → sx_f q.2 σ σ' → po (some (.inl (S.2.1 : Int))) σ'
  | _ => False
def ca_ST_addCut : List (Nat × Nat × Nat × sn_P) := [(71, 2, 5, sp_ST_addLink), (79, 4, 5, sp_ST_takePremises)]
theorem co_ST_addCut : ∀ x n ci s', sn_lk ca_ST_addCut x = some (n, ci, s') → sn_CO "SwitchedNets$Structure" sn_ws 1 x n ci s' := sn_co_of (List.forall_mem_cons.mpr ⟨sn_CO_V ("SwitchedNets$Structure", T_ST, 15) ct_ST_addLink (by decide) (by decide) (sn_gV ml_ST_71 mi_ST_addLink ms_ST_addLink mz_ST mc_ST_addLink) (by decide) rfl rfl ⟨nh_ST.1, nh_ST.2, pn_ST_addLink⟩, List.forall_mem_cons.mpr ⟨sn_CO_V ("SwitchedNets$Structure", T_ST, 15) ct_ST_takePremises (by decide) (by decide) (sn_gV ml_ST_79 mi_ST_takePremises ms_ST_takePremises mz_ST mc_ST_takePremises) (by decide) rfl rfl ⟨nh_ST.1, nh_ST.2, pn_ST_takePremises⟩, fun _ h => absurd h List.not_mem_nil⟩⟩)
theorem ct_ST_addCut : sn_CT y_ST_addCut ws_ST_addCut 1 sp_ST_addCut := by
  refine sn_CT_of (pr := pr_ST_addCut) (fi := (sn_lk ft_ST)) (lc := sn_no) (ca := sn_lk ca_ST_addCut) pl_ST ?_ pk_ST_addCut FI_ST (sn_no_ok _) co_ST_addCut ?_
  · intro vs σ post h
    unfold sp_ST_addCut at h
    split at h
    · exact Nat.le_of_ble_eq_true rfl
    · exact h.elim
  · intro vs σ post h hvs hR
    unfold sp_ST_addCut at h
    split at h
    · next q l r =>
      obtain ⟨a, i⟩ := q
      obtain ⟨ha, hl, hr, S, hv, h60, h⟩ := h
      have ha : a = 9 := ha
      subst ha
      intro G hG
      have cb := cn_ct_b (S.1 0) (-1) S.2.1
      have cb2 := cn_ct_b (S.1 0) 3 S.2.1
      refine hG 60 [] _ _ _ _ ?_
      refine And.intro rfl ⟨s_X S, hv, ⟨by show (0 : Int) ≤ (S.2.1 : Int); omega, by show (S.2.1 : Int) < 60; omega⟩, ⟨by show 0 ≤ cn_ct _ _ _; omega, by show cn_ct _ _ _ ≤ 60; omega⟩, fun σ1 v1 f1 => ?_⟩
      refine And.intro rfl ⟨x_aL (s_X S) 3, v1, ⟨by show (0 : Int) ≤ (S.2.1 : Int); omega, by show (S.2.1 : Int) < 60; omega⟩, hl, hr, fun σ2 v2 f2 => ?_⟩
      have e13 : σ2.1 9 i 13 = cn_ct (S.1 0) 3 S.2.1 := sx_9 v2 (by omega)
      refine And.intro ⟨by show -2147483648 ≤ σ2.1 9 i 13 + 1; omega, by show σ2.1 9 i 13 + 1 < 2147483648; omega⟩ ?_
      have v3 := sx_s v2 13 (σ2.1 9 i 13 + 1)
      refine h _ (sx_e v3 ⟨rfl, rfl, rfl, rfl, rfl, rfl, rfl, rfl, rfl⟩ ⟨rfl, rfl, ?_, ?_, ?_, rfl⟩) (sx_f_r (sx_f_t f1 f2) _ (by omega))
      · show cn_ct (sn_up (S.1 0) S.2.1 3) (-1) (S.2.1 + 1) = cn_ct (S.1 0) (-1) S.2.1 + 1
        rw [cn_ct_add, if_pos (by omega)]
      · show cn_ct (sn_up (S.1 0) S.2.1 3) 2 (S.2.1 + 1) = cn_ct (S.1 0) 2 S.2.1
        rw [cn_ct_add, if_neg (by omega)]; omega
      · show cn_ct (sn_up (S.1 0) S.2.1 3) 3 (S.2.1 + 1) = σ2.1 9 i 13 + 1
        rw [e13, cn_ct_add, if_pos (by omega)]
    · exact h.elim
/-- a link goes -/
def s_rm (S : sT) (l : Nat) : sT := (fun x => match x with
  | 0 => sn_up (S.1 0) l (-1)
  | x + 1 => S.1 (x + 1), S.2)
def sp_ST_removeLink : sn_P := fun vs σ po => match vs with
  | [.inr (.inr q), .inl l] => q.1 = 9 ∧ ∃ S, sx_v (s_X S) q.2 σ ∧ S.2.1 ≤ 60 ∧ (0 ≤ l ∧ l < (S.2.1 : Int)) ∧ 0 ≤ S.1 0 l.toNat ∧ ∀ σ', sx_v (s_X (s_rm S l.toNat)) q.2 σ' → sx_f q.2 σ σ' → po none σ'
  | _ => False
def ca_ST_removeLink : List (Nat × Nat × Nat × sn_P) := []
theorem co_ST_removeLink : ∀ x n ci s', sn_lk ca_ST_removeLink x = some (n, ci, s') → sn_CO "SwitchedNets$Structure" sn_ws 0 x n ci s' := fun _ _ _ _ h => by cases h
theorem ct_ST_removeLink : sn_CT y_ST_removeLink ws_ST_removeLink 0 sp_ST_removeLink := by
  refine sn_CT_of (pr := pr_ST_removeLink) (fi := (sn_lk ft_ST)) (lc := sn_no) (ca := sn_lk ca_ST_removeLink) pl_ST ?_ pk_ST_removeLink FI_ST (sn_no_ok _) co_ST_removeLink ?_
  · intro vs σ post h
    unfold sp_ST_removeLink at h
    split at h
    · exact Nat.le_of_ble_eq_true rfl
    · exact h.elim
  · intro vs σ post h hvs hR
    unfold sp_ST_removeLink at h
    split at h
    · next q l =>
      obtain ⟨a, i⟩ := q
      obtain ⟨ha, S, hv, h60, ⟨hl0, hl1⟩, hk, h⟩ := h
      have ha : a = 9 := ha
      subst ha
      intro G hG
      have cb := cn_ct_b (S.1 0) (-1) S.2.1
      have cb2 := cn_ct_b (S.1 0) 2 S.2.1
      have cb3 := cn_ct_b (S.1 0) 3 S.2.1
      have hb : (0 : Int) ≤ l ∧ l < (60 : Nat) := ⟨hl0, by omega⟩
      have r0 : σ.1 10 i = S.1 0 := hv.1 0 (by omega)
      have s11 : σ.1 9 i 11 = cn_ct (S.1 0) (-1) S.2.1 := sx_9 hv (by omega)
      have s12 : σ.1 9 i 12 = cn_ct (S.1 0) 2 S.2.1 := sx_9 hv (by omega)
      have s13 : σ.1 9 i 13 = cn_ct (S.1 0) 3 S.2.1 := sx_9 hv (by omega)
      have rm : ∀ k, cn_ct (sn_up (S.1 0) l.toNat (-1)) k S.2.1 = cn_ct (S.1 0) k S.2.1 - (if k < 0 ∨ S.1 0 l.toNat = k then 1 else 0) := fun k => cn_ct_rm k hk _ (by omega)
      -- the last two stores
      have fin : ∀ (X : sX) (τ : sn_M), sx_v X i τ → sx_f i σ τ → X.1 = S.1 → X.2 9 = (S.2.1 : Int) → X.2 10 = (S.2.2.1 : Int) → X.2 11 = cn_ct (S.1 0) (-1) S.2.1 → X.2 12 = cn_ct (sn_up (S.1 0) l.toNat (-1)) 2 S.2.1 → X.2 13 = cn_ct (sn_up (S.1 0) l.toNat (-1)) 3 S.2.1 → X.2 14 = (S.2.2.2 : Int) → ((0 : Int) ≤ l ∧ l < (60 : Nat)) ∧ sn_R (sn_u τ.1 10 i l.toNat (-1) 9 i 11 - 1) ∧ post none (sn_u (sn_u τ.1 10 i l.toNat (-1)) 9 i 11 (sn_u τ.1 10 i l.toNat (-1) 9 i 11 - 1), τ.2) := by
        intro X τ v f e1 e9 e10 e11 e12 e13 e14
        have v2 := sx_r v 0 (k := 10) l.toNat (-1) rfl
        have t11 : sn_u τ.1 10 i l.toNat (-1) 9 i 11 = cn_ct (S.1 0) (-1) S.2.1 := (sx_9 v2 (by omega)).trans e11
        have v3 := sx_s v2 11 (sn_u τ.1 10 i l.toNat (-1) 9 i 11 - 1)
        refine ⟨hb, ⟨by omega, by omega⟩, h _ (sx_e v3 ?_ ⟨?_, ?_, ?_, ?_, ?_, ?_⟩) (sx_f_r (sx_f_r f _ (by omega)) _ (by omega))⟩
        · show sn_up (S.1 0) l.toNat (-1) = sn_up (X.1 0) l.toNat (-1) ∧ S.1 1 = X.1 1 ∧ S.1 2 = X.1 2 ∧ S.1 3 = X.1 3 ∧ S.1 4 = X.1 4 ∧ S.1 5 = X.1 5 ∧ S.1 6 = X.1 6 ∧ S.1 7 = X.1 7 ∧ S.1 8 = X.1 8
          rw [e1]
          exact ⟨rfl, rfl, rfl, rfl, rfl, rfl, rfl, rfl, rfl⟩
        · exact e9.symm
        · exact e10.symm
        · show cn_ct (sn_up (S.1 0) l.toNat (-1)) (-1) S.2.1 = sn_u τ.1 10 i l.toNat (-1) 9 i 11 - 1
          rw [t11, rm, if_pos (by omega)]
        · exact e12.symm
        · exact e13.symm
        · exact e14.symm
      refine hG 60 [] _ _ _ _ ?_
      refine And.intro hb (And.intro (fun c1 => ?_) (fun c1 => ?_))
      · have c1 : σ.1 10 i l.toNat = 2 := c1
        rw [r0] at c1
        refine And.intro ⟨by show -2147483648 ≤ σ.1 9 i 12 - 1; omega, by show σ.1 9 i 12 - 1 < 2147483648; omega⟩ (And.intro hb (And.intro (fun c2 => ?_) (fun _ => ?_)))
        · have c2 : σ.1 10 i l.toNat = 3 := c2
          rw [r0] at c2
          omega
        · exact fin _ _ (sx_s hv 12 (σ.1 9 i 12 - 1)) (sx_f_r (sx_f_rf i σ) _ (by omega)) rfl rfl rfl rfl (by show σ.1 9 i 12 - 1 = _; rw [s12, rm, if_pos (by omega)]) (by show cn_ct (S.1 0) 3 S.2.1 = _; rw [rm, if_neg (by omega)]; omega) rfl
      · have c1 : ¬ σ.1 10 i l.toNat = 2 := c1
        rw [r0] at c1
        refine And.intro hb (And.intro (fun c2 => ?_) (fun c2 => ?_))
        · have c2 : σ.1 10 i l.toNat = 3 := c2
          rw [r0] at c2
          refine And.intro ⟨by show -2147483648 ≤ σ.1 9 i 13 - 1; omega, by show σ.1 9 i 13 - 1 < 2147483648; omega⟩ ?_
          exact fin _ _ (sx_s hv 13 (σ.1 9 i 13 - 1)) (sx_f_r (sx_f_rf i σ) _ (by omega)) rfl rfl rfl rfl (by show cn_ct (S.1 0) 2 S.2.1 = _; rw [rm, if_neg (by omega)]; omega) (by show σ.1 9 i 13 - 1 = _; rw [s13, rm, if_pos (by omega)]) rfl
        · have c2 : ¬ σ.1 10 i l.toNat = 3 := c2
          rw [r0] at c2
          exact fin _ _ hv (sx_f_rf i σ) rfl rfl rfl rfl (by show cn_ct (S.1 0) 2 S.2.1 = _; rw [rm, if_neg (by omega)]; omega) (by show cn_ct (S.1 0) 3 S.2.1 = _; rw [rm, if_neg (by omega)]; omega) rfl
    · exact h.elim
