/-! The class: the parts of a formula are listed. -/
def lpv (σ : sn_M) (P A : List Nat) (c : Nat) : Prop := (∀ i g : Nat, P[i]? = some g → σ.1 34 0 i = (g : Int)) ∧ (∀ i g : Nat, A[i]? = some g → σ.1 35 0 i = (g : Int)) ∧ σ.1 33 0 9 = (P.length : Int) ∧ σ.1 33 0 10 = (A.length : Int) ∧ σ.1 33 0 11 = (c : Int)
def lp_P (a _ c : Nat) : Prop := (a = 33 ∧ 9 ≤ c ∧ c ≤ 11) ∨ a = 34 ∨ a = 35
theorem fo_lp {T : fT} {σ σ' : sn_M} (h : fo_v T σ) (f : sn_fr lp_P σ σ') : fo_v T σ' := fo_v_fr h f (fun a c h1 h2 z => by unfold lp_P at z; omega)
/-- one more at the end of a row -/
theorem rw_push {g g' : Nat → Int} {L : List Nat} {x : Nat} (h : ∀ i y : Nat, L[i]? = some y → g i = (y : Int)) (h1 : ∀ i, i < L.length → g' i = g i) (h2 : g' L.length = (x : Int)) : ∀ i y : Nat, (L ++ [x])[i]? = some y → g' i = (y : Int) := rv_push h h1 h2
def sp_LS_lp (N : Nat) : sn_P := fun vs σ po => match vs with
  | [.inr (.inr q), .inr (.inr u), .inl x, .inl d] => q = (33, 0) ∧ u = (1, 0) ∧ ∃ (T : fT) (f : Nat) (P A : List Nat) (c : Nat), fo_v T σ ∧ fT_ok T ∧ T.2 ≤ 80 ∧ x = (f : Int) ∧ f < T.2 ∧ (lf T f).length ≤ N ∧ 0 ≤ d ∧ d + ((lf T f).length : Int) ≤ 8 ∧ P.length + (pp T f).length ≤ 16 ∧ A.length + (lf T f).length ≤ 8 ∧ c ≤ P.length ∧ lpv σ P A c ∧ ∀ σ', lpv σ' (P ++ pp T f) (A ++ lf T f) (c + tn T (pp T f)) → sn_fr lp_P σ σ' → po none σ'
  | _ => False
def ca_lp (s : sn_P) : List (Nat × Nat × Nat × sn_P) := [(69, 4, 3, s)]
theorem co_lp {d d' : Nat} {s : sn_P} (h : sn_CT y_LS_listParts ws_LS_listParts d' s) (hd : d' < d) (hD : 0 ≤ d) : ∀ x n ci s', sn_lk (ca_lp s) x = some (n, ci, s') → sn_CO "SwitchedNets$LinkingSearch" sn_ws d x n ci s' := sn_co_of (List.forall_mem_cons.mpr ⟨sn_CO_V ("SwitchedNets$LinkingSearch", T_LS, 13) h hd (by decide) (sn_gV ml_LS_69 mi_LS_listParts ms_LS_listParts mz_LS mc_LS_listParts) (show (3 : Nat) ≠ 0 by decide) rfl rfl ⟨nh_LS.1, nh_LS.2, pn_LS_listParts⟩, fun _ h => absurd h List.not_mem_nil⟩)
abbrev dD_lp : Nat := 0
abbrev bd_lp (s : sn_P) (vs : List sn_V) (σ : sn_M) (post : Option sn_V → sn_M → Prop) : Prop := sn_Bd pr_LS_listParts (sn_lk ft_LS) sn_no (sn_lk (ca_lp s)) 4 vs σ post
theorem rc_lp {d d' : Nat} {s s2 : sn_P} (h : sn_CT y_LS_listParts ws_LS_listParts d' s) (hd : d' < d) (hD : 0 ≤ d) (hl : ∀ vs σ post, s2 vs σ post → (sn_L1 vs).length ≤ 4) (hb : ∀ vs σ post, s2 vs σ post → (∀ v ∈ vs, sn_vo v) → (∀ k i j, sn_R (σ.1 k i j)) → bd_lp s vs σ post) : sn_CT y_LS_listParts ws_LS_listParts d s2 := sn_CT_of (pr := pr_LS_listParts) (fi := (sn_lk ft_LS)) (lc := sn_no) (ca := sn_lk (ca_lp s)) pl_LS hl pk_LS_listParts FI_LS (sn_no_ok _) (co_lp h hd hD) hb
theorem tn_le (T : fT) (L : List Nat) : tn T L ≤ L.length := List.length_filter_le _ _
set_option maxHeartbeats 4000000 in
theorem lp_body (N : Nat) : ∀ vs σ post, sp_LS_lp (N + 1) vs σ post → (∀ v ∈ vs, sn_vo v) → (∀ k i j, sn_R (σ.1 k i j)) → bd_lp (sp_LS_lp N) vs σ post := by
  intro vs σ post h hvs hR
  unfold sp_LS_lp at h
  split at h
  · next q u x d =>
    obtain ⟨rfl, rfl, T, f, P, A, c, hfo, hT, h80, rfl, hf, hN, hd0, hd8, hP, hA, hc, hv, hpo⟩ := h
    intro G hG
    have lp := lf_pos hT f hf
    have fi : (0 : Int) ≤ (f : Int) ∧ (f : Int) < (80 : Nat) := by omega
    obtain ⟨⟨r0, r1, r2, -, -⟩, -⟩ := id hfo
    -- the part itself, at the end
    have at87 : ∀ (P1 A1 : List Nat) (c1 : Nat) (σ1 : sn_M), P1.length < 16 → P1 ++ [f] = P ++ pp T f → A1 = A ++ lf T f → c1 = c + tn T (pp T f) → lpv σ1 P1 A1 c1 → sn_fr lp_P σ σ1 → G 87 [some (.inr (.inr (33, 0))), some (.inr (.inr (1, 0))), some (.inl (f : Int)), some (.inl d)] [] σ1 := by
      intro P1 A1 c1 σ1 hP1 e1 e2 e3 v1 f1
      have e9 : σ1.1 33 0 9 = (P1.length : Int) := v1.2.2.1
      refine hG 30 [] _ _ _ _ ?_
      refine And.intro (show 0 ≤ σ1.1 33 0 9 ∧ σ1.1 33 0 9 < (16 : Nat) by rw [e9]; omega) (And.intro (show sn_R (σ1.1 33 0 9 + 1) by rw [e9]; unfold sn_R; omega) (hpo _ ?_ ⟨f1.1, fun a b k hn => ?_⟩))
      · rw [← e1, ← e2, ← e3]
        refine ⟨rw_push (g := σ1.1 34 0) v1.1 (fun i hi => ?_) ?_, fun i g hg => ?_, ?_, ?_, ?_⟩
        · show sn_u (sn_u σ1.1 34 0 (σ1.1 33 0 9).toNat (f : Int)) 33 0 9 (σ1.1 33 0 9 + 1) 34 0 i = _
          rw [sn_u_n (by omega), sn_u_at, if_neg (by omega)]
        · show sn_u (sn_u σ1.1 34 0 (σ1.1 33 0 9).toNat (f : Int)) 33 0 9 (σ1.1 33 0 9 + 1) 34 0 P1.length = _
          rw [sn_u_n (by omega), sn_u_at, if_pos (by omega)]
        · show sn_u (sn_u σ1.1 34 0 (σ1.1 33 0 9).toNat (f : Int)) 33 0 9 (σ1.1 33 0 9 + 1) 35 0 i = _
          rw [sn_u_n (by omega), sn_u_n (by omega)]
          exact v1.2.1 i g hg
        · show sn_u (sn_u σ1.1 34 0 (σ1.1 33 0 9).toNat (f : Int)) 33 0 9 (σ1.1 33 0 9 + 1) 33 0 9 = _
          rw [sn_u_s, e9, List.length_append, List.length_singleton]
          omega
        · show sn_u (sn_u σ1.1 34 0 (σ1.1 33 0 9).toNat (f : Int)) 33 0 9 (σ1.1 33 0 9 + 1) 33 0 10 = _
          rw [sn_u_n (by omega), sn_u_n (by omega)]
          exact v1.2.2.2.1
        · show sn_u (sn_u σ1.1 34 0 (σ1.1 33 0 9).toNat (f : Int)) 33 0 9 (σ1.1 33 0 9 + 1) 33 0 11 = _
          rw [sn_u_n (by omega), sn_u_n (by omega)]
          exact v1.2.2.2.2
      · show sn_u (sn_u σ1.1 34 0 (σ1.1 33 0 9).toNat (f : Int)) 33 0 9 (σ1.1 33 0 9 + 1) a b k = _
        rw [sn_u_n (fun z => hn (Or.inl ⟨z.1, by omega, by omega⟩)), sn_u_n (fun z => hn (Or.inr (Or.inl z.1)))]
        exact f1.2 a b k hn
    refine hG 60 [87] _ _ _ _ ?_
    refine And.intro (fun _ => And.intro fi (And.intro (fun k => ?_) (fun k => ?_))) (fun z => ?_)
    · have k : σ.1 2 0 f = 0 := k
      rw [r0] at k
      have e10 : σ.1 33 0 10 = (A.length : Int) := hv.2.2.2.1
      have hA1 : A.length + 1 ≤ 8 := by rw [lf_a k] at hA; exact hA
      refine And.intro (show 0 ≤ σ.1 33 0 10 ∧ σ.1 33 0 10 < (8 : Nat) by rw [e10]; omega) (And.intro (show sn_R (σ.1 33 0 10 + 1) by rw [e10]; unfold sn_R; omega) ?_)
      refine at87 P (A ++ [f]) c _ (by rw [pp_a k] at hP; exact hP) (by rw [pp_a k]) (by rw [lf_a k]) ?_ ⟨fun i g hg => ?_, rw_push (g := σ.1 35 0) hv.2.1 (fun i hi => ?_) ?_, ?_, ?_, ?_⟩ ⟨rfl, fun a b t hn => ?_⟩
      · rw [pp_a k]
        unfold tn
        rw [List.filter_cons_of_neg (p := fun g => decide (T.1 0 g = 1)) (by rw [decide_eq_true_eq]; omega)]
        rfl
      · show sn_u (sn_u σ.1 35 0 (σ.1 33 0 10).toNat (f : Int)) 33 0 10 (σ.1 33 0 10 + 1) 34 0 i = _
        rw [sn_u_n (by omega), sn_u_n (by omega)]
        exact hv.1 i g hg
      · show sn_u (sn_u σ.1 35 0 (σ.1 33 0 10).toNat (f : Int)) 33 0 10 (σ.1 33 0 10 + 1) 35 0 i = _
        rw [sn_u_n (by omega), sn_u_at, if_neg (by omega)]
      · show sn_u (sn_u σ.1 35 0 (σ.1 33 0 10).toNat (f : Int)) 33 0 10 (σ.1 33 0 10 + 1) 35 0 A.length = _
        rw [sn_u_n (by omega), sn_u_at, if_pos (by omega)]
      · show sn_u (sn_u σ.1 35 0 (σ.1 33 0 10).toNat (f : Int)) 33 0 10 (σ.1 33 0 10 + 1) 33 0 9 = _
        rw [sn_u_n (by omega), sn_u_n (by omega)]
        exact hv.2.2.1
      · show sn_u (sn_u σ.1 35 0 (σ.1 33 0 10).toNat (f : Int)) 33 0 10 (σ.1 33 0 10 + 1) 33 0 10 = _
        rw [sn_u_s, e10, List.length_append, List.length_singleton]
        omega
      · show sn_u (sn_u σ.1 35 0 (σ.1 33 0 10).toNat (f : Int)) 33 0 10 (σ.1 33 0 10 + 1) 33 0 11 = _
        rw [sn_u_n (by omega), sn_u_n (by omega)]
        exact hv.2.2.2.2
      · show sn_u (sn_u σ.1 35 0 (σ.1 33 0 10).toNat (f : Int)) 33 0 10 (σ.1 33 0 10 + 1) a b t = _
        rw [sn_u_n (fun z => hn (Or.inl ⟨z.1, by omega, by omega⟩)), sn_u_n (fun z => hn (Or.inr (Or.inr z.1)))]
    · have k : ¬ σ.1 2 0 f = 0 := k
      rw [r0] at k
      obtain ⟨k12, l, r⟩ := tb_lr hT hf k
      have p1 := lf_pos hT (T.1 1 f).toNat (by omega)
      have p2 := lf_pos hT (T.1 2 f).toNat (by omega)
      have el := lf_j hT hf k
      have ep := pp_j hT hf k
      have ell : (lf T f).length = (lf T (T.1 1 f).toNat).length + (lf T (T.1 2 f).toNat).length := by rw [el, List.length_append]
      have epl : (pp T f).length = (pp T (T.1 1 f).toNat).length + (pp T (T.1 2 f).toNat).length + 1 := by rw [ep, List.length_append, List.length_append, List.length_singleton]
      refine And.intro fi (And.intro (by unfold sn_R; omega) (And.intro rfl (And.intro rfl ⟨T, (T.1 1 f).toNat, P, A, c, hfo, hT, h80, ?_, by omega, by omega, by omega, by omega, by omega, by omega, hc, hv, fun σ1 v1 f1 => ?_⟩)))
      · show σ.1 3 0 f = _
        rw [r1]
        exact l.2.2
      · have hfo1 := fo_lp hfo f1
        obtain ⟨⟨s0, s1, s2, -, -⟩, -⟩ := id hfo1
        have t1 := tn_le T (pp T (T.1 1 f).toNat)
        refine And.intro fi (And.intro (by unfold sn_R; omega) (And.intro rfl (And.intro rfl ⟨T, (T.1 2 f).toNat, P ++ pp T (T.1 1 f).toNat, A ++ lf T (T.1 1 f).toNat, c + tn T (pp T (T.1 1 f).toNat), hfo1, hT, h80, ?_, by omega, by omega, by omega, by omega, by rw [List.length_append]; omega, by rw [List.length_append]; omega, by rw [List.length_append]; omega, v1, fun σ2 v2 f2 => ?_⟩)))
        · show σ1.1 4 0 f = _
          rw [s2]
          exact r.2.2
        · have f12 := sn_fr_t f1 f2
          have hfo2 := fo_lp hfo f12
          obtain ⟨⟨u0, -, -, -, -⟩, -⟩ := id hfo2
          have e11 : σ2.1 33 0 11 = ((c + tn T (pp T (T.1 1 f).toNat) + tn T (pp T (T.1 2 f).toNat) : Nat) : Int) := v2.2.2.2.2
          have t2 := tn_le T (pp T (T.1 2 f).toNat)
          have etn : tn T (pp T f) = tn T (pp T (T.1 1 f).toNat) + tn T (pp T (T.1 2 f).toNat) + tn T [f] := by rw [ep, tn_a, tn_a]
          refine And.intro fi (And.intro (fun kk => ?_) (fun kk => ?_))
          · have kk : σ2.1 2 0 f = 1 := kk
            rw [u0] at kk
            have t3 : tn T [f] = 1 := by
              unfold tn
              rw [List.filter_cons_of_pos (p := fun g => decide (T.1 0 g = 1)) (decide_eq_true kk)]
              rfl
            refine And.intro (show sn_R (σ2.1 33 0 11 + 1) by rw [e11]; unfold sn_R; omega) ?_
            refine at87 (P ++ pp T (T.1 1 f).toNat ++ pp T (T.1 2 f).toNat) (A ++ lf T (T.1 1 f).toNat ++ lf T (T.1 2 f).toNat) (c + tn T (pp T f)) _ (by rw [List.length_append, List.length_append]; omega) (by rw [ep, List.append_assoc, List.append_assoc, List.append_assoc]) (by rw [el, List.append_assoc]) rfl ⟨fun i g hg => ?_, fun i g hg => ?_, ?_, ?_, ?_⟩ (sn_fr_u f12 (Or.inl ⟨rfl, by omega, by omega⟩) _)
            · show sn_u σ2.1 33 0 11 (σ2.1 33 0 11 + 1) 34 0 i = _
              rw [sn_u_n (by omega)]
              exact v2.1 i g hg
            · show sn_u σ2.1 33 0 11 (σ2.1 33 0 11 + 1) 35 0 i = _
              rw [sn_u_n (by omega)]
              exact v2.2.1 i g hg
            · show sn_u σ2.1 33 0 11 (σ2.1 33 0 11 + 1) 33 0 9 = _
              rw [sn_u_n (by omega)]
              exact v2.2.2.1
            · show sn_u σ2.1 33 0 11 (σ2.1 33 0 11 + 1) 33 0 10 = _
              rw [sn_u_n (by omega)]
              exact v2.2.2.2.1
            · show sn_u σ2.1 33 0 11 (σ2.1 33 0 11 + 1) 33 0 11 = _
              rw [sn_u_s, e11, etn, t3]
              omega
          · have kk : ¬ σ2.1 2 0 f = 1 := kk
            rw [u0] at kk
            have t3 : tn T [f] = 0 := by
              unfold tn
              rw [List.filter_cons_of_neg (p := fun g => decide (T.1 0 g = 1)) (by rw [decide_eq_true_eq]; exact kk)]
              rfl
            refine at87 (P ++ pp T (T.1 1 f).toNat ++ pp T (T.1 2 f).toNat) (A ++ lf T (T.1 1 f).toNat ++ lf T (T.1 2 f).toNat) (c + tn T (pp T f)) σ2 (by rw [List.length_append, List.length_append]; omega) (by rw [ep, List.append_assoc, List.append_assoc, List.append_assoc]) (by rw [el, List.append_assoc]) rfl ?_ f12
            rw [etn, t3, Nat.add_zero, ← Nat.add_assoc]
            exact v2
    · have z : (8 : Int) ≤ d := z
      omega
  · exact h.elim
theorem ct_lp : ∀ N, sn_CT y_LS_listParts ws_LS_listParts N (sp_LS_lp N) := by
  have hl : ∀ N, ∀ vs σ post, sp_LS_lp N vs σ post → (sn_L1 vs).length ≤ 4 := by
    intro N vs σ post h
    unfold sp_LS_lp at h
    split at h
    · exact Nat.le_of_ble_eq_true rfl
    · exact h.elim
  intro N
  induction N with
  | zero =>
    intro l D dA ad sz vs σ post h
    unfold sp_LS_lp at h
    split at h
    · obtain ⟨-, -, T, f, P, A, c, -, hT, -, -, hf, hN, -⟩ := h
      have := lf_pos hT f hf
      omega
    · exact h.elim
  | succ N ih => exact rc_lp ih (Nat.lt_succ_self N) (Nat.zero_le _) (hl (N + 1)) (lp_body N)
def sp_LS_listParts : sn_P := sp_LS_lp 8
theorem ct_LS_listParts : sn_CT y_LS_listParts ws_LS_listParts 8 sp_LS_listParts := ct_lp 8
def ca_LS_canBeTree : List (Nat × Nat × Nat × sn_P) := []
theorem co_LS_canBeTree : ∀ x n ci s', sn_lk ca_LS_canBeTree x = some (n, ci, s') → sn_CO "SwitchedNets$LinkingSearch" sn_ws 0 x n ci s' := fun _ _ _ _ h => by cases h
def sp_LS_canBeTree : sn_P := sn_wp pr_LS_canBeTree (sn_lk ft_LS) sn_no (sn_lk ca_LS_canBeTree) 1 19
theorem ct_LS_canBeTree : sn_CT y_LS_canBeTree ws_LS_canBeTree 0 sp_LS_canBeTree := sn_CT_wp 19 pl_LS pk_LS_canBeTree FI_LS (sn_no_ok _) co_LS_canBeTree
def ca_LS_foundPartner : List (Nat × Nat × Nat × sn_P) := []
theorem co_LS_foundPartner : ∀ x n ci s', sn_lk ca_LS_foundPartner x = some (n, ci, s') → sn_CO "SwitchedNets$LinkingSearch" sn_ws 0 x n ci s' := fun _ _ _ _ h => by cases h
def sp_LS_foundPartner : sn_P := sn_wp pr_LS_foundPartner (sn_lk ft_LS) sn_no (sn_lk ca_LS_foundPartner) 3 10
theorem ct_LS_foundPartner : sn_CT y_LS_foundPartner ws_LS_foundPartner 0 sp_LS_foundPartner := sn_CT_wp 10 pl_LS pk_LS_foundPartner FI_LS (sn_no_ok _) co_LS_foundPartner
def sp_LS_firstAlone : sn_P := fun vs σ po => match vs with
  | [.inr (.inr q)] => q = (33, 0) ∧ ∃ n : Nat, σ.1 33 0 10 = (n : Int) ∧ 1 ≤ n ∧ n ≤ 8 ∧ ∀ k : Nat, k < n → (∀ j, j < k → ¬ σ.1 36 0 j = -1) → (σ.1 36 0 k = -1 ∨ k = n - 1) → po (some (.inl (k : Int))) σ
  | _ => False
def ca_LS_firstAlone : List (Nat × Nat × Nat × sn_P) := []
theorem co_LS_firstAlone : ∀ x n ci s', sn_lk ca_LS_firstAlone x = some (n, ci, s') → sn_CO "SwitchedNets$LinkingSearch" sn_ws 0 x n ci s' := fun _ _ _ _ h => by cases h
theorem ct_LS_firstAlone : sn_CT y_LS_firstAlone ws_LS_firstAlone 0 sp_LS_firstAlone := by
  refine sn_CT_of (pr := pr_LS_firstAlone) (fi := (sn_lk ft_LS)) (lc := sn_no) (ca := sn_lk ca_LS_firstAlone) pl_LS ?_ pk_LS_firstAlone FI_LS (sn_no_ok _) co_LS_firstAlone ?_
  · intro vs σ post h
    unfold sp_LS_firstAlone at h
    split at h
    · exact Nat.le_of_ble_eq_true rfl
    · exact h.elim
  · intro vs σ post h hvs hR
    unfold sp_LS_firstAlone at h
    split at h
    · next q =>
      obtain ⟨rfl, n, hn, h1, h8, hpo⟩ := h
      intro G hG
      have loop : ∀ (d k : Nat), n - 1 - k = d → k < n → (∀ j, j < k → ¬ σ.1 36 0 j = -1) → G 2 [some (.inr (.inr (33, 0))), some (.inl (k : Int))] [] σ := by
        intro d
        induction d with
        | zero =>
          intro k hd hk hj
          refine hG 20 [2] _ _ _ _ ?_
          refine And.intro (show sn_R (σ.1 33 0 10 - 1) by rw [hn]; unfold sn_R; omega) (And.intro (fun c => ?_) (fun _ => hpo k hk hj (Or.inr (by omega))))
          have c : (k : Int) < σ.1 33 0 10 - 1 := c
          omega
        | succ d ih =>
          intro k hd hk hj
          refine hG 20 [2] _ _ _ _ ?_
          refine And.intro (show sn_R (σ.1 33 0 10 - 1) by rw [hn]; unfold sn_R; omega) (And.intro (fun _ => And.intro (show (0 : Int) ≤ (k : Int) ∧ (k : Int) < (8 : Nat) by omega) (And.intro (fun c => hpo k hk hj (Or.inl c)) (fun c => And.intro (by unfold sn_R; omega) (ih (k + 1) (by omega) (by omega) (fun j hj' => ?_))))) (fun c => ?_))
          · by_cases w : j = k
            · subst w
              exact c
            · exact hj j (by omega)
          · have c : σ.1 33 0 10 - 1 ≤ (k : Int) := c
            omega
      refine hG 10 [2] _ _ _ _ ?_
      exact loop (n - 1) 0 rfl (by omega) (fun j hj => absurd hj (Nat.not_lt_zero j))
    · exact h.elim
