/-! The class: the linkings of a formula, kept for the one asked last. -/
theorem ct_pu : ∀ m d, dD_pu + m + 1 ≤ d → sn_CT y_LS_pairUp ws_LS_pairUp d (sp_LS_pu m) := by
  have hl : ∀ m, ∀ vs σ post, sp_LS_pu m vs σ post → (sn_L1 vs).length ≤ 5 := by
    intro m vs σ post h
    unfold sp_LS_pu at h
    split at h
    · exact Nat.le_of_ble_eq_true rfl
    · exact h.elim
  intro m
  induction m with
  | zero =>
    intro d hd
    have h0 : sn_CT y_LS_pairUp ws_LS_pairUp 0 (fun _ _ _ => False) := fun _ _ _ _ _ _ _ _ h => h.elim
    exact rc_pu h0 (by omega) (by show dD_pu ≤ d; omega) (hl 0) pu_body0
  | succ m ih =>
    intro d hd
    exact rc_pu (ih (dD_pu + m + 1) (Nat.le_refl _)) (by omega) (by show dD_pu ≤ d; omega) (hl (m + 1)) (pu_body m)
def sp_LS_pairUp : sn_P := fun vs σ po => ∃ m, m ≤ 4 ∧ sp_LS_pu m vs σ po
theorem ct_LS_pairUp : sn_CT y_LS_pairUp ws_LS_pairUp (dD_pu + 5) sp_LS_pairUp := by
  intro l D dA ad sz vs σ post h
  obtain ⟨m, hm, h⟩ := h
  exact ct_pu m (dD_pu + 5) (by omega) l D dA ad sz vs σ post h
def LSP (T : fT) (σ : sn_M) : Prop := σ.1 33 0 8 = -1 ∨ ∃ f : Nat, σ.1 33 0 8 = (f : Int) ∧ f < T.2 ∧ (lf T f).length ≤ 8 ∧ lsA T f σ ∧ fdv σ (NL T f)
theorem LSP_F : in_F LSP := by
  refine ⟨fun T σ σ' h e => ?_, fun T T' σ h hT g => ?_⟩
  · unfold LSP
    rw [e 33 0 8 (by omega) (by omega)]
    rcases h with h | ⟨f, h1, h2, h3, h4, h5⟩
    · exact Or.inl h
    · refine Or.inr ⟨f, h1, h2, h3, lsA_fr h4 (fun a c z => e a 0 c (by omega) (by omega)), ?_, fun i st hi k hk => ?_⟩
      · rw [e 33 0 12 (by omega) (by omega)]
        exact h5.1
      · rw [e 39 0 _ (by omega) (by omega)]
        exact h5.2 i st hi k hk
  · rcases h with h | ⟨f, h1, h2, h3, h4, h5⟩
    · exact Or.inl h
    · obtain ⟨g1, g2, -⟩ := g
      have el := lf_g hT g2 f h2
      have ep := pp_g hT g2 f h2
      have en := NL_g hT g2 h2
      refine Or.inr ⟨f, h1, by omega, by rw [el]; exact h3, ?_, by rw [en]; exact h5⟩
      unfold lsA
      rw [el, ep]
      exact h4
def okf (T : fT) (x : Int) : Prop := ∃ f : Nat, x = (f : Int) ∧ f < T.2 ∧ (lf T f).length ≤ 8
def cf_P (a b c : Nat) : Prop := (33 ≤ a ∧ a ≤ 39) ∨ ((9 ≤ a ∧ a ≤ 18) ∧ b = 3) ∨ sw_R 1 a b c
theorem cf_fo {T : fT} {σ σ' : sn_M} (h : fo_v T σ) (f : sn_fr cf_P σ σ') : fo_v T σ' := fo_v_fr h f (fun a c h1 h2 z => by
  rcases z with z | z | z
  · omega
  · omega
  · rcases z with q | q | q | q | q <;> omega)
def sp_LS_countFor : sn_P := fun vs σ po => match vs with
  | [.inr (.inr q), .inr (.inr u), .inl x] => q = (33, 0) ∧ u = (1, 0) ∧ ∃ (T : fT), fo_v T σ ∧ fT_ok T ∧ T.2 ≤ 80 ∧ LSP T σ ∧ (¬ okf T x → po (some (.inl (-1))) σ) ∧ (∀ (f : Nat) (σ' : sn_M), x = (f : Int) → f < T.2 → (lf T f).length ≤ 8 → σ'.1 33 0 8 = (f : Int) → lsA T f σ' → fdv σ' (NL T f) → sn_fr cf_P σ σ' → po (some (.inl ((NL T f).length : Int))) σ')
  | _ => False
def ca_LS_countFor : List (Nat × Nat × Nat × sn_P) := [(60, 2, 1, sp_FO_has), (69, 4, 3, sp_LS_listParts), (73, 2, 0, sp_AR_fill), (79, 1, 3, sp_LS_canBeTree), (83, 3, 3, sp_LS_pairUp)]
theorem co_LS_countFor : ∀ x n ci s', sn_lk ca_LS_countFor x = some (n, ci, s') → sn_CO "SwitchedNets$LinkingSearch" sn_ws 10 x n ci s' := sn_co_of (List.forall_mem_cons.mpr ⟨sn_CO_V ("SwitchedNets$Formulas", T_FO, 8) ct_FO_has (by decide) (by decide) (sn_gV ml_LS_60 mi_FO_has ms_FO_has mz_FO mc_FO_has) (by decide) rfl rfl ⟨nh_FO.1, nh_FO.2, pn_FO_has⟩, List.forall_mem_cons.mpr ⟨sn_CO_V ("SwitchedNets$LinkingSearch", T_LS, 13) ct_LS_listParts (by decide) (by decide) (sn_gV ml_LS_69 mi_LS_listParts ms_LS_listParts mz_LS mc_LS_listParts) (by decide) rfl rfl ⟨nh_LS.1, nh_LS.2, pn_LS_listParts⟩, List.forall_mem_cons.mpr ⟨sn_CO_S ct_AR_fill (by decide) (by decide) (sn_gS ml_LS_73 mt_AR_fill mz_AR mc_AR_fill) ⟨nh_AR.1, nh_AR.2, pn_AR_fill⟩, List.forall_mem_cons.mpr ⟨sn_CO_V ("SwitchedNets$LinkingSearch", T_LS, 13) ct_LS_canBeTree (by decide) (by decide) (sn_gV ml_LS_79 mi_LS_canBeTree ms_LS_canBeTree mz_LS mc_LS_canBeTree) (by decide) rfl rfl ⟨nh_LS.1, nh_LS.2, pn_LS_canBeTree⟩, List.forall_mem_cons.mpr ⟨sn_CO_V ("SwitchedNets$LinkingSearch", T_LS, 13) ct_LS_pairUp (by decide) (by decide) (sn_gV ml_LS_83 mi_LS_pairUp ms_LS_pairUp mz_LS mc_LS_pairUp) (by decide) rfl rfl ⟨nh_LS.1, nh_LS.2, pn_LS_pairUp⟩, fun _ h => absurd h List.not_mem_nil⟩⟩⟩⟩⟩)
set_option maxHeartbeats 8000000 in
theorem ct_LS_countFor : sn_CT y_LS_countFor ws_LS_countFor 10 sp_LS_countFor := by
  refine sn_CT_of (pr := pr_LS_countFor) (fi := (sn_lk ft_LS)) (lc := sn_no) (ca := sn_lk ca_LS_countFor) pl_LS ?_ pk_LS_countFor FI_LS (sn_no_ok _) co_LS_countFor ?_
  · intro vs σ post h
    unfold sp_LS_countFor at h
    split at h
    · exact Nat.le_of_ble_eq_true rfl
    · exact h.elim
  · intro vs σ post h hvs hR
    unfold sp_LS_countFor at h
    split at h
    · next q u x =>
      obtain ⟨rfl, rfl, T, hfo, hT, h80, hL, h0, h1⟩ := h
      intro G hG
      have r4 : σ.1 6 0 = T.1 4 := hfo.1.2.2.2.2
      refine hG 90 [] _ _ _ _ ?_
      refine fo_has hfo x _ (fun hin => And.intro (fun z => absurd z (by decide)) (fun _ => ?_)) (fun hno => And.intro (fun _ => h0 (fun z => ?_)) (fun z => absurd rfl z))
      case refine_2 =>
        obtain ⟨f, rfl, hf, -⟩ := z
        exact hno ⟨by omega, by omega⟩
      obtain ⟨f, rfl⟩ := Int.eq_ofNat_of_zero_le hin.1
      have hf : f < T.2 := by have := hin.2; omega
      have oc := oc_lf hT f hf
      refine And.intro (show (0 : Int) ≤ (f : Int) ∧ (f : Int) < (80 : Nat) by omega) (And.intro (fun c => ?_) (fun c => h0 (fun z => ?_)))
      case refine_2 =>
        have c : (8 : Int) < σ.1 6 0 f := c
        rw [r4, oc] at c
        obtain ⟨f', e, -, h8⟩ := z
        have : f' = f := by omega
        subst this
        rw [if_neg (by omega)] at c
        omega
      have c : σ.1 6 0 f ≤ 8 := c
      rw [r4, oc] at c
      have h8 : (lf T f).length ≤ 8 := by
        split at c
        · omega
        · omega
      refine And.intro (fun e => ?_) (fun e => ?_)
      · have e : (f : Int) = σ.1 33 0 8 := e
        rcases hL with hL | ⟨f', e', h2, h3, h4, h5⟩
        · omega
        · have : f' = f := by omega
          subst this
          have g := h1 f' σ rfl hf h8 e' h4 h5 (sn_fr_rf _ σ)
          have e12 : σ.1 33 0 12 = ((NL T f').length : Int) := h5.1
          rw [← e12] at g
          exact g
      · have fr1 : sn_fr cf_P σ (sn_u (sn_u (sn_u (sn_u (sn_u σ.1 33 0 8 (f : Int)) 33 0 9 0) 33 0 10 0) 33 0 11 0) 33 0 12 0, σ.2) := by
          refine ⟨rfl, fun a b k hn => ?_⟩
          show sn_u (sn_u (sn_u (sn_u (sn_u σ.1 33 0 8 (f : Int)) 33 0 9 0) 33 0 10 0) 33 0 11 0) 33 0 12 0 a b k = _
          have na : ¬ a = 33 := fun z => hn (Or.inl (by omega))
          rw [sn_u_n (fun z => na z.1), sn_u_n (fun z => na z.1), sn_u_n (fun z => na z.1), sn_u_n (fun z => na z.1), sn_u_n (fun z => na z.1)]
        have plen := pp_len hT f hf
        have n1 := lf_pos hT f hf
        refine And.intro rfl (And.intro rfl ⟨T, f, [], [], 0, cf_fo hfo fr1, hT, h80, rfl, hf, h8, by decide, ?_, by rw [List.length_nil]; omega, by rw [List.length_nil]; omega, Nat.le_refl _, ⟨fun i g hg => by simp at hg, fun i g hg => by simp at hg, rfl, rfl, rfl⟩, fun σ2 v2 f2 => ?_⟩)
        · omega
        · rw [List.nil_append, List.nil_append, Nat.zero_add] at v2
          have f2 : sn_fr lp_P (sn_u (sn_u (sn_u (sn_u (sn_u σ.1 33 0 8 (f : Int)) 33 0 9 0) 33 0 10 0) 33 0 11 0) 33 0 12 0, σ.2) σ2 := f2
          have fr2 : sn_fr cf_P σ σ2 := sn_fr_t fr1 (sn_fr_w f2 (fun a b k z => by unfold lp_P at z; exact Or.inl (by omega)))
          have e8 : σ2.1 33 0 8 = (f : Int) := by
            rw [f2.2 33 0 8 (fun z => by unfold lp_P at z; omega)]
            rfl
          have e12 : σ2.1 33 0 12 = 0 := by
            rw [f2.2 33 0 12 (fun z => by unfold lp_P at z; omega)]
            rfl
          refine And.intro (Or.inr (Or.inr rfl)) (fun p p1 _ => ?_)
          have p1 : ∀ k, k < 8 → p k = -1 := p1
          have o : ∀ a b k, ¬ (a = 36 ∧ b = 0) → (sn_ov σ2 36 0 p).1 a b k = σ2.1 a b k := fun a b k z => sn_ov_n z
          have fr3 : sn_fr cf_P σ (sn_ov σ2 36 0 p) := ⟨fr2.1, fun a b k hn => by rw [o a b k (fun z => hn (Or.inl (by omega)))]; exact fr2.2 a b k hn⟩
          have hA3 : lsA T f (sn_ov σ2 36 0 p) := ⟨fun i g hg => by rw [o 34 0 i (by omega)]; exact v2.1 i g hg, fun i g hg => by rw [o 35 0 i (by omega)]; exact v2.2.1 i g hg, by rw [o 33 0 9 (by omega)]; exact v2.2.2.1, by rw [o 33 0 10 (by omega)]; exact v2.2.2.2.1⟩
          have x10 : (sn_ov σ2 36 0 p).1 33 0 10 = ((lf T f).length : Int) := hA3.2.2.2
          have x11 : (sn_ov σ2 36 0 p).1 33 0 11 = ((tn T (pp T f) : Nat) : Int) := by rw [o 33 0 11 (by omega)]; exact v2.2.2.2.2
          have x12 : (sn_ov σ2 36 0 p).1 33 0 12 = 0 := by rw [o 33 0 12 (by omega)]; exact e12
          have x8 : (sn_ov σ2 36 0 p).1 33 0 8 = (f : Int) := by rw [o 33 0 8 (by omega)]; exact e8
          have fd0 : fdv (sn_ov σ2 36 0 p) [] := ⟨x12, fun i st hi => by simp at hi⟩
          have none' : NL T f = [] → post (some (.inl ((sn_ov σ2 36 0 p).1 33 0 12))) (sn_ov σ2 36 0 p) := fun hz => by
            have g := h1 f (sn_ov σ2 36 0 p) rfl hf h8 x8 hA3 (by rw [hz]; exact fd0) fr3
            rw [hz] at g
            rw [x12]
            exact g
          have tm : ((sn_ov σ2 36 0 p).1 33 0 10).tmod 2 = (((lf T f).length % 2 : Nat) : Int) := by rw [x10, Int.tmod_eq_emod_of_nonneg (by omega)]; omega
          have td : ((sn_ov σ2 36 0 p).1 33 0 10).tdiv 2 = (((lf T f).length / 2 : Nat) : Int) := by rw [x10, Int.tdiv_eq_ediv_of_nonneg (by omega)]; omega
          refine fun G2 => And.intro (by decide) (And.intro (fun c1 => And.intro (by decide) (And.intro ?_ (And.intro (fun c2 => And.intro (Or.inr rfl) (And.intro (fun z => absurd z (by decide)) (fun _ => ?_))) (fun c2 => And.intro (Or.inl rfl) (And.intro (fun _ => none' (NL_no hT hf h8 ?_)) (fun z => absurd rfl z)))))) (fun c1 => And.intro (Or.inl rfl) (And.intro (fun _ => none' (NL_no hT hf h8 ?_)) (fun z => absurd rfl z))))
          · show sn_R (((sn_ov σ2 36 0 p).1 33 0 10).tdiv 2 - 1)
            rw [td]
            unfold sn_R
            omega
          · have c1 : ((sn_ov σ2 36 0 p).1 33 0 10).tmod 2 = 0 := c1
            rw [tm] at c1
            have he : (lf T f).length % 2 = 0 := by omega
            have eAL : AL T f = lvs (0 + (lf T f).length / 2) (pre (lf T f).length (fit T (lf T f)) ((lf T f).length / 2) []) := by rw [Nat.zero_add]; rfl
            have eNL : NL T f = (AL T f).filter (nb T f) := if_pos he
            refine ⟨(lf T f).length / 2, by omega, rfl, rfl, T, f, [], [], cf_fo hfo fr3, hT, h80, hf, h8, hA3, trivial, by rw [List.length_nil]; omega, rfl, fun k hk => ?_, fd0, ?_, fun σ4 _ hF4 f4 => ?_⟩
            · show (sn_ov σ2 36 0 p).1 36 0 k = -1
              rw [sn_ov_s]
              exact p1 k hk
            · rw [List.length_nil, List.length_nil, ← eAL, Nat.zero_add]
              exact NL_len hT hf h8 he
            · rw [List.length_nil, List.nil_append, ← eAL, ← eNL] at hF4
              have f4 : sn_fr pu_P (sn_ov σ2 36 0 p) σ4 := f4
              have nn : ∀ c, (c = 8 ∨ c = 9 ∨ c = 10) → ¬ pu_P 33 0 c := fun c hc z => by
                rcases z with z | z | z | z
                · omega
                · omega
                · omega
                · rcases z with q | q | q | q | q <;> omega
              have fr4 : sn_fr cf_P σ σ4 := sn_fr_t fr3 (sn_fr_w f4 (fun a b k z => by
                rcases z with z | z | z | z
                · exact Or.inl (by omega)
                · exact Or.inl (by omega)
                · exact Or.inr (Or.inl z)
                · exact Or.inr (Or.inr z)))
              have hA4 : lsA T f σ4 := lsA_fr hA3 (fun a c z => f4.2 a 0 c (fun y => (pu_no y).2 z))
              have g := h1 f σ4 rfl hf h8 (by rw [f4.2 33 0 8 (nn 8 (by omega))]; exact x8) hA4 hF4 fr4
              rw [← hF4.1] at g
              exact g
          · have c2 : ¬ (sn_ov σ2 36 0 p).1 33 0 11 = ((sn_ov σ2 36 0 p).1 33 0 10).tdiv 2 - 1 := c2
            rw [x11, td] at c2
            exact fun z => c2 (by omega)
          · have c1 : ¬ ((sn_ov σ2 36 0 p).1 33 0 10).tmod 2 = 0 := c1
            rw [tm] at c1
            exact fun z => c1 (by omega)
    · exact h.elim
def ca_LS_assembleFound : List (Nat × Nat × Nat × sn_P) := [(87, 5, 0, sp_copy), (93, 3, 3, sp_LS_assemble)]
theorem co_LS_assembleFound : ∀ x n ci s', sn_lk ca_LS_assembleFound x = some (n, ci, s') → sn_CO "SwitchedNets$LinkingSearch" sn_ws 3 x n ci s' := sn_co_of (List.forall_mem_cons.mpr ⟨sn_CO_copy (by decide) ml_LS_87 mn_copy mt_copy mz_copy, List.forall_mem_cons.mpr ⟨sn_CO_V ("SwitchedNets$LinkingSearch", T_LS, 13) ct_LS_assemble (by decide) (by decide) (sn_gV ml_LS_93 mi_LS_assemble ms_LS_assemble mz_LS mc_LS_assemble) (by decide) rfl rfl ⟨nh_LS.1, nh_LS.2, pn_LS_assemble⟩, fun _ h => absurd h List.not_mem_nil⟩⟩)
def sp_LS_assembleFound : sn_P := sn_wp pr_LS_assembleFound (sn_lk ft_LS) sn_no (sn_lk ca_LS_assembleFound) 4 16
theorem ct_LS_assembleFound : sn_CT y_LS_assembleFound ws_LS_assembleFound 3 sp_LS_assembleFound := sn_CT_wp 16 pl_LS pk_LS_assembleFound FI_LS (sn_no_ok _) co_LS_assembleFound
def ca_SN_linkings : List (Nat × Nat × Nat × sn_P) := [(195, 3, 3, sp_LS_countFor)]
theorem co_SN_linkings : ∀ x n ci s', sn_lk ca_SN_linkings x = some (n, ci, s') → sn_CO "SwitchedNets" sn_ws 11 x n ci s' := sn_co_of (List.forall_mem_cons.mpr ⟨sn_CO_V ("SwitchedNets$LinkingSearch", T_LS, 13) ct_LS_countFor (by decide) (by decide) (sn_gV ml_SN_195 mi_LS_countFor ms_LS_countFor mz_LS mc_LS_countFor) (by decide) rfl rfl ⟨nh_LS.1, nh_LS.2, pn_LS_countFor⟩, fun _ h => absurd h List.not_mem_nil⟩)
def sp_SN_linkings : sn_P := sn_wp pr_SN_linkings (sn_lk ft_SN) sn_no (sn_lk ca_SN_linkings) 2 8
theorem ct_SN_linkings : sn_CT y_SN_linkings ws_SN_linkings 11 sp_SN_linkings := sn_CT_wp 8 pl_SN pk_SN_linkings FI_SN (sn_no_ok _) co_SN_linkings
def ca_SN_partner : List (Nat × Nat × Nat × sn_P) := [(195, 3, 3, sp_LS_countFor), (202, 3, 3, sp_LS_foundPartner)]
theorem co_SN_partner : ∀ x n ci s', sn_lk ca_SN_partner x = some (n, ci, s') → sn_CO "SwitchedNets" sn_ws 11 x n ci s' := sn_co_of (List.forall_mem_cons.mpr ⟨sn_CO_V ("SwitchedNets$LinkingSearch", T_LS, 13) ct_LS_countFor (by decide) (by decide) (sn_gV ml_SN_195 mi_LS_countFor ms_LS_countFor mz_LS mc_LS_countFor) (by decide) rfl rfl ⟨nh_LS.1, nh_LS.2, pn_LS_countFor⟩, List.forall_mem_cons.mpr ⟨sn_CO_V ("SwitchedNets$LinkingSearch", T_LS, 13) ct_LS_foundPartner (by decide) (by decide) (sn_gV ml_SN_202 mi_LS_foundPartner ms_LS_foundPartner mz_LS mc_LS_foundPartner) (by decide) rfl rfl ⟨nh_LS.1, nh_LS.2, pn_LS_foundPartner⟩, fun _ h => absurd h List.not_mem_nil⟩⟩)
def sp_SN_partner : sn_P := sn_wp pr_SN_partner (sn_lk ft_SN) sn_no (sn_lk ca_SN_partner) 4 28
theorem ct_SN_partner : sn_CT y_SN_partner ws_SN_partner 11 sp_SN_partner := sn_CT_wp 28 pl_SN pk_SN_partner FI_SN (sn_no_ok _) co_SN_partner
def ca_SN_build : List (Nat × Nat × Nat × sn_P) := [(195, 3, 3, sp_LS_countFor), (205, 4, 3, sp_LS_assembleFound)]
theorem co_SN_build : ∀ x n ci s', sn_lk ca_SN_build x = some (n, ci, s') → sn_CO "SwitchedNets" sn_ws 11 x n ci s' := sn_co_of (List.forall_mem_cons.mpr ⟨sn_CO_V ("SwitchedNets$LinkingSearch", T_LS, 13) ct_LS_countFor (by decide) (by decide) (sn_gV ml_SN_195 mi_LS_countFor ms_LS_countFor mz_LS mc_LS_countFor) (by decide) rfl rfl ⟨nh_LS.1, nh_LS.2, pn_LS_countFor⟩, List.forall_mem_cons.mpr ⟨sn_CO_V ("SwitchedNets$LinkingSearch", T_LS, 13) ct_LS_assembleFound (by decide) (by decide) (sn_gV ml_SN_205 mi_LS_assembleFound ms_LS_assembleFound mz_LS mc_LS_assembleFound) (by decide) rfl rfl ⟨nh_LS.1, nh_LS.2, pn_LS_assembleFound⟩, fun _ h => absurd h List.not_mem_nil⟩⟩)
def sp_SN_build : sn_P := sn_wp pr_SN_build (sn_lk ft_SN) sn_no (sn_lk ca_SN_build) 3 25
theorem ct_SN_build : sn_CT y_SN_build ws_SN_build 11 sp_SN_build := sn_CT_wp 25 pl_SN pk_SN_build FI_SN (sn_no_ok _) co_SN_build
