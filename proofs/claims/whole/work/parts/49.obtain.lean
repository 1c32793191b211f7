/-! The class's obtainDual. -/
theorem dl_det : ∀ (m f : Nat) (T T' T'' : fT), dl m f T T' → dl m f T T'' → T' = T'' := by
  intro m
  induction m with
  | zero => intro f T T' T'' h; exact h.elim
  | succ m ih =>
    intro f T T' T'' h1 h2
    rcases h1 with ⟨a, e1⟩ | ⟨a, b, e1⟩ | ⟨a, b, T1, T2, d1, d2, c, e1⟩
    · rcases h2 with ⟨-, e2⟩ | ⟨a', -, -⟩ | ⟨a', -⟩
      · rw [e1, e2]
      · omega
      · omega
    · rcases h2 with ⟨a', -⟩ | ⟨-, -, e2⟩ | ⟨-, b', -⟩
      · omega
      · rw [e1, e2]
      · exact absurd b b'
    · rcases h2 with ⟨a', -⟩ | ⟨-, b', -⟩ | ⟨-, -, S1, S2, s1, s2, -, e2⟩
      · omega
      · exact absurd b' b
      · have q := ih _ _ _ _ d1 s1
        subst q
        have q := ih _ _ _ _ d2 s2
        subst q
        rw [e1, e2]
theorem dl_all {m f : Nat} {T T' : fT} (hT : fT_ok T) (hf : f < T.2) (hm : f < m) (h : dl m f T T') : dl_k T T' ∧ dl_b T f T' := by
  obtain ⟨S, h1, h2⟩ := dl_ex m f T hT hf hm
  rw [dl_det m f T T' S h h1]
  exact h2
/-- what the steps of a pair are: its parts are done one after the other -/
theorem dl_mid {m f : Nat} {T T1 T2 : fT} (hT : fT_ok T) (hf : f < T.2) (hm : f < m + 1) (hk : ¬ T.1 0 f = 0) (d1 : dl m (T.1 1 f).toNat T T1) (d2 : dl m (T.1 2 f).toNat T1 T2) : (dl_k T T1 ∧ dl_k T1 T2) ∧ (0 ≤ T1.1 3 (T.1 1 f).toNat ∧ dl_r T2 f) ∧ (∀ a, a ≠ 3 → T1.1 a f = T.1 a f ∧ T2.1 a f = T.1 a f) ∧ (T.1 1 f).toNat < f ∧ (T.1 2 f).toNat < f := by
  rcases hT.1 f hf with ⟨z, -⟩ | ⟨-, hl, hr⟩
  · exact absurd z hk
  · obtain ⟨k1, b1⟩ := dl_all hT (by omega) (by omega) d1
    have n1 := k1.2.1
    obtain ⟨k2, b2⟩ := dl_all k1.1 (by omega) (by omega) d2
    have n2 := k2.2.1
    have l1 : 0 ≤ T1.1 3 (T.1 1 f).toNat := (b1 _ (by omega)).mpr (Or.inr (pt_rf _ _ _ _))
    have e1 : ∀ a, a ≠ 3 → T1.1 a f = T.1 a f := fun a ha => k1.2.2.1 a f ha hf
    have e2 : ∀ a, a ≠ 3 → T2.1 a f = T.1 a f := fun a ha => (dl_k_t k1 k2).2.2.1 a f ha hf
    refine ⟨⟨k1, k2⟩, ⟨l1, fun _ => ?_⟩, fun a ha => ⟨e1 a ha, e2 a ha⟩, by omega, by omega⟩
    rw [e2 1 (by omega), e2 2 (by omega)]
    refine ⟨?_, (b2 _ (by omega)).mpr (Or.inr (pt_rf _ _ _ _))⟩
    rw [k2.2.2.2.1 _ (by omega) l1]
    exact l1
def fo_g (σ σ' : sn_M) : Prop := sn_fr (fun a _ _ => (1 ≤ a ∧ a ≤ 6) ∨ a = 8) σ σ'
theorem fo_g_f {σ σ' : sn_M} (h : fo_f σ σ') : fo_g σ σ' := sn_fr_w h (fun _ _ _ z => Or.inl z)
theorem fo_g_t {σ σ' σ'' : sn_M} (h : fo_g σ σ') (g : fo_g σ' σ'') : fo_g σ σ'' := sn_fr_t h g
theorem fo_f_8 {σ σ' : sn_M} (h : fo_f σ σ') (j : Nat) : σ'.1 8 0 j = σ.1 8 0 j := h.2 8 0 j (by omega)
def sp_FO_obtainDual : sn_P := fun vs σ po => match vs with
  | [.inr (.inr q), .inl f] => q = (1, 0) ∧ ∃ T T' : fT, fo_v T σ ∧ fT_ok T ∧ (0 ≤ f ∧ f < (T.2 : Int)) ∧ dl 80 f.toNat T T' ∧ T'.2 ≤ 80 ∧ ∀ σ', fo_v T' σ' → fo_g σ σ' → po (some (.inl (T'.1 3 f.toNat))) σ'
  | _ => False
theorem fo_v_8 {T : fT} {σ : sn_M} (h : fo_v T σ) (j : Nat) (x : Int) : fo_v T (sn_u σ.1 8 0 j x, σ.2) := h
def ca_FO_obtainDual : List (Nat × Nat × Nat × sn_P) := [(49, 2, 1, sp_FO_partWithoutDual), (52, 2, 1, sp_FO_addDual)]
theorem co_FO_obtainDual : ∀ x n ci s', sn_lk ca_FO_obtainDual x = some (n, ci, s') → sn_CO "SwitchedNets$Formulas" sn_ws 4 x n ci s' := sn_co_of (List.forall_mem_cons.mpr ⟨sn_CO_V ("SwitchedNets$Formulas", T_FO, 8) ct_FO_partWithoutDual (by decide) (by decide) (sn_gV ml_FO_49 mi_FO_partWithoutDual ms_FO_partWithoutDual mz_FO mc_FO_partWithoutDual) (by decide) rfl rfl ⟨nh_FO.1, nh_FO.2, pn_FO_partWithoutDual⟩, List.forall_mem_cons.mpr ⟨sn_CO_V ("SwitchedNets$Formulas", T_FO, 8) ct_FO_addDual (by decide) (by decide) (sn_gV ml_FO_52 mi_FO_addDual ms_FO_addDual mz_FO mc_FO_addDual) (by decide) rfl rfl ⟨nh_FO.1, nh_FO.2, pn_FO_addDual⟩, fun _ h => absurd h List.not_mem_nil⟩⟩)
theorem ct_FO_obtainDual : sn_CT y_FO_obtainDual ws_FO_obtainDual 4 sp_FO_obtainDual := by
  refine sn_CT_of (pr := pr_FO_obtainDual) (fi := (sn_lk ft_FO)) (lc := sn_no) (ca := sn_lk ca_FO_obtainDual) pl_FO ?_ pk_FO_obtainDual FI_FO (sn_no_ok _) co_FO_obtainDual ?_
  · intro vs σ post h
    unfold sp_FO_obtainDual at h
    split at h
    · exact Nat.le_of_ble_eq_true rfl
    · exact h.elim
  · intro vs σ0 post h hvs hR
    unfold sp_FO_obtainDual at h
    split at h
    · next q f' =>
      obtain ⟨rfl, T0, T0', hv0, hT0, ⟨hf0, hf1⟩, hdl, h80, h⟩ := h
      intro G hG
      obtain ⟨f, rfl⟩ := Int.eq_ofNat_of_zero_le hf0
      have ef : ((f : Int)).toNat = f := rfl
      rw [ef] at h hdl
      have hle0 := (dl_all hT0 (by omega) (by
        have := h80
        by_cases z : f < 80
        · exact z
        · exfalso
          obtain ⟨S, s1, s2, -⟩ := dl_ex (f + 1) f T0 hT0 (by omega) (by omega)
          have hn := s2.2.1
          have : ∀ (m : Nat) (g : Nat) (T T' : fT), dl m g T T' → T.2 ≤ T'.2 := by
            intro m
            induction m with
            | zero => intro g T T' h; exact h.elim
            | succ m ih =>
              intro g T T' h
              rcases h with ⟨-, e⟩ | ⟨-, -, e⟩ | ⟨-, -, T1, T2, d1, d2, -, e⟩
              · rw [e]; exact Nat.le_refl _
              · rw [e]; exact Nat.le_succ _
              · rw [e]
                have a := ih _ _ _ d1
                have b := ih _ _ _ d2
                show T.2 ≤ T2.2 + 1
                omega
          have := this 80 f T0 T0' hdl
          omega) hdl).1.2.1
      have hf80 : f < 80 := by omega
      have step : ∀ (T : fT) (g dep turn : Nat) (σ : sn_M), fo_v T σ → fT_ok T → g < T.2 → T.2 ≤ 80 → σ.1 8 0 dep = (g : Int) → dep + g < 80 → turn < 160 →
          (∀ r : Nat, ((¬ T.1 0 g = 0 ∧ T.1 3 (T.1 1 g).toNat = -1 ∧ (r : Int) = T.1 1 g) ∨ (¬ T.1 0 g = 0 ∧ ¬ T.1 3 (T.1 1 g).toNat = -1 ∧ T.1 3 (T.1 2 g).toNat = -1 ∧ (r : Int) = T.1 2 g)) → ∀ o4 o5, G 11 [some (.inr (.inr (1, 0))), some (.inl (f : Int)), some (.inl ((dep : Int) + 1)), some (.inl ((turn : Int) + 1)), o4, o5] [] (sn_u σ.1 8 0 (dep + 1) (r : Int), σ.2)) →
          (dl_r T g → T.1 3 g = -1 → T.2 < 80 ∧ ∀ σ', fo_v (dl_a T g) σ' → fo_f σ σ' → ∀ o4 o5, G 11 [some (.inr (.inr (1, 0))), some (.inl (f : Int)), some (.inl ((dep : Int) + (-1))), some (.inl ((turn : Int) + 1)), o4, o5] [] σ') →
          (dl_r T g → ¬ T.1 3 g = -1 → ∀ o4 o5, G 11 [some (.inr (.inr (1, 0))), some (.inl (f : Int)), some (.inl ((dep : Int) + (-1))), some (.inl ((turn : Int) + 1)), o4, o5] [] σ) →
          ∀ o4 o5, G 11 [some (.inr (.inr (1, 0))), some (.inl (f : Int)), some (.inl (dep : Int)), some (.inl (turn : Int)), o4, o5] [] σ := by
        intro T g dep turn σ hv hT hg h80 hp hdg htn h1 h2 h3 o4 o5
        obtain ⟨⟨v0, v1, v2, v3, v4⟩, vn⟩ := id hv
        have hb : (0 : Int) ≤ (dep : Int) ∧ (dep : Int) < (80 : Nat) := ⟨by omega, by omega⟩
        have hb1 : (0 : Int) ≤ (dep : Int) + 1 ∧ (dep : Int) + 1 < (80 : Nat) ∨ dep + 1 = 80 := by omega
        have hr1 : sn_R ((dep : Int) + 1) := ⟨by omega, by omega⟩
        have hrm : sn_R ((dep : Int) + (-1)) := ⟨by omega, by omega⟩
        have hrt : sn_R ((turn : Int) + 1) := ⟨by omega, by omega⟩
        have hbt : (0 : Int) ≤ σ.1 8 0 dep ∧ σ.1 8 0 dep < (80 : Nat) := by rw [hp]; omega
        have et : (σ.1 8 0 dep).toNat = g := by rw [hp]; rfl
        have e2 : σ.1 2 0 (σ.1 8 0 dep).toNat = T.1 0 g := by rw [et, v0]
        have e3 : σ.1 3 0 (σ.1 8 0 dep).toNat = T.1 1 g := by rw [et, v1]
        have e4 : σ.1 4 0 (σ.1 8 0 dep).toNat = T.1 2 g := by rw [et, v2]
        have e5 : ∀ j, σ.1 5 0 j = T.1 3 j := fun j => by rw [v3]
        refine hG 90 [11] _ _ _ _ ?_
        refine And.intro (fun _ => And.intro (fun c1 => ?_) (fun _ => And.intro hb (And.intro rfl (And.intro ⟨hbt.1, hbt.2⟩ (And.intro (fun c2 => ?_) (fun c2 => ?_)))))) (fun c1 => ?_)
        · have c1 : (dep : Int) < 0 := c1
          omega
        · have c2 : σ.1 2 0 (σ.1 8 0 dep).toNat = 0 := c2
          rw [e2] at c2
          have hr : dl_r T g := fun z => absurd c2 z
          refine And.intro (fun _ => And.intro hbt (And.intro (fun c3 => ?_) (fun c3 => And.intro hrm (And.intro hrt ?_)))) (fun z => absurd rfl z)
          · have c3 : σ.1 5 0 (σ.1 8 0 dep).toNat = -1 := c3
            rw [e5, et] at c3
            obtain ⟨q1, q2⟩ := h2 hr c3
            refine And.intro rfl ⟨T, hv, hT, q1, ⟨hbt.1, by show σ.1 8 0 dep < _; rw [hp]; omega⟩, ?_, ?_, fun σ' a b => And.intro hrm (And.intro hrt (q2 σ' ?_ b _ _))⟩
            · show T.1 3 (σ.1 8 0 dep).toNat < 0
              rw [et, c3]; decide
            · show dl_r T (σ.1 8 0 dep).toNat
              rw [et]; exact hr
            · have a : fo_v (dl_a T (σ.1 8 0 dep).toNat) σ' := a
              rw [et] at a; exact a
          · have c3 : ¬ σ.1 5 0 (σ.1 8 0 dep).toNat = -1 := c3
            rw [e5, et] at c3
            exact h3 hr c3 _ _
        · have c2 : ¬ σ.1 2 0 (σ.1 8 0 dep).toNat = 0 := c2
          rw [e2] at c2
          rcases hT.1 g hg with ⟨z, -⟩ | ⟨-, hl, hr⟩
          · exact absurd z c2
          · have hbd : (0 : Int) ≤ (dep : Int) + 1 ∧ (dep : Int) + 1 < (80 : Nat) := ⟨by omega, by omega⟩
            have bl : (0 : Int) ≤ σ.1 3 0 (σ.1 8 0 dep).toNat ∧ σ.1 3 0 (σ.1 8 0 dep).toNat < 80 := by rw [e3]; omega
            have br : (0 : Int) ≤ σ.1 4 0 (σ.1 8 0 dep).toNat ∧ σ.1 4 0 (σ.1 8 0 dep).toNat < 80 := by rw [e4]; omega
            refine And.intro bl (And.intro br (And.intro (fun c3 => And.intro (fun z => ?_) (fun _ => And.intro hr1 (And.intro hbd (And.intro hrt ?_)))) (fun c3 => And.intro (fun c4 => And.intro (fun z => ?_) (fun _ => And.intro hr1 (And.intro hbd (And.intro hrt ?_)))) (fun c4 => And.intro (fun _ => And.intro hbt (And.intro (fun c5 => ?_) (fun c5 => And.intro hrm (And.intro hrt ?_)))) (fun z => absurd rfl z)))))
            · have z : σ.1 3 0 (σ.1 8 0 dep).toNat = -1 := z
              omega
            · have c3 : σ.1 5 0 (σ.1 3 0 (σ.1 8 0 dep).toNat).toNat = -1 := c3
              rw [e3, e5] at c3
              have g1 := h1 (T.1 1 g).toNat (Or.inl ⟨c2, c3, by omega⟩) (some (.inl (σ.1 8 0 dep))) (some (.inl (σ.1 3 0 (σ.1 8 0 dep).toNat)))
              rw [show (((T.1 1 g).toNat : Nat) : Int) = σ.1 3 0 (σ.1 8 0 dep).toNat by rw [e3]; omega] at g1
              exact g1
            · have z : σ.1 4 0 (σ.1 8 0 dep).toNat = -1 := z
              omega
            · have c3 : ¬ σ.1 5 0 (σ.1 3 0 (σ.1 8 0 dep).toNat).toNat = -1 := c3
              have c4 : σ.1 5 0 (σ.1 4 0 (σ.1 8 0 dep).toNat).toNat = -1 := c4
              rw [e3, e5] at c3
              rw [e4, e5] at c4
              have g1 := h1 (T.1 2 g).toNat (Or.inr ⟨c2, c3, c4, by omega⟩) (some (.inl (σ.1 8 0 dep))) (some (.inl (σ.1 4 0 (σ.1 8 0 dep).toNat)))
              rw [show (((T.1 2 g).toNat : Nat) : Int) = σ.1 4 0 (σ.1 8 0 dep).toNat by rw [e4]; omega] at g1
              exact g1
            · have c3 : ¬ σ.1 5 0 (σ.1 3 0 (σ.1 8 0 dep).toNat).toNat = -1 := c3
              have c4 : ¬ σ.1 5 0 (σ.1 4 0 (σ.1 8 0 dep).toNat).toNat = -1 := c4
              rw [e3, e5] at c3
              rw [e4, e5] at c4
              have dl1 := dp_b (hT.2.2.1 (T.1 1 g).toNat (by omega))
              have dl2 := dp_b (hT.2.2.1 (T.1 2 g).toNat (by omega))
              have hrr : dl_r T g := fun _ => ⟨by omega, by omega⟩
              have c5 : σ.1 5 0 (σ.1 8 0 dep).toNat = -1 := c5
              rw [e5, et] at c5
              obtain ⟨q1, q2⟩ := h2 hrr c5
              refine And.intro rfl ⟨T, hv, hT, q1, ⟨hbt.1, by show σ.1 8 0 dep < _; rw [hp]; omega⟩, ?_, ?_, fun σ' a b => And.intro hrm (And.intro hrt (q2 σ' ?_ b _ _))⟩
              · show T.1 3 (σ.1 8 0 dep).toNat < 0
                rw [et, c5]; decide
              · show dl_r T (σ.1 8 0 dep).toNat
                rw [et]; exact hrr
              · have a : fo_v (dl_a T (σ.1 8 0 dep).toNat) σ' := a
                rw [et] at a; exact a
            · have c3 : ¬ σ.1 5 0 (σ.1 3 0 (σ.1 8 0 dep).toNat).toNat = -1 := c3
              have c4 : ¬ σ.1 5 0 (σ.1 4 0 (σ.1 8 0 dep).toNat).toNat = -1 := c4
              rw [e3, e5] at c3
              rw [e4, e5] at c4
              have dl1 := dp_b (hT.2.2.1 (T.1 1 g).toNat (by omega))
              have dl2 := dp_b (hT.2.2.1 (T.1 2 g).toNat (by omega))
              have hrr : dl_r T g := fun _ => ⟨by omega, by omega⟩
              have c5 : ¬ σ.1 5 0 (σ.1 8 0 dep).toNat = -1 := c5
              rw [e5, et] at c5
              exact h3 hrr c5 _ _
        · have c1 : (160 : Int) ≤ (turn : Int) := c1
          omega
      have loop : ∀ (m g : Nat) (T T' : fT) (dep turn : Nat) (σ : sn_M), dl m g T T' → g < m → fT_ok T → g < T.2 → T.1 3 g < 0 → T'.2 ≤ 80 → fo_v T σ → σ.1 8 0 dep = (g : Int) → dep + g < 80 → turn + 2 * (T'.2 - T.2) ≤ 161 →
          (∀ σ' (t : Nat), fo_v T' σ' → fo_g σ σ' → (∀ j, j ≤ dep → σ'.1 8 0 j = σ.1 8 0 j) → t + 1 = turn + 2 * (T'.2 - T.2) → ∀ o4 o5, G 11 [some (.inr (.inr (1, 0))), some (.inl (f : Int)), some (.inl ((dep : Int) + (-1))), some (.inl (t : Int)), o4, o5] [] σ') →
          ∀ o4 o5, G 11 [some (.inr (.inr (1, 0))), some (.inl (f : Int)), some (.inl (dep : Int)), some (.inl (turn : Int)), o4, o5] [] σ := by
        intro m
        induction m with
        | zero => intro g T T' dep turn σ _ hg; omega
        | succ m ih =>
          intro g T T' dep turn σ hd hm hT hg hdg h80 hv hp hdp htn hk
          have hdm : T.1 3 g = -1 := by have := dp_b (hT.2.2.1 g hg); omega
          rcases hd with ⟨z, -⟩ | ⟨-, hk0, e⟩ | ⟨-, hk0, T1, T2, d1, d2, hd2, e⟩
          · omega
          · subst e
            have en : (dl_a T g).2 = T.2 + 1 := rfl
            refine step T g dep turn σ hv hT hg (by omega) hp hdp (by omega) (fun r hr => ?_) (fun _ _ => ⟨by omega, fun σ' a b => ?_⟩) (fun _ z => absurd hdm z)
            · rcases hr with ⟨z, -⟩ | ⟨z, -⟩ <;> exact absurd hk0 z
            · exact hk σ' (turn + 1) a (fo_g_f b) (fun j _ => fo_f_8 b j) (by omega)
          · subst e
            obtain ⟨⟨k1, k2⟩, ⟨l1, r2⟩, ea, hlg, hrg⟩ := dl_mid hT hg (by omega) hk0 d1 d2
            have n1 := k1.2.1
            have n2 := k2.2.1
            have en : (dl_a T2 g).2 = T2.2 + 1 := rfl
            -- the last turn
            have ph3 : ∀ (σ' : sn_M) (t : Nat), fo_v T2 σ' → fo_g σ σ' → (∀ j, j ≤ dep → σ'.1 8 0 j = σ.1 8 0 j) → t = turn + 2 * (T2.2 - T.2) → ∀ o4 o5, G 11 [some (.inr (.inr (1, 0))), some (.inl (f : Int)), some (.inl (dep : Int)), some (.inl (t : Int)), o4, o5] [] σ' := by
              intro σ' t a b c et
              have hd2' : T2.1 3 g = -1 := by have := dp_b (k2.1.2.2.1 g (by omega)); omega
              refine step T2 g dep t σ' a k2.1 (by omega) (by omega) (by rw [c dep (by omega)]; exact hp) hdp (by omega) (fun r hr => ?_) (fun _ _ => ⟨by omega, fun σ'' a' b' => ?_⟩) (fun _ z => absurd hd2' z)
              · exfalso
                rw [(ea 0 (by omega)).2, (ea 1 (by omega)).2, (ea 2 (by omega)).2] at hr
                have q := r2 (by rw [(ea 0 (by omega)).2]; exact hk0)
                rw [(ea 1 (by omega)).2, (ea 2 (by omega)).2] at q
                rcases hr with ⟨-, z, -⟩ | ⟨-, -, z, -⟩ <;> omega
              · exact hk σ'' (t + 1) a' (fo_g_t b (fo_g_f b')) (fun j hj => (fo_f_8 b' j).trans (c j hj)) (by omega)
            -- the right part
            have ph2 : ∀ (σ' : sn_M) (t : Nat), fo_v T1 σ' → fo_g σ σ' → (∀ j, j ≤ dep → σ'.1 8 0 j = σ.1 8 0 j) → t = turn + 2 * (T1.2 - T.2) → ∀ o4 o5, G 11 [some (.inr (.inr (1, 0))), some (.inl (f : Int)), some (.inl (dep : Int)), some (.inl (t : Int)), o4, o5] [] σ' := by
              intro σ' t a b c et
              by_cases hR0 : 0 ≤ T1.1 3 (T.1 2 g).toNat
              · have e21 : T2 = T1 := by
                  cases m with
                  | zero => exact d2.elim
                  | succ m =>
                    rcases d2 with ⟨-, z⟩ | ⟨z, -⟩ | ⟨z, -⟩
                    · exact z
                    · omega
                    · omega
                rw [e21] at ph3
                exact ph3 σ' t a b c et
              · have hR1 : T1.1 3 (T.1 2 g).toNat < 0 := by omega
                have hRm : T1.1 3 (T.1 2 g).toNat = -1 := by have := dp_b (k1.1.2.2.1 (T.1 2 g).toNat (by omega)); omega
                have k2n := k2.2.2.2.2.2
                refine step T1 g dep t σ' a k1.1 (by omega) (by omega) (by rw [c dep (by omega)]; exact hp) hdp (by omega) (fun r hr => ?_) (fun hrr _ => ?_) (fun hrr _ => ?_)
                · rw [(ea 0 (by omega)).1, (ea 1 (by omega)).1, (ea 2 (by omega)).1] at hr
                  rcases hr with ⟨-, z, -⟩ | ⟨-, -, -, er⟩
                  · omega
                  · have er : r = (T.1 2 g).toNat := by omega
                    subst er
                    refine ih (T.1 2 g).toNat T1 T2 (dep + 1) (t + 1) (sn_u σ'.1 8 0 (dep + 1) (((T.1 2 g).toNat : Nat) : Int), σ'.2) d2 (by omega) k1.1 (by omega) hR1 (by omega) (fo_v_8 a _ _) (by show sn_u _ 8 0 _ _ 8 0 _ = _; rw [sn_u_at, if_pos rfl]) (by omega) (by omega) (fun σ'' t'' a'' b'' c'' et'' o4 o5 => ?_)
                    have hb' : fo_g σ' (sn_u σ'.1 8 0 (dep + 1) (((T.1 2 g).toNat : Nat) : Int), σ'.2) := sn_fr_u ⟨rfl, fun _ _ _ _ => rfl⟩ (Or.inr rfl) _
                    have g2 := ph3 σ'' t'' a'' (fo_g_t b (fo_g_t hb' b'')) (fun j hj => ?_) (by omega) o4 o5
                    · rw [show ((dep + 1 : Nat) : Int) + (-1) = (dep : Int) by omega]
                      exact g2
                    · rw [c'' j (by omega)]
                      show sn_u _ 8 0 _ _ 8 0 _ = _
                      rw [sn_u_at, if_neg (by omega), c j hj]
                · have q := (hrr (by rw [(ea 0 (by omega)).1]; exact hk0)).2
                  rw [(ea 2 (by omega)).1] at q
                  omega
                · have q := (hrr (by rw [(ea 0 (by omega)).1]; exact hk0)).2
                  rw [(ea 2 (by omega)).1] at q
                  omega
            -- the left part
            by_cases hL0 : 0 ≤ T.1 3 (T.1 1 g).toNat
            · have e1 : T1 = T := by
                cases m with
                | zero => exact d1.elim
                | succ m =>
                  rcases d1 with ⟨-, z⟩ | ⟨z, -⟩ | ⟨z, -⟩
                  · exact z
                  · omega
                  · omega
              rw [e1] at ph2
              exact ph2 σ turn hv ⟨rfl, fun _ _ _ _ => rfl⟩ (fun _ _ => rfl) (by omega)
            · have hL1 : T.1 3 (T.1 1 g).toNat < 0 := by omega
              refine step T g dep turn σ hv hT hg (by omega) hp hdp (by omega) (fun r hr => ?_) (fun hrr _ => ?_) (fun hrr _ => ?_)
              · have hLm : T.1 3 (T.1 1 g).toNat = -1 := by have := dp_b (hT.2.2.1 (T.1 1 g).toNat (by omega)); omega
                rcases hr with ⟨-, -, er⟩ | ⟨-, z, -⟩
                · have er : r = (T.1 1 g).toNat := by omega
                  subst er
                  refine ih (T.1 1 g).toNat T T1 (dep + 1) (turn + 1) (sn_u σ.1 8 0 (dep + 1) (((T.1 1 g).toNat : Nat) : Int), σ.2) d1 (by omega) hT (by omega) hL1 (by omega) (fo_v_8 hv _ _) (by show sn_u _ 8 0 _ _ 8 0 _ = _; rw [sn_u_at, if_pos rfl]) (by omega) (by omega) (fun σ'' t'' a'' b'' c'' et'' o4 o5 => ?_)
                  have hb' : fo_g σ (sn_u σ.1 8 0 (dep + 1) (((T.1 1 g).toNat : Nat) : Int), σ.2) := sn_fr_u ⟨rfl, fun _ _ _ _ => rfl⟩ (Or.inr rfl) _
                  have g2 := ph2 σ'' t'' a'' (fo_g_t hb' b'') (fun j hj => ?_) (by omega) o4 o5
                  · rw [show ((dep + 1 : Nat) : Int) + (-1) = (dep : Int) by omega]
                    exact g2
                  · rw [c'' j (by omega)]
                    show sn_u _ 8 0 _ _ 8 0 _ = _
                    rw [sn_u_at, if_neg (by omega)]
                · exact absurd hLm z
              · have q := (hrr hk0).1
                omega
              · have q := (hrr hk0).1
                omega
      have exit : ∀ (σ : sn_M) (t : Int) (o4 o5 : Option sn_V), sn_R t → fo_v T0' σ → fo_g σ0 σ → G 11 [some (.inr (.inr (1, 0))), some (.inl (f : Int)), some (.inl (((0 : Nat) : Int) + (-1))), some (.inl t), o4, o5] [] σ := by
        intro σ t o4 o5 _ hv hg
        have hb : (0 : Int) ≤ (f : Int) ∧ (f : Int) < (80 : Nat) := ⟨by omega, by omega⟩
        have e5 : post (some (.inl (σ.1 5 0 f))) σ := by
          rw [hv.1.2.2.2.1]
          exact h σ hv hg
        refine hG 60 [11] _ _ _ _ ?_
        exact And.intro (fun _ => And.intro (fun _ => And.intro hb e5) (fun z => absurd z (by decide))) (fun _ => And.intro hb e5)
      have hb0 : (0 : Int) ≤ (0 : Int) ∧ (0 : Int) < (80 : Nat) := ⟨by omega, by omega⟩
      refine hG 60 [11] _ _ _ _ ?_
      refine And.intro hb0 ?_
      have hg0 : fo_g σ0 (sn_u σ0.1 8 0 0 (f : Int), σ0.2) := sn_fr_u ⟨rfl, fun _ _ _ _ => rfl⟩ (Or.inr rfl) _
      have hp0 : (sn_u σ0.1 8 0 0 (f : Int), σ0.2).1 8 0 0 = (f : Int) := rfl
      by_cases hd : T0.1 3 f < 0
      · exact loop 80 f T0 T0' 0 0 (sn_u σ0.1 8 0 0 (f : Int), σ0.2) hdl hf80 hT0 (by omega) hd h80 (fo_v_8 hv0 _ _) hp0 (by omega) (by omega) (fun σ' t a b _ et o4 o5 => exit σ' t o4 o5 ⟨by omega, by omega⟩ a (fo_g_t hg0 b)) none none
      · have e0 : T0' = T0 := by
          rcases hdl with ⟨-, z⟩ | ⟨z, -⟩ | ⟨z, -⟩
          · exact z
          · exact absurd z hd
          · exact absurd z hd
        have hrr : dl_r T0 f := by
          intro hk0
          obtain ⟨q1, -⟩ := (hT0.2.2.1 f (by omega)).2 hk0
          refine ⟨?_, ?_⟩
          · by_cases y : 0 ≤ T0.1 3 (T0.1 1 f).toNat
            · exact y
            · have := q1 (Or.inl (by omega)); omega
          · by_cases y : 0 ≤ T0.1 3 (T0.1 2 f).toNat
            · exact y
            · have := q1 (Or.inr (by omega)); omega
        refine step T0 f 0 0 (sn_u σ0.1 8 0 0 (f : Int), σ0.2) (fo_v_8 hv0 _ _) hT0 (by omega) (by omega) hp0 (by omega) (by omega) (fun r hr => ?_) (fun _ z => by omega) (fun _ _ o4 o5 => exit _ _ o4 o5 ⟨by omega, by omega⟩ (by rw [e0]; exact fo_v_8 hv0 _ _) hg0) none none
        exfalso
        rcases hr with ⟨z, y, -⟩ | ⟨z, -, y, -⟩
        · have := (hrr z).1; omega
        · have := (hrr z).2; omega
    · exact h.elim
