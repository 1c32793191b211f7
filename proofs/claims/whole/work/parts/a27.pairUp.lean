/-! The class: atoms are paired in all ways. -/
def fdv (σ : sn_M) (F : List pth) : Prop := σ.1 33 0 12 = (F.length : Int) ∧ ∀ (i : Nat) (st : pth), F[i]? = some st → ∀ k, k < 8 → σ.1 39 0 (8 * i + k) = ptn st k
def pv (σ : sn_M) (st : pth) : Prop := ∀ k, k < 8 → σ.1 36 0 k = ptn st k
def pu_P (a b c : Nat) : Prop := (a = 33 ∧ c = 12) ∨ (36 ≤ a ∧ a ≤ 39) ∨ ((9 ≤ a ∧ a ≤ 18) ∧ b = 3) ∨ sw_R 1 a b c
theorem pu_no {a b c : Nat} (h : pu_P a b c) : ¬ (1 ≤ a ∧ a ≤ 6) ∧ ¬ (a = 34 ∨ a = 35 ∨ (a = 33 ∧ (c = 9 ∨ c = 10))) := by
  rcases h with h | h | h | h
  · omega
  · omega
  · omega
  · rcases h with q | q | q | q | q <;> omega
def sp_LS_pu (m : Nat) : sn_P := fun vs σ po => match vs with
  | [.inr (.inr q), .inr (.inr u), .inl x] => q = (33, 0) ∧ u = (1, 0) ∧ ∃ (T : fT) (f : Nat) (st : pth) (F : List pth), fo_v T σ ∧ fT_ok T ∧ T.2 ≤ 80 ∧ f < T.2 ∧ (lf T f).length ≤ 8 ∧ lsA T f σ ∧ wf (lf T f).length (fit T (lf T f)) st ∧ 2 * (st.length + m) = (lf T f).length ∧ x = (st.length : Int) ∧ pv σ st ∧ fdv σ F ∧ F.length + (lvs (st.length + m) (pre (lf T f).length (fit T (lf T f)) m st)).length ≤ 24 ∧ ∀ σ', pv σ' st → fdv σ' (F ++ (lvs (st.length + m) (pre (lf T f).length (fit T (lf T f)) m st)).filter (nb T f)) → sn_fr pu_P σ σ' → po none σ'
  | _ => False
def ca_pu (s : sn_P) : List (Nat × Nat × Nat × sn_P) := [(83, 3, 3, s), (87, 5, 0, sp_copy), (93, 3, 3, sp_LS_assemble), (106, 2, 6, sp_SW_weigh), (110, 1, 3, sp_LS_firstAlone)]
theorem co_pu {d d' : Nat} {s : sn_P} (h : sn_CT y_LS_pairUp ws_LS_pairUp d' s) (hd : d' < d) (hD : 4 ≤ d) : ∀ x n ci s', sn_lk (ca_pu s) x = some (n, ci, s') → sn_CO "SwitchedNets$LinkingSearch" sn_ws d x n ci s' := sn_co_of (List.forall_mem_cons.mpr ⟨sn_CO_V ("SwitchedNets$LinkingSearch", T_LS, 13) h hd (by decide) (sn_gV ml_LS_83 mi_LS_pairUp ms_LS_pairUp mz_LS mc_LS_pairUp) (show (3 : Nat) ≠ 0 by decide) rfl rfl ⟨nh_LS.1, nh_LS.2, pn_LS_pairUp⟩, List.forall_mem_cons.mpr ⟨sn_CO_copy (Nat.lt_of_lt_of_le (by decide) hD) ml_LS_87 mn_copy mt_copy mz_copy, List.forall_mem_cons.mpr ⟨sn_CO_V ("SwitchedNets$LinkingSearch", T_LS, 13) ct_LS_assemble (Nat.lt_of_lt_of_le (by decide) hD) (by decide) (sn_gV ml_LS_93 mi_LS_assemble ms_LS_assemble mz_LS mc_LS_assemble) (by decide) rfl rfl ⟨nh_LS.1, nh_LS.2, pn_LS_assemble⟩, List.forall_mem_cons.mpr ⟨sn_CO_V ("SwitchedNets$Switchings", T_SW, 5) ct_SW_weigh (Nat.lt_of_lt_of_le (by decide) hD) (by decide) (sn_gV ml_LS_106 mi_SW_weigh ms_SW_weigh mz_SW mc_SW_weigh) (by decide) rfl rfl ⟨nh_SW.1, nh_SW.2, pn_SW_weigh⟩, List.forall_mem_cons.mpr ⟨sn_CO_V ("SwitchedNets$LinkingSearch", T_LS, 13) ct_LS_firstAlone (Nat.lt_of_lt_of_le (by decide) hD) (by decide) (sn_gV ml_LS_110 mi_LS_firstAlone ms_LS_firstAlone mz_LS mc_LS_firstAlone) (by decide) rfl rfl ⟨nh_LS.1, nh_LS.2, pn_LS_firstAlone⟩, fun _ h => absurd h List.not_mem_nil⟩⟩⟩⟩⟩)
abbrev dD_pu : Nat := 4
abbrev bd_pu (s : sn_P) (vs : List sn_V) (σ : sn_M) (post : Option sn_V → sn_M → Prop) : Prop := sn_Bd pr_LS_pairUp (sn_lk ft_LS) sn_no (sn_lk (ca_pu s)) 5 vs σ post
theorem rc_pu {d d' : Nat} {s s2 : sn_P} (h : sn_CT y_LS_pairUp ws_LS_pairUp d' s) (hd : d' < d) (hD : 4 ≤ d) (hl : ∀ vs σ post, s2 vs σ post → (sn_L1 vs).length ≤ 5) (hb : ∀ vs σ post, s2 vs σ post → (∀ v ∈ vs, sn_vo v) → (∀ k i j, sn_R (σ.1 k i j)) → bd_pu s vs σ post) : sn_CT y_LS_pairUp ws_LS_pairUp d s2 := sn_CT_of (pr := pr_LS_pairUp) (fi := (sn_lk ft_LS)) (lc := sn_no) (ca := sn_lk (ca_pu s)) pl_LS hl pk_LS_pairUp FI_LS (sn_no_ok _) (co_pu h hd hD) hb
theorem pu_keep {T : fT} {f : Nat} {σ σ' : sn_M} (h : sn_fr pu_P σ σ') (hfo : fo_v T σ) (hA : lsA T f σ) : fo_v T σ' ∧ lsA T f σ' := ⟨fo_v_fr hfo h (fun a c h1 h2 z => (pu_no z).1 ⟨h1, h2⟩), lsA_fr hA (fun a c h1 => h.2 a 0 c (fun z => (pu_no z).2 h1))⟩
theorem fil_1 {α : Type} (p : α → Bool) (x : α) : [x].filter p = if p x = true then [x] else [] := by
  by_cases h : p x = true
  · rw [if_pos h, List.filter_cons_of_pos h]
    rfl
  · rw [if_neg h, List.filter_cons_of_neg h]
    rfl
set_option maxHeartbeats 8000000 in
theorem pu_body0 : ∀ vs σ post, sp_LS_pu 0 vs σ post → (∀ v ∈ vs, sn_vo v) → (∀ k i j, sn_R (σ.1 k i j)) → bd_pu (fun _ _ _ => False) vs σ post := by
  intro vs σ post h hvs hR
  unfold sp_LS_pu at h
  split at h
  · next q u x =>
    obtain ⟨rfl, rfl, T, f, st, F, hfo, hT, h80, hf, hn, hA, hw, hl, rfl, hp, hF, h24, hpo⟩ := h
    intro G hG
    have hl : 2 * st.length = (lf T f).length := by omega
    have e10 : σ.1 33 0 10 = ((lf T f).length : Int) := hA.2.2.2
    have eL : lvs (st.length + 0) (pre (lf T f).length (fit T (lf T f)) 0 st) = [st] := by
      show [st].filter (fun z => decide (z.length = st.length + 0)) = [st]
      rw [fil_1, if_pos (decide_eq_true (by omega))]
    rw [eL, fil_1] at hpo
    rw [eL, List.length_singleton] at h24
    have hm := wf_mat hT hf hw hl
    have lw := wf_le hw
    refine hG 60 [] _ _ _ _ ?_
    refine And.intro (by unfold sn_R; omega) (And.intro (fun c => ?_) (fun _ => And.intro rfl (And.intro rfl (And.intro rfl ⟨T, f, ptn st, hfo, hT, h80, hf, hn, hm, hA, fun k hk => hp k (by omega), fun S σ1 v1 f1 => ?_⟩))))
    · have c : 2 * (st.length : Int) < σ.1 33 0 10 := c
      omega
    · have v1 : sx_v (s_X (asm T f (ptn st) S)) 3 σ1 := v1
      have f1 : sn_fr (as_P 3) σ σ1 := f1
      obtain ⟨-, -, -, -, -, ok, -⟩ := asm_ok hT hf S hn hm
      obtain ⟨w1, w2⟩ := cl_w1 v1 ok
      refine And.intro rfl (And.intro rfl (And.intro w1 (And.intro w2 (fun v fl σ2 h1 h2 f2 => ?_))))
      have hV := cl_w2 v1 h1
      have f2 : sn_fr (sw_R 1) σ1 σ2 := f2
      have fr1 : sn_fr pu_P σ σ1 := sn_fr_w f1 (fun a b c z => by
        unfold as_P at z
        unfold pu_P
        rcases z with z | z | z
        · exact Or.inr (Or.inl (by omega))
        · exact Or.inr (Or.inl (by omega))
        · exact Or.inr (Or.inr (Or.inl z)))
      have fr2 : sn_fr pu_P σ σ2 := sn_fr_t fr1 (sn_fr_w f2 (fun a b c z => Or.inr (Or.inr (Or.inr z))))
      have o36 : ∀ k, σ2.1 36 0 k = σ.1 36 0 k := fun k => by
        rw [f2.2 36 0 k (fun z => by rcases z with q | q | q | q | q <;> omega), f1.2 36 0 k (fun z => by unfold as_P at z; omega)]
      have o39 : ∀ k, σ2.1 39 0 k = σ.1 39 0 k := fun k => by
        rw [f2.2 39 0 k (fun z => by rcases z with q | q | q | q | q <;> omega), f1.2 39 0 k (fun z => by unfold as_P at z; omega)]
      have o12 : σ2.1 33 0 12 = σ.1 33 0 12 := by
        rw [f2.2 33 0 12 (fun z => by rcases z with q | q | q | q | q <;> omega), f1.2 33 0 12 (fun z => by unfold as_P at z; omega)]
      have hp2 : pv σ2 st := fun k hk => by rw [o36]; exact hp k hk
      have hF2 : fdv σ2 F := ⟨by rw [o12]; exact hF.1, fun i z hz k hk => by rw [o39]; exact hF.2 i z hz k hk⟩
      refine And.intro (fun c => ?_) (fun c => ?_)
      · have c : v = 0 := c
        subst c
        have hb : nb T f st = true := (nb_any hT hf hn hw hl S).mpr ⟨fl, hV⟩
        rw [if_pos hb] at hpo
        have e12 : σ2.1 33 0 12 = (F.length : Int) := hF2.1
        refine And.intro (fun _ => ?_) (fun z => ?_)
        · have r8 : sn_R (σ2.1 33 0 12 * 8) := by rw [e12]; unfold sn_R; omega
          refine And.intro r8 (And.intro (show 0 ≤ (0 : Int) ∧ 0 ≤ σ2.1 33 0 12 * 8 ∧ 0 ≤ (8 : Int) ∧ 0 + (8 : Int) ≤ (8 : Nat) ∧ σ2.1 33 0 12 * 8 + 8 ≤ (192 : Nat) by rw [e12]; omega) (And.intro (show sn_R (σ2.1 33 0 12 + 1) by rw [e12]; unfold sn_R; omega) ?_))
          have t8 : (σ2.1 33 0 12 * 8).toNat = 8 * F.length := by rw [e12]; omega
          have cpo : ∀ a b k, ¬ (a = 39 ∧ b = 0 ∧ 8 * F.length ≤ k ∧ k < 8 * F.length + 8) → sn_cp σ2.1 36 0 39 0 0 (σ2.1 33 0 12 * 8).toNat 8 a b k = σ2.1 a b k := fun a b k z => by
            unfold sn_cp
            rw [t8, if_neg z]
          refine hpo _ (fun k hk => ?_) ⟨?_, fun i z hz k hk => ?_⟩ ⟨fr2.1, fun a b k hn' => ?_⟩
          · show sn_u (sn_cp σ2.1 36 0 39 0 0 (σ2.1 33 0 12 * 8).toNat 8) 33 0 12 (σ2.1 33 0 12 + 1) 36 0 k = _
            rw [sn_u_n (by omega), cpo _ _ _ (by omega)]
            exact hp2 k hk
          · show sn_u (sn_cp σ2.1 36 0 39 0 0 (σ2.1 33 0 12 * 8).toNat 8) 33 0 12 (σ2.1 33 0 12 + 1) 33 0 12 = _
            rw [sn_u_s, e12, List.length_append, List.length_singleton]
            omega
          · show sn_u (sn_cp σ2.1 36 0 39 0 0 (σ2.1 33 0 12 * 8).toNat 8) 33 0 12 (σ2.1 33 0 12 + 1) 39 0 (8 * i + k) = _
            rw [sn_u_n (by omega)]
            have lt := (List.getElem?_eq_some_iff.mp hz).1
            rw [List.length_append, List.length_singleton] at lt
            by_cases w : i = F.length
            · subst w
              rw [List.getElem?_append_right (Nat.le_refl _), Nat.sub_self] at hz
              have : st = z := Option.some.inj hz
              subst this
              unfold sn_cp
              rw [t8, if_pos ⟨rfl, rfl, by omega, by omega⟩, show 0 + (8 * F.length + k - 8 * F.length) = k by omega]
              exact hp2 k hk
            · rw [List.getElem?_append_left (by omega)] at hz
              rw [cpo _ _ _ (by omega)]
              exact hF2.2 i z hz k hk
          · show sn_u (sn_cp σ2.1 36 0 39 0 0 (σ2.1 33 0 12 * 8).toNat 8) 33 0 12 (σ2.1 33 0 12 + 1) a b k = _
            rw [sn_u_n (fun z => hn' (Or.inl ⟨z.1, z.2.2⟩)), cpo _ _ _ (fun z => hn' (Or.inr (Or.inl (by omega))))]
            exact fr2.2 a b k hn'
        · have z : (24 : Int) ≤ σ2.1 33 0 12 := z
          omega
      · have c : ¬ v = 0 := c
        have hb : ¬ nb T f st = true := fun z => by
          obtain ⟨fl', hV'⟩ := (nb_any hT hf hn hw hl S).mp z
          exact c (s_V_u hV hV').1
        rw [if_neg hb, List.append_nil] at hpo
        exact hpo σ2 hp2 hF2 fr2
  · exact h.elim
set_option maxHeartbeats 8000000 in
theorem pu_body (m : Nat) : ∀ vs σ post, sp_LS_pu (m + 1) vs σ post → (∀ v ∈ vs, sn_vo v) → (∀ k i j, sn_R (σ.1 k i j)) → bd_pu (sp_LS_pu m) vs σ post := by
  intro vs σ post h hvs hR
  unfold sp_LS_pu at h
  split at h
  · next q u x =>
    obtain ⟨rfl, rfl, T, f, st, F, hfo, hT, h80, hf, hn, hA, hw, hl, rfl, hp, hF, h24, hpo⟩ := h
    intro G hG
    have e10 : σ.1 33 0 10 = ((lf T f).length : Int) := hA.2.2.2
    have hfa := wf_fa hw (by omega)
    obtain ⟨fa1, fa2, fa3⟩ := fa_ok (ptn st) (lf T f).length
    obtain ⟨k, hk⟩ : ∃ k, fa (ptn st) (lf T f).length = k := ⟨_, rfl⟩
    have eL : lvs (st.length + (m + 1)) (pre (lf T f).length (fit T (lf T f)) (m + 1) st) = lvs (st.length + (m + 1)) (sibs (fit T (lf T f)) (pre (lf T f).length (fit T (lf T f)) m) k st ((lf T f).length - (k + 1)) (k + 1)) := by
      rw [← hk]
      exact List.filter_cons_of_neg (by rw [decide_eq_true_eq]; omega)
    rw [eL] at hpo h24
    rw [hk] at hfa fa2 fa3
    have k1 : ptn st k = -1 := fa2 hfa
    have loop : ∀ (c q : Nat) (F1 : List pth) (σ1 : sn_M), q + c = (lf T f).length → k < q → pv σ1 st → fdv σ1 F1 → F1 ++ (lvs (st.length + (m + 1)) (sibs (fit T (lf T f)) (pre (lf T f).length (fit T (lf T f)) m) k st c q)).filter (nb T f) = F ++ (lvs (st.length + (m + 1)) (sibs (fit T (lf T f)) (pre (lf T f).length (fit T (lf T f)) m) k st ((lf T f).length - (k + 1)) (k + 1))).filter (nb T f) → F1.length + (lvs (st.length + (m + 1)) (sibs (fit T (lf T f)) (pre (lf T f).length (fit T (lf T f)) m) k st c q)).length ≤ 24 → sn_fr pu_P σ σ1 → G 84 [some (.inr (.inr (33, 0))), some (.inr (.inr (1, 0))), some (.inl (st.length : Int)), some (.inl (k : Int)), some (.inl (q : Int))] [] σ1 := by
      intro c
      induction c with
      | zero =>
        intro q F1 σ1 hq hkq hp1 hF1 hfin hlen f1
        obtain ⟨-, hA1⟩ := pu_keep f1 hfo hA
        have e10 := hA1.2.2.2
        refine hG 20 [84] _ _ _ _ ?_
        refine And.intro (fun z => ?_) (fun _ => hpo σ1 hp1 ?_ f1)
        · have z : (q : Int) < σ1.1 33 0 10 := z
          omega
        · rw [← hfin]
          show fdv σ1 (F1 ++ [])
          rw [List.append_nil]
          exact hF1
      | succ c ih =>
        intro q F1 σ1 hq hkq hp1 hF1 hfin hlen f1
        obtain ⟨hfo1, hA1⟩ := pu_keep f1 hfo hA
        have e10 := hA1.2.2.2
        have q9 : q < (lf T f).length := by omega
        have iq : (0 : Int) ≤ (q : Int) ∧ (q : Int) < (8 : Nat) := by omega
        have ik : (0 : Int) ≤ (k : Int) ∧ (k : Int) < (8 : Nat) := by omega
        have pq := hp1 q (by omega)
        have es : sibs (fit T (lf T f)) (pre (lf T f).length (fit T (lf T f)) m) k st (c + 1) q = (if ptn st q = -1 ∧ fit T (lf T f) k q = true then pre (lf T f).length (fit T (lf T f)) m ((k, q) :: st) else []) ++ sibs (fit T (lf T f)) (pre (lf T f).length (fit T (lf T f)) m) k st c (q + 1) := rfl
        rw [es, lvs_a, List.filter_append] at hfin
        rw [es, lvs_a, List.length_append] at hlen
        have skip : ¬ (ptn st q = -1 ∧ fit T (lf T f) k q = true) → sn_R ((q : Int) + 1) ∧ G 84 [some (.inr (.inr (33, 0))), some (.inr (.inr (1, 0))), some (.inl (st.length : Int)), some (.inl (k : Int)), some (.inl ((q : Int) + 1))] [] σ1 := by
          intro hno
          rw [if_neg hno] at hfin hlen
          exact And.intro (by unfold sn_R; omega) (ih (q + 1) F1 σ1 (by omega) (by omega) hp1 hF1 hfin (by rw [lvs_n, List.length_nil] at hlen; omega) f1)
        have ak := lsA_at hA1 hfa
        have aq := lsA_at hA1 q9
        have kt := (at_ok hT hf k).1
        have r3 : σ1.1 5 0 = T.1 3 := hfo1.1.2.2.2.1
        refine hG 60 [84] _ _ _ _ ?_
        refine And.intro (fun _ => And.intro iq (And.intro (fun d => ?_) (fun d => ?_))) (fun z => ?_)
        · have d : σ1.1 36 0 q = -1 := d
          rw [pq] at d
          refine And.intro ik (And.intro (show 0 ≤ σ1.1 35 0 k ∧ σ1.1 35 0 k < (80 : Nat) by rw [ak]; omega) (And.intro iq (And.intro (fun e => ?_) (fun e => ?_))))
          · have e : σ1.1 5 0 (σ1.1 35 0 k).toNat = σ1.1 35 0 q := e
            rw [r3, ak, aq, show (((lf T f).getD k 0 : Nat) : Int).toNat = (lf T f).getD k 0 from rfl] at e
            have hfit : fit T (lf T f) k q = true := (fit_du hT hf k q).mpr e
            have hboth : ptn st q = -1 ∧ fit T (lf T f) k q = true := ⟨d, hfit⟩
            rw [if_pos hboth] at hfin hlen
            have hw2 : wf (lf T f).length (fit T (lf T f)) ((k, q) :: st) := ⟨hw, hk.symm, hkq, q9, d, hfit⟩
            have fr2 : sn_fr pu_P σ (sn_u (sn_u σ1.1 36 0 k (q : Int)) 36 0 q (k : Int), σ1.2) := sn_fr_u (σ' := (sn_u σ1.1 36 0 k (q : Int), σ1.2)) (sn_fr_u f1 (Or.inr (Or.inl (by omega))) _) (Or.inr (Or.inl (by omega))) _
            obtain ⟨hfo2, hA2⟩ := pu_keep fr2 hfo hA
            have hp2 : pv (sn_u (sn_u σ1.1 36 0 k (q : Int)) 36 0 q (k : Int), σ1.2) ((k, q) :: st) := by
              intro t ht
              show sn_u (sn_u σ1.1 36 0 k (q : Int)) 36 0 q (k : Int) 36 0 t = sn_up (sn_up (ptn st) k (q : Int)) q (k : Int) t
              rw [sn_u_at, sn_u_at]
              unfold sn_up
              rw [hp1 t ht]
            have hF2 : fdv (sn_u (sn_u σ1.1 36 0 k (q : Int)) 36 0 q (k : Int), σ1.2) F1 := by
              refine ⟨?_, fun i z hz t ht => ?_⟩
              · show sn_u (sn_u σ1.1 36 0 k (q : Int)) 36 0 q (k : Int) 33 0 12 = _
                rw [sn_u_n (by omega), sn_u_n (by omega)]
                exact hF1.1
              · show sn_u (sn_u σ1.1 36 0 k (q : Int)) 36 0 q (k : Int) 39 0 (8 * i + t) = _
                rw [sn_u_n (by omega), sn_u_n (by omega)]
                exact hF1.2 i z hz t ht
            have e1 : ((k, q) :: st).length + m = st.length + (m + 1) := by rw [List.length_cons]; omega
            refine And.intro ik (And.intro iq (And.intro (by unfold sn_R; omega) (And.intro rfl (And.intro rfl ⟨T, f, (k, q) :: st, F1, hfo2, hT, h80, hf, hn, hA2, hw2, by rw [List.length_cons]; omega, ?_, hp2, hF2, ?_, fun σ3 hp3 hF3 f3 => ?_⟩))))
            · show (st.length : Int) + 1 = (((k, q) :: st).length : Int)
              rw [List.length_cons]
              omega
            · rw [e1]
              omega
            · rw [e1] at hF3
              have f3 : sn_fr pu_P (sn_u (sn_u σ1.1 36 0 k (q : Int)) 36 0 q (k : Int), σ1.2) σ3 := f3
              have f13 := sn_fr_t fr2 f3
              refine And.intro ik (And.intro iq (And.intro (by unfold sn_R; omega) (ih (q + 1) (F1 ++ (lvs (st.length + (m + 1)) (pre (lf T f).length (fit T (lf T f)) m ((k, q) :: st))).filter (nb T f)) (sn_u (sn_u σ3.1 36 0 k (-1)) 36 0 q (-1), σ3.2) (by omega) (by omega) (fun t ht => ?_) ⟨?_, fun i z hz t ht => ?_⟩ ?_ ?_ (sn_fr_u (σ' := (sn_u σ3.1 36 0 k (-1), σ3.2)) (sn_fr_u f13 (Or.inr (Or.inl (by omega))) _) (Or.inr (Or.inl (by omega))) _))))
              · show sn_u (sn_u σ3.1 36 0 k (-1)) 36 0 q (-1) 36 0 t = _
                rw [sn_u_at, sn_u_at, ← ptn_back hw2]
                unfold sn_up
                rw [hp3 t ht]
              · show sn_u (sn_u σ3.1 36 0 k (-1)) 36 0 q (-1) 33 0 12 = _
                rw [sn_u_n (by omega), sn_u_n (by omega)]
                exact hF3.1
              · show sn_u (sn_u σ3.1 36 0 k (-1)) 36 0 q (-1) 39 0 (8 * i + t) = _
                rw [sn_u_n (by omega), sn_u_n (by omega)]
                exact hF3.2 i z hz t ht
              · rw [List.append_assoc]
                exact hfin
              · rw [List.length_append]
                have := List.length_filter_le (nb T f) (lvs (st.length + (m + 1)) (pre (lf T f).length (fit T (lf T f)) m ((k, q) :: st)))
                omega
          · have e : ¬ σ1.1 5 0 (σ1.1 35 0 k).toNat = σ1.1 35 0 q := e
            rw [r3, ak, aq, show (((lf T f).getD k 0 : Nat) : Int).toNat = (lf T f).getD k 0 from rfl] at e
            exact skip (fun z => e ((fit_du hT hf k q).mp z.2))
        · have d : ¬ σ1.1 36 0 q = -1 := d
          rw [pq] at d
          exact skip (fun z => d z.1)
        · have z : σ1.1 33 0 10 ≤ (q : Int) := z
          omega
    refine hG 20 [84] _ _ _ _ ?_
    refine And.intro (by unfold sn_R; omega) (And.intro (fun _ => And.intro rfl ⟨(lf T f).length, e10, by omega, hn, fun k' hk' hj hor => ?_⟩) (fun c => ?_))
    · have ek : k' = k := by
        have hj : ∀ j, j < k' → ¬ ptn st j = -1 := fun j hj' => by rw [← hp j (by omega)]; exact hj j hj'
        rcases hor with z | z
        · have z : σ.1 36 0 k' = -1 := z
          rw [hp k' (by omega)] at z
          rw [← hk]
          exact (fa_u hk' z hj).symm
        · rcases Nat.lt_trichotomy k k' with y | y | y
          · exact absurd k1 (hj k y)
          · exact y.symm
          · omega
      subst ek
      exact And.intro (by unfold sn_R; omega) (loop ((lf T f).length - (k' + 1)) (k' + 1) F σ (by omega) (by omega) hp hF rfl h24 (sn_fr_rf _ σ))
    · have c : σ.1 33 0 10 ≤ 2 * (st.length : Int) := c
      omega
  · exact h.elim
