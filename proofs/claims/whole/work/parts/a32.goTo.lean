/-! The reference: going to a linking. -/
def gt_P (a b c : Nat) : Prop := cp_P 3 a b c ∨ in_q a b c
theorem rs_g {σ σ' : sn_M} (f : sn_fr rs_P σ σ') : sn_fr gt_P σ σ' := sn_fr_w f (fun a b c z => by unfold rs_P at z; exact Or.inr ⟨by omega, by omega, by omega, by omega, by omega, by omega⟩)
theorem la_g {σ σ' : sn_M} (f : sn_fr la_P σ σ') : sn_fr gt_P σ σ' := sn_fr_w f (fun a b c z => by unfold la_P at z; exact Or.inr ⟨by omega, by omega, by omega, by omega, by omega, by omega⟩)
theorem ly_g {σ σ' : sn_M} (f : sn_fr (ly_P 3) σ σ') : sn_fr gt_P σ σ' := sn_fr_w f (fun a b c z => by
  rcases z with z | z
  · exact Or.inl z
  · exact Or.inr ⟨by omega, by omega, by omega, by omega, by omega, by omega⟩)
theorem gt_mt {T : fT} {σ σ' : sn_M} (hm : mt_v T σ) (f : sn_fr gt_P σ σ') : mt_v T σ' := mt_v_fr hm f (fun a c h1 h2 z => by
  rcases z with z | z
  · have := cp_46 z; omega
  · exact z.2.2.2.1 ⟨h1, h2⟩) (fun z => by
  rcases z with z | z
  · have := cp_46 z; omega
  · exact z.2.2.2.2.1 ⟨rfl, rfl⟩)
def nt_P (a _ c : Nat) : Prop := (a = 40 ∧ (c = 19 ∨ c = 20)) ∨ a = 58
theorem jd_n (σ : sn_M) (v f : Int) (p : Nat → Int) : sn_fr nt_P σ (sn_ov (sn_ov σ 40 0 (sn_up (sn_up (σ.1 40 0) 19 v) 20 f)) 58 0 p) := by
  refine ⟨rfl, fun a b c hn => ?_⟩
  rw [sn_ov_n (fun z => hn (Or.inr z.1))]
  by_cases e : a = 40 ∧ b = 0
  · obtain ⟨rfl, rfl⟩ := e
    rw [sn_ov_s, sn_up_ne _ (fun z => hn (Or.inl ⟨rfl, Or.inr z⟩)), sn_up_ne _ (fun z => hn (Or.inl ⟨rfl, Or.inl z⟩))]
  · exact sn_ov_n e
theorem md_isNet2 {T : fT} {S S' : sT} {i : Nat} {σ : sn_M} (h : my_s T S S' i σ) (hi : i < 4) (po : Option sn_V → sn_M → Prop) (h1 : ∀ (f : Int) (σ' : sn_M), s_V S 0 f → sn_fr nt_P σ σ' → po (some (.inl 1)) σ') (h0 : ∀ (v f : Int) (σ' : sn_M), s_V S v f → ¬ v = 0 → sn_fr nt_P σ σ' → po (some (.inl 0)) σ') : sp_MD_isNet [.inr (.inr (40, 0)), .inl (i : Int)] σ po := by
  obtain ⟨j1, j2⟩ := md_judge h hi
  refine fun G => And.intro rfl (And.intro ⟨by omega, j1⟩ (fun v f ro hv => And.intro (fun z => ?_) (fun z => ?_)))
  · have z : v = 0 := z
    subst z
    exact And.intro (Or.inr rfl) (h1 f _ (j2 hv) (jd_n σ 0 f ro))
  · have z : ¬ v = 0 := z
    exact And.intro (Or.inl rfl) (h0 v f _ (j2 hv) z (jd_n σ v f ro))
theorem nt_g {σ σ' : sn_M} (f : sn_fr nt_P σ σ') : sn_fr gt_P σ σ' := sn_fr_w f (fun a b c z => by unfold nt_P at z; exact Or.inr ⟨by omega, by omega, by omega, by omega, by omega, by omega⟩)
def sp_MD_goTo : sn_P := fun vs σ po => match vs with
  | [.inr (.inr q), .inl x, .inl i] => q = (40, 0) ∧ ∃ (T : fT) (f m : Nat), mt_v T σ ∧ fT_ok T ∧ T.2 ≤ 80 ∧ x = (f : Int) ∧ f < T.2 ∧ i = (m : Int) ∧ m ≤ 1000 ∧ (∀ σ', 8 < (lf T f).length → σ'.1 40 0 24 = 9 → sn_fr gt_P σ σ' → po (some (.inl 0)) σ') ∧ (∀ (st : pth) (σ' : sn_M), (lf T f).length ≤ 8 → (NL T f)[m]? = some st → (wf (lf T f).length (fit T (lf T f)) st ∧ 2 * st.length = (lf T f).length) → mlA T f σ' → pvm σ' st → sn_fr gt_P σ σ' → po (some (.inl ((m : Int) + 1))) σ') ∧ (∀ σ', (lf T f).length ≤ 8 → (NL T f).length ≤ m → mlA T f σ' → sn_fr gt_P σ σ' → po (some (.inl ((NL T f).length : Int))) σ')
  | _ => False
def ca_MD_goTo : List (Nat × Nat × Nat × sn_P) := [(184, 2, 8, sp_MD_isNet), (226, 2, 8, sp_MD_raise), (229, 2, 8, sp_MD_listAtoms), (232, 1, 8, sp_MD_fill), (236, 3, 8, sp_MD_lay)]
theorem co_MD_goTo : ∀ x n ci s', sn_lk ca_MD_goTo x = some (n, ci, s') → sn_CO "SwitchedNetsModel" sn_ws 5 x n ci s' := sn_co_of (List.forall_mem_cons.mpr ⟨sn_CO_V ("SwitchedNetsModel", T_MD, 29) ct_MD_isNet (by decide) (by decide) (sn_gV ml_MD_184 mi_MD_isNet ms_MD_isNet mz_MD mc_MD_isNet) (by decide) rfl rfl ⟨nh_MD.1, nh_MD.2, pn_MD_isNet⟩, List.forall_mem_cons.mpr ⟨sn_CO_V ("SwitchedNetsModel", T_MD, 29) ct_MD_raise (by decide) (by decide) (sn_gV ml_MD_226 mi_MD_raise ms_MD_raise mz_MD mc_MD_raise) (by decide) rfl rfl ⟨nh_MD.1, nh_MD.2, pn_MD_raise⟩, List.forall_mem_cons.mpr ⟨sn_CO_V ("SwitchedNetsModel", T_MD, 29) ct_MD_listAtoms (by decide) (by decide) (sn_gV ml_MD_229 mi_MD_listAtoms ms_MD_listAtoms mz_MD mc_MD_listAtoms) (by decide) rfl rfl ⟨nh_MD.1, nh_MD.2, pn_MD_listAtoms⟩, List.forall_mem_cons.mpr ⟨sn_CO_V ("SwitchedNetsModel", T_MD, 29) ct_MD_fill (by decide) (by decide) (sn_gV ml_MD_232 mi_MD_fill ms_MD_fill mz_MD mc_MD_fill) (by decide) rfl rfl ⟨nh_MD.1, nh_MD.2, pn_MD_fill⟩, List.forall_mem_cons.mpr ⟨sn_CO_V ("SwitchedNetsModel", T_MD, 29) ct_MD_lay (by decide) (by decide) (sn_gV ml_MD_236 mi_MD_lay ms_MD_lay mz_MD mc_MD_lay) (by decide) rfl rfl ⟨nh_MD.1, nh_MD.2, pn_MD_lay⟩, fun _ h => absurd h List.not_mem_nil⟩⟩⟩⟩⟩)
set_option maxHeartbeats 8000000 in
theorem ct_MD_goTo : sn_CT y_MD_goTo ws_MD_goTo 5 sp_MD_goTo := by
  refine sn_CT_of (pr := pr_MD_goTo) (fi := (sn_lk ft_MD)) (lc := (sn_lk lc_MD)) (ca := sn_lk ca_MD_goTo) pl_MD ?_ pk_MD_goTo FI_MD LC_MD co_MD_goTo ?_
  · intro vs σ post h
    unfold sp_MD_goTo at h
    split at h
    · exact Nat.le_of_ble_eq_true rfl
    · exact h.elim
  · intro vs σ post h hvs hR
    unfold sp_MD_goTo at h
    split at h
    · next q x i =>
      obtain ⟨rfl, T, f, m, hm, hT, h80, rfl, hf, rfl, hm1, h9, hyes, hno⟩ := h
      intro G hG
      have n1 := lf_pos hT f hf
      -- no more
      have at0 : (lf T f).length ≤ 8 → ∀ (n : Nat) (σ1 : sn_M), n = (NL T f).length → n ≤ m → mlA T f σ1 → sn_fr gt_P σ σ1 → G 60 [some (.inr (.inr (40, 0))), some (.inl (f : Int)), some (.inl (m : Int)), some (.inl (n : Int)), some (.inl 0)] [] σ1 := by
        intro h8 n σ1 en hn hA1 f1
        subst en
        refine hG 20 [60] _ _ _ _ ?_
        exact And.intro (fun _ => hno σ1 h8 hn hA1 f1) (fun z => absurd rfl z)
      have lamk : ∀ {σ1 σ2 : sn_M}, mlA T f σ1 → (∀ c, σ2.1 61 0 c = σ1.1 61 0 c) → σ2.1 40 0 24 = σ1.1 40 0 24 → mlA T f σ2 := fun h e1 e2 => ⟨fun i g hg => by rw [e1]; exact h.1 i g hg, by rw [e2]; exact h.2⟩
      have main : (lf T f).length ≤ 8 → (he : (lf T f).length % 2 = 0) → ∀ (d : Nat) (st : pth) (done : List pth) (σ1 : sn_M), (lvs ((lf T f).length / 2) (rest (lf T f).length (fit T (lf T f)) ((lf T f).length / 2) st)).length < d → wf (lf T f).length (fit T (lf T f)) st → st.length = (lf T f).length / 2 → AL T f = done ++ st :: lvs ((lf T f).length / 2) (rest (lf T f).length (fit T (lf T f)) ((lf T f).length / 2) st) → (done.filter (nb T f)).length ≤ m → mlA T f σ1 → pvm σ1 st → sn_fr gt_P σ σ1 → G 60 [some (.inr (.inr (40, 0))), some (.inl (f : Int)), some (.inl (m : Int)), some (.inl ((done.filter (nb T f)).length : Int)), some (.inl 1)] [] σ1 := by
        intro h8 he d
        have hn' := h8
        have eNL : NL T f = (AL T f).filter (nb T f) := if_pos he
        have c24 := NL_len hT hf h8 he
        induction d with
        | zero => intro st done σ1 hd; exact absurd hd (Nat.not_lt_zero _)
        | succ d ih =>
          intro st done σ1 hd hw hl hAL hdn hA1 hp1 f1
          have hl2 : 2 * st.length = (lf T f).length := by omega
          have hmat := wf_mat hT hf hw hl2
          have dl : (done.filter (nb T f)).length ≤ 24 := by
            have := List.length_filter_le (nb T f) done
            have : done.length ≤ (AL T f).length := by rw [hAL, List.length_append]; omega
            omega
          -- after the trial
          have next : ∀ (done2 : List pth) (σ2 : sn_M), done2 = done ++ [st] → (done2.filter (nb T f)).length ≤ m → mlA T f σ2 → pvm σ2 st → sn_fr gt_P σ σ2 → G 96 [some (.inr (.inr (40, 0))), some (.inl (f : Int)), some (.inl (m : Int)), some (.inl ((done2.filter (nb T f)).length : Int)), some (.inl 1)] [] σ2 := by
            intro done2 σ2 ed hd2 hA2 hp2 f2
            have e24 := hA2.2
            have hm2 := gt_mt hm f2
            have fin : lvs ((lf T f).length / 2) (rest (lf T f).length (fit T (lf T f)) ((lf T f).length / 2) st) = [] → (done2.filter (nb T f)).length = (NL T f).length := by
              intro z
              rw [eNL, hAL, z, ed]
            refine hG 40 [60] _ _ _ _ ?_
            refine And.intro (show sn_R (σ2.1 40 0 24 - 1) by rw [e24]; unfold sn_R; omega) (And.intro rfl ⟨T, f, (lf T f).length / 2, st, hm2, hT, h80, hf, h8, hA2, hw, hp2, ?_, fun y hy => ?_, fun st2 σ3 w3 r3 p3 f3 => And.intro (fun z => absurd z (by decide)) (fun _ => ?_), fun σ3 r3 f3 => And.intro (fun _ => ?_) (fun z => absurd rfl z)⟩)
            · show -1 ≤ σ2.1 40 0 24 - 1 ∧ σ2.1 40 0 24 - 1 < 8
              rw [e24]
              omega
            · show (y.1 : Int) ≤ σ2.1 40 0 24 - 1
              rw [e24]
              obtain ⟨-, y2, y3⟩ := ptn_in hw y hy
              omega
            · obtain ⟨hm3, hA3⟩ := rs_mt hm2 hA2 f3
              have f23 := sn_fr_t f2 (rs_g f3)
              refine And.intro rfl ⟨T, f, (lf T f).length / 2, st2, hm3, hT, h80, hf, h8, by omega, hA3, w3, p3, fun st3 σ4 w4 l4 L4 p4 f4 => And.intro (fun z => absurd z (by decide)) (fun _ => ?_), fun σ4 L4 f4 => And.intro (fun _ => ?_) (fun z => absurd rfl z)⟩
              · obtain ⟨hm4, hA4⟩ := rs_mt hm3 hA3 f4
                have L4 : lvs ((lf T f).length / 2) (rest (lf T f).length (fit T (lf T f)) ((lf T f).length / 2) st) = st3 :: lvs ((lf T f).length / 2) (rest (lf T f).length (fit T (lf T f)) ((lf T f).length / 2) st3) := by
                  rw [r3, L4, W_full l4]
                  exact List.filter_cons_of_pos (decide_eq_true l4)
                have hd3 : (lvs ((lf T f).length / 2) (rest (lf T f).length (fit T (lf T f)) ((lf T f).length / 2) st3)).length < d := by
                  rw [L4, List.length_cons] at hd
                  omega
                refine ih st3 done2 σ4 hd3 w4 l4 ?_ hd2 hA4 p4 (sn_fr_t f23 (rs_g f4))
                rw [hAL, L4, ed, List.append_assoc]
                rfl
              · obtain ⟨hm4, hA4⟩ := rs_mt hm3 hA3 f4
                exact at0 h8 _ σ4 (fin (by rw [r3, L4])) hd2 hA4 (sn_fr_t f23 (rs_g f4))
            · obtain ⟨hm3, hA3⟩ := rs_mt hm2 hA2 f3
              exact at0 h8 _ σ3 (fin (by rw [r3]; rfl)) hd2 hA3 (sn_fr_t f2 (rs_g f3))
          have ef : (done ++ [st]).filter (nb T f) = done.filter (nb T f) ++ (if nb T f st = true then [st] else []) := by rw [List.filter_append, fil_1]
          have rm' : sn_R ((m : Int) + 1) := by unfold sn_R; omega
          refine hG 60 [96, 60] _ _ _ _ ?_
          refine And.intro (fun z => absurd z (by decide)) (fun _ => And.intro rfl ⟨T, f, 3, ptn st, rfl, by omega, gt_mt hm f1, hT, h80, rfl, hf, h8, hmat, hA1, fun k hk => hp1 k (by omega), fun S σ2 v2 f2 => ?_⟩)
          obtain ⟨-, -, -, -, -, ok, -⟩ := asm_ok hT hf S hn' hmat
          have v2 : my_v (asm T f (ptn st) S) 3 σ2 := v2
          have ly0 : ∀ a k, (a = 40 ∨ a = 61 ∨ a = 62) → ¬ ly_P 3 a 0 k := fun a k ha z => by
            rcases z with z | z
            · have := cp_46 z; omega
            · omega
          have f2 : sn_fr (ly_P 3) σ1 σ2 := f2
          have hA2 : mlA T f σ2 := lamk hA1 (fun c => f2.2 61 0 c (ly0 61 c (by omega))) (f2.2 40 0 24 (ly0 40 24 (by omega)))
          have hp2 : pvm σ2 st := fun k hk => by rw [f2.2 62 0 k (ly0 62 k (by omega))]; exact hp1 k hk
          have f12 := sn_fr_t f1 (ly_g f2)
          have aft : ∀ σ3, sn_fr nt_P σ2 σ3 → mlA T f σ3 ∧ pvm σ3 st ∧ sn_fr gt_P σ σ3 := fun σ3 f3 => ⟨lamk hA2 (fun c => f3.2 61 0 c (fun z => by unfold nt_P at z; omega)) (f3.2 40 0 24 (fun z => by unfold nt_P at z; omega)), fun k hk => by rw [f3.2 62 0 k (fun z => by unfold nt_P at z; omega)]; exact hp2 k hk, sn_fr_t f12 (nt_g f3)⟩
          refine md_isNet2 (i := 3) (S := asm T f (ptn st) S) (S' := asm T f (ptn st) S) ⟨v2, s_eq_rf _, ok⟩ (by omega) _ (fun fl σ3 hV f3 => And.intro (fun z => absurd z (by decide)) (fun _ => ?_)) (fun v fl σ3 hV hz f3 => And.intro (fun _ => ?_) (fun z => absurd rfl z))
          · obtain ⟨hA3, hp3, f13⟩ := aft σ3 f3
            have hb : nb T f st = true := (nb_any hT hf hn' hw hl2 S).mpr ⟨fl, hV⟩
            rw [if_pos hb] at ef
            have e1 : ((done ++ [st]).filter (nb T f)).length = (done.filter (nb T f)).length + 1 := by rw [ef, List.length_append, List.length_singleton]
            refine And.intro (by unfold sn_R; omega) (And.intro rm' (And.intro (fun z => ?_) (fun z => ?_)))
            · have z : ((done.filter (nb T f)).length : Int) + 1 = (m : Int) + 1 := z
              have g := hyes st σ3 h8 ?_ ⟨hw, hl2⟩ hA3 hp3 f13
              · rw [← z] at g
                exact g
              · have em : m = (done.filter (nb T f)).length := by omega
                rw [eNL, hAL, List.filter_append, List.filter_cons_of_pos hb, em, List.getElem?_append_right (Nat.le_refl _), Nat.sub_self]
                rfl
            · have z : ¬ ((done.filter (nb T f)).length : Int) + 1 = (m : Int) + 1 := z
              have g := next (done ++ [st]) σ3 rfl (by omega) hA3 hp3 f13
              rw [e1] at g
              exact g
          · obtain ⟨hA3, hp3, f13⟩ := aft σ3 f3
            have hb : ¬ nb T f st = true := fun y => by
              obtain ⟨fl', hV'⟩ := (nb_any hT hf hn' hw hl2 S).mp y
              exact hz (s_V_u hV hV').1
            rw [if_neg hb, List.append_nil] at ef
            refine And.intro rm' (And.intro (fun z => ?_) (fun z => ?_))
            · have z : ((done.filter (nb T f)).length : Int) = (m : Int) + 1 := z
              omega
            · have g := next (done ++ [st]) σ3 rfl (by rw [ef]; exact hdn) hA3 hp3 f13
              rw [ef] at g
              exact g
      -- nothing is linked yet
      have clr : ∀ (σ0 : sn_M), (∀ σ2, (∀ j, j < 8 → σ2.1 62 0 j = -1) → sn_fr rs_P σ0 σ2 → G 26 [some (.inr (.inr (40, 0))), some (.inl (f : Int)), some (.inl (m : Int)), some (.inl 8), none] [] σ2) → ∀ (d k : Nat) (σ1 : sn_M), 8 - k = d → k ≤ 8 → (∀ j, j < k → σ1.1 62 0 j = -1) → sn_fr rs_P σ0 σ1 → G 7 [some (.inr (.inr (40, 0))), some (.inl (f : Int)), some (.inl (m : Int)), some (.inl (k : Int)), none] [] σ1 := by
        intro σ0 hend d
        induction d with
        | zero =>
          intro k σ1 hd hk hj f1
          have ek : k = 8 := by omega
          subst ek
          refine hG 20 [26] _ _ _ _ ?_
          refine And.intro (fun z => ?_) (fun _ => hend σ1 hj f1)
          have z : ((8 : Nat) : Int) < 8 := z
          omega
        | succ d ih =>
          intro k σ1 hd hk hj f1
          refine hG 20 [7, 26] _ _ _ _ ?_
          refine And.intro (fun _ => And.intro (show (0 : Int) ≤ (k : Int) ∧ (k : Int) < (8 : Nat) by omega) (And.intro (by unfold sn_R; omega) (ih (k + 1) _ (by omega) (by omega) (fun j hj' => ?_) (sn_fr_u f1 rfl _)))) (fun z => ?_)
          · show sn_u σ1.1 62 0 k (-1) 62 0 j = -1
            rw [sn_u_at]
            by_cases w : j = k
            · rw [if_pos w]
            · rw [if_neg w]
              exact hj j (by omega)
          · have z : (8 : Int) ≤ (k : Int) := z
            omega
      refine hG 20 [7] _ _ _ _ ?_
      refine And.intro rfl ⟨T, f, hm, hT, h80, rfl, hf, fun σ1 h8 hA1 f1 => ?_, fun σ1 h8 e9 f1 => ?_⟩
      · have f1 : sn_fr la_P σ σ1 := f1
        refine clr σ1 (fun σ2 hj f2 => ?_) 8 0 σ1 rfl (by omega) (fun j hj => absurd hj (Nat.not_lt_zero j)) (sn_fr_rf _ σ1)
        have hm1 : mt_v T σ1 := gt_mt hm (la_g f1)
        obtain ⟨hm2, hA2⟩ := rs_mt hm1 hA1 f2
        have f12 := sn_fr_t (la_g f1) (rs_g f2)
        have e24 := hA2.2
        have tm : (σ2.1 40 0 24).tmod 2 = (((lf T f).length % 2 : Nat) : Int) := by rw [e24, Int.tmod_eq_emod_of_nonneg (by omega)]; omega
        refine hG 30 [60] _ _ _ _ ?_
        refine And.intro (by decide) (And.intro (fun z => And.intro (fun _ => ?_) (fun y => ?_)) (fun z => ?_))
        · have z : (σ2.1 40 0 24).tmod 2 = 0 := z
          rw [tm] at z
          have he : (lf T f).length % 2 = 0 := by omega
          have eNL : NL T f = (AL T f).filter (nb T f) := if_pos he
          have eW : lvs ((lf T f).length / 2) (Wl (lf T f).length (fit T (lf T f)) ((lf T f).length / 2) []) = AL T f := by
            unfold Wl AL
            rw [List.length_nil, Nat.sub_zero]
            show lvs _ (_ ++ []) = _
            rw [List.append_nil]
          refine And.intro rfl ⟨T, f, (lf T f).length / 2, [], hm2, hT, h80, hf, h8, by omega, hA2, trivial, hj, fun st3 σ4 w4 l4 L4 p4 f4 => And.intro (fun y => absurd y (by decide)) (fun _ => ?_), fun σ4 L4 f4 => And.intro (fun _ => ?_) (fun y => absurd rfl y)⟩
          · obtain ⟨-, hA4⟩ := rs_mt hm2 hA2 f4
            refine main h8 he _ st3 [] σ4 (Nat.lt_succ_self _) w4 l4 ?_ (Nat.zero_le _) hA4 p4 (sn_fr_t f12 (rs_g f4))
            rw [← eW, L4, W_full l4]
            exact List.filter_cons_of_pos (decide_eq_true l4)
          · obtain ⟨-, hA4⟩ := rs_mt hm2 hA2 f4
            refine at0 h8 0 σ4 ?_ (Nat.zero_le _) hA4 (sn_fr_t f12 (rs_g f4))
            rw [eNL, ← eW, L4]
            rfl
        · have y : (9 : Int) ≤ σ2.1 40 0 24 := y
          omega
        · have z : ¬ (σ2.1 40 0 24).tmod 2 = 0 := z
          rw [tm] at z
          refine at0 h8 0 σ2 ?_ (Nat.zero_le _) hA2 f12
          have : NL T f = [] := if_neg (by omega)
          rw [this]
          rfl
      · have f1 : sn_fr la_P σ σ1 := f1
        have e9 : σ1.1 40 0 24 = 9 := e9
        refine clr σ1 (fun σ2 hj f2 => ?_) 8 0 σ1 rfl (by omega) (fun j hj => absurd hj (Nat.not_lt_zero j)) (sn_fr_rf _ σ1)
        have f12 := sn_fr_t (la_g f1) (rs_g f2)
        have e24 : σ2.1 40 0 24 = 9 := by rw [f2.2 40 0 24 (fun z => by unfold rs_P at z; omega)]; exact e9
        refine hG 30 [] _ _ _ _ ?_
        refine And.intro (by decide) (And.intro (fun z => ?_) (fun _ => And.intro (fun _ => h9 σ2 h8 e24 f12) (fun z => absurd rfl z)))
        have z : (σ2.1 40 0 24).tmod 2 = 0 := z
        rw [e24] at z
        exact absurd z (by decide)
    · exact h.elim
def ca_MD_isLinking : List (Nat × Nat × Nat × sn_P) := [(100, 2, 8, sp_MD_isFormula), (239, 3, 8, sp_MD_goTo)]
theorem co_MD_isLinking : ∀ x n ci s', sn_lk ca_MD_isLinking x = some (n, ci, s') → sn_CO "SwitchedNetsModel" sn_ws 6 x n ci s' := sn_co_of (List.forall_mem_cons.mpr ⟨sn_CO_V ("SwitchedNetsModel", T_MD, 29) ct_MD_isFormula (by decide) (by decide) (sn_gV ml_MD_100 mi_MD_isFormula ms_MD_isFormula mz_MD mc_MD_isFormula) (by decide) rfl rfl ⟨nh_MD.1, nh_MD.2, pn_MD_isFormula⟩, List.forall_mem_cons.mpr ⟨sn_CO_V ("SwitchedNetsModel", T_MD, 29) ct_MD_goTo (by decide) (by decide) (sn_gV ml_MD_239 mi_MD_goTo ms_MD_goTo mz_MD mc_MD_goTo) (by decide) rfl rfl ⟨nh_MD.1, nh_MD.2, pn_MD_goTo⟩, fun _ h => absurd h List.not_mem_nil⟩⟩)
def sp_MD_isLinking : sn_P := sn_wp pr_MD_isLinking (sn_lk ft_MD) (sn_lk lc_MD) (sn_lk ca_MD_isLinking) 3 22
theorem ct_MD_isLinking : sn_CT y_MD_isLinking ws_MD_isLinking 6 sp_MD_isLinking := sn_CT_wp 22 pl_MD pk_MD_isLinking FI_MD LC_MD co_MD_isLinking
def ca_MD_linkings : List (Nat × Nat × Nat × sn_P) := [(100, 2, 8, sp_MD_isFormula), (239, 3, 8, sp_MD_goTo)]
theorem co_MD_linkings : ∀ x n ci s', sn_lk ca_MD_linkings x = some (n, ci, s') → sn_CO "SwitchedNetsModel" sn_ws 6 x n ci s' := sn_co_of (List.forall_mem_cons.mpr ⟨sn_CO_V ("SwitchedNetsModel", T_MD, 29) ct_MD_isFormula (by decide) (by decide) (sn_gV ml_MD_100 mi_MD_isFormula ms_MD_isFormula mz_MD mc_MD_isFormula) (by decide) rfl rfl ⟨nh_MD.1, nh_MD.2, pn_MD_isFormula⟩, List.forall_mem_cons.mpr ⟨sn_CO_V ("SwitchedNetsModel", T_MD, 29) ct_MD_goTo (by decide) (by decide) (sn_gV ml_MD_239 mi_MD_goTo ms_MD_goTo mz_MD mc_MD_goTo) (by decide) rfl rfl ⟨nh_MD.1, nh_MD.2, pn_MD_goTo⟩, fun _ h => absurd h List.not_mem_nil⟩⟩)
def sp_MD_linkings : sn_P := sn_wp pr_MD_linkings (sn_lk ft_MD) (sn_lk lc_MD) (sn_lk ca_MD_linkings) 3 23
theorem ct_MD_linkings : sn_CT y_MD_linkings ws_MD_linkings 6 sp_MD_linkings := sn_CT_wp 23 pl_MD pk_MD_linkings FI_MD LC_MD co_MD_linkings
def ca_MD_partner : List (Nat × Nat × Nat × sn_P) := [(242, 3, 8, sp_MD_isLinking)]
theorem co_MD_partner : ∀ x n ci s', sn_lk ca_MD_partner x = some (n, ci, s') → sn_CO "SwitchedNetsModel" sn_ws 7 x n ci s' := sn_co_of (List.forall_mem_cons.mpr ⟨sn_CO_V ("SwitchedNetsModel", T_MD, 29) ct_MD_isLinking (by decide) (by decide) (sn_gV ml_MD_242 mi_MD_isLinking ms_MD_isLinking mz_MD mc_MD_isLinking) (by decide) rfl rfl ⟨nh_MD.1, nh_MD.2, pn_MD_isLinking⟩, fun _ h => absurd h List.not_mem_nil⟩)
def sp_MD_partner : sn_P := sn_wp pr_MD_partner (sn_lk ft_MD) (sn_lk lc_MD) (sn_lk ca_MD_partner) 4 25
theorem ct_MD_partner : sn_CT y_MD_partner ws_MD_partner 7 sp_MD_partner := sn_CT_wp 25 pl_MD pk_MD_partner FI_MD LC_MD co_MD_partner
def ca_MD_build : List (Nat × Nat × Nat × sn_P) := [(119, 3, 8, sp_MD_count), (236, 3, 8, sp_MD_lay), (242, 3, 8, sp_MD_isLinking)]
theorem co_MD_build : ∀ x n ci s', sn_lk ca_MD_build x = some (n, ci, s') → sn_CO "SwitchedNetsModel" sn_ws 7 x n ci s' := sn_co_of (List.forall_mem_cons.mpr ⟨sn_CO_V ("SwitchedNetsModel", T_MD, 29) ct_MD_count (by decide) (by decide) (sn_gV ml_MD_119 mi_MD_count ms_MD_count mz_MD mc_MD_count) (by decide) rfl rfl ⟨nh_MD.1, nh_MD.2, pn_MD_count⟩, List.forall_mem_cons.mpr ⟨sn_CO_V ("SwitchedNetsModel", T_MD, 29) ct_MD_lay (by decide) (by decide) (sn_gV ml_MD_236 mi_MD_lay ms_MD_lay mz_MD mc_MD_lay) (by decide) rfl rfl ⟨nh_MD.1, nh_MD.2, pn_MD_lay⟩, List.forall_mem_cons.mpr ⟨sn_CO_V ("SwitchedNetsModel", T_MD, 29) ct_MD_isLinking (by decide) (by decide) (sn_gV ml_MD_242 mi_MD_isLinking ms_MD_isLinking mz_MD mc_MD_isLinking) (by decide) rfl rfl ⟨nh_MD.1, nh_MD.2, pn_MD_isLinking⟩, fun _ h => absurd h List.not_mem_nil⟩⟩⟩)
def sp_MD_build : sn_P := sn_wp pr_MD_build (sn_lk ft_MD) (sn_lk lc_MD) (sn_lk ca_MD_build) 3 20
theorem ct_MD_build : sn_CT y_MD_build ws_MD_build 7 sp_MD_build := sn_CT_wp 20 pl_MD pk_MD_build FI_MD LC_MD co_MD_build
