/-! The reference's same; the call same. -/
theorem ms_n {T : fT} {S S' : sT} {i : Nat} {σ : sn_M} (h : my_s T S S' i σ) {c x : Nat} (hc : c < S.2.2.2) (hx : x = 100 * i + c) : σ.1 57 0 x = S.1 8 c := by
  have b1 := h.2.2.1.2.2
  rw [my_rg h.1 (a := 8) (by omega) (by omega) (show c < 100 by omega) rfl hx]
  exact h.2.1.2.2.2 c hc
theorem ms_q {T : fT} {S S' : sT} {i : Nat} {σ σ' : sn_M} (h : my_s T S S' i σ) (f : sn_fr in_q σ σ') : my_s T S S' i σ' := ⟨my_v_fr h.1 f (fun a c g z => z.2.2.2.2.2 (cp_46 g)), h.2⟩
theorem mk_q {σ σ' : sn_M} (f : sn_fr mk_P σ σ') : sn_fr in_q σ σ' := sn_fr_w f (fun a b c z => by unfold mk_P at z; exact ⟨by omega, by omega, by omega, by omega, by omega, by omega⟩)
theorem lk_q {σ σ' : sn_M} (f : sn_fr lk_P σ σ') : sn_fr in_q σ σ' := sn_fr_w f (fun a b c z => by unfold lk_P at z; exact ⟨by omega, by omega, by omega, by omega, by omega, by omega⟩)
theorem net_hc {T : fT} {S : sT} (hok : s_ok T S) {f : Int} (hV : s_V S 0 f) : hc S := by
  have n := net_np hok hV
  refine ⟨fun l => decide (l < S.2.1 ∧ 0 ≤ S.1 0 l), n.1, fun l => ?_, fun x y hx hy => ?_⟩
  · rw [decide_eq_true_eq]
    unfold lal
    rw [show ((l : Int)).toNat = l from rfl]
    exact ⟨fun z => ⟨by omega, by omega, z.2⟩, fun z => ⟨by omega, z.2.2⟩⟩
  · exact gd_pG (ch := fun _ => false) (fun _ z => z) (n.2.2.2.2.2 _ x (pA_in.mpr ⟨sA_in.mpr (n.1.1 x hx), hx⟩) y (pA_in.mpr ⟨sA_in.mpr (n.1.1 y hy), hy⟩))
/-- the two nets are alike -/
def sam (a b : sT) : Prop := (∃ f, s_V a 0 f) ∧ (∃ f, s_V b 0 f) ∧ cn_ct (a.1 0) (-1) a.2.1 = cn_ct (b.1 0) (-1) b.2.1 ∧ a.2.2.2 = b.2.2.2 ∧ ∃ φ ψ, gm a b φ ψ
def sp_MD_same : sn_P := fun vs σ po => match vs with
  | [.inr (.inr q)] => q = (40, 0) ∧ ∃ (T : fT) (a a' b b' : sT), my_s T a a' 0 σ ∧ my_s T b b' 1 σ ∧ fT_ok T ∧ ∀ (r : Int) (σ' : sn_M), ((r = 1 ∧ sam a b) ∨ (r = 0 ∧ ¬ sam a b)) → sn_fr in_q σ σ' → po (some (.inl r)) σ'
  | _ => False
def ca_MD_same : List (Nat × Nat × Nat × sn_P) := [(119, 3, 8, sp_MD_count), (184, 2, 8, sp_MD_isNet), (190, 3, 8, sp_MD_meet), (193, 2, 8, sp_MD_follow)]
theorem co_MD_same : ∀ x n ci s', sn_lk ca_MD_same x = some (n, ci, s') → sn_CO "SwitchedNetsModel" sn_ws 5 x n ci s' := sn_co_of (List.forall_mem_cons.mpr ⟨sn_CO_V ("SwitchedNetsModel", T_MD, 29) ct_MD_count (by decide) (by decide) (sn_gV ml_MD_119 mi_MD_count ms_MD_count mz_MD mc_MD_count) (by decide) rfl rfl ⟨nh_MD.1, nh_MD.2, pn_MD_count⟩, List.forall_mem_cons.mpr ⟨sn_CO_V ("SwitchedNetsModel", T_MD, 29) ct_MD_isNet (by decide) (by decide) (sn_gV ml_MD_184 mi_MD_isNet ms_MD_isNet mz_MD mc_MD_isNet) (by decide) rfl rfl ⟨nh_MD.1, nh_MD.2, pn_MD_isNet⟩, List.forall_mem_cons.mpr ⟨sn_CO_V ("SwitchedNetsModel", T_MD, 29) ct_MD_meet (by decide) (by decide) (sn_gV ml_MD_190 mi_MD_meet ms_MD_meet mz_MD mc_MD_meet) (by decide) rfl rfl ⟨nh_MD.1, nh_MD.2, pn_MD_meet⟩, List.forall_mem_cons.mpr ⟨sn_CO_V ("SwitchedNetsModel", T_MD, 29) ct_MD_follow (by decide) (by decide) (sn_gV ml_MD_193 mi_MD_follow ms_MD_follow mz_MD mc_MD_follow) (by decide) rfl rfl ⟨nh_MD.1, nh_MD.2, pn_MD_follow⟩, fun _ h => absurd h List.not_mem_nil⟩⟩⟩⟩)
set_option maxHeartbeats 8000000 in
theorem ct_MD_same : sn_CT y_MD_same ws_MD_same 5 sp_MD_same := by
  refine sn_CT_of (pr := pr_MD_same) (fi := (sn_lk ft_MD)) (lc := (sn_lk lc_MD)) (ca := sn_lk ca_MD_same) pl_MD ?_ pk_MD_same FI_MD LC_MD co_MD_same ?_
  · intro vs σ post h
    unfold sp_MD_same at h
    split at h
    · exact Nat.le_of_ble_eq_true rfl
    · exact h.elim
  · intro vs σ post h hvs hR
    unfold sp_MD_same at h
    split at h
    · next q =>
      obtain ⟨rfl, T, a, a', b, b', ma, mb, hT, hpo⟩ := h
      intro G hG
      have ha := ma.2.2
      have hb := mb.2.2
      have ba := ha.1
      have bb := hb.1
      have i0 : (0 : Int) ≤ 0 ∧ (0 : Int) < (4 : Nat) := by omega
      have i1 : (0 : Int) ≤ 1 ∧ (1 : Int) < (4 : Nat) := by omega
      have no : ¬ sam a b → ∀ σ1, sn_fr in_q σ σ1 → post (some (.inl 0)) σ1 := fun z σ1 f1 => hpo 0 σ1 (Or.inr ⟨rfl, z⟩) f1
      have z0 : (0 : Int) ≤ 0 ∧ (0 : Int) < (200 : Nat) := by omega
      have q64 : ∀ c, in_q 64 0 c := fun c => ⟨by omega, by omega, by omega, by omega, by omega, by omega⟩
      have q63 : ∀ c, in_q 63 0 c := fun c => ⟨by omega, by omega, by omega, by omega, by omega, by omega⟩
      -- the followings
      have lp0 : ¬ sam a b → ∀ (x : Int) (σ1 : sn_M), sn_fr in_q σ σ1 → G 135 [some (.inr (.inr (40, 0))), some (.inl 0), some (.inl x)] [] σ1 := by
        intro hno x σ1 f1
        refine hG 20 [135] _ _ _ _ ?_
        exact And.intro z0 (And.intro (fun _ => And.intro (fun _ => And.intro (Or.inl rfl) (no hno σ1 f1)) (fun z => absurd rfl z)) (fun _ => And.intro (Or.inl rfl) (no hno σ1 f1)))
      have lp1 : ∀ (R : Bool), (R = true ↔ sam a b) → ∀ (d n : Nat) (x : Int) (s : mkT) (σ1 : sn_M), d + n = 100 → x = (n : Int) + 1 → mv σ1 s → mW a b s → mh a b d s n = R → sn_fr in_q σ σ1 → G 135 [some (.inr (.inr (40, 0))), some (.inl 1), some (.inl x)] [] σ1 := by
        intro R hR d
        have yes : ∀ σ1, R = true → sn_fr in_q σ σ1 → post (some (.inl 1)) σ1 := fun σ1 hr f1 => hpo 1 σ1 (Or.inl ⟨rfl, hR.mp hr⟩) f1
        induction d with
        | zero =>
          intro n x s σ1 hd hx v1 W1 hl f1
          have hlen := mW_len W1
          have e3 : σ1.1 63 0 0 = (s.2.length : Int) := v1.2.2
          refine hG 30 [135] _ _ _ _ ?_
          refine And.intro z0 (And.intro (fun c => ?_) (fun _ => And.intro (Or.inr rfl) (yes σ1 hl.symm f1)))
          have c : x ≤ σ1.1 63 0 0 := c
          omega
        | succ d ih =>
          intro n x s σ1 hd hx v1 W1 hl f1
          have e3 : σ1.1 63 0 0 = (s.2.length : Int) := v1.2.2
          by_cases hlt : n < s.2.length
          case neg =>
            refine hG 30 [135] _ _ _ _ ?_
            refine And.intro z0 (And.intro (fun c => ?_) (fun _ => And.intro (Or.inr rfl) (yes σ1 ?_ f1)))
            · have c : x ≤ σ1.1 63 0 0 := c
              omega
            · rw [← hl]
              unfold mh
              rw [List.getElem?_eq_none (by omega)]
          obtain ⟨e, he⟩ : ∃ e, s.2[n]? = some e := ⟨s.2[n], List.getElem?_eq_getElem hlt⟩
          have hin := List.mem_of_getElem? he
          have q1 : σ1.1 63 0 x.toNat = (e : Int) := by
            rw [show x.toNat = n + 1 by omega]
            exact v1.2.1 n e he
          have hlen := mW_len W1
          have un : mh a b (d + 1) s n = (match fw a b s e with | none => false | some s' => mh a b d s' (n + 1)) := by
            show (match s.2[n]? with | none => true | some e => match fw a b s e with | none => false | some s' => mh a b d s' (n + 1)) = _
            rw [he]
          refine hG 30 [135] _ _ _ _ ?_
          refine And.intro z0 (And.intro (fun _ => And.intro (fun z => absurd z (by decide)) (fun _ => And.intro (show 0 ≤ x ∧ x < (200 : Nat) by omega) (And.intro rfl ⟨T, a, a', b, b', s, e, ms_q ma f1, ms_q mb f1, v1, W1, q1, hin, fun s1 σ2 g1 v2 f2 => ?_, fun σ2 g1 f2 => ?_⟩))) (fun c => ?_))
          · rw [un, g1] at hl
            exact And.intro (by unfold sn_R; omega) (ih (n + 1) _ s1 σ2 (by omega) (by omega) v2 (fw_W ha hb W1 hin g1).1 hl (sn_fr_t f1 (mk_q f2)))
          · refine And.intro (by unfold sn_R; omega) (lp0 (fun z => ?_) _ σ2 (sn_fr_t f1 (mk_q f2)))
            have := hR.mpr z
            rw [← hl, un, g1] at this
            cases this
          · have c : σ1.1 63 0 0 < x := c
            omega
      -- the conclusions
      have cs0 : ¬ sam a b → ∀ (d n : Nat) (σ1 : sn_M), a.2.2.2 - n = d → n ≤ a.2.2.2 → sn_fr in_q σ σ1 → G 85 [some (.inr (.inr (40, 0))), some (.inl 0), some (.inl (n : Int))] [] σ1 := by
        intro hno d
        induction d with
        | zero =>
          intro n σ1 hd hn f1
          have e48 : σ1.1 48 0 0 = (a.2.2.2 : Int) := (ms_46 (ms_q ma f1)).2.2
          refine hG 30 [135] _ _ _ _ ?_
          refine And.intro i0 (And.intro (fun c => ?_) (fun _ => lp0 hno _ σ1 f1))
          have c : (n : Int) < σ1.1 48 0 0 := c
          omega
        | succ d ih =>
          intro n σ1 hd hn f1
          refine hG 30 [135, 85] _ _ _ _ ?_
          exact And.intro i0 (And.intro (fun _ => And.intro (fun _ => And.intro (by unfold sn_R; omega) (ih (n + 1) σ1 (by omega) (by omega) f1)) (fun z => absurd rfl z)) (fun _ => lp0 hno _ σ1 f1))
      have cs1 : (∃ f, s_V a 0 f) → (∃ f, s_V b 0 f) → cn_ct (a.1 0) (-1) a.2.1 = cn_ct (b.1 0) (-1) b.2.1 → a.2.2.2 = b.2.2.2 → ∀ (d n : Nat) (s : mkT) (σ1 : sn_M), a.2.2.2 - n = d → n ≤ a.2.2.2 → mi a b n = some s → mv σ1 s → sn_fr in_q σ σ1 → G 85 [some (.inr (.inr (40, 0))), some (.inl 1), some (.inl (n : Int))] [] σ1 := by
        intro hva hvb hc1 hc2 d
        induction d with
        | zero =>
          intro n s σ1 hd hn hs v1 f1
          have en : n = a.2.2.2 := by omega
          subst en
          have e48 : σ1.1 48 0 0 = (a.2.2.2 : Int) := (ms_46 (ms_q ma f1)).2.2
          refine hG 30 [135] _ _ _ _ ?_
          refine And.intro i0 (And.intro (fun c => ?_) (fun _ => ?_))
          · have c : (a.2.2.2 : Int) < σ1.1 48 0 0 := c
            omega
          · obtain ⟨f, hV⟩ := id hva
            refine lp1 (mh a b 100 s 0) ⟨fun z => ⟨hva, hvb, hc1, hc2, mk_gm ha hb (net_hc ha hV) (net_conc hT ha hV) hc2 hs (by omega) z⟩, fun z => ?_⟩ 100 0 _ s σ1 rfl rfl v1 (mi_W ha hb _ s (Nat.le_refl _) (by omega) hs).1 rfl f1
            obtain ⟨φ, ψ, g⟩ := z.2.2.2.2
            obtain ⟨s', hs', hn⟩ := gm_mk ha hb hc2 g
            rw [hs] at hs'
            cases hs'
            exact hn 100
        | succ d ih =>
          intro n s σ1 hd hn hs v1 f1
          have n9 : n < a.2.2.2 := by omega
          have e48 : σ1.1 48 0 0 = (a.2.2.2 : Int) := (ms_46 (ms_q ma f1)).2.2
          have W1 := (mi_W ha hb n s (by omega) (by omega) hs).1
          have ca := (ha.2.2.2.1 n n9).1
          have x8 : σ1.1 57 0 n = a.1 8 n := ms_n (ms_q ma f1) n9 (by omega)
          have y8 : σ1.1 57 0 ((100 : Int) + (n : Int)).toNat = b.1 8 n := ms_n (ms_q mb f1) (by omega) (by omega)
          have ia : (0 : Int) ≤ (n : Int) ∧ (n : Int) < (400 : Nat) := by omega
          have ib : (0 : Int) ≤ (100 : Int) + (n : Int) ∧ (100 : Int) + (n : Int) < (400 : Nat) := by omega
          refine hG 40 [85] _ _ _ _ ?_
          refine And.intro i0 (And.intro (fun _ => And.intro (fun z => absurd z (by decide)) (fun _ => And.intro ia (And.intro (by unfold sn_R; omega) (And.intro ib (md_meet v1 (show σ1.1 57 0 n < (100 : Nat) by rw [x8]; have := ca.2.1; omega) (show 0 ≤ σ1.1 57 0 n → s.1 (σ1.1 57 0 n).toNat < 0 → _ by rw [x8]; exact fun _ hz => mW_q W1 ba.2.1 (eal_n ca).1 hz) _ (fun s1 σ2 g1 v2 f2 => And.intro (fun z => absurd z (by decide)) (fun _ => And.intro (by unfold sn_R; omega) (ih (n + 1) s1 σ2 (by omega) (by omega) ?_ v2 (sn_fr_t f1 (mk_q f2))))) (fun g1 => And.intro (fun _ => And.intro (by unfold sn_R; omega) (cs0 (fun z => ?_) d (n + 1) σ1 (by omega) (by omega) f1)) (fun z => absurd rfl z))))))) (fun c => ?_))
          · have g1 : me s (σ1.1 57 0 n) (σ1.1 57 0 ((100 : Int) + (n : Int)).toNat) = some s1 := g1
            rw [x8, y8] at g1
            show (mi a b n).bind (fun s => me s (a.1 8 n) (b.1 8 n)) = some s1
            rw [hs, Option.bind_some]
            exact g1
          · have g1 : me s (σ1.1 57 0 n) (σ1.1 57 0 ((100 : Int) + (n : Int)).toNat) = none := g1
            rw [x8, y8] at g1
            obtain ⟨φ, ψ, g⟩ := z.2.2.2.2
            obtain ⟨s', hs', -⟩ := gm_mk ha hb hc2 g
            have key : ∀ m, n + 1 ≤ m → mi a b m = none := by
              intro m hm
              induction m with
              | zero => omega
              | succ m ihm =>
                show (mi a b m).bind (fun s => me s (a.1 8 m) (b.1 8 m)) = none
                by_cases w : m = n
                · subst w
                  rw [hs, Option.bind_some]
                  exact g1
                · rw [ihm (by omega)]
                  rfl
            rw [key a.2.2.2 (by omega)] at hs'
            cases hs'
          · have c : σ1.1 48 0 0 ≤ (n : Int) := c
            omega
      -- nothing is mapped yet
      have clr : (∃ f, s_V a 0 f) → (∃ f, s_V b 0 f) → cn_ct (a.1 0) (-1) a.2.1 = cn_ct (b.1 0) (-1) b.2.1 → a.2.2.2 = b.2.2.2 → ∀ (d n : Nat) (σ1 : sn_M), 100 - n = d → n ≤ 100 → (∀ x, x < n → σ1.1 64 0 x = -1) → sn_fr in_q σ σ1 → G 55 [some (.inr (.inr (40, 0))), some (.inl (n : Int)), none] [] σ1 := by
        intro hva hvb hc1 hc2 d
        induction d with
        | zero =>
          intro n σ1 hd hn hz f1
          have en : n = 100 := by omega
          subst en
          refine hG 30 [85] _ _ _ _ ?_
          refine And.intro (fun c => ?_) (fun _ => And.intro z0 ?_)
          · have c : ((100 : Nat) : Int) < 100 := c
            omega
          · refine cs1 hva hvb hc1 hc2 a.2.2.2 0 (fun _ => -1, []) _ rfl (Nat.zero_le _) rfl ⟨fun x hx => ?_, fun j x h => by simp at h, ?_⟩ (sn_fr_u f1 (q63 _) 0)
            · show sn_u σ1.1 63 0 0 0 64 0 x = -1
              rw [sn_u_n (by omega)]
              exact hz x hx
            · show sn_u σ1.1 63 0 0 0 63 0 0 = 0
              exact sn_u_s
        | succ d ih =>
          intro n σ1 hd hn hz f1
          refine hG 30 [55] _ _ _ _ ?_
          refine And.intro (fun _ => And.intro (show (0 : Int) ≤ (n : Int) ∧ (n : Int) < (100 : Nat) by omega) (And.intro (by unfold sn_R; omega) (ih (n + 1) _ (by omega) (by omega) (fun x hx => ?_) (sn_fr_u f1 (q64 _) (-1))))) (fun c => ?_)
          · show sn_u σ1.1 64 0 n (-1) 64 0 x = -1
            rw [sn_u_at]
            by_cases w : x = n
            · rw [if_pos w]
            · rw [if_neg w]
              exact hz x (by omega)
          · have c : (100 : Int) ≤ (n : Int) := c
            omega
      have fc : sn_fr in_q σ (sn_u σ.1 40 0 0 0, σ.2) := sn_fr_u (sn_fr_rf _ σ) q_40 0
      refine hG 60 [55] _ _ _ _ ?_
      refine md_isNet (i := 0) (ms_q ma fc) (by omega) _ (fun f σ1 hV f1 => And.intro (fun z => absurd z (by decide)) (fun _ => ?_)) (fun v f σ1 hV hz f1 => And.intro (fun _ => And.intro (Or.inl rfl) (no (fun z => ?_) σ1 (sn_fr_t fc f1))) (fun z => absurd rfl z))
      case refine_2 =>
        obtain ⟨f', hV'⟩ := z.1
        exact hz (s_V_u hV hV').1
      have fc1 := sn_fr_t fc f1
      refine md_isNet (i := 1) (ms_q mb fc1) (by omega) _ (fun g σ2 hVb f2 => And.intro (fun z => absurd z (by decide)) (fun _ => ?_)) (fun v g σ2 hVb hz f2 => And.intro (fun _ => And.intro (Or.inl rfl) (no (fun z => ?_) σ2 (sn_fr_t fc1 f2))) (fun z => absurd rfl z))
      case refine_2 =>
        obtain ⟨f', hV'⟩ := z.2.1
        exact hz (s_V_u hVb hV').1
      have fc2 := sn_fr_t fc1 f2
      have ma2 := ms_q ma fc2
      have mb2 := ms_q mb fc2
      have ca := ms_ct ma2 (-1)
      have cb := ms_ct mb2 (-1)
      refine And.intro rfl (And.intro ⟨by omega, ms_ok ma2 (by omega)⟩ (And.intro rfl (And.intro ⟨by omega, ms_ok mb2 (by omega)⟩ (And.intro (fun c => And.intro i0 (And.intro i1 (And.intro (fun d => ?_) (fun d => And.intro (Or.inl rfl) (no (fun z => ?_) σ2 fc2))))) (fun c => And.intro (Or.inl rfl) (no (fun z => ?_) σ2 fc2))))))
      · have c : cn_ct (fun l => σ2.1 49 0 (60 * 0 + l)) (-1) (σ2.1 46 0 0).toNat = cn_ct (fun l => σ2.1 49 0 (60 * 1 + l)) (-1) (σ2.1 46 0 1).toNat := c
        have d : σ2.1 48 0 0 = σ2.1 48 0 1 := d
        rw [(ms_46 ma2).2.2, (ms_46 mb2).2.2] at d
        rw [ca, cb] at c
        exact clr ⟨f, hV⟩ ⟨g, hVb⟩ c (by omega) 100 0 σ2 rfl (Nat.zero_le _) (fun x hx => absurd hx (Nat.not_lt_zero x)) fc2
      · have d : ¬ σ2.1 48 0 0 = σ2.1 48 0 1 := d
        rw [(ms_46 ma2).2.2, (ms_46 mb2).2.2] at d
        exact d (by rw [z.2.2.2.1])
      · have c : ¬ cn_ct (fun l => σ2.1 49 0 (60 * 0 + l)) (-1) (σ2.1 46 0 0).toNat = cn_ct (fun l => σ2.1 49 0 (60 * 1 + l)) (-1) (σ2.1 46 0 1).toNat := c
        rw [ca, cb] at c
        exact c z.2.2.1
    · exact h.elim
theorem op_same {LS : fT → sn_M → Prop} (hF : in_F LS) : lw_O (in_I LS) 19 := by
  refine ⟨_, _, _, _, by decide, by decide, ct_SN_same, ct_MD_same, fun n σ xs i hI hn hR => ?_⟩
  obtain ⟨T, S0, S0', S1, S1', hv⟩ := hI
  obtain ⟨w1, w2⟩ := cl_w1 hv.2.1.1 hv.2.1.2.2.2
  have ha := hv.2.1.2.2.2
  have hb := hv.2.2.1.2.2.2
  have hT := hv.1.2.2.1
  -- then the reference
  have ref : ∀ (r : Int) (σ1 : sn_M), in_v LS T S0 S0' S1 S1' σ1 → ((r = 1 ∧ sam S0 S1) ∨ (r = 0 ∧ ¬ sam S0 S1)) → sp_MD_same [.inr (.inr (40, 0))] σ1 (fun r' σ2 => r' = some (.inl r) ∧ in_I LS (n + 1) σ2) := by
    intro r σ1 hv1 hr
    refine And.intro rfl ⟨T, S0, S0', S1, S1', in_sm hv1.2.1, in_sm hv1.2.2.1, hT, fun r' σ2 hr' f2 => ⟨?_, T, S0, S0', S1, S1', in_v_q hF hv1 f2⟩⟩
    rcases hr with ⟨rfl, h⟩ | ⟨rfl, h⟩ <;> rcases hr' with ⟨rfl, h'⟩ | ⟨rfl, h'⟩
    · rfl
    · exact absurd h h'
    · exact absurd h' h
    · rfl
  refine fun G => And.intro rfl (And.intro rfl (And.intro w1 (And.intro w2 (fun v f σ1 h1 h2 f1 => ?_))))
  have h1 := cl_w2 hv.2.1.1 h1
  have hv1 := in_v_q hF hv (sn_fr_w f1 (fun a b c q => sw_q q))
  refine And.intro (fun c => ?_) (fun c => And.intro (Or.inl rfl) ⟨_, rfl, fun _ => ref 0 σ1 hv1 (Or.inr ⟨rfl, fun z => ?_⟩)⟩)
  case refine_2 =>
    obtain ⟨f', hV⟩ := z.1
    exact c (s_V_u h1 hV).1
  have c : v = 0 := c
  subst c
  obtain ⟨w3, w4⟩ := cl_w1 hv1.2.2.1.1 hb
  refine And.intro rfl (And.intro rfl (And.intro w3 (And.intro w4 (fun v' f' σ2 h1' h2' f2 => ?_))))
  have h1' := cl_w2 hv1.2.2.1.1 h1'
  have hv2 := in_v_q hF hv1 (sn_fr_w f2 (fun a b c q => sw_q q))
  refine And.intro (fun c => ?_) (fun c => And.intro (Or.inl rfl) ⟨_, rfl, fun _ => ref 0 σ2 hv2 (Or.inr ⟨rfl, fun z => ?_⟩)⟩)
  case refine_2 =>
    obtain ⟨f', hV⟩ := z.2.1
    exact c (s_V_u h1' hV).1
  have c : v' = 0 := c
  subst c
  refine And.intro rfl (And.intro rfl (And.intro rfl ⟨T, S0, S1, hv2.2.1.1, hv2.2.2.1.1, ha, hb, hT, net_hc ha h1, net_conc hT ha h1, net_conc hT hb h1', fun r σ3 hr f3 => ?_⟩))
  have hv3 := in_v_q hF hv2 (lk_q f3)
  rcases hr with ⟨rfl, h⟩ | ⟨rfl, h⟩
  · exact And.intro (fun z => absurd z (by decide)) (fun _ => And.intro (Or.inr rfl) ⟨_, rfl, fun _ => ref 1 σ3 hv3 (Or.inl ⟨rfl, ⟨_, h1⟩, ⟨_, h1'⟩, h⟩)⟩)
  · exact And.intro (fun _ => And.intro (Or.inl rfl) ⟨_, rfl, fun _ => ref 0 σ3 hv3 (Or.inr ⟨rfl, fun z => h z.2.2⟩)⟩) (fun z => absurd rfl z)
