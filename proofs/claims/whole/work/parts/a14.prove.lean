/-! The reference: reading the net as a row of rules; the call rule. -/
def mp_g (σ σ' : sn_M) : Prop := ∀ a b c, ¬ a = 59 → σ'.1 a b c = σ.1 a b c
theorem mp_g_t {σ σ' σ'' : sn_M} (h : mp_g σ σ') (g : mp_g σ' σ'') : mp_g σ σ'' := fun a b c z => (g a b c z).trans (h a b c z)
def sp_MD_prove : sn_P := fun vs σ po => match vs with
  | [.inr (.inr q)] => q = (40, 0) ∧ ∃ (T : fT) (S : sT), mq S σ ∧ s_ok T S ∧ (∀ W, al_W S W → np S (ib W)) ∧ ∀ (W : Int64) (rows : List Nat) (n : Int) (σ' : sn_M), al_W S W → rr S rows [W] → rv (σ'.1 59 0) rows → mp_g σ σ' → po (some (.inl n)) σ'
  | _ => False
def ca_MD_prove : List (Nat × Nat × Nat × sn_P) := [(196, 2, 0, sp_MD_isIn), (205, 3, 8, sp_MD_joined), (209, 2, 8, sp_MD_firstOf)]
theorem co_MD_prove : ∀ x n ci s', sn_lk ca_MD_prove x = some (n, ci, s') → sn_CO "SwitchedNetsModel" sn_ws 3 x n ci s' := sn_co_of (List.forall_mem_cons.mpr ⟨sn_CO_S ct_MD_isIn (by decide) (by decide) (sn_gS ml_MD_196 mt_MD_isIn mz_MD mc_MD_isIn) ⟨nh_MD.1, nh_MD.2, pn_MD_isIn⟩, List.forall_mem_cons.mpr ⟨sn_CO_V ("SwitchedNetsModel", T_MD, 29) ct_MD_joined (by decide) (by decide) (sn_gV ml_MD_205 mi_MD_joined ms_MD_joined mz_MD mc_MD_joined) (by decide) rfl rfl ⟨nh_MD.1, nh_MD.2, pn_MD_joined⟩, List.forall_mem_cons.mpr ⟨sn_CO_V ("SwitchedNetsModel", T_MD, 29) ct_MD_firstOf (by decide) (by decide) (sn_gV ml_MD_209 mi_MD_firstOf ms_MD_firstOf mz_MD mc_MD_firstOf) (by decide) rfl rfl ⟨nh_MD.1, nh_MD.2, pn_MD_firstOf⟩, fun _ h => absurd h List.not_mem_nil⟩⟩⟩)
set_option maxHeartbeats 4000000 in
theorem ct_MD_prove : sn_CT y_MD_prove ws_MD_prove 3 sp_MD_prove := by
  refine sn_CT_of (pr := pr_MD_prove) (fi := (sn_lk ft_MD)) (lc := (sn_lk lc_MD)) (ca := sn_lk ca_MD_prove) pl_MD ?_ pk_MD_prove FI_MD LC_MD co_MD_prove ?_
  · intro vs σ post h
    unfold sp_MD_prove at h
    split at h
    · exact Nat.le_of_ble_eq_true rfl
    · exact h.elim
  · intro vs σ post h hvs hR
    unfold sp_MD_prove at h
    split at h
    · next q =>
      obtain ⟨rfl, T, S, hm, hok, hn, hpo⟩ := h
      intro G hG
      have b1 := hok.1.1
      have b2 := hok.1.2.1
      have c24 := hok.2.2.2.2.1
      have h3k := s_k3 hok
      have i0 : (0 : Int) ≤ 0 ∧ (0 : Int) < (4 : Nat) := by omega
      have j0 : (0 : Int) ≤ 0 ∧ (0 : Int) < (60 : Nat) := by omega
      have mqk : ∀ σ1, mp_g σ σ1 → mq S σ1 := fun σ1 f => mq_fr hm (fun a c h1 h2 => f a 0 c (by omega))
      -- the row of rules
      have outer : ∀ (W0 : Int64), al_W S W0 → ∀ (d : Nat) (st : List Int64) (r : List Nat) (σ1 : sn_M) (o3 o5 o6 : Option sn_V), wt S st = d → (∀ X ∈ st, np S (ib X)) → r.length + wt S st = (pA S (ib W0)).length → sv (σ1.2 60 0) st → rv (σ1.1 59 0) r → (∀ rows, rr S rows st → rr S (r ++ rows) [W0]) → mp_g σ σ1 → G 63 [some (.inr (.inr (40, 0))), some (.inl (r.length : Int)), some (.inl (st.length : Int)), o3, none, o5, o6, none] [] σ1 := by
        intro W0 hW d
        have n0 := al_n hW
        induction d with
        | zero =>
          intro st r σ1 o3 o5 o6 hd hst hr hs hv hrr hfr
          have := wt_le hst
          have e : st = [] := List.eq_nil_of_length_eq_zero (by omega)
          subst e
          refine hG 20 [63] _ _ _ _ ?_
          refine And.intro (fun _ => ?_) (fun c => ?_)
          · have := hrr [] rfl
            rw [List.append_nil] at this
            exact hpo W0 r _ σ1 hW this hv hfr
          · have c : (0 : Int) < ((([] : List Int64).length : Nat) : Int) := c
            rw [List.length_nil] at c
            omega
        | succ d ih =>
          intro st r σ1 o3 o5 o6 hd hst hr hs hv hrr hfr
          match st, hd, hst, hr, hs, hrr with
          | [], hd, _, _, _, _ => exact absurd hd (by rw [wt_n]; omega)
          | W :: t, hd, hst, hr, hs, hrr =>
          have hle := wt_le hst
          have hnp := hst W List.mem_cons_self
          have hnt : ∀ X ∈ t, np S (ib X) := fun X hX => hst X (List.mem_cons_of_mem _ hX)
          rw [List.length_cons] at hle
          rw [wt_c] at hle hr hd
          have eW : σ1.2 60 0 ((t.length : Int)).toNat = W := sv_top hs
          have st' := sv_pop hs
          have hm1 := mqk σ1 hfr
          have e46 : σ1.1 46 0 0 = (S.2.1 : Int) := hm1.2.2.1
          have turn : ∀ (l : Nat) (A : List Int64) (σ2 : sn_M) (o3 o5 o6 : Option sn_V) (x : Int), rst S W l A → sv (σ2.2 60 0) (A ++ t) → rv (σ2.1 59 0) (r ++ [l]) → mp_g σ σ2 → x = ((A ++ t).length : Int) → G 63 [some (.inr (.inr (40, 0))), some (.inl ((r.length : Int) + 1)), some (.inl x), o3, none, o5, o6, none] [] σ2 := by
            intro l A σ2 o3 o5 o6 x hA sv2 rv2 fr2 ex
            obtain ⟨m1, m2⟩ := rst_np h3k hnp hA
            have k := ih (A ++ t) (r ++ [l]) σ2 o3 o5 o6 (by rw [wt_a]; omega) (fun X hX => by
              rcases List.mem_append.mp hX with hX | hX
              · exact m1 X hX
              · exact hnt X hX) (by rw [wt_a, List.length_append, List.length_singleton]; omega) sv2 rv2 (fun rows hrows => by
                have := hrr (l :: rows) ⟨W, t, A, rfl, hA, hrows⟩
                rw [List.append_assoc]
                exact this) fr2
            rw [List.length_append, List.length_singleton] at k
            subst ex
            exact k
          have at127 : ∀ (l : Nat) (o6 : Option sn_V), lr S (ib W) l → G 127 [some (.inr (.inr (40, 0))), some (.inl (r.length : Int)), some (.inl (t.length : Int)), some (.inr (.inl W)), none, some (.inl (l : Int)), o6, none] [] σ1 := by
            intro l o6 hl
            have lw := hnp.1.1 l hl.1
            have l3 := h3k l lw.1
            have il : (0 : Int) ≤ (l : Int) ∧ (l : Int) < (240 : Nat) := by omega
            have ir : (0 : Int) ≤ (r.length : Int) ∧ (r.length : Int) < (60 : Nat) := by omega
            have fr3 : mp_g σ (sn_u σ1.1 59 0 (r.length : Int).toNat (l : Int), σ1.2) := fun a b c z => (sn_u_n (fun y => z y.1)).trans (hfr a b c z)
            have hm3 := mqk _ fr3
            have hv3 : rv ((sn_u σ1.1 59 0 (r.length : Int).toNat (l : Int)) 59 0) (r ++ [l]) := by
              refine rv_push hv (fun j hj => ?_) ?_
              · rw [sn_u_at, if_neg (show ¬ j = (r.length : Int).toNat by omega)]
              · rw [sn_u_at, if_pos (show r.length = (r.length : Int).toNat by omega)]
            have r0 : (sn_u σ1.1 59 0 (r.length : Int).toNat (l : Int)) 49 0 l = S.1 0 l := hm3.1 0 l (by omega) lw.1
            have r1 : (sn_u σ1.1 59 0 (r.length : Int).toNat (l : Int)) 50 0 l = S.1 1 l := hm3.1 1 l (by omega) lw.1
            have r2 : (sn_u σ1.1 59 0 (r.length : Int).toNat (l : Int)) 51 0 l = S.1 2 l := hm3.1 2 l (by omega) lw.1
            have eM := ib_rm (W := W) (show l < 64 by omega)
            refine hG 90 [63] _ _ _ _ ?_
            refine And.intro ir (And.intro (by unfold sn_R; omega) (And.intro il (And.intro (fun c => ?_) (fun c => ?_))))
            · have c : (sn_u σ1.1 59 0 (r.length : Int).toNat (l : Int)) 49 0 l = 2 := c
              rw [r0] at c
              refine And.intro (show (0 : Int) ≤ (t.length : Int) ∧ (t.length : Int) < (60 : Nat) by omega) (And.intro (by unfold sn_R; omega) ?_)
              refine turn l [W &&& (sn_shl 1 (l : Int) ^^^ (-1))] _ _ _ _ _ ⟨hl, Or.inr (Or.inl ⟨c, _, eM, rfl⟩)⟩ (sv_push (t := t) st' (fun j hj => ?_) ?_) hv3 fr3 (by rw [List.length_append, List.length_singleton]; omega)
              · show sn_u σ1.2 60 0 (t.length : Int).toNat _ 60 0 j = _
                rw [sn_u_at, if_neg (show ¬ j = (t.length : Int).toNat by omega)]
              · show sn_u σ1.2 60 0 (t.length : Int).toNat _ 60 0 t.length = _
                rw [sn_u_at, if_pos (show t.length = (t.length : Int).toNat by omega)]
                rfl
            · have c : ¬ (sn_u σ1.1 59 0 (r.length : Int).toNat (l : Int)) 49 0 l = 2 := c
              rw [r0] at c
              refine And.intro il (And.intro (fun z => ?_) (fun z => ?_))
              · have z : (sn_u σ1.1 59 0 (r.length : Int).toNat (l : Int)) 49 0 l = 0 := z
                rw [r0] at z
                exact turn l [] _ _ _ _ _ ⟨hl, Or.inl ⟨z, rfl⟩⟩ st' hv3 fr3 rfl
              · have z : ¬ (sn_u σ1.1 59 0 (r.length : Int).toNat (l : Int)) 49 0 l = 0 := z
                rw [r0] at z
                have k13 : S.1 0 l = 1 ∨ S.1 0 l = 3 := by have := lw.2; omega
                have sp : spl S (ib W) l := by
                  rcases hl.2 with ⟨l1, -⟩ | ⟨-, l2, -⟩ | ⟨-, -, l3⟩
                  · omega
                  · exact l2
                  · omega
                obtain ⟨a1, a2, -⟩ := (hok.2.1 l lw.1).2.2.1 (by omega)
                obtain ⟨n1, n2⟩ := low_ne sp.2.1 hl.1 (by omega) hnp.1
                obtain ⟨e1, e2⟩ := sl_e hok lw.1 (by omega)
                have ix1 : 0 ≤ (sn_u σ1.1 59 0 (r.length : Int).toNat (l : Int)) 50 0 l ∧ (sn_u σ1.1 59 0 (r.length : Int).toNat (l : Int)) 50 0 l < (400 : Nat) := by rw [r1]; have := a1.1; have := a1.2.1; omega
                have ix2 : 0 ≤ (sn_u σ1.1 59 0 (r.length : Int).toNat (l : Int)) 51 0 l ∧ (sn_u σ1.1 59 0 (r.length : Int).toNat (l : Int)) 51 0 l < (400 : Nat) := by rw [r2]; have := a2.1; have := a2.2.1; omega
                have x1 : (sn_u σ1.1 59 0 (r.length : Int).toNat (l : Int)) 54 0 ((sn_u σ1.1 59 0 (r.length : Int).toNat (l : Int)) 50 0 l).toNat = (sl S l : Int) := by rw [r1, ← e1]; exact hm3.2.1 5 _ (by omega) (by omega) (by have := a1.1; have := a1.2.1; omega)
                have x2 : (sn_u σ1.1 59 0 (r.length : Int).toNat (l : Int)) 54 0 ((sn_u σ1.1 59 0 (r.length : Int).toNat (l : Int)) 51 0 l).toNat = (sr S l : Int) := by rw [r2, ← e2]; exact hm3.2.1 5 _ (by omega) (by omega) (by have := a2.1; have := a2.2.1; omega)
                have it : (0 : Int) ≤ (t.length : Int) ∧ (t.length : Int) < (60 : Nat) := by omega
                have it2 : (0 : Int) ≤ (t.length : Int) + 1 ∧ (t.length : Int) + 1 < (60 : Nat) := by omega
                refine And.intro il (And.intro ix2 (And.intro rfl ⟨T, S, sr S l, hm3, hok, ?_, x2, ?_, fun B hB => And.intro it (And.intro (by unfold sn_R; omega) (And.intro il (And.intro ix1 (And.intro rfl ⟨T, S, sl S l, hm3, hok, ?_, x1, ?_, fun A hA => And.intro it2 (And.intro (by unfold sn_R; omega) ?_)⟩))))⟩))
                · show upc S (ib (W &&& (sn_shl 1 (l : Int) ^^^ (-1))))
                  rw [eM]
                  exact rm_up hnp.1 sp.2.1
                · show ib (W &&& (sn_shl 1 (l : Int) ^^^ (-1))) (sr S l) = true
                  rw [eM]
                  exact n2
                · show upc S (ib (W &&& (sn_shl 1 (l : Int) ^^^ (-1))))
                  rw [eM]
                  exact rm_up hnp.1 sp.2.1
                · show ib (W &&& (sn_shl 1 (l : Int) ^^^ (-1))) (sl S l) = true
                  rw [eM]
                  exact n1
                · have hA : ∀ v, ib A v = true ↔ (ib (W &&& (sn_shl 1 (l : Int) ^^^ (-1))) v = true ∧ cn (pG S (ib (W &&& (sn_shl 1 (l : Int) ^^^ (-1))))) (sl S l) v) := hA
                  have hB : ∀ v, ib B v = true ↔ (ib (W &&& (sn_shl 1 (l : Int) ^^^ (-1))) v = true ∧ cn (pG S (ib (W &&& (sn_shl 1 (l : Int) ^^^ (-1))))) (sr S l) v) := hB
                  rw [eM] at hA hB
                  have hB' := spl_R h3k hnp hl.1 sp hA hB
                  refine turn l [A, B] _ _ _ _ _ ⟨hl, Or.inr (Or.inr ⟨k13, A, B, hA, hB', rfl⟩)⟩ ?_ hv3 fr3 (by rw [List.length_append]; show (t.length : Int) + 2 = ((2 + t.length : Nat) : Int); omega)
                  have s5 : sv ((sn_u σ1.2 60 0 (t.length : Int).toNat B) 60 0) (B :: t) := by
                    refine sv_push st' (fun j hj => ?_) ?_
                    · rw [sn_u_at, if_neg (show ¬ j = (t.length : Int).toNat by omega)]
                    · rw [sn_u_at, if_pos (show t.length = (t.length : Int).toNat by omega)]
                  refine sv_push (t := (B :: t)) s5 (fun j hj => ?_) ?_
                  · rw [List.length_cons] at hj
                    show sn_u (sn_u σ1.2 60 0 (t.length : Int).toNat B) 60 0 ((t.length : Int) + 1).toNat A 60 0 j = _
                    rw [sn_u_at, if_neg (show ¬ j = ((t.length : Int) + 1).toNat by omega)]
                  · show sn_u (sn_u σ1.2 60 0 (t.length : Int).toNat B) 60 0 ((t.length : Int) + 1).toNat A 60 0 (t.length + 1) = _
                    rw [sn_u_at, if_pos (show (t.length + 1) = ((t.length : Int) + 1).toNat by omega)]
          -- a rule was found
          have at88 : ∀ (l k : Nat), lr S (ib W) l → G 88 [some (.inr (.inr (40, 0))), some (.inl (r.length : Int)), some (.inl (t.length : Int)), some (.inr (.inl W)), none, some (.inl (l : Int)), some (.inl (k : Int)), none] [] σ1 := by
            intro l k hl
            refine hG 20 [127] _ _ _ _ ?_
            refine And.intro i0 (And.intro (fun _ => And.intro (fun c => ?_) (fun _ => at127 l _ hl)) (fun _ => at127 l _ hl))
            have c : (l : Int) < 0 := c
            omega
          -- none was: the axiom
          have look : nlp S (ib W) S.2.1 → nsp S (ib W) S.2.1 → ∀ (d k : Nat), S.2.1 - k = d → (∀ j, j < k → ¬ ib W j = true) → G 88 [some (.inr (.inr (40, 0))), some (.inl (r.length : Int)), some (.inl (t.length : Int)), some (.inr (.inl W)), none, some (.inl (-1)), some (.inl (k : Int)), none] [] σ1 := by
            intro g1 g2 d
            obtain ⟨-, a, a1, a2, a3⟩ := lr_one h3k hnp g1 g2
            have a9 := (hnp.1.1 a a1).1
            induction d with
            | zero =>
              intro k hk hj
              exact absurd a1 (hj a (by omega))
            | succ d ihd =>
              intro k hk hj
              refine hG 30 [88] _ _ _ _ ?_
              refine And.intro i0 (And.intro (fun _ => And.intro (fun _ => ?_) (fun c => absurd c (by decide))) (fun c => ?_))
              · refine md_isIn (show (k : Int) < 64 by omega) _ (fun v hv w => And.intro (fun z => absurd z (by decide)) (fun _ => And.intro (by unfold sn_R; omega) ?_)) (fun w => And.intro (fun _ => And.intro (by unfold sn_R; omega) (ihd (k + 1) (by omega) (fun j hj' => ?_))) (fun z => absurd rfl z))
                · have ev : v = k := by omega
                  subst ev
                  exact at88 v (v + 1) ⟨w, Or.inr (Or.inr ⟨g1, g2, by rw [a3 v w]; exact a2⟩)⟩
                · by_cases z : j = k
                  · subst z
                    exact w j rfl
                  · exact hj j (by omega)
              · have c : σ1.1 46 0 0 ≤ (k : Int) := c
                omega
          have at78 : G 78 [some (.inr (.inr (40, 0))), some (.inl (r.length : Int)), some (.inl (t.length : Int)), some (.inr (.inl W)), none, o5, o6, none] [] σ1 := by
            refine hG 20 [88] _ _ _ _ ?_
            refine And.intro rfl ⟨T, S, hm1, hok, hnp, fun x hx => ?_⟩
            rcases hx with ⟨l, rfl, hl⟩ | ⟨rfl, g1, g2⟩
            · exact at88 l 0 hl
            · exact look g1 g2 S.2.1 0 rfl (fun j hj => absurd hj (Nat.not_lt_zero j))
          have e1 : ((t.length + 1 : Nat) : Int) - 1 = (t.length : Int) := by omega
          refine hG 20 [78] _ _ _ _ ?_
          refine And.intro (fun c => ?_) (fun _ => And.intro (by unfold sn_R; rw [List.length_cons]; omega) (And.intro ?_ ?_))
          · have c : (((W :: t).length : Nat) : Int) ≤ 0 := c
            rw [List.length_cons] at c
            omega
          · show 0 ≤ (((W :: t).length : Nat) : Int) - 1 ∧ (((W :: t).length : Nat) : Int) - 1 < (60 : Nat)
            rw [List.length_cons]
            omega
          · show G 78 [some (.inr (.inr (40, 0))), some (.inl (r.length : Int)), some (.inl (((t.length + 1 : Nat) : Int) - 1)), some (.inr (.inl (σ1.2 60 0 (((t.length + 1 : Nat) : Int) - 1).toNat))), none, o5, o6, none] [] σ1
            rw [e1, eW]
            exact at78
      -- all links
      have all : ∀ (d i : Nat) (W : Int64) (σ1 : sn_M), S.2.1 - i = d → i ≤ S.2.1 → σ1.1 = σ.1 → σ1.2 60 0 0 = W → al_B S i W → G 13 [some (.inr (.inr (40, 0))), some (.inl 0), some (.inl 1), some (.inl (i : Int)), none, none, none, none] [] σ1 := by
        intro d
        induction d with
        | zero =>
          intro i W σ1 hd hi e1 e2 hw
          have ei : i = S.2.1 := by omega
          subst ei
          have f1 : mp_g σ σ1 := fun a b c _ => by rw [e1]
          have e46 : σ1.1 46 0 0 = (S.2.1 : Int) := (mqk σ1 f1).2.2.1
          refine hG 30 [63] _ _ _ _ ?_
          refine And.intro i0 (And.intro (fun c => ?_) (fun _ => ?_))
          · have c : (S.2.1 : Int) < σ1.1 46 0 0 := c
            omega
          · refine outer W hw _ [W] [] σ1 _ _ _ rfl (fun X hX => by rw [List.mem_singleton.mp hX]; exact hn W hw) ?_ ?_ (fun j l h => by simp at h) (fun rows h => h) f1
            · rw [wt_c, wt_n, List.length_nil]
              omega
            · exact sv_push (t := []) (g := σ1.2 60 0) (fun j X h => by simp at h) (fun j hj => rfl) e2
        | succ d ih =>
          intro i W σ1 hd hi e1 e2 hw
          have f1 : mp_g σ σ1 := fun a b c _ => by rw [e1]
          have hm1 := mqk σ1 f1
          have e46 : σ1.1 46 0 0 = (S.2.1 : Int) := hm1.2.2.1
          have r0 : σ1.1 49 0 i = S.1 0 i := hm1.1 0 i (by omega) (by omega)
          have il : (0 : Int) ≤ (i : Int) ∧ (i : Int) < (240 : Nat) := by omega
          refine hG 40 [13] _ _ _ _ ?_
          refine And.intro i0 (And.intro (fun _ => And.intro il (And.intro (fun c => ?_) (fun c => ?_))) (fun c => ?_))
          · have c : σ1.1 49 0 i < 0 := c
            rw [r0] at c
            exact And.intro j0 (And.intro j0 (And.intro (by unfold sn_R; omega) (ih (i + 1) W _ (by omega) (by omega) e1 (by
              show sn_u σ1.2 60 0 (0 : Int).toNat (σ1.2 60 0 (0 : Int).toNat) 60 0 0 = W
              rw [sn_u_at, if_pos (show (0 : Nat) = (0 : Int).toNat from rfl)]
              exact e2) (al_k hw (by omega)))))
          · have c : 0 ≤ σ1.1 49 0 i := c
            rw [r0] at c
            exact And.intro j0 (And.intro j0 (And.intro (by unfold sn_R; omega) (ih (i + 1) _ _ (by omega) (by omega) e1 (by
              show sn_u σ1.2 60 0 (0 : Int).toNat (σ1.2 60 0 (0 : Int).toNat ||| sn_shl 1 (i : Int)) 60 0 0 = _
              rw [sn_u_at, if_pos (show (0 : Nat) = (0 : Int).toNat from rfl), show σ1.2 60 0 (0 : Int).toNat = W from e2]) (al_s hw (by omega) c))))
          · have c : σ1.1 46 0 0 ≤ (i : Int) := c
            omega
      refine hG 30 [13] _ _ _ _ ?_
      refine And.intro j0 ?_
      refine all S.2.1 0 0 _ rfl (Nat.zero_le _) rfl ?_ (al_0 S)
      show sn_u σ.2 60 0 (0 : Int).toNat 0 60 0 0 = 0
      rw [sn_u_at, if_pos (show (0 : Nat) = (0 : Int).toNat from rfl)]
    · exact h.elim
def ca_MD_rule : List (Nat × Nat × Nat × sn_P) := [(119, 3, 8, sp_MD_count), (184, 2, 8, sp_MD_isNet), (213, 1, 8, sp_MD_prove)]
theorem co_MD_rule : ∀ x n ci s', sn_lk ca_MD_rule x = some (n, ci, s') → sn_CO "SwitchedNetsModel" sn_ws 5 x n ci s' := sn_co_of (List.forall_mem_cons.mpr ⟨sn_CO_V ("SwitchedNetsModel", T_MD, 29) ct_MD_count (by decide) (by decide) (sn_gV ml_MD_119 mi_MD_count ms_MD_count mz_MD mc_MD_count) (by decide) rfl rfl ⟨nh_MD.1, nh_MD.2, pn_MD_count⟩, List.forall_mem_cons.mpr ⟨sn_CO_V ("SwitchedNetsModel", T_MD, 29) ct_MD_isNet (by decide) (by decide) (sn_gV ml_MD_184 mi_MD_isNet ms_MD_isNet mz_MD mc_MD_isNet) (by decide) rfl rfl ⟨nh_MD.1, nh_MD.2, pn_MD_isNet⟩, List.forall_mem_cons.mpr ⟨sn_CO_V ("SwitchedNetsModel", T_MD, 29) ct_MD_prove (by decide) (by decide) (sn_gV ml_MD_213 mi_MD_prove ms_MD_prove mz_MD mc_MD_prove) (by decide) rfl rfl ⟨nh_MD.1, nh_MD.2, pn_MD_prove⟩, fun _ h => absurd h List.not_mem_nil⟩⟩⟩)
def sp_MD_rule : sn_P := sn_wp pr_MD_rule (sn_lk ft_MD) (sn_lk lc_MD) (sn_lk ca_MD_rule) 2 26
theorem ct_MD_rule : sn_CT y_MD_rule ws_MD_rule 5 sp_MD_rule := sn_CT_wp 26 pl_MD pk_MD_rule FI_MD LC_MD co_MD_rule
theorem md_isNet {T : fT} {S S' : sT} {i : Nat} {σ : sn_M} (h : my_s T S S' i σ) (hi : i < 4) (po : Option sn_V → sn_M → Prop) (h1 : ∀ (f : Int) (σ' : sn_M), s_V S 0 f → sn_fr in_q σ σ' → po (some (.inl 1)) σ') (h0 : ∀ (v f : Int) (σ' : sn_M), s_V S v f → ¬ v = 0 → sn_fr in_q σ σ' → po (some (.inl 0)) σ') : sp_MD_isNet [.inr (.inr (40, 0)), .inl (i : Int)] σ po := by
  obtain ⟨j1, j2⟩ := md_judge h hi
  refine fun G => And.intro rfl (And.intro ⟨by omega, j1⟩ (fun v f ro hv => And.intro (fun z => ?_) (fun z => ?_)))
  · have z : v = 0 := z
    subst z
    exact And.intro (Or.inr rfl) (h1 f _ (j2 hv) (jd_q σ 0 f ro))
  · have z : ¬ v = 0 := z
    exact And.intro (Or.inl rfl) (h0 v f _ (j2 hv) z (jd_q σ v f ro))
theorem in_v_1 {LS : fT → sn_M → Prop} (hF : in_F LS) {T : fT} {S0 S0' S1 S1' : sT} {σ σ' : sn_M} (h : in_v LS T S0 S0' S1 S1' σ) (f : ∀ a b c, ¬ in_q a b c → σ'.1 a b c = σ.1 a b c) : in_v LS T S0 S0' S1 S1' σ' := by
  have g : in_v LS T S0 S0' S1 S1' (σ'.1, σ.2) := in_v_q hF h ⟨rfl, f⟩
  exact ⟨g.1, g.2.1, g.2.2.1, hF.1 T _ σ' g.2.2.2 (fun _ _ _ _ _ => rfl)⟩
theorem pg_q {σ σ' : sn_M} (f : pr_g σ σ') : ∀ a b c, ¬ in_q a b c → σ'.1 a b c = σ.1 a b c := fun a b c hn => f a b c (fun z => hn ⟨by omega, by omega, by omega, by omega, by omega, by omega⟩)
theorem mg_q {σ σ' : sn_M} (f : mp_g σ σ') : ∀ a b c, ¬ in_q a b c → σ'.1 a b c = σ.1 a b c := fun a b c hn => f a b c (fun z => hn ⟨by omega, by omega, by omega, by omega, by omega, by omega⟩)
theorem op_rule {LS : fT → sn_M → Prop} (hF : in_F LS) : lw_O (in_I LS) 20 := by
  refine ⟨_, _, _, _, by decide, by decide, ct_SN_rule, ct_MD_rule, fun n σ xs i hI hn hR => ?_⟩
  obtain ⟨T, S0, S0', S1, S1', hv⟩ := hI
  obtain ⟨w1, w2⟩ := cl_w1 hv.2.1.1 hv.2.1.2.2.2
  have hok := hv.2.1.2.2.2
  have c24 := hok.2.2.2.2.1
  have e11 : σ.1 9 0 11 = cn_ct (S0.1 0) (-1) S0.2.1 := sx_9 hv.2.1.1 (by omega)
  generalize hx : (xs (i + 1 + 0)).toInt = p
  have has : lw_as xs i 1 = [.inl p] := by rw [← hx]; rfl
  rw [has]
  have i0 : (0 : Int) ≤ 0 ∧ (0 : Int) < (4 : Nat) := by omega
  -- the reference says no
  have noM : ∀ σ1, in_v LS T S0 S0' S1 S1' σ1 → (p < 0 ∨ cn_ct (S0.1 0) (-1) S0.2.1 ≤ p ∨ ∀ f, ¬ s_V S0 0 f) → sp_MD_rule [.inr (.inr (40, 0)), .inl p] σ1 (fun r σ2 => r = some (.inl (-1)) ∧ in_I LS (n + 1) σ2) := by
    intro σ1 hv1 hc
    have hc1 := in_c hF hv1 0
    refine fun G => And.intro (fun _ => ⟨rfl, T, S0, S0', S1, S1', hc1⟩) (fun z => ?_)
    have z : 0 ≤ p := z
    refine And.intro rfl (And.intro ⟨by omega, in_ok hc1.2.1 (by omega)⟩ ?_)
    have ec := in_ct hc1.2.1 (-1)
    refine And.intro (fun y => ?_) (fun _ => ⟨rfl, T, S0, S0', S1, S1', hc1⟩)
    refine md_isNet (in_sm hc1.2.1) (by omega) _ (fun f σ2 hV f2 => ?_) (fun v f σ2 hV hz f2 => And.intro (fun _ => ⟨rfl, T, S0, S0', S1, S1', in_v_q hF hc1 f2⟩) (fun w => absurd rfl w))
    have y : p < cn_ct (fun l => (sn_u σ1.1 40 0 0 0) 49 0 (60 * 0 + l)) (-1) ((sn_u σ1.1 40 0 0 0) 46 0 0).toNat := y
    have ec : cn_ct (fun l => (sn_u σ1.1 40 0 0 0) 49 0 (60 * 0 + l)) (-1) ((sn_u σ1.1 40 0 0 0) 46 0 0).toNat = cn_ct (S0.1 0) (-1) S0.2.1 := ec
    rcases hc with h | h | h
    · omega
    · omega
    · exact absurd hV (h f)
  refine fun G => And.intro (fun z => ⟨_, rfl, fun _ => noM σ hv (Or.inl z)⟩) (fun z => ?_)
  have z : 0 ≤ p := z
  refine And.intro (fun y => ?_) (fun y => ⟨_, rfl, fun _ => noM σ hv (Or.inr (Or.inl ?_))⟩)
  case refine_2 =>
    have y : σ.1 9 0 11 ≤ p := y
    rw [e11] at y
    exact y
  have y : p < σ.1 9 0 11 := y
  rw [e11] at y
  refine And.intro rfl (And.intro rfl (And.intro w1 (And.intro w2 (fun v f σ1 h1 h2 f1 => ?_))))
  have h1 := cl_w2 hv.2.1.1 h1
  have hv1 := in_v_q hF hv (sn_fr_w f1 (fun a b c q => sw_q q))
  refine And.intro (fun c => ?_) (fun c => ⟨_, rfl, fun _ => noM σ1 hv1 (Or.inr (Or.inr (fun f' hV => ?_)))⟩)
  case refine_2 =>
    have c : ¬ v = 0 := c
    exact c (s_V_u h1 hV).1
  have c : v = 0 := c
  subst c
  have hnp : ∀ W, al_W S0 W → np S0 (ib W) := fun W hW => by rw [al_f hW]; exact net_np hok h1
  refine And.intro rfl (And.intro rfl ⟨T, S0, hv1.2.1.1, hok, hnp, fun W rows σ2 hW hr hrv f2 => And.intro (show 0 ≤ p ∧ p < (24 : Nat) by omega) ⟨_, rfl, fun _ => fun G2 => ?_⟩⟩)
  have f2 : pr_g σ1 σ2 := f2
  have hv2 := in_v_1 hF hv1 (pg_q f2)
  have hc2 := in_c hF hv2 0
  have ec : cn_ct (fun l => (sn_u σ2.1 40 0 0 0) 49 0 (60 * 0 + l)) (-1) ((sn_u σ2.1 40 0 0 0) 46 0 0).toNat = cn_ct (S0.1 0) (-1) S0.2.1 := in_ct hc2.2.1 (-1)
  refine And.intro (fun w => absurd z (by have w : p < 0 := w; omega)) (fun _ => And.intro rfl (And.intro ⟨by omega, in_ok hc2.2.1 (by omega)⟩ ?_))
  refine And.intro (fun w => ?_) (fun w => ?_)
  case refine_2 =>
    have w : cn_ct (fun l => (sn_u σ2.1 40 0 0 0) 49 0 (60 * 0 + l)) (-1) ((sn_u σ2.1 40 0 0 0) 46 0 0).toNat ≤ p := w
    omega
  refine md_isNet (in_sm hc2.2.1) (by omega) _ (fun f' σ3 hV f3 => And.intro (fun w => absurd w (by decide)) (fun _ => ?_)) (fun v' f' σ3 hV hz f3 => absurd (s_V_u hV h1).1 hz)
  have hv3 := in_v_q hF hc2 f3
  refine And.intro rfl ⟨T, S0, mq_of (in_sm hv3.2.1), hok, hnp, fun W' rows' m σ4 hW' hr' hrv' f4 => And.intro (show 0 ≤ p ∧ p < (60 : Nat) by omega) ⟨?_, T, S0, S0', S1, S1', in_v_1 hF hv3 (mg_q f4)⟩⟩
  obtain rfl := al_u hW hW'
  have hst : ∀ X ∈ [W], np S0 (ib X) := fun X hX => by rw [List.mem_singleton.mp hX]; exact hnp W hW
  obtain rfl := rr_u (s_k3 hok) hst hr hr'
  have len := rr_len (s_k3 hok) hst hr
  rw [wt_c, wt_n] at len
  have nW := al_n hW
  obtain ⟨k, rfl⟩ := Int.eq_ofNat_of_zero_le z
  have lt : k < rows.length := by omega
  have g := List.getElem?_eq_getElem lt
  show some (Sum.inl (σ4.1 59 0 k)) = some (Sum.inl (σ2.1 26 0 k))
  rw [hrv k _ g, hrv' k _ g]
