/-! The class: all links; reading the net as a row of rules. -/
def al_W (S : sT) (W : Int64) : Prop := ∀ v, ib W v = true ↔ (v < S.2.1 ∧ 0 ≤ S.1 0 v)
theorem al_u {S : sT} {W W' : Int64} (h : al_W S W) (g : al_W S W') : W = W' := ib_eq (fun v => (h v).trans (g v).symm)
theorem al_f {S : sT} {W : Int64} (h : al_W S W) : ib W = (fun l => decide (l < S.2.1 ∧ 0 ≤ S.1 0 l)) := bx (fun v => by rw [h v, decide_eq_true_eq])
theorem al_n {S : sT} {W : Int64} (h : al_W S W) : ((pA S (ib W)).length : Int) = cn_ct (S.1 0) (-1) S.2.1 := by
  have e : pA S (ib W) = sA S := List.filter_eq_self.mpr (fun l hl => (h l).mpr (sA_in.mp hl))
  rw [e, sA_len]
/-- one more link looked at -/
def al_B (S : sT) (n : Nat) (W : Int64) : Prop := ∀ v, ib W v = true ↔ (v < n ∧ 0 ≤ S.1 0 v)
theorem al_s {S : sT} {n : Nat} {W : Int64} (h : al_B S n W) (hn : n < 64) (hk : 0 ≤ S.1 0 n) : al_B S (n + 1) (W ||| sn_shl 1 (n : Int)) := by
  intro v
  rw [ib_or, Bool.or_eq_true, h v]
  by_cases hv : v < 64
  · rw [ib_bit hn hv, decide_eq_true_eq]
    constructor
    · rintro (z | rfl)
      · exact ⟨by omega, z.2⟩
      · exact ⟨by omega, hk⟩
    · rintro ⟨z1, z2⟩
      by_cases y : v = n
      · exact Or.inr y
      · exact Or.inl ⟨by omega, z2⟩
  · exact ⟨fun z => by
      rcases z with z | z
      · exact ⟨by omega, z.2⟩
      · exact absurd (ib_64 z) hv, fun z => by omega⟩
theorem al_k {S : sT} {n : Nat} {W : Int64} (h : al_B S n W) (hk : ¬ 0 ≤ S.1 0 n) : al_B S (n + 1) W := by
  intro v
  rw [h v]
  constructor
  · rintro ⟨z1, z2⟩
    exact ⟨by omega, z2⟩
  · rintro ⟨z1, z2⟩
    by_cases y : v = n
    · subst y
      exact absurd z2 hk
    · exact ⟨by omega, z2⟩
theorem al_0 (S : sT) : al_B S 0 0 := fun v => by
  rw [ib_0]
  exact ⟨fun z => (by cases z), fun z => absurd z.1 (Nat.not_lt_zero v)⟩
def sp_PR_allLinks : sn_P := fun vs σ po => match vs with
  | [.inr (.inr t)] => t.1 = 9 ∧ ∃ (T : fT) (S : sT), sx_v (s_X S) t.2 σ ∧ s_ok T S ∧ ∀ (W : Int64), al_W S W → po (some (.inr (.inl W))) σ
  | _ => False
def ca_PR_allLinks : List (Nat × Nat × Nat × sn_P) := [(43, 1, 0, sp_PR_bit)]
theorem co_PR_allLinks : ∀ x n ci s', sn_lk ca_PR_allLinks x = some (n, ci, s') → sn_CO "SwitchedNets$Proof" sn_ws 1 x n ci s' := sn_co_of (List.forall_mem_cons.mpr ⟨sn_CO_S ct_PR_bit (by decide) (by decide) (sn_gS ml_PR_43 mt_PR_bit mz_PR mc_PR_bit) ⟨nh_PR.1, nh_PR.2, pn_PR_bit⟩, fun _ h => absurd h List.not_mem_nil⟩)
theorem ct_PR_allLinks : sn_CT y_PR_allLinks ws_PR_allLinks 1 sp_PR_allLinks := by
  refine sn_CT_of (pr := pr_PR_allLinks) (fi := (sn_lk ft_PR)) (lc := (sn_lk lc_PR)) (ca := sn_lk ca_PR_allLinks) pl_PR ?_ pk_PR_allLinks FI_PR LC_PR co_PR_allLinks ?_
  · intro vs σ post h
    unfold sp_PR_allLinks at h
    split at h
    · exact Nat.le_of_ble_eq_true rfl
    · exact h.elim
  · intro vs σ post h hvs hR
    unfold sp_PR_allLinks at h
    split at h
    · next t =>
      obtain ⟨a, b⟩ := t
      obtain ⟨ha, T, S, hx, hok, hpo⟩ := h
      have ha : a = 9 := ha
      subst ha
      intro G hG
      have hx : sx_v (s_X S) b σ := hx
      have b1 := hok.1.1
      have e9 : σ.1 9 b 9 = (S.2.1 : Int) := sx_9 hx (by omega)
      have r0 : σ.1 10 b = S.1 0 := hx.1 0 (by omega)
      have loop : ∀ (d i : Nat) (W : Int64), S.2.1 - i = d → i ≤ S.2.1 → al_B S i W → G 4 [some (.inr (.inr (9, b))), some (.inr (.inl W)), none, some (.inl (i : Int))] [] σ := by
        intro d
        induction d with
        | zero =>
          intro i W hd hi hw
          have ei : i = S.2.1 := by omega
          subst ei
          refine hG 30 [4] _ _ _ _ ?_
          refine And.intro (fun c => ?_) (fun _ => hpo W hw)
          have c : (S.2.1 : Int) < σ.1 9 b 9 := c
          omega
        | succ d ih =>
          intro i W hd hi hw
          have il : (0 : Int) ≤ (i : Int) ∧ (i : Int) < (60 : Nat) := by omega
          have k9 := (hok.2.1 i (by omega)).1.1
          refine hG 30 [4] _ _ _ _ ?_
          refine And.intro (fun _ => And.intro il (And.intro (fun c => ?_) (fun c => ?_))) (fun c => ?_)
          · have c : σ.1 10 b i = -1 := c
            rw [r0] at c
            exact And.intro (by unfold sn_R; omega) (ih (i + 1) W (by omega) (by omega) (al_k hw (by omega)))
          · have c : ¬ σ.1 10 b i = -1 := c
            rw [r0] at c
            exact fun G2 => And.intro (by unfold sn_R; omega) (ih (i + 1) _ (by omega) (by omega) (al_s hw (by omega) (by omega)))
          · have c : σ.1 9 b 9 ≤ (i : Int) := c
            omega
      refine hG 20 [4] _ _ _ _ ?_
      exact loop S.2.1 0 0 rfl (Nat.zero_le _) (al_0 S)
    · exact h.elim
def pr_g (σ σ' : sn_M) : Prop := ∀ a b c, ¬ (25 ≤ a ∧ a ≤ 28) → σ'.1 a b c = σ.1 a b c
theorem pr_g_t {σ σ' σ'' : sn_M} (h : pr_g σ σ') (g : pr_g σ' σ'') : pr_g σ σ'' := fun a b c z => (g a b c z).trans (h a b c z)
theorem pr_fg {σ σ' : sn_M} (h : pr_f σ σ') : pr_g σ σ' := fun a b c z => h.1 a b c (by omega) (by omega)
def sp_PR_read : sn_P := fun vs σ po => match vs with
  | [.inr (.inr q), .inr (.inr t)] => q = (25, 0) ∧ t.1 = 9 ∧ ∃ (T : fT) (S : sT), sx_v (s_X S) t.2 σ ∧ s_ok T S ∧ (∀ W, al_W S W → np S (ib W)) ∧ ∀ (W : Int64) (rows : List Nat) (σ' : sn_M), al_W S W → rr S rows [W] → rv (σ'.1 26 0) rows → pr_g σ σ' → po none σ'
  | _ => False
def ca_PR_read : List (Nat × Nat × Nat × sn_P) := [(30, 1, 0, sp_PR_allLinks), (39, 3, 4, sp_PR_lastRule), (43, 1, 0, sp_PR_bit), (58, 4, 4, sp_PR_reach)]
theorem co_PR_read : ∀ x n ci s', sn_lk ca_PR_read x = some (n, ci, s') → sn_CO "SwitchedNets$Proof" sn_ws 5 x n ci s' := sn_co_of (List.forall_mem_cons.mpr ⟨sn_CO_S ct_PR_allLinks (by decide) (by decide) (sn_gS ml_PR_30 mt_PR_allLinks mz_PR mc_PR_allLinks) ⟨nh_PR.1, nh_PR.2, pn_PR_allLinks⟩, List.forall_mem_cons.mpr ⟨sn_CO_V ("SwitchedNets$Proof", T_PR, 5) ct_PR_lastRule (by decide) (by decide) (sn_gV ml_PR_39 mi_PR_lastRule ms_PR_lastRule mz_PR mc_PR_lastRule) (by decide) rfl rfl ⟨nh_PR.1, nh_PR.2, pn_PR_lastRule⟩, List.forall_mem_cons.mpr ⟨sn_CO_S ct_PR_bit (by decide) (by decide) (sn_gS ml_PR_43 mt_PR_bit mz_PR mc_PR_bit) ⟨nh_PR.1, nh_PR.2, pn_PR_bit⟩, List.forall_mem_cons.mpr ⟨sn_CO_V ("SwitchedNets$Proof", T_PR, 5) ct_PR_reach (by decide) (by decide) (sn_gV ml_PR_58 mi_PR_reach ms_PR_reach mz_PR mc_PR_reach) (by decide) rfl rfl ⟨nh_PR.1, nh_PR.2, pn_PR_reach⟩, fun _ h => absurd h List.not_mem_nil⟩⟩⟩⟩)
set_option maxHeartbeats 4000000 in
theorem ct_PR_read : sn_CT y_PR_read ws_PR_read 5 sp_PR_read := by
  refine sn_CT_of (pr := pr_PR_read) (fi := (sn_lk ft_PR)) (lc := (sn_lk lc_PR)) (ca := sn_lk ca_PR_read) pl_PR ?_ pk_PR_read FI_PR LC_PR co_PR_read ?_
  · intro vs σ post h
    unfold sp_PR_read at h
    split at h
    · exact Nat.le_of_ble_eq_true rfl
    · exact h.elim
  · intro vs σ post h hvs hR
    unfold sp_PR_read at h
    split at h
    · next q t =>
      obtain ⟨a, b⟩ := t
      obtain ⟨rfl, ha, T, S, hx, hok, hn, hpo⟩ := h
      have ha : a = 9 := ha
      subst ha
      intro G hG
      have hx : sx_v (s_X S) b σ := hx
      have b1 := hok.1.1
      have b2 := hok.1.2.1
      have c24 := hok.2.2.2.2.1
      have h3k := s_k3 hok
      have sxk : ∀ σ1, pr_g σ σ1 → sx_v (s_X S) b σ1 := fun σ1 fr => ⟨fun a ha => by rw [← hx.1 a ha]; funext c; exact fr _ _ _ (by omega), fun j h1 h2 => by rw [← hx.2 j h1 h2]; exact fr _ _ _ (by omega)⟩
      refine hG 30 [14] _ _ _ _ ?_
      refine And.intro rfl ⟨T, S, hx, hok, fun W0 hW => And.intro (show (0 : Int) ≤ 0 ∧ (0 : Int) < (25 : Nat) by omega) ?_⟩
      have n0 := al_n hW
      have np0 := hn W0 hW
      have loop : ∀ (d : Nat) (st : List Int64) (r : List Nat) (σ1 : sn_M) (o4 o6 o7 o9 : Option sn_V), wt S st = d → (∀ X ∈ st, np S (ib X)) → r.length + wt S st = (pA S (ib W0)).length → sv (σ1.2 27 0) st → rv (σ1.1 26 0) r → (∀ rows, rr S rows st → rr S (r ++ rows) [W0]) → pr_g σ σ1 → G 14 [some (.inr (.inr (25, 0))), some (.inr (.inr (9, b))), some (.inl (st.length : Int)), some (.inl (r.length : Int)), o4, none, o6, o7, none, o9, none] [] σ1 := by
        intro d
        induction d with
        | zero =>
          intro st r σ1 o4 o6 o7 o9 hd hst hr hs hv hrr hfr
          have := wt_le hst
          have e : st = [] := List.eq_nil_of_length_eq_zero (by omega)
          subst e
          have e11 : σ1.1 9 b 11 = cn_ct (S.1 0) (-1) S.2.1 := sx_9 (sxk σ1 hfr) (by omega)
          refine hG 30 [14] _ _ _ _ ?_
          refine And.intro (fun c => ?_) (fun _ => ?_)
          · have c : (r.length : Int) < σ1.1 9 b 11 := c
            omega
          · have := hrr [] rfl
            rw [List.append_nil] at this
            exact hpo W0 r σ1 hW this hv hfr
        | succ d ih =>
          intro st r σ1 o4 o6 o7 o9 hd hst hr hs hv hrr hfr
          match st, hd, hst, hr, hs, hrr with
          | [], hd, _, _, _, _ => exact absurd hd (by rw [wt_n]; omega)
          | W :: t, hd, hst, hr, hs, hrr =>
          have e11 : σ1.1 9 b 11 = cn_ct (S.1 0) (-1) S.2.1 := sx_9 (sxk σ1 hfr) (by omega)
          have hle := wt_le hst
          have hnp := hst W List.mem_cons_self
          have hnt : ∀ X ∈ t, np S (ib X) := fun X hX => hst X (List.mem_cons_of_mem _ hX)
          rw [List.length_cons] at hle
          have eW : σ1.2 27 0 ((t.length : Int)).toNat = W := sv_top hs
          have st' := sv_pop hs
          -- the end of a turn
          have turn : ∀ (l : Nat) (A : List Int64) (σ2 : sn_M) (o4 o6 o7 o9 : Option sn_V) (x : Int), rst S W l A → sv (σ2.2 27 0) (A ++ t) → rv (σ2.1 26 0) (r ++ [l]) → pr_g σ σ2 → x = ((A ++ t).length : Int) → sn_R ((r.length : Int) + 1) ∧ G 14 [some (.inr (.inr (25, 0))), some (.inr (.inr (9, b))), some (.inl x), some (.inl ((r.length : Int) + 1)), o4, none, o6, o7, none, o9, none] [] σ2 := by
            intro l A σ2 o4 o6 o7 o9 x hA sv2 rv2 fr2 ex
            obtain ⟨m1, m2⟩ := rst_np h3k hnp hA
            rw [wt_c] at hd hr
            have k := ih (A ++ t) (r ++ [l]) σ2 o4 o6 o7 o9 (by rw [wt_a]; omega) (fun X hX => by
              rcases List.mem_append.mp hX with hX | hX
              · exact m1 X hX
              · exact hnt X hX) (by rw [wt_a, List.length_append, List.length_singleton]; omega) sv2 rv2 (fun rows hrows => by
                rw [List.append_assoc]
                exact hrr _ ⟨W, t, A, rfl, hA, hrows⟩) fr2
            have ek : (((r ++ [l]).length : Nat) : Int) = (r.length : Int) + 1 := by rw [List.length_append, List.length_singleton]; omega
            rw [ek] at k
            subst ex
            exact And.intro (by unfold sn_R; omega) k
          have at37 : G 37 [some (.inr (.inr (25, 0))), some (.inr (.inr (9, b))), some (.inl (t.length : Int)), some (.inl (r.length : Int)), some (.inr (.inl W)), none, o6, o7, none, o9, none] [] σ1 := by
            refine hG 90 [14] _ _ _ _ ?_
            refine And.intro rfl (And.intro rfl ⟨T, S, sxk σ1 hfr, hok, hnp, fun l σ2 hl f2 => ?_⟩)
            have lw := hnp.1.1 l hl.1
            have l3 := h3k l lw.1
            have il : (0 : Int) ≤ (l : Int) ∧ (l : Int) < (60 : Nat) := by omega
            have ir : (0 : Int) ≤ (r.length : Int) ∧ (r.length : Int) < (24 : Nat) := by rw [wt_c] at hr hd; omega
            have fr2 : pr_g σ σ2 := pr_g_t hfr (pr_fg f2)
            have fr3 : pr_g σ (sn_u σ2.1 26 0 (r.length : Int).toNat (l : Int), σ2.2) := fun a b c z => (sn_u_n (fun y => z (by omega))).trans (fr2 a b c z)
            have hx3 := sxk _ fr3
            have hv3 : rv ((sn_u σ2.1 26 0 (r.length : Int).toNat (l : Int)) 26 0) (r ++ [l]) := by
              refine rv_push hv (fun j hj => ?_) ?_
              · rw [sn_u_at, if_neg (show ¬ j = (r.length : Int).toNat by omega)]
                exact f2.1 26 0 j (by omega) (by omega)
              · rw [sn_u_at, if_pos (show r.length = (r.length : Int).toNat by omega)]
            have hs3 : sv (σ2.2 27 0) t := by
              intro j X hj
              rw [f2.2 27 0 j (by omega)]
              exact st' j X hj
            have r0 : (sn_u σ2.1 26 0 (r.length : Int).toNat (l : Int)) 10 b = S.1 0 := hx3.1 0 (by omega)
            have r1 : (sn_u σ2.1 26 0 (r.length : Int).toNat (l : Int)) 11 b = S.1 1 := hx3.1 1 (by omega)
            have r5 : (sn_u σ2.1 26 0 (r.length : Int).toNat (l : Int)) 15 b = S.1 5 := hx3.1 5 (by omega)
            have eM := ib_rm (W := W) (show l < 64 by omega)
            refine And.intro ir (fun G2 => And.intro il (And.intro (fun c => ?_) (fun c => ?_)))
            · have c : (sn_u σ2.1 26 0 (r.length : Int).toNat (l : Int)) 10 b l = 2 := c
              rw [r0] at c
              refine And.intro (show (0 : Int) ≤ (t.length : Int) ∧ (t.length : Int) < (25 : Nat) by rw [wt_c] at hr hd hle; omega) (And.intro (by unfold sn_R; rw [wt_c] at hr hd hle; omega) ?_)
              refine turn l [W &&& (sn_shl 1 (l : Int) ^^^ (-1))] _ _ _ _ _ _ ⟨hl, Or.inr (Or.inl ⟨c, _, eM, rfl⟩)⟩ (sv_push (t := t) hs3 (fun j hj => ?_) ?_) hv3 fr3 (by rw [List.length_append, List.length_singleton]; omega)
              · show sn_u σ2.2 27 0 (t.length : Int).toNat _ 27 0 j = _
                rw [sn_u_at, if_neg (show ¬ j = (t.length : Int).toNat by omega)]
              · show sn_u σ2.2 27 0 (t.length : Int).toNat _ 27 0 t.length = _
                rw [sn_u_at, if_pos (show t.length = (t.length : Int).toNat by omega)]
                rfl
            · have c : ¬ (sn_u σ2.1 26 0 (r.length : Int).toNat (l : Int)) 10 b l = 2 := c
              rw [r0] at c
              refine And.intro il (And.intro (fun z => ?_) (fun z => ?_))
              · have z : (sn_u σ2.1 26 0 (r.length : Int).toNat (l : Int)) 10 b l = 0 := z
                rw [r0] at z
                exact turn l [] _ _ _ _ _ _ ⟨hl, Or.inl ⟨z, rfl⟩⟩ hs3 hv3 fr3 rfl
              · have z : ¬ (sn_u σ2.1 26 0 (r.length : Int).toNat (l : Int)) 10 b l = 0 := z
                rw [r0] at z
                have k13 : S.1 0 l = 1 ∨ S.1 0 l = 3 := by have := lw.2; omega
                have sp : spl S (ib W) l := by
                  rcases hl.2 with ⟨l1, -⟩ | ⟨-, l2, -⟩ | ⟨-, -, l3⟩
                  · omega
                  · exact l2
                  · omega
                obtain ⟨a1, a2, -⟩ := (hok.2.1 l lw.1).2.2.1 (by omega)
                obtain ⟨n1, n2⟩ := low_ne sp.2.1 hl.1 (by omega) hnp.1
                obtain ⟨e1, e2⟩ := sl_e hok lw.1 (by omega)
                refine And.intro il (And.intro ?_ (And.intro rfl (And.intro rfl ⟨T, S, sl S l, hx3, hok, ?_, ?_, ?_, fun L σ4 hL f4 => ?_⟩)))
                · show 0 ≤ (sn_u σ2.1 26 0 (r.length : Int).toNat (l : Int)) 11 b l ∧ (sn_u σ2.1 26 0 (r.length : Int).toNat (l : Int)) 11 b l < (100 : Nat)
                  rw [r1]
                  have := a1.1
                  have := a1.2.1
                  omega
                · show upc S (ib (W &&& (sn_shl 1 (l : Int) ^^^ (-1))))
                  rw [eM]
                  exact rm_up hnp.1 sp.2.1
                · show (sn_u σ2.1 26 0 (r.length : Int).toNat (l : Int)) 15 b ((sn_u σ2.1 26 0 (r.length : Int).toNat (l : Int)) 11 b l).toNat = _
                  rw [r5, r1]
                  exact e1
                · show ib (W &&& (sn_shl 1 (l : Int) ^^^ (-1))) (sl S l) = true
                  rw [eM]
                  exact n1
                · have hL : ∀ v, ib L v = true ↔ (ib (W &&& (sn_shl 1 (l : Int) ^^^ (-1))) v = true ∧ cn (pG S (ib (W &&& (sn_shl 1 (l : Int) ^^^ (-1))))) (sl S l) v) := hL
                  rw [eM] at hL
                  have f4 : pr_f (sn_u σ2.1 26 0 (r.length : Int).toNat (l : Int), σ2.2) σ4 := f4
                  have hR : ∀ v, ib ((W &&& (sn_shl 1 (l : Int) ^^^ (-1))) &&& (L ^^^ (-1))) v = true ↔ (rm (ib W) l v = true ∧ ¬ ib L v = true) := fun v => by rw [ib_dif, eM]
                  have tl : t.length + 2 ≤ 25 ∧ t.length < 24 := by
                    obtain ⟨m1, m2⟩ := rst_np h3k hnp (l := l) (A := [L, _]) ⟨hl, Or.inr (Or.inr ⟨k13, L, _, hL, hR, rfl⟩)⟩
                    have := wt_le hnt
                    have := wt_le m1
                    rw [wt_c] at hr hd
                    simp only [List.length_cons, List.length_nil] at this
                    omega
                  refine And.intro (show (0 : Int) ≤ (t.length : Int) ∧ (t.length : Int) < (25 : Nat) by omega) (And.intro (by unfold sn_R; omega) (And.intro (show (0 : Int) ≤ (t.length : Int) + 1 ∧ (t.length : Int) + 1 < (25 : Nat) by omega) (And.intro (by unfold sn_R; omega) ?_)))
                  have s4 : sv (σ4.2 27 0) t := by
                    intro j X hj
                    rw [f4.2 27 0 j (by omega)]
                    exact hs3 j X hj
                  refine turn l [L, _] _ _ _ _ _ _ ⟨hl, Or.inr (Or.inr ⟨k13, L, _, hL, hR, rfl⟩)⟩ ?_ ?_ (fun a b c z => pr_g_t fr3 (pr_fg f4) a b c z) (by rw [List.length_append]; show (t.length : Int) + 2 = ((2 + t.length : Nat) : Int); omega)
                  · have s5 : sv ((sn_u σ4.2 27 0 (t.length : Int).toNat ((W &&& (sn_shl 1 (l : Int) ^^^ (-1))) &&& (L ^^^ (-1)))) 27 0) (((W &&& (sn_shl 1 (l : Int) ^^^ (-1))) &&& (L ^^^ (-1))) :: t) := by
                      refine sv_push s4 (fun j hj => ?_) ?_
                      · rw [sn_u_at, if_neg (show ¬ j = (t.length : Int).toNat by omega)]
                      · rw [sn_u_at, if_pos (show t.length = (t.length : Int).toNat by omega)]
                    refine sv_push (t := (((W &&& (sn_shl 1 (l : Int) ^^^ (-1))) &&& (L ^^^ (-1))) :: t)) s5 (fun j hj => ?_) ?_
                    · rw [List.length_cons] at hj
                      show sn_u (sn_u σ4.2 27 0 (t.length : Int).toNat _) 27 0 ((t.length : Int) + 1).toNat L 27 0 j = _
                      rw [sn_u_at, if_neg (show ¬ j = ((t.length : Int) + 1).toNat by omega)]
                      rfl
                    · show sn_u (sn_u σ4.2 27 0 (t.length : Int).toNat _) 27 0 ((t.length : Int) + 1).toNat L 27 0 (t.length + 1) = _
                      rw [sn_u_at, if_pos (show (t.length + 1) = ((t.length : Int) + 1).toNat by omega)]
                  · intro j m hj
                    show σ4.1 26 0 j = _
                    rw [f4.1 26 0 j (by omega) (by omega)]
                    exact hv3 j m hj
          have e1 : ((t.length + 1 : Nat) : Int) + -1 = (t.length : Int) := by omega
          refine hG 20 [37] _ _ _ _ ?_
          refine And.intro (fun _ => And.intro (fun c => ?_) (fun _ => And.intro (by unfold sn_R; rw [wt_c] at hr hd hle; rw [List.length_cons]; omega) (And.intro ?_ ?_))) (fun c => ?_)
          · have c : (((W :: t).length : Nat) : Int) ≤ 0 := c
            rw [List.length_cons] at c
            omega
          · show 0 ≤ (((W :: t).length : Nat) : Int) + -1 ∧ (((W :: t).length : Nat) : Int) + -1 < (25 : Nat)
            rw [List.length_cons]
            rw [wt_c] at hr hd hle
            omega
          · show G 37 [some (.inr (.inr (25, 0))), some (.inr (.inr (9, b))), some (.inl (((t.length + 1 : Nat) : Int) + -1)), some (.inl (r.length : Int)), some (.inr (.inl (σ1.2 27 0 (((t.length + 1 : Nat) : Int) + -1).toNat))), none, o6, o7, none, o9, none] [] σ1
            rw [e1, eW]
            exact at37
          · have c : σ1.1 9 b 11 ≤ (r.length : Int) := c
            rw [wt_c] at hr
            have := np_pos hnp
            omega
      refine loop _ [W0] [] _ none none none none rfl (fun X hX => by rw [List.mem_singleton.mp hX]; exact np0) ?_ ?_ (fun j l h => by simp at h) (fun rows h => h) (fun _ _ _ _ => rfl)
      · rw [wt_c, wt_n, List.length_nil]
        omega
      · refine sv_push (t := []) (g := σ.2 27 0) (fun j X h => by simp at h) (fun j hj => absurd hj (Nat.not_lt_zero j)) ?_
        show sn_u σ.2 27 0 (0 : Int).toNat W0 27 0 0 = _
        rw [sn_u_at, if_pos (show (0 : Nat) = (0 : Int).toNat from rfl)]
    · exact h.elim
def ca_SN_rule : List (Nat × Nat × Nat × sn_P) := [(165, 2, 6, sp_SW_weigh), (189, 2, 4, sp_PR_read)]
theorem co_SN_rule : ∀ x n ci s', sn_lk ca_SN_rule x = some (n, ci, s') → sn_CO "SwitchedNets" sn_ws 6 x n ci s' := sn_co_of (List.forall_mem_cons.mpr ⟨sn_CO_V ("SwitchedNets$Switchings", T_SW, 5) ct_SW_weigh (by decide) (by decide) (sn_gV ml_SN_165 mi_SW_weigh ms_SW_weigh mz_SW mc_SW_weigh) (by decide) rfl rfl ⟨nh_SW.1, nh_SW.2, pn_SW_weigh⟩, List.forall_mem_cons.mpr ⟨sn_CO_V ("SwitchedNets$Proof", T_PR, 5) ct_PR_read (by decide) (by decide) (sn_gV ml_SN_189 mi_PR_read ms_PR_read mz_PR mc_PR_read) (by decide) rfl rfl ⟨nh_PR.1, nh_PR.2, pn_PR_read⟩, fun _ h => absurd h List.not_mem_nil⟩⟩)
def sp_SN_rule : sn_P := sn_wp pr_SN_rule (sn_lk ft_SN) sn_no (sn_lk ca_SN_rule) 2 27
theorem ct_SN_rule : sn_CT y_SN_rule ws_SN_rule 6 sp_SN_rule := sn_CT_wp 27 pl_SN pk_SN_rule FI_SN (sn_no_ok _) co_SN_rule
