/-! normalise. -/
theorem s_rd_lt {T : fT} {S S' : sT} (hT : fT_ok T) (h : s_ok T S) {c : Nat} (hc : c < S.2.1) (hk : S.1 0 c = 3) (hr : s_rd S c = some S') : cn_ct (S'.1 0) (-1) S'.2.1 < cn_ct (S.1 0) (-1) S.2.1 := by
  obtain ⟨-, s1, s2⟩ := s_rd_src h hc hk
  have sl : ∀ {a : Nat} {of other gone : Int}, s_at S c a of other gone → cn_ct ((s_sl S c a of other gone).1 0) (-1) S.2.1 < cn_ct (S.1 0) (-1) S.2.1 := by
    intro a of other gone hp
    obtain ⟨haN, hac, -⟩ := s_at_f hT.2.2.2.1 h hp
    have h0 := hp.2.2.2.2.1
    show cn_ct (sn_up (sn_up (S.1 0) a (-1)) c (-1)) (-1) S.2.1 < _
    rw [cn_ct_rm (-1) (by rw [sn_up_ne _ (Ne.symm hac), hk]; decide) _ hc, cn_ct_rm (-1) (by omega) _ haN, if_pos (Or.inl (by decide)), if_pos (Or.inl (by decide))]
    omega
  unfold s_rd at hr
  split at hr
  · cases hr
  · next n1 =>
    split at hr
    · next n2 =>
      cases hr
      exact sl (s_rd_at h hc hk (Or.inl ⟨rfl, rfl⟩) n1 n2 s1)
    · next n2 =>
      split at hr
      · next n3 =>
        cases hr
        exact sl (s_rd_at h hc hk (Or.inr ⟨rfl, rfl⟩) (fun z => n1 z.symm) n3 s2)
      · next n3 =>
        split at hr
        · cases hr
        · next n4 =>
          cases hr
          have hp : s_bt S c (S.1 5 (S.1 1 c).toNat).toNat (S.1 5 (S.1 2 c).toNat).toNat := ⟨hc, hk, by omega, by omega, n2, n3⟩
          generalize (S.1 5 (S.1 1 c).toNat).toNat = one at hp
          generalize (S.1 5 (S.1 2 c).toNat).toNat = two at hp
          have q := (s_kl_ok (fT_pd hT) h hp).2.2.2 (-1)
          rw [if_pos (Or.inl (by decide)), if_pos (Or.inl (by decide)), if_pos (Or.inl (by decide))] at q
          have c1 : cn_ct ((s_ct (s_kl S c one two) (S.1 1 one) (S.1 1 two)).1 0) (-1) (S.2.1 + 1) = cn_ct ((s_kl S c one two).1 0) (-1) S.2.1 + (if (0 : Int) ≤ 3 ∧ ((-1 : Int) < 0 ∨ (3 : Int) = -1) then 1 else 0) := cn_ct_add _ _ _ _
          have c2 : cn_ct ((s_sp S c one two).1 0) (-1) (S.2.1 + 1 + 1) = cn_ct ((s_ct (s_kl S c one two) (S.1 1 one) (S.1 1 two)).1 0) (-1) (S.2.1 + 1) + (if (0 : Int) ≤ 3 ∧ ((-1 : Int) < 0 ∨ (3 : Int) = -1) then 1 else 0) := cn_ct_add _ _ _ _
          rw [if_pos ⟨by decide, Or.inl (by decide)⟩] at c1 c2
          show cn_ct ((s_sp S c one two).1 0) (-1) (S.2.1 + 1 + 1) < _
          omega
/-- the steps of a normalising, and how it ends -/
def nz (p : Int) : Nat → sT → Option sT → Prop
  | 0, S, r => (cn_ct (S.1 0) 3 S.2.1 ≤ 0 ∧ r = some S) ∨ (0 < cn_ct (S.1 0) 3 S.2.1 ∧ r = none ∧ ∃ l : Nat, l < S.2.1 ∧ S.1 0 l = 3 ∧ ca_is (S.1 0) S.2.1 (p.tmod (cn_ct (S.1 0) 3 S.2.1)) (l : Int) ∧ s_rd S l = none)
  | n + 1, S, r => 0 < cn_ct (S.1 0) 3 S.2.1 ∧ ∃ l : Nat, l < S.2.1 ∧ S.1 0 l = 3 ∧ ca_is (S.1 0) S.2.1 (p.tmod (cn_ct (S.1 0) 3 S.2.1)) (l : Int) ∧ ∃ S1, s_rd S l = some S1 ∧ nz p n S1 r
theorem s_eq_ct {S S' : sT} (h : s_eq S S') (k : Int) : cn_ct (S'.1 0) k S'.2.1 = cn_ct (S.1 0) k S.2.1 := by
  rw [h.1]
  exact cn_ct_ext k _ (fun l hl => h.2.1 0 l (by omega) hl)
theorem nz_eq {T : fT} (hT : fT_ok T) {p : Int} : ∀ (n n' : Nat) (S S' : sT) (r r' : Option sT), s_ok T S → s_eq S S' → nz p n S r → nz p n' S' r' → n = n' ∧ ((r = none ∧ r' = none) ∨ ∃ Sf Sf', r = some Sf ∧ r' = some Sf' ∧ s_eq Sf Sf' ∧ s_ok T Sf) := by
  have same : ∀ {S S' : sT} {l l' : Nat}, s_eq S S' → ca_is (S.1 0) S.2.1 (p.tmod (cn_ct (S.1 0) 3 S.2.1)) (l : Int) → ca_is (S'.1 0) S'.2.1 (p.tmod (cn_ct (S'.1 0) 3 S'.2.1)) (l' : Int) → l = l' := by
    intro S S' l l' he h1 h2
    rw [s_eq_ct he 3, he.1] at h2
    have h3 := ca_ext (fun l hl => (he.2.1 0 l (by omega) hl).symm) h1
    have := ca_uniq h3 h2
    omega
  intro n
  induction n with
  | zero =>
    intro n' S S' r r' hok he h h'
    have hct := s_eq_ct he 3
    match n' with
    | 0 =>
      refine ⟨rfl, ?_⟩
      rcases h with ⟨h1, h2⟩ | ⟨h1, h2, -⟩ <;> rcases h' with ⟨g1, g2⟩ | ⟨g1, g2, -⟩
      · exact Or.inr ⟨S, S', h2, g2, he, hok⟩
      · omega
      · omega
      · exact Or.inl ⟨h2, g2⟩
    | n' + 1 =>
      obtain ⟨g1, l', hl', hk', hc', S1', hr', -⟩ := h'
      rcases h with ⟨h1, h2⟩ | ⟨h1, h2, l, hl, hk, hc, hr⟩
      · omega
      · obtain rfl := same he hc hc'
        rw [(s_rd_eq hok he hl hk).1 hr] at hr'
        cases hr'
  | succ n ih =>
    intro n' S S' r r' hok he h h'
    have hct := s_eq_ct he 3
    obtain ⟨h1, l, hl, hk, hc, S1, hr, hn⟩ := h
    obtain ⟨S2, e2, e3⟩ := (s_rd_eq hok he hl hk).2 S1 hr
    match n' with
    | 0 =>
      rcases h' with ⟨g1, g2⟩ | ⟨g1, g2, l', hl', hk', hc', hr'⟩
      · omega
      · obtain rfl := same he hc hc'
        rw [e2] at hr'
        cases hr'
    | n' + 1 =>
      obtain ⟨g1, l', hl', hk', hc', S1', hr', hn'⟩ := h'
      obtain rfl := same he hc hc'
      rw [e2] at hr'
      cases hr'
      obtain ⟨a, b⟩ := ih n' S1 S2 r r' (s_rd_ok hT hok hl hk hr) e3 hn hn'
      exact ⟨by omega, b⟩
theorem cn_ct_le (f : Nat → Int) (k : Int) : ∀ n, cn_ct f k n ≤ cn_ct f (-1) n := by
  intro n
  induction n with
  | zero => exact Int.le_refl _
  | succ n ih =>
    rw [cn_ct_s, cn_ct_s]
    by_cases h : 0 ≤ f n
    · rw [if_pos (show 0 ≤ f n ∧ ((-1 : Int) < 0 ∨ f n = -1) from ⟨h, Or.inl (by decide)⟩)]
      split <;> omega
    · rw [if_neg (fun z => h z.1), if_neg (fun z => h z.1)]
      omega
theorem tmod_b {p c : Int} (hp : 0 ≤ p) (hc : 0 < c) : 0 ≤ p.tmod c ∧ p.tmod c < c := by
  rw [Int.tmod_eq_emod_of_nonneg hp]
  exact ⟨Int.emod_nonneg _ (by omega), Int.emod_lt_of_pos _ hc⟩
def nz_P (a b c : Nat) : Prop := sw_R 0 a b c ∨ (9 ≤ a ∧ a ≤ 18 ∧ (b = 0 ∨ b = 2))
def sp_SN_normalise : sn_P := fun vs σ po => match vs with
  | [.inr (.inr q), .inl p] => q = (0, 0) ∧ ∃ (T : fT) (S : sT), sx_v (s_X S) 0 σ ∧ fT_ok T ∧ s_ok T S ∧ (p < 0 → po (some (.inl (-1))) σ) ∧ (0 ≤ p → ∀ (v f : Int) (σ' : sn_M), s_V S v f → ¬ v = 0 → sn_fr (sw_R 0) σ σ' → po (some (.inl (-1))) σ') ∧ (0 ≤ p → ∀ (f : Int), s_V S 0 f → ∀ (n : Nat) (Sf : sT) (σ' : sn_M), nz p n S (some Sf) → sx_v (s_X Sf) 0 σ' → sn_fr nz_P σ σ' → po (some (.inl (n : Int))) σ') ∧ (0 ≤ p → ∀ (f : Int), s_V S 0 f → ∀ (n : Nat) (S' : sT) (σ' : sn_M), nz p n S none → s_eq S S' → sx_v (s_X S') 0 σ' → sn_fr nz_P σ σ' → po (some (.inl (-1))) σ')
  | _ => False
def ca_SN_normalise : List (Nat × Nat × Nat × sn_P) := [(165, 2, 6, sp_SW_weigh), (175, 2, 5, sp_ST_cutAt), (178, 2, 5, sp_ST_reduceCut), (181, 2, 5, sp_ST_copyFrom)]
theorem co_SN_normalise : ∀ x n ci s', sn_lk ca_SN_normalise x = some (n, ci, s') → sn_CO "SwitchedNets" sn_ws 4 x n ci s' := sn_co_of (List.forall_mem_cons.mpr ⟨sn_CO_V ("SwitchedNets$Switchings", T_SW, 5) ct_SW_weigh (by decide) (by decide) (sn_gV ml_SN_165 mi_SW_weigh ms_SW_weigh mz_SW mc_SW_weigh) (by decide) rfl rfl ⟨nh_SW.1, nh_SW.2, pn_SW_weigh⟩, List.forall_mem_cons.mpr ⟨sn_CO_V ("SwitchedNets$Structure", T_ST, 15) ct_ST_cutAt (by decide) (by decide) (sn_gV ml_SN_175 mi_ST_cutAt ms_ST_cutAt mz_ST mc_ST_cutAt) (by decide) rfl rfl ⟨nh_ST.1, nh_ST.2, pn_ST_cutAt⟩, List.forall_mem_cons.mpr ⟨sn_CO_V ("SwitchedNets$Structure", T_ST, 15) ct_ST_reduceCut (by decide) (by decide) (sn_gV ml_SN_178 mi_ST_reduceCut ms_ST_reduceCut mz_ST mc_ST_reduceCut) (by decide) rfl rfl ⟨nh_ST.1, nh_ST.2, pn_ST_reduceCut⟩, List.forall_mem_cons.mpr ⟨sn_CO_V ("SwitchedNets$Structure", T_ST, 15) ct_ST_copyFrom (by decide) (by decide) (sn_gV ml_SN_181 mi_ST_copyFrom ms_ST_copyFrom mz_ST mc_ST_copyFrom) (by decide) rfl rfl ⟨nh_ST.1, nh_ST.2, pn_ST_copyFrom⟩, fun _ h => absurd h List.not_mem_nil⟩⟩⟩⟩)
set_option maxHeartbeats 2000000 in
theorem ct_SN_normalise : sn_CT y_SN_normalise ws_SN_normalise 4 sp_SN_normalise := by
  refine sn_CT_of (pr := pr_SN_normalise) (fi := (sn_lk ft_SN)) (lc := sn_no) (ca := sn_lk ca_SN_normalise) pl_SN ?_ pk_SN_normalise FI_SN (sn_no_ok _) co_SN_normalise ?_
  · intro vs σ post h
    unfold sp_SN_normalise at h
    split at h
    · exact Nat.le_of_ble_eq_true rfl
    · exact h.elim
  · intro vs σ post h hvs hR
    unfold sp_SN_normalise at h
    split at h
    · next q p =>
      obtain ⟨rfl, T, S, hx, hT, hok, h1, h2, h3, h4⟩ := h
      intro G hG
      obtain ⟨w1, w2⟩ := cl_w1 hx hok
      have loop : 0 ≤ p → ∀ f, s_V S 0 f → ∀ (Sp : sT), s_eq S Sp → ∀ (d : Nat) (S1 : sT) (m : Nat) (σ1 : sn_M), cn_ct (S1.1 0) (-1) S1.2.1 ≤ (d : Int) → m + d ≤ 24 → sx_v (s_X S1) 0 σ1 → s_ok T S1 → sx_v (s_X Sp) 2 σ1 → sn_fr nz_P σ σ1 → (∀ n r, nz p n S1 r → nz p (m + n) S r) → G 33 [some (.inr (.inr (0, 0))), some (.inl p), some (.inl (m : Int))] [] σ1 := by
        intro hp f hf Sp hsp d
        induction d with
        | zero =>
          intro S1 m σ1 hd hm hv1 hok1 hv2 hfr hn
          have e13 : σ1.1 9 0 13 = cn_ct (S1.1 0) 3 S1.2.1 := sx_9 hv1 (by omega)
          have hle := cn_ct_le (S1.1 0) 3 S1.2.1
          refine hG 60 [33] _ _ _ _ ?_
          refine And.intro (fun _ => ?_) (fun c => ?_)
          · exact h3 hp f hf m S1 σ1 (hn 0 _ (Or.inl ⟨by omega, rfl⟩)) hv1 hfr
          · have c : 0 < σ1.1 9 0 13 := c
            omega
        | succ d ih =>
          intro S1 m σ1 hd hm hv1 hok1 hv2 hfr hn
          have e13 : σ1.1 9 0 13 = cn_ct (S1.1 0) 3 S1.2.1 := sx_9 hv1 (by omega)
          have e9 : σ1.1 9 0 9 = (S1.2.1 : Int) := sx_9 hv1 (by omega)
          have r0 : σ1.1 10 0 = S1.1 0 := hv1.1 0 (by omega)
          have b1 := hok1.1.1
          refine hG 60 [33] _ _ _ _ ?_
          refine And.intro (fun c => ?_) (fun c => And.intro (fun _ => ?_) (fun c2 => ?_))
          · have c : σ1.1 9 0 13 ≤ 0 := c
            exact h3 hp f hf m S1 σ1 (hn 0 _ (Or.inl ⟨by omega, rfl⟩)) hv1 hfr
          · have c : 0 < σ1.1 9 0 13 := c
            refine And.intro c (And.intro rfl (And.intro (show 0 ≤ σ1.1 9 0 9 ∧ σ1.1 9 0 9 ≤ 60 by rw [e9]; omega) (fun x hx => ?_)))
            have hx : ca_is (σ1.1 10 0) (σ1.1 9 0 9).toNat (p.tmod (σ1.1 9 0 13)) x := hx
            rw [r0, e9, e13] at hx
            have hx : ca_is (S1.1 0) S1.2.1 (p.tmod (cn_ct (S1.1 0) 3 S1.2.1)) x := hx
            obtain ⟨tb1, tb2⟩ := tmod_b hp (show 0 < cn_ct (S1.1 0) 3 S1.2.1 by omega)
            obtain ⟨l, hl, rfl, hk, -⟩ : ∃ l : Nat, l < S1.2.1 ∧ x = (l : Int) ∧ S1.1 0 l = 3 ∧ cn_ct (S1.1 0) 3 l = p.tmod (cn_ct (S1.1 0) 3 S1.2.1) := by
              rcases id hx with y | ⟨-, y⟩
              · exact y
              · omega
            refine And.intro rfl ⟨T, S1, hv1, hT, hok1, (by omega), hk, fun hnone => ?_, fun S2 hS2 σ2 v2 f2 => ?_⟩
            · refine And.intro (fun _ => ?_) (fun y => absurd rfl y)
              refine And.intro rfl (And.intro rfl (And.intro (show (0 : Nat) ≠ 2 by omega) ⟨Sp, hv2, (s_eq_ok hok hsp).1, fun S3 σ3 e3 v3 f3 => ?_⟩))
              exact h4 hp f hf (m + 0) S3 σ3 (hn 0 none (Or.inr ⟨by omega, rfl, l, hl, hk, hx, hnone⟩)) (s_eq_t hsp e3) v3 (sn_fr_t hfr (sn_fr_w f3 (fun a b c q => Or.inr ⟨q.1.1, q.1.2, Or.inl q.2⟩)))
            · refine And.intro (fun y => absurd y (by decide)) (fun _ => ?_)
              have lt := s_rd_lt hT hok1 hl hk hS2
              have f2 : sx_f 0 σ1 σ2 := f2
              have g := ih S2 (m + 1) σ2 (by omega) (by omega) v2 (s_rd_ok hT hok1 hl hk hS2) (sx_v_fr hv2 f2 (fun a c g1 g2 q => by have := q.2; omega)) (sn_fr_t hfr (sn_fr_w f2 (fun a b c q => Or.inr ⟨q.1.1, q.1.2, Or.inl q.2⟩))) (fun n r hnz => by
                have := hn (n + 1) r ⟨by omega, l, hl, hk, hx, S2, hS2, hnz⟩
                rw [show m + 1 + n = m + (n + 1) by omega]
                exact this)
              exact And.intro (show sn_R ((m : Int) + 1) by unfold sn_R; omega) g
          · have c2 : (24 : Int) ≤ (m : Int) := c2
            omega
      refine hG 60 [33] _ _ _ _ ?_
      refine And.intro (fun c => h1 c) (fun c => ?_)
      refine And.intro rfl (And.intro rfl (And.intro w1 (And.intro w2 (fun v f σ1 hv1 hv2 f1 => ?_))))
      have hV := cl_w2 hx hv1
      refine And.intro (fun z => ?_) (fun z => h2 c v f σ1 hV z f1)
      have z : v = 0 := z
      subst z
      have hx1 : sx_v (s_X S) 0 σ1 := sx_v_fr hx f1 (fun a c g1 g2 q => by rcases q with q | q | q | q | q <;> omega)
      refine And.intro rfl (And.intro rfl (And.intro (show (2 : Nat) ≠ 0 by omega) ⟨S, hx1, hok.1, fun S2 σ2 e2 v2 f2 => ?_⟩))
      have f2 : sx_f 2 σ1 σ2 := f2
      have c24 := hok.2.2.2.2.1
      have b0 := (cn_ct_b (S.1 0) (-1) S.2.1).1
      exact loop c f hV S2 e2 24 S 0 σ2 (by omega) (by omega) (sx_v_fr hx1 f2 (fun a c g1 g2 q => by have := q.2; omega)) hok v2 (sn_fr_t (sn_fr_w f1 (fun a b c q => Or.inl q)) (sn_fr_w f2 (fun a b c q => Or.inr ⟨q.1.1, q.1.2, Or.inr q.2⟩))) (fun n r h => by rw [Nat.zero_add]; exact h)
    · exact h.elim
