/-! normalise: the reference; the call. -/
def mz_P (a b c : Nat) : Prop := in_q a b c ∨ cp_P 0 a b c ∨ cp_P 2 a b c
theorem cp_q {t a b c : Nat} (q : cp_P t a b c) : 46 ≤ a ∧ a ≤ 57 := by
  have hb := q.1
  subst hb
  exact cp_46 q
theorem cp_02 {a b c : Nat} (h : cp_P 0 a b c) (g : cp_P 2 a b c) : False := by
  obtain ⟨-, h⟩ := h
  obtain ⟨-, g⟩ := g
  rcases h with ⟨h1, h2⟩ | ⟨h1, h2, h3, h4⟩ | ⟨h1, h2, h3, h4⟩ <;> rcases g with ⟨g1, g2⟩ | ⟨g1, g2, g3, g4⟩ | ⟨g1, g2, g3, g4⟩ <;> omega
theorem cp_12 {a b c : Nat} (h : cp_P 1 a b c) (g : cp_P 2 a b c) : False := by
  obtain ⟨-, h⟩ := h
  obtain ⟨-, g⟩ := g
  rcases h with ⟨h1, h2⟩ | ⟨h1, h2, h3, h4⟩ | ⟨h1, h2, h3, h4⟩ <;> rcases g with ⟨g1, g2⟩ | ⟨g1, g2, g3, g4⟩ | ⟨g1, g2, g3, g4⟩ <;> omega
theorem my_v2 {S : sT} {b : Nat} {σ σ' : sn_M} (h : my_v S b σ) (f : ∀ a c, cp_P b a 0 c → σ'.1 a 0 c = σ.1 a 0 c) : my_v S b σ' := my_v_fr (P := fun a x c => ¬ cp_P b a x c ∨ x ≠ 0) (σ := (σ.1, σ'.2)) h ⟨rfl, fun a x c hn => by
    have hb : x = 0 := Decidable.byContradiction (fun z => hn (Or.inr z))
    subst hb
    exact f a c (Classical.byContradiction (fun z => hn (Or.inl z)))⟩ (fun a c q z => by
    rcases z with z | z
    · exact z q
    · exact z rfl)
def sp_MD_normalise : sn_P := fun vs σ po => match vs with
  | [.inr (.inr q), .inl p] => q = (40, 0) ∧ ∃ (T : fT) (S S' : sT), my_s T S S' 0 σ ∧ fT_ok T ∧ (p < 0 → ∀ σ', sn_fr mz_P σ σ' → my_v S' 0 σ' → po (some (.inl (-1))) σ') ∧ (0 ≤ p → ∀ (v f : Int) (σ' : sn_M), s_V S v f → ¬ v = 0 → sn_fr mz_P σ σ' → my_v S' 0 σ' → po (some (.inl (-1))) σ') ∧ (0 ≤ p → ∀ (f : Int), s_V S 0 f → ∀ (n : Nat) (Sf : sT) (σ' : sn_M), nz p n S' (some Sf) → my_v Sf 0 σ' → sn_fr mz_P σ σ' → po (some (.inl (n : Int))) σ') ∧ (0 ≤ p → ∀ (f : Int), s_V S 0 f → ∀ (n : Nat) (σ' : sn_M), nz p n S' none → my_v S' 0 σ' → sn_fr mz_P σ σ' → po (some (.inl (-1))) σ')
  | _ => False
def ca_MD_normalise : List (Nat × Nat × Nat × sn_P) := [(119, 3, 8, sp_MD_count), (181, 2, 8, sp_MD_reduceAt), (184, 2, 8, sp_MD_isNet), (187, 3, 8, sp_MD_copy)]
theorem co_MD_normalise : ∀ x n ci s', sn_lk ca_MD_normalise x = some (n, ci, s') → sn_CO "SwitchedNetsModel" sn_ws 5 x n ci s' := sn_co_of (List.forall_mem_cons.mpr ⟨sn_CO_V ("SwitchedNetsModel", T_MD, 29) ct_MD_count (by decide) (by decide) (sn_gV ml_MD_119 mi_MD_count ms_MD_count mz_MD mc_MD_count) (by decide) rfl rfl ⟨nh_MD.1, nh_MD.2, pn_MD_count⟩, List.forall_mem_cons.mpr ⟨sn_CO_V ("SwitchedNetsModel", T_MD, 29) ct_MD_reduceAt (by decide) (by decide) (sn_gV ml_MD_181 mi_MD_reduceAt ms_MD_reduceAt mz_MD mc_MD_reduceAt) (by decide) rfl rfl ⟨nh_MD.1, nh_MD.2, pn_MD_reduceAt⟩, List.forall_mem_cons.mpr ⟨sn_CO_V ("SwitchedNetsModel", T_MD, 29) ct_MD_isNet (by decide) (by decide) (sn_gV ml_MD_184 mi_MD_isNet ms_MD_isNet mz_MD mc_MD_isNet) (by decide) rfl rfl ⟨nh_MD.1, nh_MD.2, pn_MD_isNet⟩, List.forall_mem_cons.mpr ⟨sn_CO_V ("SwitchedNetsModel", T_MD, 29) ct_MD_copy (by decide) (by decide) (sn_gV ml_MD_187 mi_MD_copy ms_MD_copy mz_MD mc_MD_copy) (by decide) rfl rfl ⟨nh_MD.1, nh_MD.2, pn_MD_copy⟩, fun _ h => absurd h List.not_mem_nil⟩⟩⟩⟩)
set_option maxHeartbeats 2000000 in
theorem ct_MD_normalise : sn_CT y_MD_normalise ws_MD_normalise 5 sp_MD_normalise := by
  refine sn_CT_of (pr := pr_MD_normalise) (fi := (sn_lk ft_MD)) (lc := (sn_lk lc_MD)) (ca := sn_lk ca_MD_normalise) pl_MD ?_ pk_MD_normalise FI_MD LC_MD co_MD_normalise ?_
  · intro vs σ post h
    unfold sp_MD_normalise at h
    split at h
    · exact Nat.le_of_ble_eq_true rfl
    · exact h.elim
  · intro vs σ post h hvs hR
    unfold sp_MD_normalise at h
    split at h
    · next q p =>
      obtain ⟨rfl, T, S, S', hms, hT, h1, h2, h3, h4⟩ := h
      intro G hG
      have hok' := s_eq_ok hms.2.2 hms.2.1
      have i4 : (0 : Int) ≤ 0 ∧ (0 : Int) < (4 : Nat) := by omega
      have loop : 0 ≤ p → ∀ f, s_V S 0 f → ∀ (d : Nat) (S1 : sT) (m : Nat) (σ1 : sn_M), cn_ct (S1.1 0) (-1) S1.2.1 ≤ (d : Int) → m + d ≤ 24 → my_v S1 0 σ1 → s_ok T S1 → my_v S' 2 σ1 → sn_fr mz_P σ σ1 → (∀ n r, nz p n S1 r → nz p (m + n) S' r) → G 27 [some (.inr (.inr (40, 0))), some (.inl p), some (.inl (m : Int))] [] σ1 := by
        intro hp f hf d
        induction d with
        | zero =>
          intro S1 m σ1 hd hm hv1 hok1 hv2 hfr hn
          have ms1 : my_s T S1 S1 0 σ1 := ⟨hv1, s_eq_rf S1, hok1⟩
          have ct : cn_ct (fun l => σ1.1 49 0 (60 * (0 : Int).toNat + l)) 3 (σ1.1 46 0 (0 : Int).toNat).toNat = _ := ms_ct ms1 3
          have hle := cn_ct_le (S1.1 0) 3 S1.2.1
          refine hG 60 [27] _ _ _ _ ?_
          refine And.intro rfl (And.intro ⟨by omega, ms_ok ms1 (by omega)⟩ ?_)
          rw [ct]
          refine And.intro (fun _ => ?_) (fun c => ?_)
          · exact h3 hp f hf m S1 σ1 (hn 0 _ (Or.inl ⟨by omega, rfl⟩)) hv1 hfr
          · have c : 0 < cn_ct (S1.1 0) 3 S1.2.1 := c
            omega
        | succ d ih =>
          intro S1 m σ1 hd hm hv1 hok1 hv2 hfr hn
          have ms1 : my_s T S1 S1 0 σ1 := ⟨hv1, s_eq_rf S1, hok1⟩
          have ct : cn_ct (fun l => σ1.1 49 0 (60 * (0 : Int).toNat + l)) 3 (σ1.1 46 0 (0 : Int).toNat).toNat = _ := ms_ct ms1 3
          have mo : (0 : Int) ≤ 0 ∧ md_ok σ1 (0 : Int).toNat := ⟨by omega, ms_ok ms1 (by omega)⟩
          refine hG 60 [27] _ _ _ _ ?_
          refine And.intro rfl (And.intro mo ?_)
          rw [ct]
          refine And.intro (fun c => ?_) (fun c => ?_)
          · have c : cn_ct (S1.1 0) 3 S1.2.1 ≤ 0 := c
            exact h3 hp f hf m S1 σ1 (hn 0 _ (Or.inl ⟨by omega, rfl⟩)) hv1 hfr
          · have c : 0 < cn_ct (S1.1 0) 3 S1.2.1 := c
            refine And.intro rfl (And.intro mo ?_)
            rw [ct]
            refine And.intro c (And.intro rfl ⟨T, S1, hv1, hok1, fun x hx => ?_⟩)
            have hx : ca_is (S1.1 0) S1.2.1 (p.tmod (cn_ct (S1.1 0) 3 S1.2.1)) x := hx
            obtain ⟨tb1, tb2⟩ := tmod_b hp c
            obtain ⟨l, hl, rfl, hk, -⟩ : ∃ l : Nat, l < S1.2.1 ∧ x = (l : Int) ∧ S1.1 0 l = 3 ∧ cn_ct (S1.1 0) 3 l = p.tmod (cn_ct (S1.1 0) 3 S1.2.1) := by
              rcases id hx with y | ⟨-, y⟩
              · exact y
              · omega
            refine And.intro (fun y => absurd y (by omega)) (fun _ => And.intro (fun hnone => ?_) (fun S2 hS2 σ2 v2 f2 => ?_))
            · refine And.intro (fun _ => ?_) (fun y => absurd rfl y)
              refine And.intro rfl (And.intro ⟨by omega, by omega, by omega, by omega, by omega⟩ (fun σ3 hc => ?_))
              have hc : cp_ok σ1 σ3 2 0 := hc
              exact h4 hp f hf (m + 0) σ3 (hn 0 none (Or.inr ⟨c, rfl, l, hl, hk, hx, hnone⟩)) (my_cp hv2 hc) (sn_fr_t hfr (sn_fr_w hc.2.2.2 (fun a b c q => Or.inr (Or.inl q))))
            · refine And.intro (fun y => absurd y (by decide)) (fun _ => ?_)
              have hS2 : s_rd S1 l = some S2 := hS2
              have lt := s_rd_lt hT hok1 hl hk hS2
              have f2 : sn_fr (cp_P 0) σ1 σ2 := f2
              have g := ih S2 (m + 1) σ2 (by omega) (by omega) v2 (s_rd_ok hT hok1 hl hk hS2) (my_v_fr hv2 f2 (fun a c q z => cp_02 z q)) (sn_fr_t hfr (sn_fr_w f2 (fun a b c q => Or.inr (Or.inl q)))) (fun n r hnz => by
                have := hn (n + 1) r ⟨c, l, hl, hk, hx, S2, hS2, hnz⟩
                rw [show m + 1 + n = m + (n + 1) by omega]
                exact this)
              exact And.intro (show sn_R ((m : Int) + 1) by unfold sn_R; omega) g
      have fc0 : sn_fr mz_P σ (sn_u σ.1 40 0 0 0, σ.2) := sn_fr_u (sn_fr_rf _ σ) (Or.inl q_40) 0
      have mc0 : my_s T S S' 0 (sn_u σ.1 40 0 0 0, σ.2) := ⟨my_c0 hms.1 0, hms.2⟩
      refine hG 60 [27] _ _ _ _ ?_
      refine And.intro (fun c => h1 c _ fc0 mc0.1) (fun c => ?_)
      have c : 0 ≤ p := c
      obtain ⟨j1, j2⟩ := md_judge mc0 (by omega)
      refine fun G2 => And.intro rfl (And.intro ⟨by omega, j1⟩ (fun v f ro hv => ?_))
      have hV := j2 hv
      have fq := jd_q (sn_u σ.1 40 0 0 0, σ.2) v f ro
      have fz : sn_fr mz_P σ _ := sn_fr_t fc0 (sn_fr_w fq (fun a b c q => Or.inl q))
      have my1 := my_v_fr mc0.1 fq (fun a c q z => z.2.2.2.2.2 (cp_46 q))
      refine And.intro (fun z => ?_) (fun z => ?_)
      · have z : v = 0 := z
        subst z
        refine And.intro (Or.inr rfl) (And.intro (fun y => absurd y (by decide)) (fun _ => ?_))
        refine And.intro rfl (And.intro ⟨by omega, by omega, by omega, by omega, by omega⟩ (fun σ3 hc => ?_))
        have hc : cp_ok (sn_ov (sn_ov (sn_u σ.1 40 0 0 0, σ.2) 40 0 (sn_up (sn_up ((sn_u σ.1 40 0 0 0) 40 0) 19 0) 20 f)) 58 0 ro) σ3 0 2 := hc
        have c24 := hok'.2.2.2.2.1
        have b0 := (cn_ct_b (S'.1 0) (-1) S'.2.1).1
        exact loop c f hV 24 S' 0 σ3 (by omega) (by omega) (my_v_fr my1 hc.2.2.2 (fun a c q z => cp_02 q z)) hok' (my_cp my1 hc) (sn_fr_t fz (sn_fr_w hc.2.2.2 (fun a b c q => Or.inr (Or.inr q)))) (fun n r h => by rw [Nat.zero_add]; exact h)
      · refine And.intro (Or.inl rfl) (And.intro (fun _ => ?_) (fun y => absurd rfl y))
        exact h2 c v f _ hV z fz my1
    · exact h.elim
/-- the class's call may have changed its structure and its spare one; then the reference's -/
theorem op_normalise {LS : fT → sn_M → Prop} (hF : in_F LS) : lw_O (in_I LS) 17 := by
  refine ⟨_, _, _, _, by decide, by decide, ct_SN_normalise, ct_MD_normalise, fun n σ xs i hI hn hR => ?_⟩
  obtain ⟨T, S0, S0', S1, S1', hv⟩ := hI
  obtain ⟨hfo, hmt, hT, h80⟩ := id hv.1
  generalize hx : (xs (i + 1 + 0)).toInt = p
  have has : lw_as xs i 1 = [.inl p] := by rw [← hx]; rfl
  rw [has]
  have hok := hv.2.1.2.2.2
  have heq := hv.2.1.2.2.1
  -- the end
  have fin : ∀ (S S' : sT) (σ1 σ2 : sn_M), sx_v (s_X S) 0 σ1 → sn_fr nz_P σ σ1 → my_v S' 0 σ2 → sn_fr mz_P σ1 σ2 → s_eq S S' → s_ok T S → in_I LS (n + 1) σ2 := by
    intro S S' σ1 σ2 x1 f1 y2 f2 e o
    have c1 : ∀ a b c, ¬ nz_P a b c → ¬ mz_P a b c → σ2.1 a b c = σ.1 a b c := fun a b c z1 z2 => (f2.2 a b c z2).trans (f1.2 a b c z1)
    have n1 : ∀ {a b c}, a ≤ 8 → ¬ nz_P a b c := by
      intro a b c ha z
      rcases z with z | z
      · rcases z with q | q | q | q | q <;> omega
      · omega
    have n2 : ∀ {a b c}, 25 ≤ a → ¬ nz_P a b c := by
      intro a b c ha z
      rcases z with z | z
      · rcases z with q | q | q | q | q <;> omega
      · omega
    have m1 : ∀ {a b c}, 1 ≤ a → a ≤ 6 → ¬ mz_P a b c := by
      intro a b c h1 h2 z
      rcases z with z | z | z
      · exact z.1 ⟨h1, h2⟩
      · have := cp_q z; omega
      · have := cp_q z; omega
    have m2 : ∀ {a b c}, 9 ≤ a → a ≤ 18 → b ≤ 1 → ¬ mz_P a b c := by
      intro a b c h1 h2 h3 z
      rcases z with z | z | z
      · exact z.2.1 ⟨h1, h2, h3⟩
      · have := cp_q z; omega
      · have := cp_q z; omega
    have m3 : ∀ {a b c}, 33 ≤ a → a ≤ 39 → ¬ mz_P a b c := by
      intro a b c h1 h2 z
      rcases z with z | z | z
      · exact z.2.2.1 ⟨h1, h2⟩
      · have := cp_q z; omega
      · have := cp_q z; omega
    have m4 : ∀ {a b c}, 41 ≤ a → a ≤ 43 → ¬ mz_P a b c := by
      intro a b c h1 h2 z
      rcases z with z | z | z
      · exact z.2.2.2.1 ⟨h1, h2⟩
      · have := cp_q z; omega
      · have := cp_q z; omega
    have m5 : ¬ mz_P 40 0 1 := by
      intro z
      rcases z with z | z | z
      · exact z.2.2.2.2.1 ⟨rfl, rfl⟩
      · have := cp_q z; omega
      · have := cp_q z; omega
    have m6 : ∀ {a c}, cp_P 1 a 0 c → ¬ mz_P a 0 c := by
      intro a c h z
      rcases z with z | z | z
      · exact z.2.2.2.2.2 (cp_q h)
      · exact cp_ab z h
      · exact cp_12 h z
    have fr : sn_fr (fun a b c => nz_P a b c ∨ mz_P a b c) σ σ2 := sn_fr_t (sn_fr_w f1 (fun _ _ _ q => Or.inl q)) (sn_fr_w f2 (fun _ _ _ q => Or.inr q))
    refine ⟨T, S, S', S1, S1', ⟨fo_v_fr hfo fr (fun a c g1 g2 z => ?_), mt_v_fr hmt fr (fun a c g1 g2 z => ?_) (fun z => ?_), hT, h80⟩, ⟨sx_v_fr x1 f2 (fun a c g1 g2 z => m2 g1 g2 (by omega) z), y2, e, o⟩, in_s_fr hv.2.2.1 fr (fun a c g1 g2 z => ?_) (fun a c g z => ?_), hF.1 T σ σ2 hv.2.2.2 (fun a i j g1 g2 => c1 a i j (n2 (by omega)) (m3 g1 g2))⟩
    · rcases z with z | z
      · exact n1 (by omega) z
      · exact m1 g1 g2 z
    · rcases z with z | z
      · exact n2 (by omega) z
      · exact m4 g1 g2 z
    · rcases z with z | z
      · exact n2 (by omega) z
      · exact m5 z
    · rcases z with z | z
      · rcases z with q | q
        · rcases q with q | q | q | q | q <;> omega
        · omega
      · exact m2 g1 g2 (by omega) z
    · rcases z with z | z
      · exact n2 (by have := cp_46 g; omega) z
      · exact m6 g z
  have msk : ∀ σ1, sn_fr nz_P σ σ1 → my_s T S0 S0' 0 σ1 := by
    intro σ1 f1
    refine ms_of (in_sm hv.2.1) (fun a c q => f1.2 a 0 c (fun z => ?_)) (fg_rf T)
    have := cp_46 q
    rcases z with z | z
    · rcases z with q | q | q | q | q <;> omega
    · omega
  have vz : ∀ {v f : Int}, s_V S0 v f → ¬ v = 0 → ∀ {f' : Int}, s_V S0 0 f' → False := fun h1 h2 _ h3 => h2 (s_V_u h1 h3).1
  refine And.intro rfl ⟨T, S0, hv.2.1.1, hT, hok, fun c => ?_, fun c v f σ1 hV hz f1 => ?_, fun c f hV m Sf σ1 hnz hx1 f1 => ?_, fun c f hV m S' σ1 hnz he hx1 f1 => ?_⟩
  · refine ⟨_, rfl, fun _ => And.intro rfl ⟨T, S0, S0', msk σ (sn_fr_rf _ σ), hT, fun _ σ2 f2 y2 => ⟨rfl, fin S0 S0' σ σ2 hv.2.1.1 (sn_fr_rf _ σ) y2 f2 heq hok⟩, fun z => ?_, fun z => ?_, fun z => ?_⟩⟩
    all_goals exact absurd z (by have c : p < 0 := c; omega)
  · have f1' : sn_fr nz_P σ σ1 := sn_fr_w f1 (fun _ _ _ q => Or.inl q)
    have x1 : sx_v (s_X S0) 0 σ1 := sx_v_fr hv.2.1.1 f1 (fun a c g1 g2 q => by rcases q with q | q | q | q | q <;> omega)
    refine ⟨_, rfl, fun _ => And.intro rfl ⟨T, S0, S0', msk σ1 f1', hT, fun z => absurd z (by have c : 0 ≤ p := c; omega), fun _ v' f' σ2 hV' hz' f2 y2 => ⟨rfl, fin S0 S0' σ1 σ2 x1 f1' y2 f2 heq hok⟩, fun _ f' hV' => (vz hV hz hV').elim, fun _ f' hV' => (vz hV hz hV').elim⟩⟩
  · refine ⟨_, rfl, fun _ => And.intro rfl ⟨T, S0, S0', msk σ1 f1, hT, fun z => absurd z (by have c : 0 ≤ p := c; omega), fun _ v' f' σ2 hV' hz' => (vz hV' hz' hV).elim, fun _ f' hV' m' Sf' σ2 hnz' y2 f2 => ?_, fun _ f' hV' m' σ2 hnz' y2 f2 => ?_⟩⟩
    · obtain ⟨rfl, e⟩ := nz_eq hT m m' S0 S0' _ _ hok heq hnz hnz'
      rcases e with ⟨e, -⟩ | ⟨A, B, e1, e2, e3, e4⟩
      · cases e
      · cases e1
        cases e2
        exact ⟨rfl, fin _ _ σ1 σ2 hx1 f1 y2 f2 e3 e4⟩
    · obtain ⟨rfl, e⟩ := nz_eq hT m m' S0 S0' _ _ hok heq hnz hnz'
      rcases e with ⟨e, -⟩ | ⟨A, B, e1, e2, e3, e4⟩
      · cases e
      · cases e2
  · refine ⟨_, rfl, fun _ => And.intro rfl ⟨T, S0, S0', msk σ1 f1, hT, fun z => absurd z (by have c : 0 ≤ p := c; omega), fun _ v' f' σ2 hV' hz' => (vz hV' hz' hV).elim, fun _ f' hV' m' Sf' σ2 hnz' y2 f2 => ?_, fun _ f' hV' m' σ2 hnz' y2 f2 => ?_⟩⟩
    · obtain ⟨rfl, e⟩ := nz_eq hT m m' S0 S0' _ _ hok heq hnz hnz'
      rcases e with ⟨-, e⟩ | ⟨A, B, e1, e2, e3, e4⟩
      · cases e
      · cases e1
    · exact ⟨rfl, fin S' S0' σ1 σ2 hx1 f1 y2 f2 (s_eq_t (s_eq_sy he) heq) (s_eq_ok hok he)⟩
