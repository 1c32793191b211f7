/-! The class's structures: passAxiom, splitCut, reduceCut. -/
def sp_ST_passAxiom : sn_P := fun vs σ po => match vs with
  | [.inr (.inr q), .inl c, .inl of, .inl st] => q.1 = 9 ∧ 0 ≤ c ∧ ∃ (T : fT) (S : sT) (a : Nat) (gone : Int), sx_v (s_X S) q.2 σ ∧ d_inv T.2 (T.1 3) ∧ s_ok T S ∧ s_at S c.toNat a of st gone ∧ ∀ σ', sx_v (s_X (s_sl S c.toNat a of st gone)) q.2 σ' → sx_f q.2 σ σ' → po none σ'
  | _ => False
def ca_ST_passAxiom : List (Nat × Nat × Nat × sn_P) := [(90, 3, 5, sp_ST_takePlace), (94, 2, 5, sp_ST_removeLink)]
theorem co_ST_passAxiom : ∀ x n ci s', sn_lk ca_ST_passAxiom x = some (n, ci, s') → sn_CO "SwitchedNets$Structure" sn_ws 1 x n ci s' := sn_co_of (List.forall_mem_cons.mpr ⟨sn_CO_V ("SwitchedNets$Structure", T_ST, 15) ct_ST_takePlace (by decide) (by decide) (sn_gV ml_ST_90 mi_ST_takePlace ms_ST_takePlace mz_ST mc_ST_takePlace) (by decide) rfl rfl ⟨nh_ST.1, nh_ST.2, pn_ST_takePlace⟩, List.forall_mem_cons.mpr ⟨sn_CO_V ("SwitchedNets$Structure", T_ST, 15) ct_ST_removeLink (by decide) (by decide) (sn_gV ml_ST_94 mi_ST_removeLink ms_ST_removeLink mz_ST mc_ST_removeLink) (by decide) rfl rfl ⟨nh_ST.1, nh_ST.2, pn_ST_removeLink⟩, fun _ h => absurd h List.not_mem_nil⟩⟩)
theorem ct_ST_passAxiom : sn_CT y_ST_passAxiom ws_ST_passAxiom 1 sp_ST_passAxiom := by
  refine sn_CT_of (pr := pr_ST_passAxiom) (fi := (sn_lk ft_ST)) (lc := sn_no) (ca := sn_lk ca_ST_passAxiom) pl_ST ?_ pk_ST_passAxiom FI_ST (sn_no_ok _) co_ST_passAxiom ?_
  · intro vs σ post h
    unfold sp_ST_passAxiom at h
    split at h
    · exact Nat.le_of_ble_eq_true rfl
    · exact h.elim
  · intro vs σ post h hvs hR
    unfold sp_ST_passAxiom at h
    split at h
    · next q c of st =>
      obtain ⟨a', i⟩ := q
      obtain ⟨ha, hc0, T, S, a, gone, hv, hi, hok, hat, h⟩ := h
      have ha : a' = 9 := ha
      subst ha
      intro G hG
      obtain ⟨haN, hac, ⟨alo, alt, alg⟩, -, -, fg, -, -⟩ := s_at_f hi hok hat
      obtain ⟨hcN, hk, hoo, hfa, ha0, hgo, hne⟩ := hat
      replace hoo := box hoo
      replace hgo := box hgo
      obtain ⟨⟨b1, b2, b3⟩, hl, he, hcn, c1, c2⟩ := hok
      obtain ⟨o1, o2, o3⟩ := id alo
      obtain ⟨t1, t2, t3⟩ := id alt
      obtain ⟨g1, g2, g3⟩ := id alg
      have w6 := (he gone.toNat (by omega)).2.1
      have w7 := (he gone.toNat (by omega)).2.2.1
      have r1 : σ.1 11 i = S.1 1 := hv.1 1 (by omega)
      have r2 : σ.1 12 i = S.1 2 := hv.1 2 (by omega)
      have r5 : σ.1 15 i = S.1 5 := hv.1 5 (by omega)
      have ea : σ.1 15 i of.toNat = (a : Int) := by rw [r5]; exact hfa
      have hbo : (0 : Int) ≤ of ∧ of < (100 : Nat) := ⟨o1, by omega⟩
      have hba : (0 : Int) ≤ σ.1 15 i of.toNat ∧ σ.1 15 i of.toNat < (60 : Nat) := by rw [ea]; omega
      have hbg : (0 : Int) ≤ gone ∧ gone < (100 : Nat) := ⟨g1, by omega⟩
      have ta : (σ.1 15 i of.toNat).toNat = a := by rw [ea]; rfl
      have hcl : c < (S.2.1 : Int) := by omega
      -- all that follows when gone is known
      have wv : ∀ v : Int, v = gone → (0 ≤ v ∧ v < 100) ∧ (-1 ≤ S.1 6 v.toNat ∧ S.1 6 v.toNat < 60) ∧ (-1 ≤ S.1 7 v.toNat ∧ S.1 7 v.toNat < 100) := by
        intro v ev
        subst ev
        exact ⟨⟨g1, by omega⟩, ⟨w6.1, by omega⟩, ⟨w7.1, by omega⟩⟩
      have wa : ∀ m : Int, m = (a : Int) → (0 ≤ m ∧ m < (S.2.1 : Int)) ∧ 0 ≤ S.1 0 m.toNat := by
        intro m em
        subst em
        exact ⟨⟨by omega, by omega⟩, by rw [show ((a : Int)).toNat = a from rfl, ha0]; decide⟩
      have wc : 0 ≤ sn_up (S.1 0) a (-1) c.toNat := by
        rw [sn_up_ne _ (Ne.symm hac), hk]
        decide
      have last : ∀ (v : Int) (σ3 : sn_M), v = gone → sx_v (s_X (s_rm (s_rm (s_tp S st gone) a) c.toNat)) i σ3 → sx_f i σ σ3 → ((0 : Int) ≤ of ∧ of < (100 : Nat)) ∧ ((0 : Int) ≤ v ∧ v < (100 : Nat)) ∧ post none (sn_u (sn_u σ3.1 14 i of.toNat (-1)) 14 i v.toNat (-1), σ3.2) := by
        intro v σ3 ev v3 f3
        subst ev
        have v4 := sx_r (sx_r v3 4 (k := 14) of.toNat (-1) rfl) 4 (k := 14) v.toNat (-1) rfl
        exact ⟨hbo, hbg, h _ (sx_e v4 ⟨rfl, rfl, rfl, rfl, rfl, rfl, rfl, rfl, rfl⟩ ⟨rfl, rfl, rfl, rfl, rfl, rfl⟩) (sx_f_r (sx_f_r f3 _ (by omega)) _ (by omega))⟩
      refine hG 90 [] _ _ _ _ ?_
      refine And.intro hbo (And.intro hba (And.intro (fun z => ?_) (fun z => ?_)))
      · have z : σ.1 11 i (σ.1 15 i of.toNat).toNat = of := z
        rw [r1, ta] at z
        have eg : σ.1 12 i (σ.1 15 i of.toNat).toNat = gone := by
          rw [r2, ta]
          rcases hgo with ⟨-, y⟩ | ⟨y, -⟩
          · exact y.symm
          · exact absurd z y
        refine And.intro hba (And.intro rfl ⟨S, hv, ⟨t1, by omega⟩, (wv _ eg).1, (wv _ eg).2.1, (wv _ eg).2.2, fun σ1 v1 f1 => And.intro rfl ⟨s_tp S st gone, ?_, b1, (wa _ ea).1, (wa _ ea).2, fun σ2 v2 f2 => And.intro rfl ⟨s_rm (s_tp S st gone) a, ?_, b1, ⟨hc0, hcl⟩, wc, fun σ3 v3 f3 => last _ σ3 eg v3 (sx_f_t f1 (sx_f_t f2 f3))⟩⟩⟩)
        · have v1 : sx_v (s_X (s_tp S st (σ.1 12 i (σ.1 15 i of.toNat).toNat))) i σ1 := v1
          rw [eg] at v1
          exact v1
        · have v2 : sx_v (s_X (s_rm (s_tp S st gone) (σ.1 15 i of.toNat).toNat)) i σ2 := v2
          rw [ta] at v2
          exact v2
      · have z : ¬ σ.1 11 i (σ.1 15 i of.toNat).toNat = of := z
        rw [r1, ta] at z
        have eg : σ.1 11 i (σ.1 15 i of.toNat).toNat = gone := by
          rw [r1, ta]
          rcases hgo with ⟨y, -⟩ | ⟨-, y⟩
          · exact absurd y z
          · exact y.symm
        refine And.intro hba (And.intro rfl ⟨S, hv, ⟨t1, by omega⟩, (wv _ eg).1, (wv _ eg).2.1, (wv _ eg).2.2, fun σ1 v1 f1 => And.intro rfl ⟨s_tp S st gone, ?_, b1, (wa _ ea).1, (wa _ ea).2, fun σ2 v2 f2 => And.intro rfl ⟨s_rm (s_tp S st gone) a, ?_, b1, ⟨hc0, hcl⟩, wc, fun σ3 v3 f3 => last _ σ3 eg v3 (sx_f_t f1 (sx_f_t f2 f3))⟩⟩⟩)
        · have v1 : sx_v (s_X (s_tp S st (σ.1 11 i (σ.1 15 i of.toNat).toNat))) i σ1 := v1
          rw [eg] at v1
          exact v1
        · have v2 : sx_v (s_X (s_rm (s_tp S st gone) (σ.1 15 i of.toNat).toNat)) i σ2 := v2
          rw [ta] at v2
          exact v2
    · exact h.elim
/-- the links are gone, their premises still named by them -/
def s_kk (S : sT) (c one two : Nat) : sT := (fun x => match x with
  | 0 => sn_up (sn_up (sn_up (S.1 0) one (-1)) two (-1)) c (-1)
  | 1 => S.1 1
  | 2 => S.1 2
  | 3 => S.1 3
  | 4 => sn_up (sn_up (S.1 4) (S.1 1 c).toNat (-1)) (S.1 2 c).toNat (-1)
  | x + 5 => S.1 (x + 5), S.2)
theorem s_sp_6 (S : sT) (c one two : Nat) : (s_sp S c one two).1 6 = (s_ct (s_ct (s_kk S c one two) (S.1 1 one) (S.1 1 two)) (S.1 2 one) (S.1 2 two)).1 6 := by
  funext e
  show sn_up (sn_up (sn_up (sn_up (sn_up (sn_up (sn_up (sn_up (S.1 6) (S.1 1 one).toNat (-1)) (S.1 1 two).toNat (-1)) (S.1 2 one).toNat (-1)) (S.1 2 two).toNat (-1)) (S.1 1 one).toNat (S.2.1 : Int)) (S.1 1 two).toNat (S.2.1 : Int)) (S.1 2 one).toNat ((S.2.1 + 1 : Nat) : Int)) (S.1 2 two).toNat ((S.2.1 + 1 : Nat) : Int) e = sn_up (sn_up (sn_up (sn_up (S.1 6) (S.1 1 one).toNat (S.2.1 : Int)) (S.1 1 two).toNat (S.2.1 : Int)) (S.1 2 one).toNat ((S.2.1 + 1 : Nat) : Int)) (S.1 2 two).toNat ((S.2.1 + 1 : Nat) : Int) e
  by_cases h4 : e = (S.1 2 two).toNat
  · rw [h4, sn_up_at, sn_up_at]
  · rw [sn_up_ne _ h4, sn_up_ne _ h4]
    by_cases h2 : e = (S.1 2 one).toNat
    · rw [h2, sn_up_at, sn_up_at]
    · rw [sn_up_ne _ h2, sn_up_ne _ h2]
      by_cases h3 : e = (S.1 1 two).toNat
      · rw [h3, sn_up_at, sn_up_at]
      · rw [sn_up_ne _ h3, sn_up_ne _ h3]
        by_cases h1 : e = (S.1 1 one).toNat
        · rw [h1, sn_up_at, sn_up_at]
        · rw [sn_up_ne _ h1, sn_up_ne _ h1, sn_up_ne _ h4, sn_up_ne _ h2, sn_up_ne _ h3, sn_up_ne _ h1]
def sp_ST_splitCut : sn_P := fun vs σ po => match vs with
  | [.inr (.inr q), .inl c, .inl l, .inl r] => q.1 = 9 ∧ 0 ≤ c ∧ ∃ (T : fT) (S : sT) (one two : Nat), sx_v (s_X S) q.2 σ ∧ s_pd T ∧ s_ok T S ∧ s_bt S c.toNat one two ∧ l = S.1 1 c.toNat ∧ r = S.1 2 c.toNat ∧ (60 < S.2.1 + 2 → po (some (.inl 0)) σ) ∧ (S.2.1 + 2 ≤ 60 → ∀ σ', sx_v (s_X (s_sp S c.toNat one two)) q.2 σ' → sx_f q.2 σ σ' → po (some (.inl 1)) σ')
  | _ => False
def ca_ST_splitCut : List (Nat × Nat × Nat × sn_P) := [(94, 2, 5, sp_ST_removeLink), (98, 3, 5, sp_ST_addCut)]
theorem co_ST_splitCut : ∀ x n ci s', sn_lk ca_ST_splitCut x = some (n, ci, s') → sn_CO "SwitchedNets$Structure" sn_ws 2 x n ci s' := sn_co_of (List.forall_mem_cons.mpr ⟨sn_CO_V ("SwitchedNets$Structure", T_ST, 15) ct_ST_removeLink (by decide) (by decide) (sn_gV ml_ST_94 mi_ST_removeLink ms_ST_removeLink mz_ST mc_ST_removeLink) (by decide) rfl rfl ⟨nh_ST.1, nh_ST.2, pn_ST_removeLink⟩, List.forall_mem_cons.mpr ⟨sn_CO_V ("SwitchedNets$Structure", T_ST, 15) ct_ST_addCut (by decide) (by decide) (sn_gV ml_ST_98 mi_ST_addCut ms_ST_addCut mz_ST mc_ST_addCut) (by decide) rfl rfl ⟨nh_ST.1, nh_ST.2, pn_ST_addCut⟩, fun _ h => absurd h List.not_mem_nil⟩⟩)
theorem ct_ST_splitCut : sn_CT y_ST_splitCut ws_ST_splitCut 2 sp_ST_splitCut := by
  refine sn_CT_of (pr := pr_ST_splitCut) (fi := (sn_lk ft_ST)) (lc := sn_no) (ca := sn_lk ca_ST_splitCut) pl_ST ?_ pk_ST_splitCut FI_ST (sn_no_ok _) co_ST_splitCut ?_
  · intro vs σ post h
    unfold sp_ST_splitCut at h
    split at h
    · exact Nat.le_of_ble_eq_true rfl
    · exact h.elim
  · intro vs σ post h hvs hR
    unfold sp_ST_splitCut at h
    split at h
    · next q c l r =>
      obtain ⟨a', i⟩ := q
      obtain ⟨ha, hc0, T, S, one, two, hv, hpd, hok, hbt, el, er, h0, h1⟩ := h
      have ha : a' = 9 := ha
      subst ha
      intro G hG
      obtain ⟨⟨o1, t1⟩, ⟨not, noc, ntc⟩, ⟨o2, t2⟩, -, -⟩ := s_bt_f hpd hok hbt
      obtain ⟨hcN, hk, f1, f2, -, -⟩ := hbt
      obtain ⟨⟨b1, b2, b3⟩, hl, he, hcn, c1, c2⟩ := hok
      obtain ⟨a1, a2, -⟩ := (hl c.toNat hcN).2.2.1 (by omega)
      obtain ⟨x1, x2, -⟩ := (hl one o1).2.2.1 o2.1
      obtain ⟨y1, y2, -⟩ := (hl two t1).2.2.1 t2.1
      subst el
      subst er
      have hbd : ∀ x : Int, s_al S x → (0 : Int) ≤ x ∧ x < (100 : Nat) := fun x hx => ⟨hx.1, by have := hx.2.1; omega⟩
      have hbd' : ∀ x : Int, s_al S x → (0 : Int) ≤ x ∧ x < 100 := fun x hx => ⟨hx.1, by have := hx.2.1; omega⟩
      have r1 : σ.1 11 i = S.1 1 := hv.1 1 (by omega)
      have r5 : σ.1 15 i = S.1 5 := hv.1 5 (by omega)
      have s9 : σ.1 9 i 9 = (S.2.1 : Int) := sx_9 hv (by omega)
      have eo : σ.1 15 i (S.1 1 c.toNat).toNat = (one : Int) := by rw [r5]; exact f1
      have et : σ.1 15 i (S.1 2 c.toNat).toNat = (two : Int) := by rw [r5]; exact f2
      have hcl : c < (S.2.1 : Int) := by omega
      have hbo : (0 : Int) ≤ σ.1 15 i (S.1 1 c.toNat).toNat ∧ σ.1 15 i (S.1 1 c.toNat).toNat < (60 : Nat) := by rw [eo]; omega
      have hbt : (0 : Int) ≤ σ.1 15 i (S.1 2 c.toNat).toNat ∧ σ.1 15 i (S.1 2 c.toNat).toNat < (60 : Nat) := by rw [et]; omega
      have to : (σ.1 15 i (S.1 1 c.toNat).toNat).toNat = one := by rw [eo]; rfl
      have tt : (σ.1 15 i (S.1 2 c.toNat).toNat).toNat = two := by rw [et]; rfl
      refine hG 90 [] _ _ _ _ ?_
      refine And.intro ⟨by show -2147483648 ≤ σ.1 9 i 9 + 2; omega, by show σ.1 9 i 9 + 2 < 2147483648; omega⟩ (And.intro (fun z => ?_) (fun z => ?_))
      · have z : σ.1 9 i 9 + 2 ≤ 60 := z
        have h2 := h1 (by omega)
        refine And.intro (hbd _ a1) (And.intro (hbd _ a2) (And.intro rfl ⟨S, hv, b1, ⟨hbo.1, by show σ.1 15 i _ < _; rw [eo]; omega⟩, by show 0 ≤ S.1 0 (σ.1 15 i (S.1 1 c.toNat).toNat).toNat; rw [to]; omega, fun σ1 v1 g1 => ?_⟩))
        have v1 : sx_v (s_X (s_rm S (σ.1 15 i (S.1 1 c.toNat).toNat).toNat)) i σ1 := v1
        rw [to] at v1
        refine And.intro rfl ⟨s_rm S one, v1, b1, ⟨hbt.1, by show σ.1 15 i _ < (S.2.1 : Int); rw [et]; omega⟩, by show 0 ≤ sn_up (S.1 0) one (-1) (σ.1 15 i (S.1 2 c.toNat).toNat).toNat; rw [tt, sn_up_ne _ (Ne.symm not)]; omega, fun σ2 v2 g2 => ?_⟩
        have v2 : sx_v (s_X (s_rm (s_rm S one) (σ.1 15 i (S.1 2 c.toNat).toNat).toNat)) i σ2 := v2
        rw [tt] at v2
        refine And.intro rfl ⟨s_rm (s_rm S one) two, v2, b1, ⟨hc0, hcl⟩, by show 0 ≤ sn_up (sn_up (S.1 0) one (-1)) two (-1) c.toNat; rw [sn_up_ne _ (Ne.symm ntc), sn_up_ne _ (Ne.symm noc)]; omega, fun σ3 v3 g3 => ?_⟩
        have v4 := sx_r (sx_r v3 4 (k := 14) (S.1 1 c.toNat).toNat (-1) rfl) 4 (k := 14) (S.1 2 c.toNat).toNat (-1) rfl
        have g4 := sx_f_r (sx_f_r (sx_f_t g1 (sx_f_t g2 g3)) (k := 14) (j := (S.1 1 c.toNat).toNat) (-1) (by omega)) (k := 14) (j := (S.1 2 c.toNat).toNat) (-1) (by omega)
        have v5 : sx_v (s_X (s_kk S c.toNat one two)) i (sn_u (sn_u σ3.1 14 i (S.1 1 c.toNat).toNat (-1)) 14 i (S.1 2 c.toNat).toNat (-1), σ3.2) := sx_e v4 ⟨rfl, rfl, rfl, rfl, rfl, rfl, rfl, rfl, rfl⟩ ⟨rfl, rfl, rfl, rfl, rfl, rfl⟩
        have q1 : sn_u (sn_u σ3.1 14 i (S.1 1 c.toNat).toNat (-1)) 14 i (S.1 2 c.toNat).toNat (-1) 11 i = S.1 1 := v5.1 1 (by omega)
        have p1 : sn_u (sn_u σ3.1 14 i (S.1 1 c.toNat).toNat (-1)) 14 i (S.1 2 c.toNat).toNat (-1) 11 i (σ.1 15 i (S.1 1 c.toNat).toNat).toNat = S.1 1 one := by rw [q1, to]
        have p3 : sn_u (sn_u σ3.1 14 i (S.1 1 c.toNat).toNat (-1)) 14 i (S.1 2 c.toNat).toNat (-1) 11 i (σ.1 15 i (S.1 2 c.toNat).toNat).toNat = S.1 1 two := by rw [q1, tt]
        have w1 : ∀ u : Int, u = S.1 1 one → 0 ≤ u ∧ u < 100 := fun u eu => by rw [eu]; exact hbd' _ x1
        have w3 : ∀ u : Int, u = S.1 1 two → 0 ≤ u ∧ u < 100 := fun u eu => by rw [eu]; exact hbd' _ y1
        have w2 : ∀ u : Int, u = S.1 2 one → 0 ≤ u ∧ u < 100 := fun u eu => by rw [eu]; exact hbd' _ x2
        have w4 : ∀ u : Int, u = S.1 2 two → 0 ≤ u ∧ u < 100 := fun u eu => by rw [eu]; exact hbd' _ y2
        refine And.intro (hbd _ a1) (And.intro (hbd _ a2) (And.intro hbo (And.intro hbt (And.intro rfl (And.intro (w1 _ p1) (And.intro (w3 _ p3) ⟨s_kk S c.toNat one two, v5, by show S.2.1 < 60; omega, fun σ6 v6 g6 => ?_⟩))))))
        have v6 : sx_v (s_X (s_ct (s_kk S c.toNat one two) (sn_u (sn_u σ3.1 14 i (S.1 1 c.toNat).toNat (-1)) 14 i (S.1 2 c.toNat).toNat (-1) 11 i (σ.1 15 i (S.1 1 c.toNat).toNat).toNat) (sn_u (sn_u σ3.1 14 i (S.1 1 c.toNat).toNat (-1)) 14 i (S.1 2 c.toNat).toNat (-1) 11 i (σ.1 15 i (S.1 2 c.toNat).toNat).toNat))) i σ6 := v6
        rw [p1, p3] at v6
        replace g6 := sx_f_t g4 g6
        have q2 : σ6.1 12 i = sn_up (S.1 2) S.2.1 (S.1 1 two) := v6.1 2 (by omega)
        have p2 : σ6.1 12 i (σ.1 15 i (S.1 1 c.toNat).toNat).toNat = S.1 2 one := by rw [q2, to]; exact sn_up_ne _ (by omega)
        have p4 : σ6.1 12 i (σ.1 15 i (S.1 2 c.toNat).toNat).toNat = S.1 2 two := by rw [q2, tt]; exact sn_up_ne _ (by omega)
        refine And.intro hbo (And.intro hbt (And.intro rfl (And.intro (w2 _ p2) (And.intro (w4 _ p4) ⟨_, v6, by show S.2.1 + 1 < 60; omega, fun σ7 v7 g7 => And.intro (Or.inr rfl) ?_⟩))))
        have v7 : sx_v (s_X (s_ct (s_ct (s_kk S c.toNat one two) (S.1 1 one) (S.1 1 two)) (σ6.1 12 i (σ.1 15 i (S.1 1 c.toNat).toNat).toNat) (σ6.1 12 i (σ.1 15 i (S.1 2 c.toNat).toNat).toNat))) i σ7 := v7
        rw [p2, p4] at v7
        exact h2 σ7 (sx_e v7 ⟨rfl, rfl, rfl, rfl, rfl, rfl, s_sp_6 S c.toNat one two, rfl, rfl⟩ ⟨rfl, rfl, rfl, rfl, rfl, rfl⟩) (sx_f_t g6 g7)
      · have z : 60 < σ.1 9 i 9 + 2 := z
        exact And.intro (Or.inl rfl) (h0 (by omega))
    · exact h.elim
