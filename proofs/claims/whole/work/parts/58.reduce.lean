/-! One step of reduction: what it does, the class's reduceCut. -/
def s_go (S : sT) (a : Nat) (x : Int) : Int := if S.1 1 a = x then S.1 2 a else S.1 1 a
def s_rd (S : sT) (c : Nat) : Option sT :=
  if S.1 5 (S.1 1 c).toNat = S.1 5 (S.1 2 c).toNat then none
  else if S.1 0 (S.1 5 (S.1 1 c).toNat).toNat = 0 then some (s_sl S c (S.1 5 (S.1 1 c).toNat).toNat (S.1 1 c) (S.1 2 c) (s_go S (S.1 5 (S.1 1 c).toNat).toNat (S.1 1 c)))
  else if S.1 0 (S.1 5 (S.1 2 c).toNat).toNat = 0 then some (s_sl S c (S.1 5 (S.1 2 c).toNat).toNat (S.1 2 c) (S.1 1 c) (s_go S (S.1 5 (S.1 2 c).toNat).toNat (S.1 2 c)))
  else if 60 < S.2.1 + 2 then none
  else some (s_sp S c (S.1 5 (S.1 1 c).toNat).toNat (S.1 5 (S.1 2 c).toNat).toNat)
theorem s_rd_src {T : fT} {S : sT} (h : s_ok T S) {c : Nat} (hc : c < S.2.1) (hk : S.1 0 c = 3) : (s_al S (S.1 1 c) ∧ s_al S (S.1 2 c)) ∧ (0 ≤ S.1 5 (S.1 1 c).toNat ∧ S.1 5 (S.1 1 c).toNat < (S.2.1 : Int)) ∧ (0 ≤ S.1 5 (S.1 2 c).toNat ∧ S.1 5 (S.1 2 c).toNat < (S.2.1 : Int)) := by
  obtain ⟨-, hl, he, -⟩ := h
  obtain ⟨a1, a2, -⟩ := (hl c hc).2.2.1 (by omega)
  exact ⟨⟨a1, a2⟩, (he _ (by have := a1.1; have := a1.2.1; omega)).2.2.2.1, (he _ (by have := a2.1; have := a2.2.1; omega)).2.2.2.1⟩
theorem s_rd_at {T : fT} {S : sT} (h : s_ok T S) {c : Nat} (hc : c < S.2.1) (hk : S.1 0 c = 3) {of other : Int} (hoo : (of = S.1 1 c ∧ other = S.1 2 c) ∨ (of = S.1 2 c ∧ other = S.1 1 c)) (hne : S.1 5 of.toNat ≠ S.1 5 other.toNat) (h0 : S.1 0 (S.1 5 of.toNat).toNat = 0) (hs : 0 ≤ S.1 5 of.toNat ∧ S.1 5 of.toNat < (S.2.1 : Int)) : s_at S c (S.1 5 of.toNat).toNat of other (s_go S (S.1 5 of.toNat).toNat of) := by
  have e : (((S.1 5 of.toNat).toNat : Nat) : Int) = S.1 5 of.toNat := by omega
  refine ⟨hc, hk, hoo, e.symm, h0, ?_, fun z => ?_⟩
  · unfold s_go
    by_cases y : S.1 1 (S.1 5 of.toNat).toNat = of
    · rw [if_pos y]; exact Or.inl ⟨y, rfl⟩
    · rw [if_neg y]; exact Or.inr ⟨y, rfl⟩
  · obtain ⟨-, -, -, p4, p5, -⟩ := (h.2.1 (S.1 5 of.toNat).toNat (by omega)).2.1 h0
    have q : S.1 5 other.toNat = (((S.1 5 of.toNat).toNat : Nat) : Int) := by
      rw [← z]
      unfold s_go
      split
      · exact p5
      · exact p4
    exact hne (by rw [q]; exact e.symm)
theorem s_rd_ok {T : fT} {S S' : sT} (hT : fT_ok T) (h : s_ok T S) {c : Nat} (hc : c < S.2.1) (hk : S.1 0 c = 3) (hr : s_rd S c = some S') : s_ok T S' := by
  obtain ⟨-, s1, s2⟩ := s_rd_src h hc hk
  unfold s_rd at hr
  split at hr
  · cases hr
  · next n1 =>
    split at hr
    · next n2 =>
      cases hr
      exact s_sl_ok hT.2.2.2.1 h (s_rd_at h hc hk (Or.inl ⟨rfl, rfl⟩) n1 n2 s1)
    · next n2 =>
      split at hr
      · next n3 =>
        cases hr
        exact s_sl_ok hT.2.2.2.1 h (s_rd_at h hc hk (Or.inr ⟨rfl, rfl⟩) (fun z => n1 z.symm) n3 s2)
      · next n3 =>
        split at hr
        · cases hr
        · next n4 =>
          cases hr
          exact s_sp_ok (fT_pd hT) h ⟨hc, hk, by omega, by omega, n2, n3⟩ (by omega)
def sp_ST_reduceCut : sn_P := fun vs σ po => match vs with
  | [.inr (.inr q), .inl c] => q.1 = 9 ∧ ∃ (T : fT) (S : sT), sx_v (s_X S) q.2 σ ∧ fT_ok T ∧ s_ok T S ∧ (0 ≤ c ∧ c < (S.2.1 : Int)) ∧ S.1 0 c.toNat = 3 ∧ (s_rd S c.toNat = none → po (some (.inl 0)) σ) ∧ (∀ S', s_rd S c.toNat = some S' → ∀ σ', sx_v (s_X S') q.2 σ' → sx_f q.2 σ σ' → po (some (.inl 1)) σ')
  | _ => False
def ca_ST_reduceCut : List (Nat × Nat × Nat × sn_P) := [(83, 4, 5, sp_ST_passAxiom), (86, 4, 5, sp_ST_splitCut)]
theorem co_ST_reduceCut : ∀ x n ci s', sn_lk ca_ST_reduceCut x = some (n, ci, s') → sn_CO "SwitchedNets$Structure" sn_ws 3 x n ci s' := sn_co_of (List.forall_mem_cons.mpr ⟨sn_CO_V ("SwitchedNets$Structure", T_ST, 15) ct_ST_passAxiom (by decide) (by decide) (sn_gV ml_ST_83 mi_ST_passAxiom ms_ST_passAxiom mz_ST mc_ST_passAxiom) (by decide) rfl rfl ⟨nh_ST.1, nh_ST.2, pn_ST_passAxiom⟩, List.forall_mem_cons.mpr ⟨sn_CO_V ("SwitchedNets$Structure", T_ST, 15) ct_ST_splitCut (by decide) (by decide) (sn_gV ml_ST_86 mi_ST_splitCut ms_ST_splitCut mz_ST mc_ST_splitCut) (by decide) rfl rfl ⟨nh_ST.1, nh_ST.2, pn_ST_splitCut⟩, fun _ h => absurd h List.not_mem_nil⟩⟩)
theorem ct_ST_reduceCut : sn_CT y_ST_reduceCut ws_ST_reduceCut 3 sp_ST_reduceCut := by
  refine sn_CT_of (pr := pr_ST_reduceCut) (fi := (sn_lk ft_ST)) (lc := sn_no) (ca := sn_lk ca_ST_reduceCut) pl_ST ?_ pk_ST_reduceCut FI_ST (sn_no_ok _) co_ST_reduceCut ?_
  · intro vs σ post h
    unfold sp_ST_reduceCut at h
    split at h
    · exact Nat.le_of_ble_eq_true rfl
    · exact h.elim
  · intro vs σ post h hvs hR
    unfold sp_ST_reduceCut at h
    split at h
    · next q c =>
      obtain ⟨a', i⟩ := q
      obtain ⟨ha, T, S, hv, hT, hok, ⟨hc0, hc1⟩, hk, h0, h1⟩ := h
      have ha : a' = 9 := ha
      subst ha
      intro G hG
      obtain ⟨⟨al, ar⟩, s1, s2⟩ := s_rd_src hok (c := c.toNat) (by omega) hk
      have b1 := hok.1.1
      have b2 := hok.1.2.1
      have r0 : σ.1 10 i = S.1 0 := hv.1 0 (by omega)
      have r1 : σ.1 11 i = S.1 1 := hv.1 1 (by omega)
      have r2 : σ.1 12 i = S.1 2 := hv.1 2 (by omega)
      have r5 : σ.1 15 i = S.1 5 := hv.1 5 (by omega)
      have hbc : (0 : Int) ≤ c ∧ c < (60 : Nat) := ⟨hc0, by omega⟩
      have el : σ.1 11 i c.toNat = S.1 1 c.toNat := by rw [r1]
      have er : σ.1 12 i c.toNat = S.1 2 c.toNat := by rw [r2]
      have hbl : (0 : Int) ≤ σ.1 11 i c.toNat ∧ σ.1 11 i c.toNat < (100 : Nat) := by rw [el]; exact ⟨al.1, by have := al.2.1; omega⟩
      have hbr : (0 : Int) ≤ σ.1 12 i c.toNat ∧ σ.1 12 i c.toNat < (100 : Nat) := by rw [er]; exact ⟨ar.1, by have := ar.2.1; omega⟩
      have esl : σ.1 15 i (σ.1 11 i c.toNat).toNat = S.1 5 (S.1 1 c.toNat).toNat := by rw [r5, el]
      have esr : σ.1 15 i (σ.1 12 i c.toNat).toNat = S.1 5 (S.1 2 c.toNat).toNat := by rw [r5, er]
      have hsl : (0 : Int) ≤ σ.1 15 i (σ.1 11 i c.toNat).toNat ∧ σ.1 15 i (σ.1 11 i c.toNat).toNat < (60 : Nat) := by rw [esl]; omega
      have hsr : (0 : Int) ≤ σ.1 15 i (σ.1 12 i c.toNat).toNat ∧ σ.1 15 i (σ.1 12 i c.toNat).toNat < (60 : Nat) := by rw [esr]; omega
      refine hG 90 [] _ _ _ _ ?_
      refine And.intro hbc (And.intro hbc (And.intro hbl (And.intro hbr (And.intro (fun z => ?_) (fun z => ?_)))))
      · have z : σ.1 15 i (σ.1 11 i c.toNat).toNat = σ.1 15 i (σ.1 12 i c.toNat).toNat := z
        rw [esl, esr] at z
        exact And.intro (Or.inl rfl) (h0 (by unfold s_rd; rw [if_pos z]))
      · have z : ¬ σ.1 15 i (σ.1 11 i c.toNat).toNat = σ.1 15 i (σ.1 12 i c.toNat).toNat := z
        rw [esl, esr] at z
        refine And.intro hbl (And.intro hsl (And.intro (fun y => ?_) (fun y => And.intro hbr (And.intro hsr (And.intro (fun x => ?_) (fun x => ?_))))))
        · have y : σ.1 10 i (σ.1 15 i (σ.1 11 i c.toNat).toNat).toNat = 0 := y
          rw [r0, esl] at y
          have at' := s_rd_at hok (c := c.toNat) (by omega) hk (Or.inl ⟨rfl, rfl⟩) z y s1
          refine And.intro rfl (And.intro hc0 ⟨T, S, (S.1 5 (S.1 1 c.toNat).toNat).toNat, s_go S (S.1 5 (S.1 1 c.toNat).toNat).toNat (S.1 1 c.toNat), hv, hT.2.2.2.1, hok, ?_, fun σ' v' f' => And.intro (Or.inr rfl) (h1 _ ?_ σ' v' f')⟩)
          · show s_at S c.toNat _ (σ.1 11 i c.toNat) (σ.1 12 i c.toNat) _
            rw [el, er]
            exact at'
          · show s_rd S c.toNat = some (s_sl S c.toNat _ (σ.1 11 i c.toNat) (σ.1 12 i c.toNat) _)
            rw [el, er]
            unfold s_rd
            rw [if_neg z, if_pos y]
        · have y : ¬ σ.1 10 i (σ.1 15 i (σ.1 11 i c.toNat).toNat).toNat = 0 := y
          rw [r0, esl] at y
          have x : σ.1 10 i (σ.1 15 i (σ.1 12 i c.toNat).toNat).toNat = 0 := x
          rw [r0, esr] at x
          have at' := s_rd_at hok (c := c.toNat) (by omega) hk (Or.inr ⟨rfl, rfl⟩) (fun w => z w.symm) x s2
          refine And.intro rfl (And.intro hc0 ⟨T, S, (S.1 5 (S.1 2 c.toNat).toNat).toNat, s_go S (S.1 5 (S.1 2 c.toNat).toNat).toNat (S.1 2 c.toNat), hv, hT.2.2.2.1, hok, ?_, fun σ' v' f' => And.intro (Or.inr rfl) (h1 _ ?_ σ' v' f')⟩)
          · show s_at S c.toNat _ (σ.1 12 i c.toNat) (σ.1 11 i c.toNat) _
            rw [el, er]
            exact at'
          · show s_rd S c.toNat = some (s_sl S c.toNat _ (σ.1 12 i c.toNat) (σ.1 11 i c.toNat) _)
            rw [el, er]
            unfold s_rd
            rw [if_neg z, if_neg y, if_pos x]
        · have y : ¬ σ.1 10 i (σ.1 15 i (σ.1 11 i c.toNat).toNat).toNat = 0 := y
          rw [r0, esl] at y
          have x : ¬ σ.1 10 i (σ.1 15 i (σ.1 12 i c.toNat).toNat).toNat = 0 := x
          rw [r0, esr] at x
          refine And.intro rfl (And.intro hc0 ⟨T, S, (S.1 5 (S.1 1 c.toNat).toNat).toNat, (S.1 5 (S.1 2 c.toNat).toNat).toNat, hv, fT_pd hT, hok, ⟨by omega, hk, by omega, by omega, y, x⟩, el, er, fun w => And.intro (Or.inl rfl) (h0 ?_), fun w σ' v' f' => And.intro (Or.inr rfl) (h1 _ ?_ σ' v' f')⟩)
          · unfold s_rd
            rw [if_neg z, if_neg y, if_neg x, if_pos w]
          · unfold s_rd
            rw [if_neg z, if_neg y, if_neg x, if_neg (by omega)]
    · exact h.elim
